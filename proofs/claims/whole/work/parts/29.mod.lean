/-! ===== the model's folk: a row of numbers ===== -/
def MS (r : Nat → Int32) (p : Nat) (s : ASp) : Prop := r (7 + 29 * p + 0) = s.1 ∧ r (7 + 29 * p + 1) = s.2.1 ∧ r (7 + 29 * p + 2) = s.2.2.1 ∧ r (7 + 29 * p + 3) = s.2.2.2.1 ∧ r (7 + 29 * p + 4) = nI s.2.2.2.2.length ∧ Row (fun k => r (7 + 29 * p + (5 + k))) s.2.2.2.2
def MF (r : Nat → Int32) (f : AF) : Prop := match f with
  | (sps, talk, spoken, lost, day, z, txs) => r 0 = z ∧ r 1 = nI sps.length ∧ r 2 = day ∧ r 3 = talk ∧ r 4 = spoken ∧ r 5 = lost ∧ r 6 = nI txs.length ∧ ∀ i p, sps[i]? = some p → MS r i p
theorem MS.kept {r r' : Nat → Int32} {p : Nat} {s : ASp} (h : MS r p s) (hk : ∀ j, 7 + 29 * p ≤ j → j < 7 + 29 * p + 5 + s.2.2.2.2.length → r' j = r j) : MS r' p s := by
  obtain ⟨a, b, c, d, e, f⟩ := h
  exact ⟨(hk _ (by omega) (by omega)).trans a, (hk _ (by omega) (by omega)).trans b, (hk _ (by omega) (by omega)).trans c, (hk _ (by omega) (by omega)).trans d, (hk _ (by omega) (by omega)).trans e, f.to (fun k hk' => hk _ (by omega) (by omega))⟩
theorem mwordsOf_c {L d p : Nat} {s : ASp} {hi : pm_B} {Q : pm_Q} (hp : p < 8) (hS : MS (hi 142) p s) (hl : s.2.2.2.2.length ≤ 24) (h : Q (some (.inl (setOf s.2.2.2.2))) hi) : pm_C pm_g (SH L) HR (d + 2) m_M_wordsOf [.inr 141, .inl (nI p)] hi Q := by
  refine v_M_wordsOf ?_
  obtain ⟨_, _, _, _, s4, sR⟩ := hS
  have key : ∀ n k, k + n = s.2.2.2.2.length → pm_W pm_g (SH L) HR (d + 1) pm_t151 4 [some (.inr 141), some (.inl (nI p)), some (.inl (setOf (s.2.2.2.2.take k))), some (.inl (nI k))] [] hi Q := by
    intro n
    induction n with
    | zero =>
      intro k hk
      refine v_M_wordsOf_4 ⟨7 + 29 * p + 4, by omega, ix p 4, ?_⟩
      rw [s4, List.take_of_length_le (by omega)]
      exact ⟨fun _ => h, fun hc => absurd (nI_le (by omega) (by omega)) hc⟩
    | succ n ih =>
      intro k hk
      refine v_M_wordsOf_4 ⟨7 + 29 * p + 4, by omega, ix p 4, ?_⟩
      rw [s4]
      have hk' : k < s.2.2.2.2.length := by omega
      refine ⟨fun hc => absurd hc (nI_ge (by omega) (by omega)), fun _ => ⟨7 + 29 * p + (5 + k), by omega, ix5 p k, ?_⟩⟩
      have := ih (k + 1) (by omega)
      rw [setOf_take hk'] at this
      rw [nI_1, sR.at hk']
      exact this
  exact key _ 0 (Nat.zero_add _)
theorem mgoesOf_c {L d p : Nat} {s : ASp} {hi : pm_B} {Q : pm_Q} (hp : p < 8) (hS : MS (hi 142) p s) (h : Q (some (.inl (nI (goesN s)))) hi) : pm_C pm_g (SH L) HR (d + 2) m_M_goesOf [.inr 141, .inl (nI p)] hi Q := by
  rw [← (goes_eq s).1] at h
  refine v_M_goesOf ⟨7 + 29 * p + 0, by omega, ix p 0, ?_⟩
  rw [hS.1]
  unfold f_Kinds_goesOf at h
  refine ⟨fun c => ?_, fun c1 => ⟨fun c => ?_, fun c2 => ⟨fun c => ?_, fun c3 => ⟨fun c => ?_, fun c4 => ?_⟩⟩⟩⟩
  · rw [c] at h; exact h
  · rw [c] at h; exact h
  · rw [c] at h; exact h
  · rw [c] at h; exact h
  · simp only [c1, c2, c3, c4, if_false] at h
    exact h
theorem mdraw_c {L d : Nat} {z : Int32} {hi : pm_B} {Q : pm_Q} (hz : hi 142 0 = z) (h : Q (some (.inl (nI (drN z)))) (pm_u hi 142 0 (zn z))) : pm_C pm_g (SH L) HR (d + 1) m_M_draw [.inr 141] hi Q := by
  refine v_M_draw ?_
  obtain ⟨e1, e2⟩ := dr_eq z
  rw [pm_u_at, hz, show z * 1103515245 + 12345 = zn z from rfl, e1]
  exact h
