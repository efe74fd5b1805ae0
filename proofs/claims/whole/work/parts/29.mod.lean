/-! ===== the model's folk: a row of numbers ===== -/
def MS (r : Nat → Int32) (p : Nat) (s : ASp) : Prop := r (7 + 29 * p + 0) = s.1 ∧ r (7 + 29 * p + 1) = s.2.1 ∧ r (7 + 29 * p + 2) = s.2.2.1 ∧ r (7 + 29 * p + 3) = s.2.2.2.1 ∧ r (7 + 29 * p + 4) = nI s.2.2.2.2.length ∧ Row (fun k => r (7 + 29 * p + (5 + k))) s.2.2.2.2
def MF (r : Nat → Int32) (f : AF) : Prop := match f with
  | (sps, talk, spoken, lost, day, z, txs) => r 0 = z ∧ r 1 = nI sps.length ∧ r 2 = day ∧ r 3 = talk ∧ r 4 = spoken ∧ r 5 = lost ∧ r 6 = nI txs.length ∧ ∀ i p, sps[i]? = some p → MS r i p
theorem MS.kept {r r' : Nat → Int32} {p : Nat} {s : ASp} (h : MS r p s) (hk : ∀ j, 7 + 29 * p ≤ j → j < 7 + 29 * p + 5 + s.2.2.2.2.length → r' j = r j) : MS r' p s := by
  obtain ⟨a, b, c, d, e, f⟩ := h
  exact ⟨(hk _ (by omega) (by omega)).trans a, (hk _ (by omega) (by omega)).trans b, (hk _ (by omega) (by omega)).trans c, (hk _ (by omega) (by omega)).trans d, (hk _ (by omega) (by omega)).trans e, f.to (fun k hk' => hk _ (by omega) (by omega))⟩
theorem mwordsOf_c {L d p : Nat} {s : ASp} {hi : pm_B} {Q : pm_Q} (hp : p < 8) (hS : MS (hi 142) p s) (hl : s.2.2.2.2.length ≤ 24) (h : Q (some (.inl (setOf s.2.2.2.2))) hi) : pm_C pm_g (SH L) HR (d + 2) m_M_wordsOf [.inr 141, .inl (nI p)] hi Q := by
  refine v_M_wordsOf ?_
  obtain ⟨_, _, _, _, s4, sR⟩ := hS
  have key : ∀ n k, k + n = s.2.2.2.2.length → pm_W pm_g (SH L) HR (d + 1) pm_t151 4 [some (.inr 141), some (.inl (nI p)), some (.inl (setOf (s.2.2.2.2.take k))), some (.inl (nI k))] [] hi Q := by
    intro n
    induction n with
    | zero =>
      intro k hk
      refine v_M_wordsOf_4 ⟨7 + 29 * p + 4, by omega, ix p 4, ?_⟩
      rw [s4, List.take_of_length_le (by omega)]
      exact ⟨fun _ => h, fun hc => absurd (nI_le (by omega) (by omega)) hc⟩
    | succ n ih =>
      intro k hk
      refine v_M_wordsOf_4 ⟨7 + 29 * p + 4, by omega, ix p 4, ?_⟩
      rw [s4]
      have hk' : k < s.2.2.2.2.length := by omega
      refine ⟨fun hc => absurd hc (nI_ge (by omega) (by omega)), fun _ => ⟨7 + 29 * p + (5 + k), by omega, ix5 p k, ?_⟩⟩
      have := ih (k + 1) (by omega)
      rw [setOf_take hk'] at this
      rw [nI_1, sR.at hk']
      exact this
  exact key _ 0 (Nat.zero_add _)
theorem mgoesOf_c {L d p : Nat} {s : ASp} {hi : pm_B} {Q : pm_Q} (hp : p < 8) (hS : MS (hi 142) p s) (h : Q (some (.inl (nI (goesN s)))) hi) : pm_C pm_g (SH L) HR (d + 2) m_M_goesOf [.inr 141, .inl (nI p)] hi Q := by
  rw [← (goes_eq s).1] at h
  refine v_M_goesOf ⟨7 + 29 * p + 0, by omega, ix p 0, ?_⟩
  rw [hS.1]
  unfold f_Kinds_goesOf at h
  refine ⟨fun c => ?_, fun c1 => ⟨fun c => ?_, fun c2 => ⟨fun c => ?_, fun c3 => ⟨fun c => ?_, fun c4 => ?_⟩⟩⟩⟩
  · rw [c] at h; exact h
  · rw [c] at h; exact h
  · rw [c] at h; exact h
  · rw [c] at h; exact h
  · simp only [c1, c2, c3, c4, if_false] at h
    exact h
theorem mdraw_c {L d : Nat} {z : Int32} {hi : pm_B} {Q : pm_Q} (hz : hi 142 0 = z) (h : Q (some (.inl (nI (drN z)))) (pm_u hi 142 0 (zn z))) : pm_C pm_g (SH L) HR (d + 1) m_M_draw [.inr 141] hi Q := by
  refine v_M_draw ?_
  obtain ⟨e1, e2⟩ := dr_eq z
  rw [pm_u_at, hz, show z * 1103515245 + 12345 = zn z from rfl, e1]
  exact h
theorem mtakesOf_c {L d p : Nat} {s : ASp} {hi : pm_B} {Q : pm_Q} (hp : p < 8) (hS : MS (hi 142) p s) (hE : WEar s) (h : Q (some (.inl (nI (takesN s)))) hi) : pm_C pm_g (SH L) HR (d + 2) m_M_takesOf [.inr 141, .inl (nI p)] hi Q := by
  rw [← (takes_eq hE).1] at h
  refine v_M_takesOf ⟨7 + 29 * p + 1, by omega, ix p 1, 7 + 29 * p + 0, by omega, ix p 0, ?_⟩
  rw [hS.1, hS.2.1]
  unfold f_Kinds_takesOf at h
  refine ⟨fun c => ?_, fun c1 => ⟨fun c => ?_, fun c2 => ⟨fun c => ?_, fun c3 => ⟨fun c => ?_, fun c4 => ⟨fun c => ?_, fun c5 => ?_⟩⟩⟩⟩⟩
  · rw [if_pos c] at h; exact h
  · rw [if_neg c1, if_pos c] at h; exact h
  · rw [if_neg c1, if_neg c2, if_pos c] at h; exact h
  · rw [if_neg c1, if_neg c2, if_neg c3, if_pos c] at h; exact h
  · rw [if_neg c1, if_neg c2, if_neg c3, if_neg c4, if_pos c] at h; exact h
  · rw [if_neg c1, if_neg c2, if_neg c3, if_neg c4, if_neg c5] at h; exact h
/-- the places of one speaker's words (and how many) -/
def PW (p : Nat) : Nat → Nat → Prop := fun q j => q = 142 ∧ (j = 5 ∨ (7 + 29 * p + 4 ≤ j ∧ j < 7 + 29 * p + 29))
theorem mforget_c {L d p : Nat} {s : ASp} {hi : pm_B} {Q : pm_Q} (hp : p < 8) (hS : MS (hi 142) p s) (hl : s.2.2.2.2.length ≤ 24) (h0 : 0 < s.2.2.2.2.length)
    (h : ∀ hi', Fr (PW p) hi hi' → MS (hi' 142) p (s.1, s.2.1, s.2.2.1, s.2.2.2.1, s.2.2.2.2.drop 1) → hi' 142 5 = hi 142 5 + 1 → Q none hi') : pm_C pm_g (SH L) HR (d + 2) m_M_forgetsOldest [.inr 141, .inl (nI p)] hi Q := by
  obtain ⟨s0, s1, s2, s3, s4, sR⟩ := hS
  refine v_M_forgetsOldest ⟨7 + 29 * p + 4, by omega, ix p 4, 7 + 29 * p + 4, by omega, ix p 4, fun hi3 e3 => ?_⟩
  rw [s4, show nI s.2.2.2.2.length - 1 = nI (s.2.2.2.2.length - 1) from nI_sub (b := 1) h0] at e3 ⊢
  have key : ∀ m k hi', k + m = s.2.2.2.2.length - 1 → (∀ q j, ¬ (q = 142 ∧ 7 + 29 * p + 4 ≤ j ∧ j < 7 + 29 * p + 29) → hi' q j = hi q j) → hi' 142 (7 + 29 * p + 4) = nI (s.2.2.2.2.length - 1) → (∀ j, j < k → hi' 142 (7 + 29 * p + (5 + j)) = hi 142 (7 + 29 * p + (5 + (j + 1)))) → (∀ j, k ≤ j → hi' 142 (7 + 29 * p + (5 + j)) = hi 142 (7 + 29 * p + (5 + j))) → pm_W pm_g (SH L) HR (d + 1) pm_t158 18 [some (.inr 141), some (.inl (nI p)), some (.inl (nI (s.2.2.2.2.length - 1))), some (.inl (nI k))] [] hi' Q := by
    intro m
    induction m with
    | zero =>
      intro k hi' hk u0 u4 u5 u6
      refine v_M_forgetsOldest_18 ⟨fun _ => ?_, fun hc => absurd (nI_le (by omega) (by omega)) hc⟩
      rw [u0 142 5 (by omega)]
      have w : ∀ j, j ≠ 5 → pm_u hi' 142 5 (hi 142 5 + 1) 142 j = hi' 142 j := fun j hj => pm_u_ne (Or.inr hj)
      refine h _ ?_ ?_ pm_u_at
      · intro q j hn
        unfold PW at hn
        rw [pm_u_ne (by omega), u0 q j (by omega)]
      · refine ⟨?_, ?_, ?_, ?_, ?_, ?_⟩
        · rw [w _ (by omega), u0 _ _ (by omega)]; exact s0
        · rw [w _ (by omega), u0 _ _ (by omega)]; exact s1
        · rw [w _ (by omega), u0 _ _ (by omega)]; exact s2
        · rw [w _ (by omega), u0 _ _ (by omega)]; exact s3
        · rw [w _ (by omega), u4, List.length_drop]
        · refine (sR.drop 1).to (fun j hj => ?_)
          rw [List.length_drop] at hj
          rw [w _ (by omega), u5 j (by omega), Nat.add_comm j 1]
    | succ m ih =>
      intro k hi' hk u0 u4 u5 u6
      refine v_M_forgetsOldest_18 ⟨fun hc => absurd hc (nI_ge (by omega) (by omega)), fun _ => ⟨7 + 29 * p + (5 + (k + 1)), by omega, ix51 p k, 7 + 29 * p + (5 + k), by omega, ix5 p k, fun hi4 e4 => ?_⟩⟩
      rw [nI_1]
      refine ih (k + 1) hi4 (by omega) (fun q j hn => ?_) ?_ (fun j hj => ?_) (fun j hj => ?_)
      · rw [e4, pm_u_ne (by omega)]; exact u0 q j hn
      · rw [e4, pm_u_ne (Or.inr (by omega))]; exact u4
      · by_cases hjk : j = k
        · subst hjk
          rw [e4, pm_u_at]; exact u6 _ (by omega)
        · rw [e4, pm_u_ne (Or.inr (by omega))]; exact u5 j (by omega)
      · rw [e4, pm_u_ne (Or.inr (by omega))]; exact u6 j (by omega)
  refine key _ 0 hi3 (Nat.zero_add _) (fun q j hn => ?_) ?_ (fun j hj => absurd hj (by omega)) (fun j _ => ?_)
  · rw [e3, pm_u_ne (by omega)]
  · rw [e3, pm_u_at]
  · rw [e3, pm_u_ne (Or.inr (by omega))]
