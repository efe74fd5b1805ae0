/-! ===== the model's folk: a row of numbers ===== -/
def MS (r : Nat → Int32) (p : Nat) (s : ASp) : Prop := r (7 + 29 * p + 0) = s.1 ∧ r (7 + 29 * p + 1) = s.2.1 ∧ r (7 + 29 * p + 2) = s.2.2.1 ∧ r (7 + 29 * p + 3) = s.2.2.2.1 ∧ r (7 + 29 * p + 4) = nI s.2.2.2.2.length ∧ Row (fun k => r (7 + 29 * p + (5 + k))) s.2.2.2.2
def MF (r : Nat → Int32) (f : AF) : Prop := match f with
  | (sps, talk, spoken, lost, day, z, txs) => r 0 = z ∧ r 1 = nI sps.length ∧ r 2 = day ∧ r 3 = talk ∧ r 4 = spoken ∧ r 5 = lost ∧ r 6 = nI txs.length ∧ ∀ i p, sps[i]? = some p → MS r i p
theorem MS.kept {r r' : Nat → Int32} {p : Nat} {s : ASp} (h : MS r p s) (hk : ∀ j, 7 + 29 * p ≤ j → j < 7 + 29 * p + 5 + s.2.2.2.2.length → r' j = r j) : MS r' p s := by
  obtain ⟨a, b, c, d, e, f⟩ := h
  exact ⟨(hk _ (by omega) (by omega)).trans a, (hk _ (by omega) (by omega)).trans b, (hk _ (by omega) (by omega)).trans c, (hk _ (by omega) (by omega)).trans d, (hk _ (by omega) (by omega)).trans e, f.to (fun k hk' => hk _ (by omega) (by omega))⟩
theorem mwordsOf_c {L d p : Nat} {s : ASp} {hi : pm_B} {Q : pm_Q} (hp : p < 8) (hS : MS (hi 142) p s) (hl : s.2.2.2.2.length ≤ 24) (h : Q (some (.inl (setOf s.2.2.2.2))) hi) : pm_C pm_g (SH L) HR (d + 2) m_M_wordsOf [.inr 141, .inl (nI p)] hi Q := by
  refine v_M_wordsOf ?_
  obtain ⟨_, _, _, _, s4, sR⟩ := hS
  have key : ∀ n k, k + n = s.2.2.2.2.length → pm_W pm_g (SH L) HR (d + 1) pm_t151 4 [some (.inr 141), some (.inl (nI p)), some (.inl (setOf (s.2.2.2.2.take k))), some (.inl (nI k))] [] hi Q := by
    intro n
    induction n with
    | zero =>
      intro k hk
      refine v_M_wordsOf_4 ⟨7 + 29 * p + 4, by omega, ix p 4, ?_⟩
      rw [s4, List.take_of_length_le (by omega)]
      exact ⟨fun _ => h, fun hc => absurd (nI_le (by omega) (by omega)) hc⟩
    | succ n ih =>
      intro k hk
      refine v_M_wordsOf_4 ⟨7 + 29 * p + 4, by omega, ix p 4, ?_⟩
      rw [s4]
      have hk' : k < s.2.2.2.2.length := by omega
      refine ⟨fun hc => absurd hc (nI_ge (by omega) (by omega)), fun _ => ⟨7 + 29 * p + (5 + k), by omega, ix5 p k, ?_⟩⟩
      have := ih (k + 1) (by omega)
      rw [setOf_take hk'] at this
      rw [nI_1, sR.at hk']
      exact this
  exact key _ 0 (Nat.zero_add _)
theorem mgoesOf_c {L d p : Nat} {s : ASp} {hi : pm_B} {Q : pm_Q} (hp : p < 8) (hS : MS (hi 142) p s) (h : Q (some (.inl (nI (goesN s)))) hi) : pm_C pm_g (SH L) HR (d + 2) m_M_goesOf [.inr 141, .inl (nI p)] hi Q := by
  rw [← (goes_eq s).1] at h
  refine v_M_goesOf ⟨7 + 29 * p + 0, by omega, ix p 0, ?_⟩
  rw [hS.1]
  unfold f_Kinds_goesOf at h
  refine ⟨fun c => ?_, fun c1 => ⟨fun c => ?_, fun c2 => ⟨fun c => ?_, fun c3 => ⟨fun c => ?_, fun c4 => ?_⟩⟩⟩⟩
  · rw [c] at h; exact h
  · rw [c] at h; exact h
  · rw [c] at h; exact h
  · rw [c] at h; exact h
  · simp only [c1, c2, c3, c4, if_false] at h
    exact h
theorem mdraw_c {L d : Nat} {z : Int32} {hi : pm_B} {Q : pm_Q} (hz : hi 142 0 = z) (h : Q (some (.inl (nI (drN z)))) (pm_u hi 142 0 (zn z))) : pm_C pm_g (SH L) HR (d + 1) m_M_draw [.inr 141] hi Q := by
  refine v_M_draw ?_
  obtain ⟨e1, e2⟩ := dr_eq z
  rw [pm_u_at, hz, show z * 1103515245 + 12345 = zn z from rfl, e1]
  exact h
theorem mtakesOf_c {L d p : Nat} {s : ASp} {hi : pm_B} {Q : pm_Q} (hp : p < 8) (hS : MS (hi 142) p s) (hE : WEar s) (h : Q (some (.inl (nI (takesN s)))) hi) : pm_C pm_g (SH L) HR (d + 2) m_M_takesOf [.inr 141, .inl (nI p)] hi Q := by
  rw [← (takes_eq hE).1] at h
  refine v_M_takesOf ⟨7 + 29 * p + 1, by omega, ix p 1, 7 + 29 * p + 0, by omega, ix p 0, ?_⟩
  rw [hS.1, hS.2.1]
  unfold f_Kinds_takesOf at h
  refine ⟨fun c => ?_, fun c1 => ⟨fun c => ?_, fun c2 => ⟨fun c => ?_, fun c3 => ⟨fun c => ?_, fun c4 => ⟨fun c => ?_, fun c5 => ?_⟩⟩⟩⟩⟩
  · rw [if_pos c] at h; exact h
  · rw [if_neg c1, if_pos c] at h; exact h
  · rw [if_neg c1, if_neg c2, if_pos c] at h; exact h
  · rw [if_neg c1, if_neg c2, if_neg c3, if_pos c] at h; exact h
  · rw [if_neg c1, if_neg c2, if_neg c3, if_neg c4, if_pos c] at h; exact h
  · rw [if_neg c1, if_neg c2, if_neg c3, if_neg c4, if_neg c5] at h; exact h
/-- the places of one speaker's words (and how many) -/
def PW (p : Nat) : Nat → Nat → Prop := fun q j => q = 142 ∧ (j = 5 ∨ (7 + 29 * p + 4 ≤ j ∧ j < 7 + 29 * p + 29))
theorem mforget_c {L d p : Nat} {s : ASp} {hi : pm_B} {Q : pm_Q} (hp : p < 8) (hS : MS (hi 142) p s) (hl : s.2.2.2.2.length ≤ 24) (h0 : 0 < s.2.2.2.2.length)
    (h : ∀ hi', Fr (PW p) hi hi' → MS (hi' 142) p (s.1, s.2.1, s.2.2.1, s.2.2.2.1, s.2.2.2.2.drop 1) → hi' 142 5 = hi 142 5 + 1 → Q none hi') : pm_C pm_g (SH L) HR (d + 2) m_M_forgetsOldest [.inr 141, .inl (nI p)] hi Q := by
  obtain ⟨s0, s1, s2, s3, s4, sR⟩ := hS
  refine v_M_forgetsOldest ⟨7 + 29 * p + 4, by omega, ix p 4, 7 + 29 * p + 4, by omega, ix p 4, fun hi3 e3 => ?_⟩
  rw [s4, show nI s.2.2.2.2.length - 1 = nI (s.2.2.2.2.length - 1) from nI_sub (b := 1) h0] at e3 ⊢
  have key : ∀ m k hi', k + m = s.2.2.2.2.length - 1 → (∀ q j, ¬ (q = 142 ∧ 7 + 29 * p + 4 ≤ j ∧ j < 7 + 29 * p + 29) → hi' q j = hi q j) → hi' 142 (7 + 29 * p + 4) = nI (s.2.2.2.2.length - 1) → (∀ j, j < k → hi' 142 (7 + 29 * p + (5 + j)) = hi 142 (7 + 29 * p + (5 + (j + 1)))) → (∀ j, k ≤ j → hi' 142 (7 + 29 * p + (5 + j)) = hi 142 (7 + 29 * p + (5 + j))) → pm_W pm_g (SH L) HR (d + 1) pm_t158 18 [some (.inr 141), some (.inl (nI p)), some (.inl (nI (s.2.2.2.2.length - 1))), some (.inl (nI k))] [] hi' Q := by
    intro m
    induction m with
    | zero =>
      intro k hi' hk u0 u4 u5 u6
      refine v_M_forgetsOldest_18 ⟨fun _ => ?_, fun hc => absurd (nI_le (by omega) (by omega)) hc⟩
      rw [u0 142 5 (by omega)]
      have w : ∀ j, j ≠ 5 → pm_u hi' 142 5 (hi 142 5 + 1) 142 j = hi' 142 j := fun j hj => pm_u_ne (Or.inr hj)
      refine h _ ?_ ?_ pm_u_at
      · intro q j hn
        unfold PW at hn
        rw [pm_u_ne (by omega), u0 q j (by omega)]
      · refine ⟨?_, ?_, ?_, ?_, ?_, ?_⟩
        · rw [w _ (by omega), u0 _ _ (by omega)]; exact s0
        · rw [w _ (by omega), u0 _ _ (by omega)]; exact s1
        · rw [w _ (by omega), u0 _ _ (by omega)]; exact s2
        · rw [w _ (by omega), u0 _ _ (by omega)]; exact s3
        · rw [w _ (by omega), u4, List.length_drop]
        · refine (sR.drop 1).to (fun j hj => ?_)
          rw [List.length_drop] at hj
          rw [w _ (by omega), u5 j (by omega), Nat.add_comm j 1]
    | succ m ih =>
      intro k hi' hk u0 u4 u5 u6
      refine v_M_forgetsOldest_18 ⟨fun hc => absurd hc (nI_ge (by omega) (by omega)), fun _ => ⟨7 + 29 * p + (5 + (k + 1)), by omega, ix51 p k, 7 + 29 * p + (5 + k), by omega, ix5 p k, fun hi4 e4 => ?_⟩⟩
      rw [nI_1]
      refine ih (k + 1) hi4 (by omega) (fun q j hn => ?_) ?_ (fun j hj => ?_) (fun j hj => ?_)
      · rw [e4, pm_u_ne (by omega)]; exact u0 q j hn
      · rw [e4, pm_u_ne (Or.inr (by omega))]; exact u4
      · by_cases hjk : j = k
        · subst hjk
          rw [e4, pm_u_at]; exact u6 _ (by omega)
        · rw [e4, pm_u_ne (Or.inr (by omega))]; exact u5 j (by omega)
      · rw [e4, pm_u_ne (Or.inr (by omega))]; exact u6 j (by omega)
  refine key _ 0 hi3 (Nat.zero_add _) (fun q j hn => ?_) ?_ (fun j hj => absurd hj (by omega)) (fun j _ => ?_)
  · rw [e3, pm_u_ne (by omega)]
  · rw [e3, pm_u_at]
  · rw [e3, pm_u_ne (Or.inr (by omega))]
/-- the row that is spoken -/
def MR (hi : pm_B) (row : List Int32) : Prop := hi 141 5 = nI row.length ∧ Row (hi 145) row
def PR : Nat → Nat → Prop := fun q j => (q = 141 ∧ j = 5) ∨ q = 145
theorem mbegins_c {L d p k : Nat} {s : ASp} {hi : pm_B} {Q : pm_Q} (hp : p < 8) (hS : MS (hi 142) p s) (hl : s.2.2.2.2.length ≤ 24) (hw : ∀ w ∈ s.2.2.2.2, ¬ w < 0) (hk : k ≤ s.2.2.2.2.length)
    (h : ∀ hi', Fr PR hi hi' → MR hi' (arow s k) → Q none hi') : pm_C pm_g (SH L) HR (d + 2) m_M_begins [.inr 141, .inl (nI p), .inl (nI k), .inl (nI (goesN s))] hi Q := by
  refine v_M_begins ?_
  obtain ⟨g1, g2, g3⟩ := goes_eq s
  obtain ⟨s0, s1, s2, s3, s4, sR⟩ := hS
  have hal := arow_len (p := s) (k := k)
  have key : ∀ m n hi', n + m = (arow s k).length → Fr PR hi hi' → MR hi' ((arow s k).take n) → pm_W pm_g (SH L) HR (d + 1) pm_t162 8 [some (.inr 141), some (.inl (nI p)), some (.inl (nI k)), some (.inl (nI (goesN s))), some (.inl (nI (k + n)))] [] hi' Q := by
    intro m
    induction m with
    | zero =>
      intro n hi' hn hf hr
      rw [List.take_of_length_le (by omega)] at hr
      refine v_M_begins_8 ⟨7 + 29 * p + 4, by omega, ix p 4, ?_⟩
      rw [hf 142 _ (by unfold PR; omega), s4, hr.1]
      exact ⟨fun _ => h hi' hf hr, fun c => ⟨fun _ => h hi' hf hr, fun c' => absurd (nI_le (by have : ¬ s.2.2.2.2.length ≤ k + n := fun hh => c (nI_le hh (by omega)); omega) (by omega)) c'⟩⟩
    | succ m ih =>
      intro n hi' hn hf hr
      have hlen : ((arow s k).take n).length = n := by rw [List.length_take]; omega
      have hkn : k + n < s.2.2.2.2.length := by omega
      refine v_M_begins_8 ⟨7 + 29 * p + 4, by omega, ix p 4, ?_⟩
      rw [hf 142 _ (by unfold PR; omega), s4, hr.1, hlen]
      refine ⟨fun c => absurd c (nI_ge hkn (by omega)), fun _ => ⟨fun c => absurd c (nI_ge (by omega) (by omega)), fun _ => ⟨7 + 29 * p + (5 + (k + n)), by omega, ix5 p (k + n), ?_⟩⟩⟩
      rw [hf 142 _ (by unfold PR; omega), sR.at hkn]
      refine ⟨fun c => absurd c (hw _ (List.getElem_mem hkn)), fun _ => ⟨n, by omega, rfl, fun hi7 e7 => ?_⟩⟩
      rw [nI_1]
      have hn1 : n < (arow s k).length := by omega
      have hel : (arow s k)[n] = s.2.2.2.2[k + n] := by
        have e : arow s k = (s.2.2.2.2.drop k).take (goesN s) := rfl
        rw [List.getElem_of_eq e hn1, List.getElem_take, List.getElem_drop]
      refine ih (n + 1) hi7 (by omega) (fun q j hq => ?_) ⟨?_, ?_⟩
      · unfold PR at hq
        rw [e7, pm_u_ne (by omega), pm_u_ne (by omega)]
        exact hf q j hq
      · rw [e7, pm_u_at, pm_u_ne (Or.inl (by omega)), hr.1, hlen, nI_1, List.length_take]
        congr 1
        omega
      · rw [List.take_succ_eq_append_getElem hn1]
        refine Row.snoc (hr.2.to (fun j hj => ?_)) ?_
        · rw [e7, pm_u_ne (Or.inl (by omega)), pm_u_ne (Or.inr (by omega))]
        · rw [hlen, e7, pm_u_ne (Or.inl (by omega)), pm_u_at, hel]
  exact key _ 0 _ (Nat.zero_add _) (fun q j hq => pm_u_ne (by unfold PR at hq; omega)) ⟨pm_u_at, Row.nil⟩
/-- copying a whole row -/
theorem mcopyAll_c {L d A B : Nat} {hi : pm_B} {Q : pm_Q} (hA : (SH L)[A]? = some (1, 0, 1611)) (hB : (SH L)[B]? = some (1, 0, 1611)) (hAB : A ≠ B)
    (h : ∀ hi', Fr (fun q _ => q = B) hi hi' → (∀ j, j < 1611 → hi' B j = hi A j) → Q none hi') : pm_C pm_g (SH L) HR (d + 1) m_M_copyAll [.inr A, .inr B] hi Q := by
  refine v_M_copyAll hA (by omega) hB (by omega) ?_
  have key : ∀ m k hi', k + m = 1611 → Fr (fun q _ => q = B) hi hi' → (∀ j, j < k → hi' B j = hi A j) → pm_W pm_g (SH L) HR d pm_t138 2 [some (.inr A), some (.inr B), some (.inl (nI k))] [] hi' Q := by
    intro m
    induction m with
    | zero =>
      intro k hi' hk hf hj
      exact v_M_copyAll_2 hA (by omega) hB (by omega) ⟨fun _ => h hi' hf (fun j hjk => hj j (by omega)), fun hc => absurd (nI_le (a := 1611) (by omega) (by omega)) hc⟩
    | succ m ih =>
      intro k hi' hk hf hj
      refine v_M_copyAll_2 hA (by omega) hB (by omega) ⟨fun hc => absurd hc (nI_ge (b := 1611) (by omega) (by omega)), fun _ => ⟨k, by omega, rfl, k, by omega, rfl, ?_⟩⟩
      rw [nI_1]
      refine ih (k + 1) _ (by omega) (fun q j hq => ?_) (fun j hjk => ?_)
      · rw [pm_u_ne (Or.inl hq)]; exact hf q j hq
      · by_cases e : j = k
        · subst e; rw [pm_u_at]; exact hf A j hAB
        · rw [pm_u_ne (Or.inr e)]; exact hj j (by omega)
  exact key 1611 0 hi rfl Fr.rf (fun j hj => absurd hj (by omega))
