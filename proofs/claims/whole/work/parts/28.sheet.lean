/-! ===== sheets, the tape, kinds, laws (class side) ===== -/
theorem Row.rep {f : Nat → Int32} {n : Nat} {v : Int32} (h : ∀ j, j < n → f j = v) : Row f (List.replicate n v) := by
  intro k w hw
  obtain ⟨hk, e⟩ := List.getElem?_eq_some_iff.mp hw
  rw [List.getElem_replicate] at e
  rw [List.length_replicate] at hk
  rw [h k hk, e]
theorem sheetBegin_c {L d T n : Nat} {s : Int32} {hi : pm_B} {Q : pm_Q} (hT : pm_st T) (hn : n ≤ 24)
    (h : ∀ hi', Fr (fun q _ => q = T ∨ q = T + 1) hi hi' → CH hi' T (s, List.replicate n 0) → Q none hi') : pm_C pm_g (SH L) HR (d + 1) m_Sheet_begin [.inr T, .inl s, .inl (nI n)] hi Q := by
  refine v_Sheet_begin hT (fun hi1 e1 => ?_)
  have key : ∀ m k hi', k + m = 24 → Fr (fun q _ => q = T ∨ q = T + 1) hi hi' → hi' T 0 = s → hi' T 1 = nI n → (∀ j, j < k → hi' (T + 1) j = 0) → pm_W pm_g (SH L) HR d pm_t54 12 [some (.inr T), some (.inl s), some (.inl (nI n)), some (.inl (nI k))] [] hi' Q := by
    intro m
    induction m with
    | zero =>
      intro k hi' hk hf a0 a1 aj
      refine v_Sheet_begin_12 hT ⟨fun _ => h hi' hf ⟨a0, ?_, Row.rep (fun j hj => aj j (by omega))⟩, fun hh => absurd (nI_le (a := 24) (by omega) (by omega)) hh⟩
      dsimp only
      rw [List.length_replicate]
      exact a1
    | succ m ih =>
      intro k hi' hk hf a0 a1 aj
      refine v_Sheet_begin_12 hT ⟨fun hh => absurd hh (nI_ge (b := 24) (by omega) (by omega)), fun _ => ⟨k, by omega, rfl, ?_⟩⟩
      rw [nI_1]
      refine ih (k + 1) _ (by omega) (fun q j hq => ?_) ?_ ?_ (fun j hj => ?_)
      · rw [pm_u_ne (Or.inl (fun hh => hq (Or.inr hh)))]; exact hf q j hq
      · rw [pm_u_ne (Or.inl (by omega))]; exact a0
      · rw [pm_u_ne (Or.inl (by omega))]; exact a1
      · by_cases hjk : j = k
        · subst hjk; rw [pm_u_at]
        · rw [pm_u_ne (Or.inr hjk)]; exact aj j (by omega)
  refine key 24 0 hi1 rfl (fun q j hq => ?_) ?_ ?_ (fun j hj => absurd hj (by omega))
  · rw [e1, pm_u_ne (Or.inl (fun hh => hq (Or.inl hh))), pm_u_ne (Or.inl (fun hh => hq (Or.inl hh)))]
  · rw [e1, pm_u_ne (Or.inr (by omega)), pm_u_at]
  · rw [e1, pm_u_at]
theorem st_ne {S T : Nat} (hS : pm_st S) (hT : pm_st T) : S + 1 ≠ T := by
  rcases hS with ⟨i, hi, rfl⟩ | ⟨i, hi, rfl⟩ <;> rcases hT with ⟨j, hj, rfl⟩ | ⟨j, hj, rfl⟩ <;> omega
theorem sheetBecome_c {L d S T : Nat} {t : AH} {hi : pm_B} {Q : pm_Q} (hS : pm_st S) (hT : pm_st T) (hST : S ≠ T) (hl : t.2.length ≤ 24) (hC : CH hi T t)
    (h : ∀ hi', Fr (fun q _ => q = S ∨ q = S + 1) hi hi' → CH hi' S t → Q none hi') : pm_C pm_g (SH L) HR (d + 1) m_Sheet_become [.inr S, .inr T] hi Q := by
  have n1 := st_ne hS hT
  have n2 := st_ne hT hS
  refine v_Sheet_become hS hT (fun hi1 e1 => ?_)
  have key : ∀ m k hi', k + m = 24 → Fr (fun q _ => q = S ∨ q = S + 1) hi hi' → hi' S 0 = t.1 → hi' S 1 = nI t.2.length → (∀ j, j < k → hi' (S + 1) j = hi (T + 1) j) → pm_W pm_g (SH L) HR d pm_t55 18 [some (.inr S), some (.inr T), some (.inl (nI k))] [] hi' Q := by
    intro m
    induction m with
    | zero =>
      intro k hi' hk hf a0 a1 aj
      exact v_Sheet_become_18 hS hT ⟨fun _ => h hi' hf ⟨a0, a1, hC.2.2.to (fun j hj => aj j (by omega))⟩, fun hh => absurd (nI_le (a := 24) (by omega) (by omega)) hh⟩
    | succ m ih =>
      intro k hi' hk hf a0 a1 aj
      refine v_Sheet_become_18 hS hT ⟨fun hh => absurd hh (nI_ge (b := 24) (by omega) (by omega)), fun _ => ⟨k, by omega, rfl, k, by omega, rfl, ?_⟩⟩
      rw [nI_1]
      refine ih (k + 1) _ (by omega) (fun q j hq => ?_) ?_ ?_ (fun j hj => ?_)
      · rw [pm_u_ne (Or.inl (fun hh => hq (Or.inr hh)))]; exact hf q j hq
      · rw [pm_u_ne (Or.inl (by omega))]; exact a0
      · rw [pm_u_ne (Or.inl (by omega))]; exact a1
      · by_cases hjk : j = k
        · subst hjk; rw [pm_u_at]; exact hf _ _ (by omega)
        · rw [pm_u_ne (Or.inr hjk)]; exact aj j (by omega)
  refine key 24 0 hi1 rfl (fun q j hq => ?_) ?_ ?_ (fun j hj => absurd hj (by omega))
  · rw [e1, pm_u_ne (Or.inl (fun hh => hq (Or.inl hh))), pm_u_ne (Or.inl (fun hh => hq (Or.inl hh)))]
  · rw [e1, pm_u_ne (Or.inr (by omega)), pm_u_at]; exact hC.1
  · rw [e1, pm_u_at, pm_u_ne (Or.inl (Ne.symm hST))]; exact hC.2.1
/-- a law is taken: text t behind the last -/
theorem lkn_app {txs : List AT} {t : AT} {k : Int32} : ∀ n, n ≤ txs.length → lkn (txs ++ [t]) k n = lkn txs k n
  | 0, _ => rfl
  | n + 1, h => by
    unfold lkn
    rw [lkn_app n (by omega)]
    have : (txs ++ [t]).getD n (0, 0, []) = txs.getD n (0, 0, []) := by
      rw [List.getD_eq_getElem?_getD, List.getD_eq_getElem?_getD, List.getElem?_append_left (by omega)]
    rw [this]
theorem lk_app {txs : List AT} {t : AT} {k : Int32} : lk (txs ++ [t]) k = if t.1 = k then some txs.length else lk txs k := by
  unfold lk
  rw [List.length_append]
  show lkn (txs ++ [t]) k (txs.length + 1) = _
  rw [lkn, lkn_app _ (Nat.le_refl _)]
  have : (txs ++ [t]).getD txs.length (0, 0, []) = t := by
    rw [List.getD_eq_getElem?_getD, List.getElem?_append_right (Nat.le_refl _), Nat.sub_self]
    rfl
  rw [this]
theorem nI_3 : ∀ k, k < 3 → ∀ j, j < 3 → (nI k = nI j → k = j) := by decide
theorem CF.law {hi : pm_B} {F k : Nat} {sps : List ASp} {talk spoken lost day z : Int32} {txs : List AT} {t : AT} (h : CF hi F (sps, talk, spoken, lost, day, z, txs)) (hk : k < 3) (ht : t.1 = nI k) (h8 : sps.length ≤ 8) :
    CF (pm_u (pm_u hi (F + 18) k (nI txs.length)) F 8 (nI (txs.length + 1))) F (sps, talk, spoken, lost, day, z, txs ++ [t]) := by
  obtain ⟨c2, c3, c4, c5, c6, c7, c8, c9, cS⟩ := h
  have tF : ∀ j, j ≠ 8 → pm_u (pm_u hi (F + 18) k (nI txs.length)) F 8 (nI (txs.length + 1)) F j = hi F j := fun j hj => by rw [pm_u_ne (Or.inr hj), pm_u_ne (Or.inl (by omega))]
  refine ⟨(tF 2 (by omega)).trans c2, (tF 3 (by omega)).trans c3, (tF 4 (by omega)).trans c4, (tF 5 (by omega)).trans c5, (tF 6 (by omega)).trans c6, (tF 7 (by omega)).trans c7, ?_, fun j hj => ?_, fun i p hp => ?_⟩
  · rw [pm_u_at, List.length_append]; rfl
  · rw [pm_u_ne (Or.inl (by omega)), lk_app, ht]
    by_cases hjk : k = j
    · subst hjk
      rw [pm_u_at, if_pos rfl]
      rfl
    · rw [pm_u_ne (Or.inr (Ne.symm hjk)), if_neg (fun e => hjk (nI_3 k hk j hj e))]
      exact c9 j hj
  · have hi9 := (List.getElem?_eq_some_iff.mp hp).1
    exact (cS i p hp).kept (fun j => by rw [pm_u_ne (Or.inl (by omega)), pm_u_ne (Or.inl (by omega))]) (fun j => by rw [pm_u_ne (Or.inl (by omega)), pm_u_ne (Or.inl (by omega))])
/-- the tape -/
def CB (hi : pm_B) (bs : List Int32) : Prop := hi 107 1 = nI bs.length ∧ Row (hi 108) bs
def byt (v s : Int32) : Int32 := ((Int32.toUInt32 v >>> (Int32.toUInt32 s &&& Int32.toUInt32 31)).toInt32) &&& 255
theorem tape_step {L d : Nat} {v s : Int32} {bs : List Int32} {hi : pm_B} {Q : pm_Q} (hs : ¬ s < 0) (hC : CB hi bs) (hl : bs.length < 96)
    (h : ∀ hi', Fr (fun q _ => q = 107 ∨ q = 108) hi hi' → CB hi' (bs ++ [byt v s]) → pm_W pm_g (SH L) HR (d) pm_t68 3 [some (.inr 107), some (.inl v), some (.inl (s + (-8)))] [] hi' Q) : pm_W pm_g (SH L) HR (d) pm_t68 3 [some (.inr 107), some (.inl v), some (.inl s)] [] hi Q := by
  refine v_Tape_putNumber_3 ⟨fun hh => absurd hh hs, fun _ => ?_⟩
  rw [hC.1]
  refine ⟨fun hh => absurd hh (nI_pos (by omega)), fun _ => ⟨fun _ => ⟨bs.length, hl, rfl, fun hi5 e5 => ?_⟩, fun hh => absurd (nI_lt (b := 96) hl (by omega)) hh⟩⟩
  refine h hi5 (fun q j hn => ?_) ⟨?_, ?_⟩
  · rw [e5, pm_u_ne (Or.inl (by omega)), pm_u_ne (Or.inl (by omega))]
  · rw [e5, pm_u_at, pm_u_ne (Or.inl (by omega)), hC.1, nI_1, List.length_append]; rfl
  · refine Row.snoc (hC.2.to (fun j hj => ?_)) ?_
    · rw [e5, pm_u_ne (Or.inl (by omega)), pm_u_ne (Or.inr (by omega))]
    · rw [e5, pm_u_ne (Or.inl (by omega)), pm_u_at]; rfl
theorem putNumber_c {L d : Nat} {v : Int32} {bs : List Int32} {hi : pm_B} {Q : pm_Q} (hC : CB hi bs) (hl : bs.length + 4 ≤ 96)
    (h : ∀ hi', Fr (fun q _ => q = 107 ∨ q = 108) hi hi' → CB hi' (bs ++ [byt v 24, byt v 16, byt v 8, byt v 0]) → Q none hi') : pm_C pm_g (SH L) HR (d + 1) m_Tape_putNumber [.inr 107, .inl v] hi Q := by
  refine v_Tape_putNumber ?_
  refine tape_step (by decide) hC (by omega) (fun hi1 f1 c1 => ?_)
  refine tape_step (by decide) c1 (by simp only [List.length_append, List.length_singleton]; omega) (fun hi2 f2 c2 => ?_)
  refine tape_step (by decide) c2 (by simp only [List.length_append, List.length_singleton]; omega) (fun hi3 f3 c3 => ?_)
  refine tape_step (by decide) c3 (by simp only [List.length_append, List.length_singleton]; omega) (fun hi4 f4 c4 => ?_)
  refine v_Tape_putNumber_3 ⟨fun _ => h hi4 (((f1.tr f2).tr f3).tr f4) ?_, fun hh => absurd (by decide) hh⟩
  rw [List.append_assoc, List.append_assoc, List.append_assoc] at c4
  exact c4
/-- the kinds above -/
def abv (k : Int32) : Int32 := if k = 0 then -1 else if k = 3 then 1 else if k = 4 then 2 else 0
def isofN : Nat → Int32 → Int32 → Int32
  | 0, _, _ => 0
  | n + 1, k, w => if k < 0 then 0 else if 6 ≤ k then 0 else if k = w then 1 else isofN n (abv k) w
theorem le6 {k : Int32} (h0 : ¬ k < 0) (h6 : ¬ 6 ≤ k) : ∃ n, n < 6 ∧ k = nI n := by
  rcases pk_ix k (n := 6) (by omega) with h | h | h
  · exact absurd h h0
  · exact absurd h h6
  · exact h
theorem isOf_c {L d : Nat} {k w : Int32} {hi : pm_B} {Q : pm_Q} (hA : ∀ n, n < 6 → hi 2 n = abv (nI n)) (h : Q (some (.inl (isofN 6 k w))) hi) : pm_C pm_g (SH L) HR (d + 1) m_Kinds_isOf [.inl k, .inl w] hi Q := by
  refine v_Kinds_isOf ?_
  have key : ∀ n m y, m + n = 6 → isofN n y w = isofN 6 k w → pm_W pm_g (SH L) HR (d) pm_t17 4 [some (.inl k), some (.inl w), some (.inl y), some (.inl (nI m))] [] hi Q := by
    intro n
    induction n with
    | zero =>
      intro m y hm he
      refine v_Kinds_isOf_4 ⟨fun _ => ?_, fun hh => absurd (nI_le (a := 6) (by omega) (by omega)) hh⟩
      rw [← he] at h
      exact h
    | succ n ih =>
      intro m y hm he
      refine v_Kinds_isOf_4 ⟨fun hh => absurd hh (nI_ge (b := 6) (by omega) (by omega)), fun _ => ?_⟩
      rw [isofN] at he
      refine ⟨fun c => ?_, fun c => ⟨fun c1 => ?_, fun c1 => ⟨fun c2 => ?_, fun c2 => ?_⟩⟩⟩
      · rw [if_pos c] at he; rw [← he] at h; exact h
      · rw [if_neg c, if_pos c1] at he; rw [← he] at h; exact h
      · rw [if_neg c, if_neg c1, if_neg c2] at he
        obtain ⟨j, hj, rfl⟩ := le6 c c1
        refine ⟨j, hj, rfl, ?_⟩
        rw [hA j hj, nI_1]
        exact ih (m + 1) _ (by omega) he
      · rw [if_neg c, if_neg c1, if_pos (Decidable.not_not.mp c2)] at he; rw [← he] at h; exact h
  exact key 6 0 k rfl rfl
