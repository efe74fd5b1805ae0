/-! ===== sheets, the tape, kinds, laws (class side) ===== -/
theorem Row.rep {f : Nat → Int32} {n : Nat} {v : Int32} (h : ∀ j, j < n → f j = v) : Row f (List.replicate n v) := by
  intro k w hw
  obtain ⟨hk, e⟩ := List.getElem?_eq_some_iff.mp hw
  rw [List.getElem_replicate] at e
  rw [List.length_replicate] at hk
  rw [h k hk, e]
theorem sheetBegin_c {L d T n : Nat} {s : Int32} {hi : pm_B} {Q : pm_Q} (hT : pm_st T) (hn : n ≤ 24)
    (h : ∀ hi', Fr (fun q _ => q = T ∨ q = T + 1) hi hi' → CH hi' T (s, List.replicate n 0) → Q none hi') : pm_C pm_g (SH L) HR (d + 1) m_Sheet_begin [.inr T, .inl s, .inl (nI n)] hi Q := by
  refine v_Sheet_begin hT (fun hi1 e1 => ?_)
  have key : ∀ m k hi', k + m = 24 → Fr (fun q _ => q = T ∨ q = T + 1) hi hi' → hi' T 0 = s → hi' T 1 = nI n → (∀ j, j < k → hi' (T + 1) j = 0) → pm_W pm_g (SH L) HR d pm_t54 12 [some (.inr T), some (.inl s), some (.inl (nI n)), some (.inl (nI k))] [] hi' Q := by
    intro m
    induction m with
    | zero =>
      intro k hi' hk hf a0 a1 aj
      refine v_Sheet_begin_12 hT ⟨fun _ => h hi' hf ⟨a0, ?_, Row.rep (fun j hj => aj j (by omega))⟩, fun hh => absurd (nI_le (a := 24) (by omega) (by omega)) hh⟩
      dsimp only
      rw [List.length_replicate]
      exact a1
    | succ m ih =>
      intro k hi' hk hf a0 a1 aj
      refine v_Sheet_begin_12 hT ⟨fun hh => absurd hh (nI_ge (b := 24) (by omega) (by omega)), fun _ => ⟨k, by omega, rfl, ?_⟩⟩
      rw [nI_1]
      refine ih (k + 1) _ (by omega) (fun q j hq => ?_) ?_ ?_ (fun j hj => ?_)
      · rw [pm_u_ne (Or.inl (fun hh => hq (Or.inr hh)))]; exact hf q j hq
      · rw [pm_u_ne (Or.inl (by omega))]; exact a0
      · rw [pm_u_ne (Or.inl (by omega))]; exact a1
      · by_cases hjk : j = k
        · subst hjk; rw [pm_u_at]
        · rw [pm_u_ne (Or.inr hjk)]; exact aj j (by omega)
  refine key 24 0 hi1 rfl (fun q j hq => ?_) ?_ ?_ (fun j hj => absurd hj (by omega))
  · rw [e1, pm_u_ne (Or.inl (fun hh => hq (Or.inl hh))), pm_u_ne (Or.inl (fun hh => hq (Or.inl hh)))]
  · rw [e1, pm_u_ne (Or.inr (by omega)), pm_u_at]
  · rw [e1, pm_u_at]
theorem st_ne {S T : Nat} (hS : pm_st S) (hT : pm_st T) : S + 1 ≠ T := by
  rcases hS with ⟨i, hi, rfl⟩ | ⟨i, hi, rfl⟩ <;> rcases hT with ⟨j, hj, rfl⟩ | ⟨j, hj, rfl⟩ <;> omega
theorem sheetBecome_c {L d S T : Nat} {t : AH} {hi : pm_B} {Q : pm_Q} (hS : pm_st S) (hT : pm_st T) (hST : S ≠ T) (hl : t.2.length ≤ 24) (hC : CH hi T t)
    (h : ∀ hi', Fr (fun q _ => q = S ∨ q = S + 1) hi hi' → CH hi' S t → Q none hi') : pm_C pm_g (SH L) HR (d + 1) m_Sheet_become [.inr S, .inr T] hi Q := by
  have n1 := st_ne hS hT
  have n2 := st_ne hT hS
  refine v_Sheet_become hS hT (fun hi1 e1 => ?_)
  have key : ∀ m k hi', k + m = 24 → Fr (fun q _ => q = S ∨ q = S + 1) hi hi' → hi' S 0 = t.1 → hi' S 1 = nI t.2.length → (∀ j, j < k → hi' (S + 1) j = hi (T + 1) j) → pm_W pm_g (SH L) HR d pm_t55 18 [some (.inr S), some (.inr T), some (.inl (nI k))] [] hi' Q := by
    intro m
    induction m with
    | zero =>
      intro k hi' hk hf a0 a1 aj
      exact v_Sheet_become_18 hS hT ⟨fun _ => h hi' hf ⟨a0, a1, hC.2.2.to (fun j hj => aj j (by omega))⟩, fun hh => absurd (nI_le (a := 24) (by omega) (by omega)) hh⟩
    | succ m ih =>
      intro k hi' hk hf a0 a1 aj
      refine v_Sheet_become_18 hS hT ⟨fun hh => absurd hh (nI_ge (b := 24) (by omega) (by omega)), fun _ => ⟨k, by omega, rfl, k, by omega, rfl, ?_⟩⟩
      rw [nI_1]
      refine ih (k + 1) _ (by omega) (fun q j hq => ?_) ?_ ?_ (fun j hj => ?_)
      · rw [pm_u_ne (Or.inl (fun hh => hq (Or.inr hh)))]; exact hf q j hq
      · rw [pm_u_ne (Or.inl (by omega))]; exact a0
      · rw [pm_u_ne (Or.inl (by omega))]; exact a1
      · by_cases hjk : j = k
        · subst hjk; rw [pm_u_at]; exact hf _ _ (by omega)
        · rw [pm_u_ne (Or.inr hjk)]; exact aj j (by omega)
  refine key 24 0 hi1 rfl (fun q j hq => ?_) ?_ ?_ (fun j hj => absurd hj (by omega))
  · rw [e1, pm_u_ne (Or.inl (fun hh => hq (Or.inl hh))), pm_u_ne (Or.inl (fun hh => hq (Or.inl hh)))]
  · rw [e1, pm_u_ne (Or.inr (by omega)), pm_u_at]; exact hC.1
  · rw [e1, pm_u_at, pm_u_ne (Or.inl (Ne.symm hST))]; exact hC.2.1
/-- a law is taken: text t behind the last -/
theorem lkn_app {txs : List AT} {t : AT} {k : Int32} : ∀ n, n ≤ txs.length → lkn (txs ++ [t]) k n = lkn txs k n
  | 0, _ => rfl
  | n + 1, h => by
    unfold lkn
    rw [lkn_app n (by omega)]
    have : (txs ++ [t]).getD n (0, 0, []) = txs.getD n (0, 0, []) := by
      rw [List.getD_eq_getElem?_getD, List.getD_eq_getElem?_getD, List.getElem?_append_left (by omega)]
    rw [this]
theorem lk_app {txs : List AT} {t : AT} {k : Int32} : lk (txs ++ [t]) k = if t.1 = k then some txs.length else lk txs k := by
  unfold lk
  rw [List.length_append]
  show lkn (txs ++ [t]) k (txs.length + 1) = _
  rw [lkn, lkn_app _ (Nat.le_refl _)]
  have : (txs ++ [t]).getD txs.length (0, 0, []) = t := by
    rw [List.getD_eq_getElem?_getD, List.getElem?_append_right (Nat.le_refl _), Nat.sub_self]
    rfl
  rw [this]
