/-! ===== how a speaker hears (model side) ===== -/
theorem within_held (x : Int32) : f_M_within x 0 12 = f_E_held x 0 12 := by
  unfold f_M_within f_E_held
  by_cases h1 : x < 12
  · rw [if_pos h1]
    by_cases h2 : 0 < x
    · rw [if_pos h2, if_pos (Int32.le_of_lt h2), if_pos (Int32.le_of_lt h1)]
    · rw [if_neg h2]
      by_cases h3 : 0 ≤ x
      · rw [if_pos h3, if_pos (Int32.le_of_lt h1)]
        exact Int32.le_antisymm (Int32.not_lt.mp h2) h3
      · rw [if_neg h3]
  · rw [if_neg h1, if_pos (Int32.le_trans (by decide) (Int32.not_lt.mp h1)), if_pos (show (0 : Int32) < 12 by decide)]
    by_cases h2 : x ≤ 12
    · rw [if_pos h2]
      exact Int32.le_antisymm h2 (Int32.not_lt.mp h1)
    · rw [if_neg h2]
theorem keep_chain {Q : pm_Q} {hi : pm_B} {z w : Int32} (hw : 0 ≤ w ∧ w ≤ 12) (h : Q (some (.inl (f_Kinds_keepsOf z w))) hi) : ((z = 1) → Q (some (.inl (w / 2))) hi) ∧ ((¬ z = 1) → ((z = 2) → Q (some (.inl (f_M_within (w - 2) 0 12))) hi) ∧ ((¬ z = 2) → ((z = 3) → Q (some (.inl ((w / 2) + 3))) hi) ∧ ((¬ z = 3) → ((z = 4) → Q (some (.inl (f_M_within (w - 2) 0 12))) hi) ∧ ((¬ z = 4) → ((z = 5) → Q (some (.inl 0)) hi) ∧ ((¬ z = 5) → Q (some (.inl w)) hi))))) := by
  obtain ⟨k, hk, rfl⟩ := in12 hw
  have e2 : ∀ k, k < 13 → f_M_within (nI k - 2) 0 12 = if 0 < nI k - 2 then nI k - 2 else 0 := by decide +kernel
  rw [e2 k (by omega)]
  unfold f_Kinds_keepsOf at h
  refine ⟨fun c => ?_, fun c1 => ⟨fun c => ?_, fun c2 => ⟨fun c => ?_, fun c3 => ⟨fun c => ?_, fun c4 => ⟨fun c => ?_, fun c5 => ?_⟩⟩⟩⟩⟩
  · rw [if_pos c] at h; exact h
  · rw [if_neg c1, if_pos c] at h; exact h
  · rw [if_neg c1, if_neg c2, if_pos c] at h; exact h
  · rw [if_neg c1, if_neg c2, if_neg c3, if_pos c] at h; exact h
  · rw [if_neg c1, if_neg c2, if_neg c3, if_neg c4, if_pos c] at h; exact h
  · rw [if_neg c1, if_neg c2, if_neg c3, if_neg c4, if_neg c5] at h; exact h
/-- texts that hold what a text may -/
def WX (txs : List AT) : Prop := ∀ t ∈ txs, wfp t.2.2 ∧ ∀ c ∈ t.2.2, okc c
def PK : Nat → Nat → Prop := fun q _ => q = 155 ∨ q = 156
theorem mkeepsOf_c {L d p : Nat} {s : ASp} {txs : List AT} {hi : pm_B} {Q : pm_Q} (hp : p < 8) (hS : MS (hi 142) p s) (hn : hi 142 6 = nI txs.length) (hX : MX (hi 142) txs) (hW : WX txs)
    (h : ∀ hi', Fr PK hi hi' → Q (some (.inl (akeeps txs s s.2.2.2.2.length))) hi') : pm_C pm_g (SH L) HR (d + 4) m_M_keepsOf [.inr 141, .inl (nI p)] hi Q := by
  refine v_M_keepsOf (d := d + 2) (mcounts_c (d := d + 2) hn hX ⟨_, rfl, ?_⟩)
  refine ⟨7 + 29 * p + 1, by omega, ix p 1, 7 + 29 * p + 2, by omega, ix p 2, fun hi5 e5 => ⟨7 + 29 * p + 4, by omega, ix p 4, ?_⟩⟩
  have f5 : ∀ q j, q ≠ 156 → hi5 q j = hi q j := fun q j hq => by rw [e5, pm_u_ne (Or.inl hq), pm_u_ne (Or.inl hq)]
  have f6 : ∀ q j, q ≠ 156 → pm_u hi5 156 2 (hi5 142 (7 + 29 * p + 4)) q j = hi q j := fun q j hq => by rw [pm_u_ne (Or.inl hq), f5 q j hq]
  have b2 : pm_u hi5 156 2 (hi5 142 (7 + 29 * p + 4)) 156 2 = nI s.2.2.2.2.length := by rw [pm_u_at, f5 _ _ (by omega)]; exact hS.2.2.2.2.1
  have b1 : pm_u hi5 156 2 (hi5 142 (7 + 29 * p + 4)) 156 1 = s.2.2.1 := by rw [pm_u_ne (Or.inr (by omega)), e5, pm_u_at, pm_u_ne (Or.inl (by omega))]; exact hS.2.2.1
  have b0 : pm_u hi5 156 2 (hi5 142 (7 + 29 * p + 4)) 156 0 = s.2.1 := by rw [pm_u_ne (Or.inr (by omega)), e5, pm_u_ne (Or.inr (by omega)), pm_u_at]; exact hS.2.1
  generalize pm_u hi5 156 2 (hi5 142 (7 + 29 * p + 4)) = hi6 at f6 b0 b1 b2 ⊢
  have r6 : hi6 142 = hi 142 := funext (fun j => f6 142 j (by omega))
  have fr6 : Fr PK hi hi6 := fun q j hq => f6 q j (fun hh => hq (Or.inr hh))
  cases hk : lk txs 0 with
  | none =>
    refine ⟨fun hc => absurd hc (by decide), fun _ => ⟨7 + 29 * p + 0, by omega, ix p 0, ?_⟩⟩
    rw [r6, hS.1]
    have h1 := h hi6 fr6
    unfold akeeps given at h1
    rw [hk] at h1
    exact keep_chain (w := 12) (by decide) h1
  | some i =>
    have hi1 := lkn_lt hk
    have hl := hX.1
    have ht : txs[i]? = some (txs.getD i (0, 0, [])) := by rw [List.getD_eq_getElem?_getD, List.getElem?_eq_getElem hi1]; rfl
    have hwt := hW _ (List.mem_of_getElem? ht)
    refine ⟨fun _ => ?_, fun hc => absurd (nI_pos' (by omega)) hc⟩
    refine mworksOut_c (d := d + 1) (by omega) (by rw [r6]; exact hX.2 i _ ht) hwt.2 hwt.1 b0 b1 b2 (fun hi8 f8 => ⟨_, rfl, 7 + 29 * p + 0, by omega, ix p 0, ?_⟩)
    have e0 : hi8 142 (7 + 29 * p + 0) = s.1 := by rw [f8 142 _ (by omega), r6]; exact hS.1
    rw [e0, within_held]
    have h1 := h hi8 (fr6.tr (f8.mono (fun q j hq => Or.inl hq)))
    unfold akeeps given at h1
    rw [hk] at h1
    exact keep_chain (held_in _) h1
