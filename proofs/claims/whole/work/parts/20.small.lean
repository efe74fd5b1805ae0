/-! printed by program (wip/whole/vcg.py): small methods, what each needs -/
theorem v_Kinds_keepsOf {L d : Nat} {p1 : Int32} {p2 : Int32} {hi : pm_B} {Q : pm_Q} (h : ((p1 = 1) → Q (some (.inl (p2 / 2))) hi) ∧ ((¬ p1 = 1) → ((p1 = 2) → Q (some (.inl (if 0 < (p2 - 2) then (p2 - 2) else 0))) hi) ∧ ((¬ p1 = 2) → ((p1 = 3) → Q (some (.inl ((p2 / 2) + 3))) hi) ∧ ((¬ p1 = 3) → ((p1 = 4) → Q (some (.inl (if 0 < (p2 - 2) then (p2 - 2) else 0))) hi) ∧ ((¬ p1 = 4) → ((p1 = 5) → Q (some (.inl 0)) hi) ∧ ((¬ p1 = 5) → Q (some (.inl p2)) hi)))))) : pm_C pm_g (SH L) HR (d + 1) m_Kinds_keepsOf [.inl p1, .inl p2] hi Q := by
  refine pm_C_of (maxL := 2) (t := pm_t18) rfl (Nat.le_of_ble_eq_true rfl) ?_
  refine pm_W_of 10 [] rfl ?_
  intro pc1 hsw
  by_cases c1 : p1 = 1
  · rw [pm_sw_t c1] at hsw
    subst hsw
    replace h := h.1 c1
    refine And.intro (by decide) ?_
    refine And.intro trivial ?_
    exact h
  · rw [pm_sw_f c1] at hsw
    replace h := h.2 c1
    by_cases c2 : p1 = 2
    · rw [pm_sw_t c2] at hsw
      subst hsw
      replace h := h.1 c2
      refine And.intro trivial ?_
      exact h
    · rw [pm_sw_f c2] at hsw
      replace h := h.2 c2
      by_cases c3 : p1 = 3
      · rw [pm_sw_t c3] at hsw
        subst hsw
        replace h := h.1 c3
        refine And.intro (by decide) ?_
        refine And.intro trivial ?_
        exact h
      · rw [pm_sw_f c3] at hsw
        replace h := h.2 c3
        by_cases c4 : p1 = 4
        · rw [pm_sw_t c4] at hsw
          subst hsw
          replace h := h.1 c4
          refine And.intro trivial ?_
          exact h
        · rw [pm_sw_f c4] at hsw
          replace h := h.2 c4
          by_cases c5 : p1 = 5
          · rw [pm_sw_t c5] at hsw
            subst hsw
            replace h := h.1 c5
            refine And.intro trivial ?_
            exact h
          · rw [pm_sw_f c5] at hsw
            replace h := h.2 c5
            replace hsw : 56 = pc1 := hsw
            subst hsw
            refine And.intro trivial ?_
            exact h
def f_Kinds_keepsOf (p1 : Int32) (p2 : Int32) : Int32 := (if p1 = 1 then (p2 / 2) else (if p1 = 2 then (if 0 < (p2 - 2) then (p2 - 2) else 0) else (if p1 = 3 then ((p2 / 2) + 3) else (if p1 = 4 then (if 0 < (p2 - 2) then (p2 - 2) else 0) else (if p1 = 5 then 0 else p2)))))
theorem f_Kinds_keepsOf_c {L d : Nat} {p1 : Int32} {p2 : Int32} {hi : pm_B} {Q : pm_Q} (h : Q (some (.inl (f_Kinds_keepsOf p1 p2))) hi) : pm_C pm_g (SH L) HR (d + 1) m_Kinds_keepsOf [.inl p1, .inl p2] hi Q := by
  refine v_Kinds_keepsOf ?_
  unfold f_Kinds_keepsOf at h
  refine And.intro (fun c1 => ?_) (fun c1 => ?_)
  · rw [if_pos c1] at h
    exact h
  · rw [if_neg c1] at h
    refine And.intro (fun c2 => ?_) (fun c2 => ?_)
    · rw [if_pos c2] at h
      exact h
    · rw [if_neg c2] at h
      refine And.intro (fun c3 => ?_) (fun c3 => ?_)
      · rw [if_pos c3] at h
        exact h
      · rw [if_neg c3] at h
        refine And.intro (fun c4 => ?_) (fun c4 => ?_)
        · rw [if_pos c4] at h
          exact h
        · rw [if_neg c4] at h
          refine And.intro (fun c5 => ?_) (fun c5 => ?_)
          · rw [if_pos c5] at h
            exact h
          · rw [if_neg c5] at h
            exact h
theorem v_Kinds_takesOf {L d : Nat} {p1 : Int32} {p2 : Int32} {hi : pm_B} {Q : pm_Q} (h : ((p1 = 1) → Q (some (.inl (p2 + 2))) hi) ∧ ((¬ p1 = 1) → ((p1 = 2) → Q (some (.inl (p2 / 2))) hi) ∧ ((¬ p1 = 2) → ((p1 = 3) → Q (some (.inl (p2 + 2))) hi) ∧ ((¬ p1 = 3) → ((p1 = 4) → Q (some (.inl ((p2 / 2) + 1))) hi) ∧ ((¬ p1 = 4) → ((p1 = 5) → Q (some (.inl 0)) hi) ∧ ((¬ p1 = 5) → Q (some (.inl p2)) hi)))))) : pm_C pm_g (SH L) HR (d + 1) m_Kinds_takesOf [.inl p1, .inl p2] hi Q := by
  refine pm_C_of (maxL := 2) (t := pm_t19) rfl (Nat.le_of_ble_eq_true rfl) ?_
  refine pm_W_of 10 [] rfl ?_
  intro pc1 hsw
  by_cases c1 : p1 = 1
  · rw [pm_sw_t c1] at hsw
    subst hsw
    replace h := h.1 c1
    refine And.intro trivial ?_
    exact h
  · rw [pm_sw_f c1] at hsw
    replace h := h.2 c1
    by_cases c2 : p1 = 2
    · rw [pm_sw_t c2] at hsw
      subst hsw
      replace h := h.1 c2
      refine And.intro (by decide) ?_
      refine And.intro trivial ?_
      exact h
    · rw [pm_sw_f c2] at hsw
      replace h := h.2 c2
      by_cases c3 : p1 = 3
      · rw [pm_sw_t c3] at hsw
        subst hsw
        replace h := h.1 c3
        refine And.intro trivial ?_
        exact h
      · rw [pm_sw_f c3] at hsw
        replace h := h.2 c3
        by_cases c4 : p1 = 4
        · rw [pm_sw_t c4] at hsw
          subst hsw
          replace h := h.1 c4
          refine And.intro (by decide) ?_
          refine And.intro trivial ?_
          exact h
        · rw [pm_sw_f c4] at hsw
          replace h := h.2 c4
          by_cases c5 : p1 = 5
          · rw [pm_sw_t c5] at hsw
            subst hsw
            replace h := h.1 c5
            refine And.intro trivial ?_
            exact h
          · rw [pm_sw_f c5] at hsw
            replace h := h.2 c5
            replace hsw : 52 = pc1 := hsw
            subst hsw
            refine And.intro trivial ?_
            exact h
def f_Kinds_takesOf (p1 : Int32) (p2 : Int32) : Int32 := (if p1 = 1 then (p2 + 2) else (if p1 = 2 then (p2 / 2) else (if p1 = 3 then (p2 + 2) else (if p1 = 4 then ((p2 / 2) + 1) else (if p1 = 5 then 0 else p2)))))
theorem f_Kinds_takesOf_c {L d : Nat} {p1 : Int32} {p2 : Int32} {hi : pm_B} {Q : pm_Q} (h : Q (some (.inl (f_Kinds_takesOf p1 p2))) hi) : pm_C pm_g (SH L) HR (d + 1) m_Kinds_takesOf [.inl p1, .inl p2] hi Q := by
  refine v_Kinds_takesOf ?_
  unfold f_Kinds_takesOf at h
  refine And.intro (fun c1 => ?_) (fun c1 => ?_)
  · rw [if_pos c1] at h
    exact h
  · rw [if_neg c1] at h
    refine And.intro (fun c2 => ?_) (fun c2 => ?_)
    · rw [if_pos c2] at h
      exact h
    · rw [if_neg c2] at h
      refine And.intro (fun c3 => ?_) (fun c3 => ?_)
      · rw [if_pos c3] at h
        exact h
      · rw [if_neg c3] at h
        refine And.intro (fun c4 => ?_) (fun c4 => ?_)
        · rw [if_pos c4] at h
          exact h
        · rw [if_neg c4] at h
          refine And.intro (fun c5 => ?_) (fun c5 => ?_)
          · rw [if_pos c5] at h
            exact h
          · rw [if_neg c5] at h
            exact h
theorem v_Kinds_goesOf {L d : Nat} {p1 : Int32} {hi : pm_B} {Q : pm_Q} (h : ((p1 = 1) → Q (some (.inl 2)) hi) ∧ ((¬ p1 = 1) → ((p1 = 2) → Q (some (.inl 4)) hi) ∧ ((¬ p1 = 2) → ((p1 = 3) → Q (some (.inl 4)) hi) ∧ ((¬ p1 = 3) → ((p1 = 4) → Q (some (.inl 9)) hi) ∧ ((¬ p1 = 4) → Q (some (.inl 3)) hi))))) : pm_C pm_g (SH L) HR (d + 1) m_Kinds_goesOf [.inl p1] hi Q := by
  refine pm_C_of (maxL := 1) (t := pm_t20) rfl (Nat.le_of_ble_eq_true rfl) ?_
  refine pm_W_of 6 [] rfl ?_
  intro pc1 hsw
  by_cases c1 : p1 = 1
  · rw [pm_sw_t c1] at hsw
    subst hsw
    replace h := h.1 c1
    refine And.intro trivial ?_
    exact h
  · rw [pm_sw_f c1] at hsw
    replace h := h.2 c1
    by_cases c2 : p1 = 2
    · rw [pm_sw_t c2] at hsw
      subst hsw
      replace h := h.1 c2
      refine And.intro trivial ?_
      exact h
    · rw [pm_sw_f c2] at hsw
      replace h := h.2 c2
      by_cases c3 : p1 = 3
      · rw [pm_sw_t c3] at hsw
        subst hsw
        replace h := h.1 c3
        refine And.intro trivial ?_
        exact h
      · rw [pm_sw_f c3] at hsw
        replace h := h.2 c3
        by_cases c4 : p1 = 4
        · rw [pm_sw_t c4] at hsw
          subst hsw
          replace h := h.1 c4
          refine And.intro trivial ?_
          exact h
        · rw [pm_sw_f c4] at hsw
          replace h := h.2 c4
          replace hsw : 41 = pc1 := hsw
          subst hsw
          refine And.intro trivial ?_
          exact h
def f_Kinds_goesOf (p1 : Int32) : Int32 := (if p1 = 1 then 2 else (if p1 = 2 then 4 else (if p1 = 3 then 4 else (if p1 = 4 then 9 else 3))))
theorem f_Kinds_goesOf_c {L d : Nat} {p1 : Int32} {hi : pm_B} {Q : pm_Q} (h : Q (some (.inl (f_Kinds_goesOf p1))) hi) : pm_C pm_g (SH L) HR (d + 1) m_Kinds_goesOf [.inl p1] hi Q := by
  refine v_Kinds_goesOf ?_
  unfold f_Kinds_goesOf at h
  refine And.intro (fun c1 => ?_) (fun c1 => ?_)
  · rw [if_pos c1] at h
    exact h
  · rw [if_neg c1] at h
    refine And.intro (fun c2 => ?_) (fun c2 => ?_)
    · rw [if_pos c2] at h
      exact h
    · rw [if_neg c2] at h
      refine And.intro (fun c3 => ?_) (fun c3 => ?_)
      · rw [if_pos c3] at h
        exact h
      · rw [if_neg c3] at h
        refine And.intro (fun c4 => ?_) (fun c4 => ?_)
        · rw [if_pos c4] at h
          exact h
        · rw [if_neg c4] at h
          exact h
theorem v_Kinds_worthOf {L d : Nat} {p1 : Int32} {p2 : Int32} {hi : pm_B} {Q : pm_Q} (h : ((p1 = 1) → Q (some (.inl (p2 + 6))) hi) ∧ ((¬ p1 = 1) → ((p1 = 2) → Q (some (.inl (99 - p2))) hi) ∧ ((¬ p1 = 2) → ((p1 = 3) → Q (some (.inl (2 * (p2 + 6)))) hi) ∧ ((¬ p1 = 3) → ((p1 = 4) → Q (some (.inl (91 - p2))) hi) ∧ ((¬ p1 = 4) → ((p1 = 5) → Q (some (.inl 1)) hi) ∧ ((¬ p1 = 5) → Q (some (.inl p2)) hi)))))) : pm_C pm_g (SH L) HR (d + 1) m_Kinds_worthOf [.inl p1, .inl p2] hi Q := by
  refine pm_C_of (maxL := 2) (t := pm_t21) rfl (Nat.le_of_ble_eq_true rfl) ?_
  refine pm_W_of 10 [] rfl ?_
  intro pc1 hsw
  by_cases c1 : p1 = 1
  · rw [pm_sw_t c1] at hsw
    subst hsw
    replace h := h.1 c1
    refine And.intro trivial ?_
    exact h
  · rw [pm_sw_f c1] at hsw
    replace h := h.2 c1
    by_cases c2 : p1 = 2
    · rw [pm_sw_t c2] at hsw
      subst hsw
      replace h := h.1 c2
      refine And.intro trivial ?_
      exact h
    · rw [pm_sw_f c2] at hsw
      replace h := h.2 c2
      by_cases c3 : p1 = 3
      · rw [pm_sw_t c3] at hsw
        subst hsw
        replace h := h.1 c3
        refine And.intro trivial ?_
        exact h
      · rw [pm_sw_f c3] at hsw
        replace h := h.2 c3
        by_cases c4 : p1 = 4
        · rw [pm_sw_t c4] at hsw
          subst hsw
          replace h := h.1 c4
          refine And.intro trivial ?_
          exact h
        · rw [pm_sw_f c4] at hsw
          replace h := h.2 c4
          by_cases c5 : p1 = 5
          · rw [pm_sw_t c5] at hsw
            subst hsw
            replace h := h.1 c5
            refine And.intro trivial ?_
            exact h
          · rw [pm_sw_f c5] at hsw
            replace h := h.2 c5
            replace hsw : 60 = pc1 := hsw
            subst hsw
            refine And.intro trivial ?_
            exact h
def f_Kinds_worthOf (p1 : Int32) (p2 : Int32) : Int32 := (if p1 = 1 then (p2 + 6) else (if p1 = 2 then (99 - p2) else (if p1 = 3 then (2 * (p2 + 6)) else (if p1 = 4 then (91 - p2) else (if p1 = 5 then 1 else p2)))))
theorem f_Kinds_worthOf_c {L d : Nat} {p1 : Int32} {p2 : Int32} {hi : pm_B} {Q : pm_Q} (h : Q (some (.inl (f_Kinds_worthOf p1 p2))) hi) : pm_C pm_g (SH L) HR (d + 1) m_Kinds_worthOf [.inl p1, .inl p2] hi Q := by
  refine v_Kinds_worthOf ?_
  unfold f_Kinds_worthOf at h
  refine And.intro (fun c1 => ?_) (fun c1 => ?_)
  · rw [if_pos c1] at h
    exact h
  · rw [if_neg c1] at h
    refine And.intro (fun c2 => ?_) (fun c2 => ?_)
    · rw [if_pos c2] at h
      exact h
    · rw [if_neg c2] at h
      refine And.intro (fun c3 => ?_) (fun c3 => ?_)
      · rw [if_pos c3] at h
        exact h
      · rw [if_neg c3] at h
        refine And.intro (fun c4 => ?_) (fun c4 => ?_)
        · rw [if_pos c4] at h
          exact h
        · rw [if_neg c4] at h
          refine And.intro (fun c5 => ?_) (fun c5 => ?_)
          · rw [if_pos c5] at h
            exact h
          · rw [if_neg c5] at h
            exact h
theorem v_E_held {L d : Nat} {p1 : Int32} {p2 : Int32} {p3 : Int32} {hi : pm_B} {Q : pm_Q} (h : Q (some (.inl (if p2 < (if p1 < p3 then p1 else p3) then (if p1 < p3 then p1 else p3) else p2))) hi) : pm_C pm_g (SH L) HR (d + 1) m_E_held [.inl p1, .inl p2, .inl p3] hi Q := by
  refine pm_C_of (maxL := 3) (t := pm_t128) rfl (Nat.le_of_ble_eq_true rfl) ?_
  refine pm_W_of 8 [] rfl ?_
  refine And.intro trivial ?_
  exact h
def f_E_held (p1 : Int32) (p2 : Int32) (p3 : Int32) : Int32 := (if p2 < (if p1 < p3 then p1 else p3) then (if p1 < p3 then p1 else p3) else p2)
theorem f_E_held_c {L d : Nat} {p1 : Int32} {p2 : Int32} {p3 : Int32} {hi : pm_B} {Q : pm_Q} (h : Q (some (.inl (f_E_held p1 p2 p3))) hi) : pm_C pm_g (SH L) HR (d + 1) m_E_held [.inl p1, .inl p2, .inl p3] hi Q := by
  refine v_E_held ?_
  unfold f_E_held at h
  exact h
theorem v_M_within {L d : Nat} {p1 : Int32} {p2 : Int32} {p3 : Int32} {hi : pm_B} {Q : pm_Q} (h : ((p2 ≤ p1) → ((p1 ≤ p3) → Q (some (.inl p1)) hi) ∧ ((¬ (p1 ≤ p3)) → Q (some (.inl p3)) hi)) ∧ ((¬ (p2 ≤ p1)) → Q (some (.inl p2)) hi)) : pm_C pm_g (SH L) HR (d + 1) m_M_within [.inl p1, .inl p2, .inl p3] hi Q := by
  refine pm_C_of (maxL := 3) (t := pm_t137) rfl (Nat.le_of_ble_eq_true rfl) ?_
  refine pm_W_of 11 [] rfl ?_
  refine And.intro (fun c1 => ?_) (fun c1 => ?_)
  · replace h := h.1 c1
    refine And.intro (fun c2 => ?_) (fun c2 => ?_)
    · replace h := h.1 c2
      refine And.intro trivial ?_
      exact h
    · replace h := h.2 c2
      refine And.intro trivial ?_
      exact h
  · replace h := h.2 c1
    refine And.intro trivial ?_
    exact h
def f_M_within (p1 : Int32) (p2 : Int32) (p3 : Int32) : Int32 := (if p2 ≤ p1 then (if p1 ≤ p3 then p1 else p3) else p2)
theorem f_M_within_c {L d : Nat} {p1 : Int32} {p2 : Int32} {p3 : Int32} {hi : pm_B} {Q : pm_Q} (h : Q (some (.inl (f_M_within p1 p2 p3))) hi) : pm_C pm_g (SH L) HR (d + 1) m_M_within [.inl p1, .inl p2, .inl p3] hi Q := by
  refine v_M_within ?_
  unfold f_M_within at h
  refine And.intro (fun c1 => ?_) (fun c1 => ?_)
  · rw [if_pos c1] at h
    refine And.intro (fun c2 => ?_) (fun c2 => ?_)
    · rw [if_pos c2] at h
      exact h
    · rw [if_neg c2] at h
      exact h
  · rw [if_neg c1] at h
    exact h
theorem v_M_isUnder {L d : Nat} {p1 : Int32} {p2 : Int32} {hi : pm_B} {Q : pm_Q} (h : ((p2 = 0) → Q (some (.inl 1)) hi) ∧ ((¬ (p2 = 0)) → ((p1 = p2) → Q (some (.inl 1)) hi) ∧ ((¬ (p1 = p2)) → ((¬ p2 = 1) → ((¬ p2 = 2) → Q (some (.inl 0)) hi) ∧ ((¬ (¬ p2 = 2)) → ((¬ p1 = 4) → Q (some (.inl 0)) hi) ∧ ((¬ (¬ p1 = 4)) → Q (some (.inl 1)) hi))) ∧ ((¬ (¬ p2 = 1)) → ((p1 = 3) → Q (some (.inl 1)) hi) ∧ ((¬ (p1 = 3)) → ((¬ p2 = 2) → Q (some (.inl 0)) hi) ∧ ((¬ (¬ p2 = 2)) → ((¬ p1 = 4) → Q (some (.inl 0)) hi) ∧ ((¬ (¬ p1 = 4)) → Q (some (.inl 1)) hi))))))) : pm_C pm_g (SH L) HR (d + 1) m_M_isUnder [.inl p1, .inl p2] hi Q := by
  refine pm_C_of (maxL := 2) (t := pm_t154) rfl (Nat.le_of_ble_eq_true rfl) ?_
  refine pm_W_of 22 [] rfl ?_
  refine And.intro (fun c1 => ?_) (fun c1 => ?_)
  · replace h := h.1 c1
    refine And.intro (Or.inr rfl) ?_
    exact h
  · replace h := h.2 c1
    refine And.intro (fun c2 => ?_) (fun c2 => ?_)
    · replace h := h.1 c2
      refine And.intro (Or.inr rfl) ?_
      exact h
    · replace h := h.2 c2
      refine And.intro (fun c3 => ?_) (fun c3 => ?_)
      · replace h := h.1 c3
        refine And.intro (fun c4 => ?_) (fun c4 => ?_)
        · replace h := h.1 c4
          refine And.intro (Or.inl rfl) ?_
          exact h
        · replace h := h.2 c4
          refine And.intro (fun c5 => ?_) (fun c5 => ?_)
          · replace h := h.1 c5
            refine And.intro (Or.inl rfl) ?_
            exact h
          · replace h := h.2 c5
            refine And.intro (Or.inr rfl) ?_
            exact h
      · replace h := h.2 c3
        refine And.intro (fun c6 => ?_) (fun c6 => ?_)
        · replace h := h.1 c6
          refine And.intro (Or.inr rfl) ?_
          exact h
        · replace h := h.2 c6
          refine And.intro (fun c7 => ?_) (fun c7 => ?_)
          · replace h := h.1 c7
            refine And.intro (Or.inl rfl) ?_
            exact h
          · replace h := h.2 c7
            refine And.intro (fun c8 => ?_) (fun c8 => ?_)
            · replace h := h.1 c8
              refine And.intro (Or.inl rfl) ?_
              exact h
            · replace h := h.2 c8
              refine And.intro (Or.inr rfl) ?_
              exact h
def f_M_isUnder (p1 : Int32) (p2 : Int32) : Int32 := (if p2 = 0 then 1 else (if p1 = p2 then 1 else (if ¬ p2 = 1 then (if ¬ p2 = 2 then 0 else (if ¬ p1 = 4 then 0 else 1)) else (if p1 = 3 then 1 else (if ¬ p2 = 2 then 0 else (if ¬ p1 = 4 then 0 else 1))))))
theorem f_M_isUnder_c {L d : Nat} {p1 : Int32} {p2 : Int32} {hi : pm_B} {Q : pm_Q} (h : Q (some (.inl (f_M_isUnder p1 p2))) hi) : pm_C pm_g (SH L) HR (d + 1) m_M_isUnder [.inl p1, .inl p2] hi Q := by
  refine v_M_isUnder ?_
  unfold f_M_isUnder at h
  refine And.intro (fun c1 => ?_) (fun c1 => ?_)
  · rw [if_pos c1] at h
    exact h
  · rw [if_neg c1] at h
    refine And.intro (fun c2 => ?_) (fun c2 => ?_)
    · rw [if_pos c2] at h
      exact h
    · rw [if_neg c2] at h
      refine And.intro (fun c3 => ?_) (fun c3 => ?_)
      · rw [if_pos c3] at h
        refine And.intro (fun c4 => ?_) (fun c4 => ?_)
        · rw [if_pos c4] at h
          exact h
        · rw [if_neg c4] at h
          refine And.intro (fun c5 => ?_) (fun c5 => ?_)
          · rw [if_pos c5] at h
            exact h
          · rw [if_neg c5] at h
            exact h
      · rw [if_neg c3] at h
        refine And.intro (fun c6 => ?_) (fun c6 => ?_)
        · rw [if_pos c6] at h
          exact h
        · rw [if_neg c6] at h
          refine And.intro (fun c7 => ?_) (fun c7 => ?_)
          · rw [if_pos c7] at h
            exact h
          · rw [if_neg c7] at h
            refine And.intro (fun c8 => ?_) (fun c8 => ?_)
            · rw [if_pos c8] at h
              exact h
            · rw [if_neg c8] at h
              exact h
theorem v_M_rank {L d : Nat} {p1 : Int32} {hi : pm_B} {Q : pm_Q} (h : ((¬ p1 = (-1)) → ((¬ p1 = (-2)) → ((p1 < (-5)) → ((p1 < (-7)) → ((p1 < (-9)) → Q (some (.inl 6)) hi) ∧ ((¬ (p1 < (-9))) → Q (some (.inl 5)) hi)) ∧ ((¬ (p1 < (-7))) → Q (some (.inl 4)) hi)) ∧ ((¬ (p1 < (-5))) → Q (some (.inl 3)) hi)) ∧ ((¬ (¬ p1 = (-2))) → Q (some (.inl 2)) hi)) ∧ ((¬ (¬ p1 = (-1))) → Q (some (.inl 1)) hi)) : pm_C pm_g (SH L) HR (d + 1) m_M_rank [.inl p1] hi Q := by
  refine pm_C_of (maxL := 1) (t := pm_t203) rfl (Nat.le_of_ble_eq_true rfl) ?_
  refine pm_W_of 20 [] rfl ?_
  refine And.intro (fun c1 => ?_) (fun c1 => ?_)
  · replace h := h.1 c1
    refine And.intro (fun c2 => ?_) (fun c2 => ?_)
    · replace h := h.1 c2
      refine And.intro (fun c3 => ?_) (fun c3 => ?_)
      · replace h := h.1 c3
        refine And.intro (fun c4 => ?_) (fun c4 => ?_)
        · replace h := h.1 c4
          refine And.intro (fun c5 => ?_) (fun c5 => ?_)
          · replace h := h.1 c5
            refine And.intro trivial ?_
            exact h
          · replace h := h.2 c5
            refine And.intro trivial ?_
            exact h
        · replace h := h.2 c4
          refine And.intro trivial ?_
          exact h
      · replace h := h.2 c3
        refine And.intro trivial ?_
        exact h
    · replace h := h.2 c2
      refine And.intro trivial ?_
      exact h
  · replace h := h.2 c1
    refine And.intro trivial ?_
    exact h
def f_M_rank (p1 : Int32) : Int32 := (if ¬ p1 = (-1) then (if ¬ p1 = (-2) then (if p1 < (-5) then (if p1 < (-7) then (if p1 < (-9) then 6 else 5) else 4) else 3) else 2) else 1)
theorem f_M_rank_c {L d : Nat} {p1 : Int32} {hi : pm_B} {Q : pm_Q} (h : Q (some (.inl (f_M_rank p1))) hi) : pm_C pm_g (SH L) HR (d + 1) m_M_rank [.inl p1] hi Q := by
  refine v_M_rank ?_
  unfold f_M_rank at h
  refine And.intro (fun c1 => ?_) (fun c1 => ?_)
  · rw [if_pos c1] at h
    refine And.intro (fun c2 => ?_) (fun c2 => ?_)
    · rw [if_pos c2] at h
      refine And.intro (fun c3 => ?_) (fun c3 => ?_)
      · rw [if_pos c3] at h
        refine And.intro (fun c4 => ?_) (fun c4 => ?_)
        · rw [if_pos c4] at h
          refine And.intro (fun c5 => ?_) (fun c5 => ?_)
          · rw [if_pos c5] at h
            exact h
          · rw [if_neg c5] at h
            exact h
        · rw [if_neg c4] at h
          exact h
      · rw [if_neg c3] at h
        exact h
    · rw [if_neg c2] at h
      exact h
  · rw [if_neg c1] at h
    exact h
theorem v_Laws_leafOf {L d : Nat} {p1 : Int32} {p2 : Int32} {p3 : Int32} {p4 : Int32} {hi : pm_B} {Q : pm_Q} (h : ((p1 = (-3)) → Q (some (.inl p4)) hi) ∧ ((¬ p1 = (-3)) → ((p1 = (-2)) → Q (some (.inl p3)) hi) ∧ ((¬ p1 = (-2)) → ((p1 = (-1)) → Q (some (.inl p2)) hi) ∧ ((¬ p1 = (-1)) → Q (some (.inl p1)) hi)))) : pm_C pm_g (SH L) HR (d + 1) m_Laws_leafOf [.inl p1, .inl p2, .inl p3, .inl p4] hi Q := by
  refine pm_C_of (maxL := 4) (t := pm_t24) rfl (Nat.le_of_ble_eq_true rfl) ?_
  refine pm_W_of 6 [] rfl ?_
  intro pc1 hsw
  by_cases c1 : p1 = (-3)
  · rw [pm_sw_t c1] at hsw
    subst hsw
    replace h := h.1 c1
    refine And.intro trivial ?_
    exact h
  · rw [pm_sw_f c1] at hsw
    replace h := h.2 c1
    by_cases c2 : p1 = (-2)
    · rw [pm_sw_t c2] at hsw
      subst hsw
      replace h := h.1 c2
      refine And.intro trivial ?_
      exact h
    · rw [pm_sw_f c2] at hsw
      replace h := h.2 c2
      by_cases c3 : p1 = (-1)
      · rw [pm_sw_t c3] at hsw
        subst hsw
        replace h := h.1 c3
        refine And.intro trivial ?_
        exact h
      · rw [pm_sw_f c3] at hsw
        replace h := h.2 c3
        replace hsw : 34 = pc1 := hsw
        subst hsw
        refine And.intro trivial ?_
        exact h
def f_Laws_leafOf (p1 : Int32) (p2 : Int32) (p3 : Int32) (p4 : Int32) : Int32 := (if p1 = (-3) then p4 else (if p1 = (-2) then p3 else (if p1 = (-1) then p2 else p1)))
theorem f_Laws_leafOf_c {L d : Nat} {p1 : Int32} {p2 : Int32} {p3 : Int32} {p4 : Int32} {hi : pm_B} {Q : pm_Q} (h : Q (some (.inl (f_Laws_leafOf p1 p2 p3 p4))) hi) : pm_C pm_g (SH L) HR (d + 1) m_Laws_leafOf [.inl p1, .inl p2, .inl p3, .inl p4] hi Q := by
  refine v_Laws_leafOf ?_
  unfold f_Laws_leafOf at h
  refine And.intro (fun c1 => ?_) (fun c1 => ?_)
  · rw [if_pos c1] at h
    exact h
  · rw [if_neg c1] at h
    refine And.intro (fun c2 => ?_) (fun c2 => ?_)
    · rw [if_pos c2] at h
      exact h
    · rw [if_neg c2] at h
      refine And.intro (fun c3 => ?_) (fun c3 => ?_)
      · rw [if_pos c3] at h
        exact h
      · rw [if_neg c3] at h
        exact h
theorem v_Laws_truth {L d : Nat} {p1 : Int32} {hi : pm_B} {Q : pm_Q} (h : ((p1 = 0) → Q (some (.inl 0)) hi) ∧ ((¬ (p1 = 0)) → Q (some (.inl 1)) hi)) : pm_C pm_g (SH L) HR (d + 1) m_Laws_truth [.inl p1] hi Q := by
  refine pm_C_of (maxL := 1) (t := pm_t26) rfl (Nat.le_of_ble_eq_true rfl) ?_
  refine pm_W_of 7 [] rfl ?_
  refine And.intro (fun c1 => ?_) (fun c1 => ?_)
  · replace h := h.1 c1
    refine And.intro trivial ?_
    exact h
  · replace h := h.2 c1
    refine And.intro trivial ?_
    exact h
def f_Laws_truth (p1 : Int32) : Int32 := (if p1 = 0 then 0 else 1)
theorem f_Laws_truth_c {L d : Nat} {p1 : Int32} {hi : pm_B} {Q : pm_Q} (h : Q (some (.inl (f_Laws_truth p1))) hi) : pm_C pm_g (SH L) HR (d + 1) m_Laws_truth [.inl p1] hi Q := by
  refine v_Laws_truth ?_
  unfold f_Laws_truth at h
  refine And.intro (fun c1 => ?_) (fun c1 => ?_)
  · rw [if_pos c1] at h
    exact h
  · rw [if_neg c1] at h
    exact h
theorem v_Parser_sortOf {L d : Nat} {p1 : Int32} {hi : pm_B} {Q : pm_Q} (h : ((0 ≤ p1) → ((p1 < 97) → ((p1 < 48) → Q (some (.inl 3)) hi) ∧ ((¬ (p1 < 48)) → ((57 < p1) → Q (some (.inl 3)) hi) ∧ ((¬ (57 < p1)) → Q (some (.inl 2)) hi))) ∧ ((¬ (p1 < 97)) → ((122 < p1) → ((p1 < 48) → Q (some (.inl 3)) hi) ∧ ((¬ (p1 < 48)) → ((57 < p1) → Q (some (.inl 3)) hi) ∧ ((¬ (57 < p1)) → Q (some (.inl 2)) hi))) ∧ ((¬ (122 < p1)) → Q (some (.inl 1)) hi))) ∧ ((¬ (0 ≤ p1)) → Q (some (.inl 0)) hi)) : pm_C pm_g (SH L) HR (d + 1) m_Parser_sortOf [.inl p1] hi Q := by
  refine pm_C_of (maxL := 1) (t := pm_t31) rfl (Nat.le_of_ble_eq_true rfl) ?_
  refine pm_W_of 19 [] rfl ?_
  refine And.intro (fun c1 => ?_) (fun c1 => ?_)
  · replace h := h.1 c1
    refine And.intro (fun c2 => ?_) (fun c2 => ?_)
    · replace h := h.1 c2
      refine And.intro (fun c3 => ?_) (fun c3 => ?_)
      · replace h := h.1 c3
        refine And.intro trivial ?_
        exact h
      · replace h := h.2 c3
        refine And.intro (fun c4 => ?_) (fun c4 => ?_)
        · replace h := h.1 c4
          refine And.intro trivial ?_
          exact h
        · replace h := h.2 c4
          refine And.intro trivial ?_
          exact h
    · replace h := h.2 c2
      refine And.intro (fun c5 => ?_) (fun c5 => ?_)
      · replace h := h.1 c5
        refine And.intro (fun c6 => ?_) (fun c6 => ?_)
        · replace h := h.1 c6
          refine And.intro trivial ?_
          exact h
        · replace h := h.2 c6
          refine And.intro (fun c7 => ?_) (fun c7 => ?_)
          · replace h := h.1 c7
            refine And.intro trivial ?_
            exact h
          · replace h := h.2 c7
            refine And.intro trivial ?_
            exact h
      · replace h := h.2 c5
        refine And.intro trivial ?_
        exact h
  · replace h := h.2 c1
    refine And.intro trivial ?_
    exact h
def f_Parser_sortOf (p1 : Int32) : Int32 := (if 0 ≤ p1 then (if p1 < 97 then (if p1 < 48 then 3 else (if 57 < p1 then 3 else 2)) else (if 122 < p1 then (if p1 < 48 then 3 else (if 57 < p1 then 3 else 2)) else 1)) else 0)
theorem f_Parser_sortOf_c {L d : Nat} {p1 : Int32} {hi : pm_B} {Q : pm_Q} (h : Q (some (.inl (f_Parser_sortOf p1))) hi) : pm_C pm_g (SH L) HR (d + 1) m_Parser_sortOf [.inl p1] hi Q := by
  refine v_Parser_sortOf ?_
  unfold f_Parser_sortOf at h
  refine And.intro (fun c1 => ?_) (fun c1 => ?_)
  · rw [if_pos c1] at h
    refine And.intro (fun c2 => ?_) (fun c2 => ?_)
    · rw [if_pos c2] at h
      refine And.intro (fun c3 => ?_) (fun c3 => ?_)
      · rw [if_pos c3] at h
        exact h
      · rw [if_neg c3] at h
        refine And.intro (fun c4 => ?_) (fun c4 => ?_)
        · rw [if_pos c4] at h
          exact h
        · rw [if_neg c4] at h
          exact h
    · rw [if_neg c2] at h
      refine And.intro (fun c5 => ?_) (fun c5 => ?_)
      · rw [if_pos c5] at h
        refine And.intro (fun c6 => ?_) (fun c6 => ?_)
        · rw [if_pos c6] at h
          exact h
        · rw [if_neg c6] at h
          refine And.intro (fun c7 => ?_) (fun c7 => ?_)
          · rw [if_pos c7] at h
            exact h
          · rw [if_neg c7] at h
            exact h
      · rw [if_neg c5] at h
        exact h
  · rw [if_neg c1] at h
    exact h
theorem v_M_nameOf {L d : Nat} {p1 : Int32} {hi : pm_B} {Q : pm_Q} (h : (((hi 141 17) = 0) → ((¬ p1 = 101) → ((¬ p1 = 102) → ((¬ p1 = 119) → Q (some (.inl (-1))) hi) ∧ ((¬ (¬ p1 = 119)) → Q (some (.inl 2)) hi)) ∧ ((¬ (¬ p1 = 102)) → Q (some (.inl 1)) hi)) ∧ ((¬ (¬ p1 = 101)) → Q (some (.inl 0)) hi)) ∧ ((¬ (hi 141 17) = 0) → (((hi 141 17) = 1) → ((¬ p1 = 115) → ((¬ p1 = 108) → Q (some (.inl (-1))) hi) ∧ ((¬ (¬ p1 = 108)) → Q (some (.inl 1)) hi)) ∧ ((¬ (¬ p1 = 115)) → Q (some (.inl 0)) hi)) ∧ ((¬ (hi 141 17) = 1) → ((¬ p1 = 115) → ((¬ p1 = 102) → Q (some (.inl (-1))) hi) ∧ ((¬ (¬ p1 = 102)) → Q (some (.inl 1)) hi)) ∧ ((¬ (¬ p1 = 115)) → Q (some (.inl 0)) hi)))) : pm_C pm_g (SH L) HR (d + 1) m_M_nameOf [.inr 141, .inl p1] hi Q := by
  refine pm_C_of (maxL := 2) (t := pm_t202) rfl (Nat.le_of_ble_eq_true rfl) ?_
  refine pm_W_of 17 [] rfl ?_
  refine And.intro sh_l141 ?_
  intro pc1 hsw
  by_cases c1 : (hi 141 17) = 0
  · rw [pm_sw_t c1] at hsw
    subst hsw
    replace h := h.1 c1
    refine And.intro (fun c2 => ?_) (fun c2 => ?_)
    · replace h := h.1 c2
      refine And.intro (fun c3 => ?_) (fun c3 => ?_)
      · replace h := h.1 c3
        refine And.intro (fun c4 => ?_) (fun c4 => ?_)
        · replace h := h.1 c4
          refine And.intro trivial ?_
          exact h
        · replace h := h.2 c4
          refine And.intro trivial ?_
          exact h
      · replace h := h.2 c3
        refine And.intro trivial ?_
        exact h
    · replace h := h.2 c2
      refine And.intro trivial ?_
      exact h
  · rw [pm_sw_f c1] at hsw
    replace h := h.2 c1
    by_cases c5 : (hi 141 17) = 1
    · rw [pm_sw_t c5] at hsw
      subst hsw
      replace h := h.1 c5
      refine And.intro (fun c6 => ?_) (fun c6 => ?_)
      · replace h := h.1 c6
        refine And.intro (fun c7 => ?_) (fun c7 => ?_)
        · replace h := h.1 c7
          refine And.intro trivial ?_
          exact h
        · replace h := h.2 c7
          refine And.intro trivial ?_
          exact h
      · replace h := h.2 c6
        refine And.intro trivial ?_
        exact h
    · rw [pm_sw_f c5] at hsw
      replace h := h.2 c5
      replace hsw : 86 = pc1 := hsw
      subst hsw
      refine And.intro (fun c8 => ?_) (fun c8 => ?_)
      · replace h := h.1 c8
        refine And.intro (fun c9 => ?_) (fun c9 => ?_)
        · replace h := h.1 c9
          refine And.intro trivial ?_
          exact h
        · replace h := h.2 c9
          refine And.intro trivial ?_
          exact h
      · replace h := h.2 c8
        refine And.intro trivial ?_
        exact h
def f_M_nameOf (hi : pm_B) (p1 : Int32) : Int32 := (if (hi 141 17) = 0 then (if ¬ p1 = 101 then (if ¬ p1 = 102 then (if ¬ p1 = 119 then (-1) else 2) else 1) else 0) else (if (hi 141 17) = 1 then (if ¬ p1 = 115 then (if ¬ p1 = 108 then (-1) else 1) else 0) else (if ¬ p1 = 115 then (if ¬ p1 = 102 then (-1) else 1) else 0)))
theorem f_M_nameOf_c {L d : Nat} {p1 : Int32} {hi : pm_B} {Q : pm_Q} (h : Q (some (.inl (f_M_nameOf hi p1))) hi) : pm_C pm_g (SH L) HR (d + 1) m_M_nameOf [.inr 141, .inl p1] hi Q := by
  refine v_M_nameOf ?_
  unfold f_M_nameOf at h
  refine And.intro (fun c1 => ?_) (fun c1 => ?_)
  · rw [if_pos c1] at h
    refine And.intro (fun c2 => ?_) (fun c2 => ?_)
    · rw [if_pos c2] at h
      refine And.intro (fun c3 => ?_) (fun c3 => ?_)
      · rw [if_pos c3] at h
        refine And.intro (fun c4 => ?_) (fun c4 => ?_)
        · rw [if_pos c4] at h
          exact h
        · rw [if_neg c4] at h
          exact h
      · rw [if_neg c3] at h
        exact h
    · rw [if_neg c2] at h
      exact h
  · rw [if_neg c1] at h
    refine And.intro (fun c5 => ?_) (fun c5 => ?_)
    · rw [if_pos c5] at h
      refine And.intro (fun c6 => ?_) (fun c6 => ?_)
      · rw [if_pos c6] at h
        refine And.intro (fun c7 => ?_) (fun c7 => ?_)
        · rw [if_pos c7] at h
          exact h
        · rw [if_neg c7] at h
          exact h
      · rw [if_neg c6] at h
        exact h
    · rw [if_neg c5] at h
      refine And.intro (fun c8 => ?_) (fun c8 => ?_)
      · rw [if_pos c8] at h
        refine And.intro (fun c9 => ?_) (fun c9 => ?_)
        · rw [if_pos c9] at h
          exact h
        · rw [if_neg c9] at h
          exact h
      · rw [if_neg c8] at h
        exact h
theorem v_M_signHere {L d : Nat}  {hi : pm_B} {Q : pm_Q} (h : (((hi 141 14) = 3) → (((hi 141 15) = 38) → Q (some (.inl (-2))) hi) ∧ ((¬ (hi 141 15) = 38) → (((hi 141 15) = 42) → Q (some (.inl (-8))) hi) ∧ ((¬ (hi 141 15) = 42) → (((hi 141 15) = 43) → Q (some (.inl (-6))) hi) ∧ ((¬ (hi 141 15) = 43) → (((hi 141 15) = 45) → Q (some (.inl (-7))) hi) ∧ ((¬ (hi 141 15) = 45) → (((hi 141 15) = 47) → Q (some (.inl (-9))) hi) ∧ ((¬ (hi 141 15) = 47) → (((hi 141 15) = 60) → Q (some (.inl (-3))) hi) ∧ ((¬ (hi 141 15) = 60) → (((hi 141 15) = 61) → Q (some (.inl (-4))) hi) ∧ ((¬ (hi 141 15) = 61) → (((hi 141 15) = 62) → Q (some (.inl (-5))) hi) ∧ ((¬ (hi 141 15) = 62) → (((hi 141 15) = 124) → Q (some (.inl (-1))) hi) ∧ ((¬ (hi 141 15) = 124) → Q (some (.inl 0)) hi)))))))))) ∧ ((¬ ((hi 141 14) = 3)) → Q (some (.inl 0)) hi)) : pm_C pm_g (SH L) HR (d + 1) m_M_signHere [.inr 141] hi Q := by
  refine pm_C_of (maxL := 1) (t := pm_t205) rfl (Nat.le_of_ble_eq_true rfl) ?_
  refine pm_W_of 11 [] rfl ?_
  refine And.intro sh_l141 ?_
  refine And.intro (fun c1 => ?_) (fun c1 => ?_)
  · replace h := h.1 c1
    refine And.intro sh_l141 ?_
    intro pc1 hsw
    by_cases c2 : (hi 141 15) = 38
    · rw [pm_sw_t c2] at hsw
      subst hsw
      replace h := h.1 c2
      refine And.intro trivial ?_
      exact h
    · rw [pm_sw_f c2] at hsw
      replace h := h.2 c2
      by_cases c3 : (hi 141 15) = 42
      · rw [pm_sw_t c3] at hsw
        subst hsw
        replace h := h.1 c3
        refine And.intro trivial ?_
        exact h
      · rw [pm_sw_f c3] at hsw
        replace h := h.2 c3
        by_cases c4 : (hi 141 15) = 43
        · rw [pm_sw_t c4] at hsw
          subst hsw
          replace h := h.1 c4
          refine And.intro trivial ?_
          exact h
        · rw [pm_sw_f c4] at hsw
          replace h := h.2 c4
          by_cases c5 : (hi 141 15) = 45
          · rw [pm_sw_t c5] at hsw
            subst hsw
            replace h := h.1 c5
            refine And.intro trivial ?_
            exact h
          · rw [pm_sw_f c5] at hsw
            replace h := h.2 c5
            by_cases c6 : (hi 141 15) = 47
            · rw [pm_sw_t c6] at hsw
              subst hsw
              replace h := h.1 c6
              refine And.intro trivial ?_
              exact h
            · rw [pm_sw_f c6] at hsw
              replace h := h.2 c6
              by_cases c7 : (hi 141 15) = 60
              · rw [pm_sw_t c7] at hsw
                subst hsw
                replace h := h.1 c7
                refine And.intro trivial ?_
                exact h
              · rw [pm_sw_f c7] at hsw
                replace h := h.2 c7
                by_cases c8 : (hi 141 15) = 61
                · rw [pm_sw_t c8] at hsw
                  subst hsw
                  replace h := h.1 c8
                  refine And.intro trivial ?_
                  exact h
                · rw [pm_sw_f c8] at hsw
                  replace h := h.2 c8
                  by_cases c9 : (hi 141 15) = 62
                  · rw [pm_sw_t c9] at hsw
                    subst hsw
                    replace h := h.1 c9
                    refine And.intro trivial ?_
                    exact h
                  · rw [pm_sw_f c9] at hsw
                    replace h := h.2 c9
                    by_cases c10 : (hi 141 15) = 124
                    · rw [pm_sw_t c10] at hsw
                      subst hsw
                      replace h := h.1 c10
                      refine And.intro trivial ?_
                      exact h
                    · rw [pm_sw_f c10] at hsw
                      replace h := h.2 c10
                      replace hsw : 122 = pc1 := hsw
                      subst hsw
                      refine And.intro trivial ?_
                      exact h
  · replace h := h.2 c1
    refine And.intro trivial ?_
    exact h
def f_M_signHere (hi : pm_B)  : Int32 := (if (hi 141 14) = 3 then (if (hi 141 15) = 38 then (-2) else (if (hi 141 15) = 42 then (-8) else (if (hi 141 15) = 43 then (-6) else (if (hi 141 15) = 45 then (-7) else (if (hi 141 15) = 47 then (-9) else (if (hi 141 15) = 60 then (-3) else (if (hi 141 15) = 61 then (-4) else (if (hi 141 15) = 62 then (-5) else (if (hi 141 15) = 124 then (-1) else 0))))))))) else 0)
theorem f_M_signHere_c {L d : Nat}  {hi : pm_B} {Q : pm_Q} (h : Q (some (.inl (f_M_signHere hi ))) hi) : pm_C pm_g (SH L) HR (d + 1) m_M_signHere [.inr 141] hi Q := by
  refine v_M_signHere ?_
  unfold f_M_signHere at h
  refine And.intro (fun c1 => ?_) (fun c1 => ?_)
  · rw [if_pos c1] at h
    refine And.intro (fun c2 => ?_) (fun c2 => ?_)
    · rw [if_pos c2] at h
      exact h
    · rw [if_neg c2] at h
      refine And.intro (fun c3 => ?_) (fun c3 => ?_)
      · rw [if_pos c3] at h
        exact h
      · rw [if_neg c3] at h
        refine And.intro (fun c4 => ?_) (fun c4 => ?_)
        · rw [if_pos c4] at h
          exact h
        · rw [if_neg c4] at h
          refine And.intro (fun c5 => ?_) (fun c5 => ?_)
          · rw [if_pos c5] at h
            exact h
          · rw [if_neg c5] at h
            refine And.intro (fun c6 => ?_) (fun c6 => ?_)
            · rw [if_pos c6] at h
              exact h
            · rw [if_neg c6] at h
              refine And.intro (fun c7 => ?_) (fun c7 => ?_)
              · rw [if_pos c7] at h
                exact h
              · rw [if_neg c7] at h
                refine And.intro (fun c8 => ?_) (fun c8 => ?_)
                · rw [if_pos c8] at h
                  exact h
                · rw [if_neg c8] at h
                  refine And.intro (fun c9 => ?_) (fun c9 => ?_)
                  · rw [if_pos c9] at h
                    exact h
                  · rw [if_neg c9] at h
                    refine And.intro (fun c10 => ?_) (fun c10 => ?_)
                    · rw [if_pos c10] at h
                      exact h
                    · rw [if_neg c10] at h
                      exact h
  · rw [if_neg c1] at h
    exact h
theorem v_Laws_joined {L d : Nat} {p1 : Int32} {p2 : Int32} {p3 : Int32} {hi : pm_B} {Q : pm_Q} (h : ((p1 = 38) → ((p2 = 0) → Q (some (.inl 0)) hi) ∧ ((¬ (p2 = 0)) → ((p3 = 0) → Q (some (.inl 0)) hi) ∧ ((¬ (p3 = 0)) → Q (some (.inl 1)) hi))) ∧ ((¬ p1 = 38) → ((p1 = 42) → Q (some (.inl (p2 * p3))) hi) ∧ ((¬ p1 = 42) → ((p1 = 43) → Q (some (.inl (p2 + p3))) hi) ∧ ((¬ p1 = 43) → ((p1 = 45) → Q (some (.inl (p2 - p3))) hi) ∧ ((¬ p1 = 45) → ((p1 = 47) → ((¬ p3 = 0) → (¬ p3 = 0) ∧ (Q (some (.inl (p2 / p3))) hi)) ∧ ((¬ (¬ p3 = 0)) → Q (some (.inl 0)) hi)) ∧ ((¬ p1 = 47) → ((p1 = 60) → ((p3 ≤ p2) → Q (some (.inl 0)) hi) ∧ ((¬ (p3 ≤ p2)) → Q (some (.inl 1)) hi)) ∧ ((¬ p1 = 60) → ((p1 = 61) → ((¬ p2 = p3) → Q (some (.inl 0)) hi) ∧ ((¬ (¬ p2 = p3)) → Q (some (.inl 1)) hi)) ∧ ((¬ p1 = 61) → ((p1 = 62) → ((p2 ≤ p3) → Q (some (.inl 0)) hi) ∧ ((¬ (p2 ≤ p3)) → Q (some (.inl 1)) hi)) ∧ ((¬ p1 = 62) → ((p1 = 124) → ((¬ p2 = 0) → Q (some (.inl 1)) hi) ∧ ((¬ (¬ p2 = 0)) → ((p3 = 0) → Q (some (.inl 0)) hi) ∧ ((¬ (p3 = 0)) → Q (some (.inl 1)) hi))) ∧ ((¬ p1 = 124) → Q (some (.inl 0)) hi)))))))))) : pm_C pm_g (SH L) HR (d + 1) m_Laws_joined [.inl p1, .inl p2, .inl p3] hi Q := by
  refine pm_C_of (maxL := 3) (t := pm_t25) rfl (Nat.le_of_ble_eq_true rfl) ?_
  refine pm_W_of 11 [] rfl ?_
  intro pc1 hsw
  by_cases c1 : p1 = 38
  · rw [pm_sw_t c1] at hsw
    subst hsw
    replace h := h.1 c1
    refine And.intro (fun c2 => ?_) (fun c2 => ?_)
    · replace h := h.1 c2
      refine And.intro trivial ?_
      exact h
    · replace h := h.2 c2
      refine And.intro (fun c3 => ?_) (fun c3 => ?_)
      · replace h := h.1 c3
        refine And.intro trivial ?_
        exact h
      · replace h := h.2 c3
        refine And.intro trivial ?_
        exact h
  · rw [pm_sw_f c1] at hsw
    replace h := h.2 c1
    by_cases c4 : p1 = 42
    · rw [pm_sw_t c4] at hsw
      subst hsw
      replace h := h.1 c4
      refine And.intro trivial ?_
      exact h
    · rw [pm_sw_f c4] at hsw
      replace h := h.2 c4
      by_cases c5 : p1 = 43
      · rw [pm_sw_t c5] at hsw
        subst hsw
        replace h := h.1 c5
        refine And.intro trivial ?_
        exact h
      · rw [pm_sw_f c5] at hsw
        replace h := h.2 c5
        by_cases c6 : p1 = 45
        · rw [pm_sw_t c6] at hsw
          subst hsw
          replace h := h.1 c6
          refine And.intro trivial ?_
          exact h
        · rw [pm_sw_f c6] at hsw
          replace h := h.2 c6
          by_cases c7 : p1 = 47
          · rw [pm_sw_t c7] at hsw
            subst hsw
            replace h := h.1 c7
            refine And.intro (fun c8 => ?_) (fun c8 => ?_)
            · replace h := h.1 c8
              refine And.intro h.1 ?_
              replace h := h.2
              refine And.intro trivial ?_
              exact h
            · replace h := h.2 c8
              refine And.intro trivial ?_
              exact h
          · rw [pm_sw_f c7] at hsw
            replace h := h.2 c7
            by_cases c9 : p1 = 60
            · rw [pm_sw_t c9] at hsw
              subst hsw
              replace h := h.1 c9
              refine And.intro (fun c10 => ?_) (fun c10 => ?_)
              · replace h := h.1 c10
                refine And.intro trivial ?_
                exact h
              · replace h := h.2 c10
                refine And.intro trivial ?_
                exact h
            · rw [pm_sw_f c9] at hsw
              replace h := h.2 c9
              by_cases c11 : p1 = 61
              · rw [pm_sw_t c11] at hsw
                subst hsw
                replace h := h.1 c11
                refine And.intro (fun c12 => ?_) (fun c12 => ?_)
                · replace h := h.1 c12
                  refine And.intro trivial ?_
                  exact h
                · replace h := h.2 c12
                  refine And.intro trivial ?_
                  exact h
              · rw [pm_sw_f c11] at hsw
                replace h := h.2 c11
                by_cases c13 : p1 = 62
                · rw [pm_sw_t c13] at hsw
                  subst hsw
                  replace h := h.1 c13
                  refine And.intro (fun c14 => ?_) (fun c14 => ?_)
                  · replace h := h.1 c14
                    refine And.intro trivial ?_
                    exact h
                  · replace h := h.2 c14
                    refine And.intro trivial ?_
                    exact h
                · rw [pm_sw_f c13] at hsw
                  replace h := h.2 c13
                  by_cases c15 : p1 = 124
                  · rw [pm_sw_t c15] at hsw
                    subst hsw
                    replace h := h.1 c15
                    refine And.intro (fun c16 => ?_) (fun c16 => ?_)
                    · replace h := h.1 c16
                      refine And.intro trivial ?_
                      exact h
                    · replace h := h.2 c16
                      refine And.intro (fun c17 => ?_) (fun c17 => ?_)
                      · replace h := h.1 c17
                        refine And.intro trivial ?_
                        exact h
                      · replace h := h.2 c17
                        refine And.intro trivial ?_
                        exact h
                  · rw [pm_sw_f c15] at hsw
                    replace h := h.2 c15
                    replace hsw : 169 = pc1 := hsw
                    subst hsw
                    refine And.intro trivial ?_
                    exact h
def f_Laws_joined (p1 : Int32) (p2 : Int32) (p3 : Int32) : Int32 := (if p1 = 38 then (if p2 = 0 then 0 else (if p3 = 0 then 0 else 1)) else (if p1 = 42 then (p2 * p3) else (if p1 = 43 then (p2 + p3) else (if p1 = 45 then (p2 - p3) else (if p1 = 47 then (if ¬ p3 = 0 then (p2 / p3) else 0) else (if p1 = 60 then (if p3 ≤ p2 then 0 else 1) else (if p1 = 61 then (if ¬ p2 = p3 then 0 else 1) else (if p1 = 62 then (if p2 ≤ p3 then 0 else 1) else (if p1 = 124 then (if ¬ p2 = 0 then 1 else (if p3 = 0 then 0 else 1)) else 0)))))))))
theorem f_Laws_joined_c {L d : Nat} {p1 : Int32} {p2 : Int32} {p3 : Int32} {hi : pm_B} {Q : pm_Q} (h : Q (some (.inl (f_Laws_joined p1 p2 p3))) hi) : pm_C pm_g (SH L) HR (d + 1) m_Laws_joined [.inl p1, .inl p2, .inl p3] hi Q := by
  refine v_Laws_joined ?_
  unfold f_Laws_joined at h
  refine And.intro (fun c1 => ?_) (fun c1 => ?_)
  · rw [if_pos c1] at h
    refine And.intro (fun c2 => ?_) (fun c2 => ?_)
    · rw [if_pos c2] at h
      exact h
    · rw [if_neg c2] at h
      refine And.intro (fun c3 => ?_) (fun c3 => ?_)
      · rw [if_pos c3] at h
        exact h
      · rw [if_neg c3] at h
        exact h
  · rw [if_neg c1] at h
    refine And.intro (fun c4 => ?_) (fun c4 => ?_)
    · rw [if_pos c4] at h
      exact h
    · rw [if_neg c4] at h
      refine And.intro (fun c5 => ?_) (fun c5 => ?_)
      · rw [if_pos c5] at h
        exact h
      · rw [if_neg c5] at h
        refine And.intro (fun c6 => ?_) (fun c6 => ?_)
        · rw [if_pos c6] at h
          exact h
        · rw [if_neg c6] at h
          refine And.intro (fun c7 => ?_) (fun c7 => ?_)
          · rw [if_pos c7] at h
            refine And.intro (fun c8 => ?_) (fun c8 => ?_)
            · rw [if_pos c8] at h
              exact ⟨by assumption, h⟩
            · rw [if_neg c8] at h
              exact h
          · rw [if_neg c7] at h
            refine And.intro (fun c9 => ?_) (fun c9 => ?_)
            · rw [if_pos c9] at h
              refine And.intro (fun c10 => ?_) (fun c10 => ?_)
              · rw [if_pos c10] at h
                exact h
              · rw [if_neg c10] at h
                exact h
            · rw [if_neg c9] at h
              refine And.intro (fun c11 => ?_) (fun c11 => ?_)
              · rw [if_pos c11] at h
                refine And.intro (fun c12 => ?_) (fun c12 => ?_)
                · rw [if_pos c12] at h
                  exact h
                · rw [if_neg c12] at h
                  exact h
              · rw [if_neg c11] at h
                refine And.intro (fun c13 => ?_) (fun c13 => ?_)
                · rw [if_pos c13] at h
                  refine And.intro (fun c14 => ?_) (fun c14 => ?_)
                  · rw [if_pos c14] at h
                    exact h
                  · rw [if_neg c14] at h
                    exact h
                · rw [if_neg c13] at h
                  refine And.intro (fun c15 => ?_) (fun c15 => ?_)
                  · rw [if_pos c15] at h
                    refine And.intro (fun c16 => ?_) (fun c16 => ?_)
                    · rw [if_pos c16] at h
                      exact h
                    · rw [if_neg c16] at h
                      refine And.intro (fun c17 => ?_) (fun c17 => ?_)
                      · rw [if_pos c17] at h
                        exact h
                      · rw [if_neg c17] at h
                        exact h
                  · rw [if_neg c15] at h
                    exact h
theorem v_M_two {L d : Nat} {p1 : Int32} {p2 : Int32} {p3 : Int32} {hi : pm_B} {Q : pm_Q} (h : ((p1 = (-8)) → Q (some (.inl (p2 * p3))) hi) ∧ ((¬ p1 = (-8)) → ((p1 = (-7)) → Q (some (.inl (p2 - p3))) hi) ∧ ((¬ p1 = (-7)) → ((p1 = (-6)) → Q (some (.inl (p2 + p3))) hi) ∧ ((¬ p1 = (-6)) → ((p1 = (-5)) → ((p2 ≤ p3) → Q (some (.inl 0)) hi) ∧ ((¬ (p2 ≤ p3)) → Q (some (.inl 1)) hi)) ∧ ((¬ p1 = (-5)) → ((p1 = (-4)) → ((¬ p2 = p3) → Q (some (.inl 0)) hi) ∧ ((¬ (¬ p2 = p3)) → Q (some (.inl 1)) hi)) ∧ ((¬ p1 = (-4)) → ((p1 = (-3)) → ((p3 ≤ p2) → Q (some (.inl 0)) hi) ∧ ((¬ (p3 ≤ p2)) → Q (some (.inl 1)) hi)) ∧ ((¬ p1 = (-3)) → ((p1 = (-2)) → ((p2 = 0) → Q (some (.inl 0)) hi) ∧ ((¬ (p2 = 0)) → ((p3 = 0) → Q (some (.inl 0)) hi) ∧ ((¬ (p3 = 0)) → Q (some (.inl 1)) hi))) ∧ ((¬ p1 = (-2)) → ((p1 = (-1)) → ((¬ p2 = 0) → Q (some (.inl 1)) hi) ∧ ((¬ (¬ p2 = 0)) → ((p3 = 0) → Q (some (.inl 0)) hi) ∧ ((¬ (p3 = 0)) → Q (some (.inl 1)) hi))) ∧ ((¬ p1 = (-1)) → ((¬ p3 = 0) → (¬ p3 = 0) ∧ (Q (some (.inl (p2 / p3))) hi)) ∧ ((¬ (¬ p3 = 0)) → Q (some (.inl 0)) hi)))))))))) : pm_C pm_g (SH L) HR (d + 1) m_M_two [.inl p1, .inl p2, .inl p3] hi Q := by
  refine pm_C_of (maxL := 3) (t := pm_t213) rfl (Nat.le_of_ble_eq_true rfl) ?_
  refine pm_W_of 11 [] rfl ?_
  intro pc1 hsw
  by_cases c1 : p1 = (-8)
  · rw [pm_sw_t c1] at hsw
    subst hsw
    replace h := h.1 c1
    refine And.intro trivial ?_
    exact h
  · rw [pm_sw_f c1] at hsw
    replace h := h.2 c1
    by_cases c2 : p1 = (-7)
    · rw [pm_sw_t c2] at hsw
      subst hsw
      replace h := h.1 c2
      refine And.intro trivial ?_
      exact h
    · rw [pm_sw_f c2] at hsw
      replace h := h.2 c2
      by_cases c3 : p1 = (-6)
      · rw [pm_sw_t c3] at hsw
        subst hsw
        replace h := h.1 c3
        refine And.intro trivial ?_
        exact h
      · rw [pm_sw_f c3] at hsw
        replace h := h.2 c3
        by_cases c4 : p1 = (-5)
        · rw [pm_sw_t c4] at hsw
          subst hsw
          replace h := h.1 c4
          refine And.intro (fun c5 => ?_) (fun c5 => ?_)
          · replace h := h.1 c5
            refine And.intro trivial ?_
            exact h
          · replace h := h.2 c5
            refine And.intro trivial ?_
            exact h
        · rw [pm_sw_f c4] at hsw
          replace h := h.2 c4
          by_cases c6 : p1 = (-4)
          · rw [pm_sw_t c6] at hsw
            subst hsw
            replace h := h.1 c6
            refine And.intro (fun c7 => ?_) (fun c7 => ?_)
            · replace h := h.1 c7
              refine And.intro trivial ?_
              exact h
            · replace h := h.2 c7
              refine And.intro trivial ?_
              exact h
          · rw [pm_sw_f c6] at hsw
            replace h := h.2 c6
            by_cases c8 : p1 = (-3)
            · rw [pm_sw_t c8] at hsw
              subst hsw
              replace h := h.1 c8
              refine And.intro (fun c9 => ?_) (fun c9 => ?_)
              · replace h := h.1 c9
                refine And.intro trivial ?_
                exact h
              · replace h := h.2 c9
                refine And.intro trivial ?_
                exact h
            · rw [pm_sw_f c8] at hsw
              replace h := h.2 c8
              by_cases c10 : p1 = (-2)
              · rw [pm_sw_t c10] at hsw
                subst hsw
                replace h := h.1 c10
                refine And.intro (fun c11 => ?_) (fun c11 => ?_)
                · replace h := h.1 c11
                  refine And.intro trivial ?_
                  exact h
                · replace h := h.2 c11
                  refine And.intro (fun c12 => ?_) (fun c12 => ?_)
                  · replace h := h.1 c12
                    refine And.intro trivial ?_
                    exact h
                  · replace h := h.2 c12
                    refine And.intro trivial ?_
                    exact h
              · rw [pm_sw_f c10] at hsw
                replace h := h.2 c10
                by_cases c13 : p1 = (-1)
                · rw [pm_sw_t c13] at hsw
                  subst hsw
                  replace h := h.1 c13
                  refine And.intro (fun c14 => ?_) (fun c14 => ?_)
                  · replace h := h.1 c14
                    refine And.intro trivial ?_
                    exact h
                  · replace h := h.2 c14
                    refine And.intro (fun c15 => ?_) (fun c15 => ?_)
                    · replace h := h.1 c15
                      refine And.intro trivial ?_
                      exact h
                    · replace h := h.2 c15
                      refine And.intro trivial ?_
                      exact h
                · rw [pm_sw_f c13] at hsw
                  replace h := h.2 c13
                  replace hsw : 121 = pc1 := hsw
                  subst hsw
                  refine And.intro (fun c16 => ?_) (fun c16 => ?_)
                  · replace h := h.1 c16
                    refine And.intro h.1 ?_
                    replace h := h.2
                    refine And.intro trivial ?_
                    exact h
                  · replace h := h.2 c16
                    refine And.intro trivial ?_
                    exact h
def f_M_two (p1 : Int32) (p2 : Int32) (p3 : Int32) : Int32 := (if p1 = (-8) then (p2 * p3) else (if p1 = (-7) then (p2 - p3) else (if p1 = (-6) then (p2 + p3) else (if p1 = (-5) then (if p2 ≤ p3 then 0 else 1) else (if p1 = (-4) then (if ¬ p2 = p3 then 0 else 1) else (if p1 = (-3) then (if p3 ≤ p2 then 0 else 1) else (if p1 = (-2) then (if p2 = 0 then 0 else (if p3 = 0 then 0 else 1)) else (if p1 = (-1) then (if ¬ p2 = 0 then 1 else (if p3 = 0 then 0 else 1)) else (if ¬ p3 = 0 then (p2 / p3) else 0)))))))))
theorem f_M_two_c {L d : Nat} {p1 : Int32} {p2 : Int32} {p3 : Int32} {hi : pm_B} {Q : pm_Q} (h : Q (some (.inl (f_M_two p1 p2 p3))) hi) : pm_C pm_g (SH L) HR (d + 1) m_M_two [.inl p1, .inl p2, .inl p3] hi Q := by
  refine v_M_two ?_
  unfold f_M_two at h
  refine And.intro (fun c1 => ?_) (fun c1 => ?_)
  · rw [if_pos c1] at h
    exact h
  · rw [if_neg c1] at h
    refine And.intro (fun c2 => ?_) (fun c2 => ?_)
    · rw [if_pos c2] at h
      exact h
    · rw [if_neg c2] at h
      refine And.intro (fun c3 => ?_) (fun c3 => ?_)
      · rw [if_pos c3] at h
        exact h
      · rw [if_neg c3] at h
        refine And.intro (fun c4 => ?_) (fun c4 => ?_)
        · rw [if_pos c4] at h
          refine And.intro (fun c5 => ?_) (fun c5 => ?_)
          · rw [if_pos c5] at h
            exact h
          · rw [if_neg c5] at h
            exact h
        · rw [if_neg c4] at h
          refine And.intro (fun c6 => ?_) (fun c6 => ?_)
          · rw [if_pos c6] at h
            refine And.intro (fun c7 => ?_) (fun c7 => ?_)
            · rw [if_pos c7] at h
              exact h
            · rw [if_neg c7] at h
              exact h
          · rw [if_neg c6] at h
            refine And.intro (fun c8 => ?_) (fun c8 => ?_)
            · rw [if_pos c8] at h
              refine And.intro (fun c9 => ?_) (fun c9 => ?_)
              · rw [if_pos c9] at h
                exact h
              · rw [if_neg c9] at h
                exact h
            · rw [if_neg c8] at h
              refine And.intro (fun c10 => ?_) (fun c10 => ?_)
              · rw [if_pos c10] at h
                refine And.intro (fun c11 => ?_) (fun c11 => ?_)
                · rw [if_pos c11] at h
                  exact h
                · rw [if_neg c11] at h
                  refine And.intro (fun c12 => ?_) (fun c12 => ?_)
                  · rw [if_pos c12] at h
                    exact h
                  · rw [if_neg c12] at h
                    exact h
              · rw [if_neg c10] at h
                refine And.intro (fun c13 => ?_) (fun c13 => ?_)
                · rw [if_pos c13] at h
                  refine And.intro (fun c14 => ?_) (fun c14 => ?_)
                  · rw [if_pos c14] at h
                    exact h
                  · rw [if_neg c14] at h
                    refine And.intro (fun c15 => ?_) (fun c15 => ?_)
                    · rw [if_pos c15] at h
                      exact h
                    · rw [if_neg c15] at h
                      exact h
                · rw [if_neg c13] at h
                  refine And.intro (fun c16 => ?_) (fun c16 => ?_)
                  · rw [if_pos c16] at h
                    exact ⟨by assumption, h⟩
                  · rw [if_neg c16] at h
                    exact h
theorem v_Integer_bitCount {L d : Nat} {p1 : Int32} {hi : pm_B} {Q : pm_Q} (h : Q (some (.inl ((((((((p1 - (((Int32.toUInt32 p1 >>> (Int32.toUInt32 1 &&& Int32.toUInt32 31)).toInt32) &&& 1431655765)) &&& 858993459) + (((Int32.toUInt32 (p1 - (((Int32.toUInt32 p1 >>> (Int32.toUInt32 1 &&& Int32.toUInt32 31)).toInt32) &&& 1431655765)) >>> (Int32.toUInt32 2 &&& Int32.toUInt32 31)).toInt32) &&& 858993459)) + ((Int32.toUInt32 (((p1 - (((Int32.toUInt32 p1 >>> (Int32.toUInt32 1 &&& Int32.toUInt32 31)).toInt32) &&& 1431655765)) &&& 858993459) + (((Int32.toUInt32 (p1 - (((Int32.toUInt32 p1 >>> (Int32.toUInt32 1 &&& Int32.toUInt32 31)).toInt32) &&& 1431655765)) >>> (Int32.toUInt32 2 &&& Int32.toUInt32 31)).toInt32) &&& 858993459)) >>> (Int32.toUInt32 4 &&& Int32.toUInt32 31)).toInt32)) &&& 252645135) + ((Int32.toUInt32 (((((p1 - (((Int32.toUInt32 p1 >>> (Int32.toUInt32 1 &&& Int32.toUInt32 31)).toInt32) &&& 1431655765)) &&& 858993459) + (((Int32.toUInt32 (p1 - (((Int32.toUInt32 p1 >>> (Int32.toUInt32 1 &&& Int32.toUInt32 31)).toInt32) &&& 1431655765)) >>> (Int32.toUInt32 2 &&& Int32.toUInt32 31)).toInt32) &&& 858993459)) + ((Int32.toUInt32 (((p1 - (((Int32.toUInt32 p1 >>> (Int32.toUInt32 1 &&& Int32.toUInt32 31)).toInt32) &&& 1431655765)) &&& 858993459) + (((Int32.toUInt32 (p1 - (((Int32.toUInt32 p1 >>> (Int32.toUInt32 1 &&& Int32.toUInt32 31)).toInt32) &&& 1431655765)) >>> (Int32.toUInt32 2 &&& Int32.toUInt32 31)).toInt32) &&& 858993459)) >>> (Int32.toUInt32 4 &&& Int32.toUInt32 31)).toInt32)) &&& 252645135) >>> (Int32.toUInt32 8 &&& Int32.toUInt32 31)).toInt32)) + ((Int32.toUInt32 ((((((p1 - (((Int32.toUInt32 p1 >>> (Int32.toUInt32 1 &&& Int32.toUInt32 31)).toInt32) &&& 1431655765)) &&& 858993459) + (((Int32.toUInt32 (p1 - (((Int32.toUInt32 p1 >>> (Int32.toUInt32 1 &&& Int32.toUInt32 31)).toInt32) &&& 1431655765)) >>> (Int32.toUInt32 2 &&& Int32.toUInt32 31)).toInt32) &&& 858993459)) + ((Int32.toUInt32 (((p1 - (((Int32.toUInt32 p1 >>> (Int32.toUInt32 1 &&& Int32.toUInt32 31)).toInt32) &&& 1431655765)) &&& 858993459) + (((Int32.toUInt32 (p1 - (((Int32.toUInt32 p1 >>> (Int32.toUInt32 1 &&& Int32.toUInt32 31)).toInt32) &&& 1431655765)) >>> (Int32.toUInt32 2 &&& Int32.toUInt32 31)).toInt32) &&& 858993459)) >>> (Int32.toUInt32 4 &&& Int32.toUInt32 31)).toInt32)) &&& 252645135) + ((Int32.toUInt32 (((((p1 - (((Int32.toUInt32 p1 >>> (Int32.toUInt32 1 &&& Int32.toUInt32 31)).toInt32) &&& 1431655765)) &&& 858993459) + (((Int32.toUInt32 (p1 - (((Int32.toUInt32 p1 >>> (Int32.toUInt32 1 &&& Int32.toUInt32 31)).toInt32) &&& 1431655765)) >>> (Int32.toUInt32 2 &&& Int32.toUInt32 31)).toInt32) &&& 858993459)) + ((Int32.toUInt32 (((p1 - (((Int32.toUInt32 p1 >>> (Int32.toUInt32 1 &&& Int32.toUInt32 31)).toInt32) &&& 1431655765)) &&& 858993459) + (((Int32.toUInt32 (p1 - (((Int32.toUInt32 p1 >>> (Int32.toUInt32 1 &&& Int32.toUInt32 31)).toInt32) &&& 1431655765)) >>> (Int32.toUInt32 2 &&& Int32.toUInt32 31)).toInt32) &&& 858993459)) >>> (Int32.toUInt32 4 &&& Int32.toUInt32 31)).toInt32)) &&& 252645135) >>> (Int32.toUInt32 8 &&& Int32.toUInt32 31)).toInt32)) >>> (Int32.toUInt32 16 &&& Int32.toUInt32 31)).toInt32)) &&& 63))) hi) : pm_C pm_g (SH L) HR (d + 1) m_Integer_bitCount [.inl p1] hi Q := by
  refine pm_C_of (maxL := 1) (t := pm_t231) rfl (Nat.le_of_ble_eq_true rfl) ?_
  refine pm_W_of 44 [] rfl ?_
  refine And.intro trivial ?_
  exact h
def f_Integer_bitCount (p1 : Int32) : Int32 := ((((((((p1 - (((Int32.toUInt32 p1 >>> (Int32.toUInt32 1 &&& Int32.toUInt32 31)).toInt32) &&& 1431655765)) &&& 858993459) + (((Int32.toUInt32 (p1 - (((Int32.toUInt32 p1 >>> (Int32.toUInt32 1 &&& Int32.toUInt32 31)).toInt32) &&& 1431655765)) >>> (Int32.toUInt32 2 &&& Int32.toUInt32 31)).toInt32) &&& 858993459)) + ((Int32.toUInt32 (((p1 - (((Int32.toUInt32 p1 >>> (Int32.toUInt32 1 &&& Int32.toUInt32 31)).toInt32) &&& 1431655765)) &&& 858993459) + (((Int32.toUInt32 (p1 - (((Int32.toUInt32 p1 >>> (Int32.toUInt32 1 &&& Int32.toUInt32 31)).toInt32) &&& 1431655765)) >>> (Int32.toUInt32 2 &&& Int32.toUInt32 31)).toInt32) &&& 858993459)) >>> (Int32.toUInt32 4 &&& Int32.toUInt32 31)).toInt32)) &&& 252645135) + ((Int32.toUInt32 (((((p1 - (((Int32.toUInt32 p1 >>> (Int32.toUInt32 1 &&& Int32.toUInt32 31)).toInt32) &&& 1431655765)) &&& 858993459) + (((Int32.toUInt32 (p1 - (((Int32.toUInt32 p1 >>> (Int32.toUInt32 1 &&& Int32.toUInt32 31)).toInt32) &&& 1431655765)) >>> (Int32.toUInt32 2 &&& Int32.toUInt32 31)).toInt32) &&& 858993459)) + ((Int32.toUInt32 (((p1 - (((Int32.toUInt32 p1 >>> (Int32.toUInt32 1 &&& Int32.toUInt32 31)).toInt32) &&& 1431655765)) &&& 858993459) + (((Int32.toUInt32 (p1 - (((Int32.toUInt32 p1 >>> (Int32.toUInt32 1 &&& Int32.toUInt32 31)).toInt32) &&& 1431655765)) >>> (Int32.toUInt32 2 &&& Int32.toUInt32 31)).toInt32) &&& 858993459)) >>> (Int32.toUInt32 4 &&& Int32.toUInt32 31)).toInt32)) &&& 252645135) >>> (Int32.toUInt32 8 &&& Int32.toUInt32 31)).toInt32)) + ((Int32.toUInt32 ((((((p1 - (((Int32.toUInt32 p1 >>> (Int32.toUInt32 1 &&& Int32.toUInt32 31)).toInt32) &&& 1431655765)) &&& 858993459) + (((Int32.toUInt32 (p1 - (((Int32.toUInt32 p1 >>> (Int32.toUInt32 1 &&& Int32.toUInt32 31)).toInt32) &&& 1431655765)) >>> (Int32.toUInt32 2 &&& Int32.toUInt32 31)).toInt32) &&& 858993459)) + ((Int32.toUInt32 (((p1 - (((Int32.toUInt32 p1 >>> (Int32.toUInt32 1 &&& Int32.toUInt32 31)).toInt32) &&& 1431655765)) &&& 858993459) + (((Int32.toUInt32 (p1 - (((Int32.toUInt32 p1 >>> (Int32.toUInt32 1 &&& Int32.toUInt32 31)).toInt32) &&& 1431655765)) >>> (Int32.toUInt32 2 &&& Int32.toUInt32 31)).toInt32) &&& 858993459)) >>> (Int32.toUInt32 4 &&& Int32.toUInt32 31)).toInt32)) &&& 252645135) + ((Int32.toUInt32 (((((p1 - (((Int32.toUInt32 p1 >>> (Int32.toUInt32 1 &&& Int32.toUInt32 31)).toInt32) &&& 1431655765)) &&& 858993459) + (((Int32.toUInt32 (p1 - (((Int32.toUInt32 p1 >>> (Int32.toUInt32 1 &&& Int32.toUInt32 31)).toInt32) &&& 1431655765)) >>> (Int32.toUInt32 2 &&& Int32.toUInt32 31)).toInt32) &&& 858993459)) + ((Int32.toUInt32 (((p1 - (((Int32.toUInt32 p1 >>> (Int32.toUInt32 1 &&& Int32.toUInt32 31)).toInt32) &&& 1431655765)) &&& 858993459) + (((Int32.toUInt32 (p1 - (((Int32.toUInt32 p1 >>> (Int32.toUInt32 1 &&& Int32.toUInt32 31)).toInt32) &&& 1431655765)) >>> (Int32.toUInt32 2 &&& Int32.toUInt32 31)).toInt32) &&& 858993459)) >>> (Int32.toUInt32 4 &&& Int32.toUInt32 31)).toInt32)) &&& 252645135) >>> (Int32.toUInt32 8 &&& Int32.toUInt32 31)).toInt32)) >>> (Int32.toUInt32 16 &&& Int32.toUInt32 31)).toInt32)) &&& 63)
theorem f_Integer_bitCount_c {L d : Nat} {p1 : Int32} {hi : pm_B} {Q : pm_Q} (h : Q (some (.inl (f_Integer_bitCount p1))) hi) : pm_C pm_g (SH L) HR (d + 1) m_Integer_bitCount [.inl p1] hi Q := by
  refine v_Integer_bitCount ?_
  unfold f_Integer_bitCount at h
  exact h
theorem v_E_isKind {L d : Nat} {p1 : Int32} {hi : pm_B} {Q : pm_Q} (h : ((p1 < 0) → Q (some (.inl 0)) hi) ∧ ((¬ (p1 < 0)) → ((6 ≤ p1) → Q (some (.inl 0)) hi) ∧ ((¬ (6 ≤ p1)) → Q (some (.inl 1)) hi))) : pm_C pm_g (SH L) HR (d + 1) m_E_isKind [.inl p1] hi Q := by
  refine pm_C_of (maxL := 1) (t := pm_t118) rfl (Nat.le_of_ble_eq_true rfl) ?_
  refine pm_W_of 10 [] rfl ?_
  refine And.intro (fun c1 => ?_) (fun c1 => ?_)
  · replace h := h.1 c1
    refine And.intro (Or.inl rfl) ?_
    exact h
  · replace h := h.2 c1
    refine And.intro (fun c2 => ?_) (fun c2 => ?_)
    · replace h := h.1 c2
      refine And.intro (Or.inl rfl) ?_
      exact h
    · replace h := h.2 c2
      refine And.intro (Or.inr rfl) ?_
      exact h
theorem v_E_isEar {L d : Nat} {p1 : Int32} {hi : pm_B} {Q : pm_Q} (h : ((p1 < 1) → Q (some (.inl 0)) hi) ∧ ((¬ (p1 < 1)) → ((9 < p1) → Q (some (.inl 0)) hi) ∧ ((¬ (9 < p1)) → Q (some (.inl 1)) hi))) : pm_C pm_g (SH L) HR (d + 1) m_E_isEar [.inl p1] hi Q := by
  refine pm_C_of (maxL := 1) (t := pm_t119) rfl (Nat.le_of_ble_eq_true rfl) ?_
  refine pm_W_of 11 [] rfl ?_
  refine And.intro (fun c1 => ?_) (fun c1 => ?_)
  · replace h := h.1 c1
    refine And.intro (Or.inl rfl) ?_
    exact h
  · replace h := h.2 c1
    refine And.intro (fun c2 => ?_) (fun c2 => ?_)
    · replace h := h.1 c2
      refine And.intro (Or.inl rfl) ?_
      exact h
    · replace h := h.2 c2
      refine And.intro (Or.inr rfl) ?_
      exact h
theorem v_E_isFame {L d : Nat} {p1 : Int32} {hi : pm_B} {Q : pm_Q} (h : ((p1 < 0) → Q (some (.inl 0)) hi) ∧ ((¬ (p1 < 0)) → ((99 < p1) → Q (some (.inl 0)) hi) ∧ ((¬ (99 < p1)) → Q (some (.inl 1)) hi))) : pm_C pm_g (SH L) HR (d + 1) m_E_isFame [.inl p1] hi Q := by
  refine pm_C_of (maxL := 1) (t := pm_t120) rfl (Nat.le_of_ble_eq_true rfl) ?_
  refine pm_W_of 10 [] rfl ?_
  refine And.intro (fun c1 => ?_) (fun c1 => ?_)
  · replace h := h.1 c1
    refine And.intro (Or.inl rfl) ?_
    exact h
  · replace h := h.2 c1
    refine And.intro (fun c2 => ?_) (fun c2 => ?_)
    · replace h := h.1 c2
      refine And.intro (Or.inl rfl) ?_
      exact h
    · replace h := h.2 c2
      refine And.intro (Or.inr rfl) ?_
      exact h
theorem v_E_isWord {L d : Nat} {p1 : Int32} {hi : pm_B} {Q : pm_Q} (h : ((p1 < 0) → Q (some (.inl 0)) hi) ∧ ((¬ (p1 < 0)) → ((20 ≤ p1) → Q (some (.inl 0)) hi) ∧ ((¬ (20 ≤ p1)) → Q (some (.inl 1)) hi))) : pm_C pm_g (SH L) HR (d + 1) m_E_isWord [.inl p1] hi Q := by
  refine pm_C_of (maxL := 1) (t := pm_t121) rfl (Nat.le_of_ble_eq_true rfl) ?_
  refine pm_W_of 10 [] rfl ?_
  refine And.intro (fun c1 => ?_) (fun c1 => ?_)
  · replace h := h.1 c1
    refine And.intro (Or.inl rfl) ?_
    exact h
  · replace h := h.2 c1
    refine And.intro (fun c2 => ?_) (fun c2 => ?_)
    · replace h := h.1 c2
      refine And.intro (Or.inl rfl) ?_
      exact h
    · replace h := h.2 c2
      refine And.intro (Or.inr rfl) ?_
      exact h
theorem v_E_isWordOrNone {L d : Nat} {p1 : Int32} {hi : pm_B} {Q : pm_Q} (h : ((p1 = (-1)) → Q (some (.inl 1)) hi) ∧ ((¬ (p1 = (-1))) → ((p1 < 0) → Q (some (.inl 0)) hi) ∧ ((¬ (p1 < 0)) → ((20 ≤ p1) → Q (some (.inl 0)) hi) ∧ ((¬ (20 ≤ p1)) → Q (some (.inl 1)) hi)))) : pm_C pm_g (SH L) HR (d + 2) m_E_isWordOrNone [.inl p1] hi Q := by
  refine pm_C_of (maxL := 1) (t := pm_t122) rfl (Nat.le_of_ble_eq_true rfl) ?_
  refine pm_W_of 11 [] rfl ?_
  refine And.intro (fun c1 => ?_) (fun c1 => ?_)
  · replace h := h.1 c1
    refine And.intro (Or.inr rfl) ?_
    exact h
  · replace h := h.2 c1
    refine And.intro trivial ?_
    refine v_E_isWord (d := d)  ?_
    refine And.intro (fun c2 => ?_) (fun c2 => ?_)
    · replace h := h.1 c2
      refine ⟨_, rfl, ?_⟩
      refine And.intro (fun _ => ?_) (fun hc => absurd (pm_cd_t (by decide)) hc)
      refine And.intro (Or.inl rfl) ?_
      exact h
    · replace h := h.2 c2
      refine And.intro (fun c3 => ?_) (fun c3 => ?_)
      · replace h := h.1 c3
        refine ⟨_, rfl, ?_⟩
        refine And.intro (fun _ => ?_) (fun hc => absurd (pm_cd_t (by decide)) hc)
        refine And.intro (Or.inl rfl) ?_
        exact h
      · replace h := h.2 c3
        refine ⟨_, rfl, ?_⟩
        refine And.intro (fun hc => absurd hc (pm_cd_f (by decide))) (fun _ => ?_)
        refine And.intro (Or.inr rfl) ?_
        exact h
theorem v_E_isHeardPlace {L d : Nat} {p1 : Int32} {hi : pm_B} {Q : pm_Q} (h : ((p1 < 0) → Q (some (.inl 0)) hi) ∧ ((¬ (p1 < 0)) → ((12 ≤ p1) → Q (some (.inl 0)) hi) ∧ ((¬ (12 ≤ p1)) → Q (some (.inl 1)) hi))) : pm_C pm_g (SH L) HR (d + 1) m_E_isHeardPlace [.inl p1] hi Q := by
  refine pm_C_of (maxL := 1) (t := pm_t123) rfl (Nat.le_of_ble_eq_true rfl) ?_
  refine pm_W_of 10 [] rfl ?_
  refine And.intro (fun c1 => ?_) (fun c1 => ?_)
  · replace h := h.1 c1
    refine And.intro (Or.inl rfl) ?_
    exact h
  · replace h := h.2 c1
    refine And.intro (fun c2 => ?_) (fun c2 => ?_)
    · replace h := h.1 c2
      refine And.intro (Or.inl rfl) ?_
      exact h
    · replace h := h.2 c2
      refine And.intro (Or.inr rfl) ?_
      exact h
theorem v_E_isZeroOrOne {L d : Nat} {p1 : Int32} {hi : pm_B} {Q : pm_Q} (h : ((p1 = 0) → Q (some (.inl 1)) hi) ∧ ((¬ (p1 = 0)) → ((¬ p1 = 1) → Q (some (.inl 0)) hi) ∧ ((¬ (¬ p1 = 1)) → Q (some (.inl 1)) hi))) : pm_C pm_g (SH L) HR (d + 1) m_E_isZeroOrOne [.inl p1] hi Q := by
  refine pm_C_of (maxL := 1) (t := pm_t124) rfl (Nat.le_of_ble_eq_true rfl) ?_
  refine pm_W_of 10 [] rfl ?_
  refine And.intro (fun c1 => ?_) (fun c1 => ?_)
  · replace h := h.1 c1
    refine And.intro (Or.inr rfl) ?_
    exact h
  · replace h := h.2 c1
    refine And.intro (fun c2 => ?_) (fun c2 => ?_)
    · replace h := h.1 c2
      refine And.intro (Or.inl rfl) ?_
      exact h
    · replace h := h.2 c2
      refine And.intro (Or.inr rfl) ?_
      exact h
theorem v_E_isDays {L d : Nat} {p1 : Int32} {p2 : Int32} {p3 : Int32} {hi : pm_B} {Q : pm_Q} (h : ((p1 < p2) → Q (some (.inl 0)) hi) ∧ ((¬ (p1 < p2)) → ((p3 < p1) → Q (some (.inl 0)) hi) ∧ ((¬ (p3 < p1)) → Q (some (.inl 1)) hi))) : pm_C pm_g (SH L) HR (d + 1) m_E_isDays [.inl p1, .inl p2, .inl p3] hi Q := by
  refine pm_C_of (maxL := 3) (t := pm_t125) rfl (Nat.le_of_ble_eq_true rfl) ?_
  refine pm_W_of 11 [] rfl ?_
  refine And.intro (fun c1 => ?_) (fun c1 => ?_)
  · replace h := h.1 c1
    refine And.intro (Or.inl rfl) ?_
    exact h
  · replace h := h.2 c1
    refine And.intro (fun c2 => ?_) (fun c2 => ?_)
    · replace h := h.1 c2
      refine And.intro (Or.inl rfl) ?_
      exact h
    · replace h := h.2 c2
      refine And.intro (Or.inr rfl) ?_
      exact h
theorem v_E_isSheet {L d : Nat} {p1 : Int32} {hi : pm_B} {Q : pm_Q} (h : ((p1 < 0) → Q (some (.inl 0)) hi) ∧ ((¬ (p1 < 0)) → ((4 ≤ p1) → Q (some (.inl 0)) hi) ∧ ((¬ (4 ≤ p1)) → Q (some (.inl 1)) hi))) : pm_C pm_g (SH L) HR (d + 1) m_E_isSheet [.inl p1] hi Q := by
  refine pm_C_of (maxL := 1) (t := pm_t126) rfl (Nat.le_of_ble_eq_true rfl) ?_
  refine pm_W_of 10 [] rfl ?_
  refine And.intro (fun c1 => ?_) (fun c1 => ?_)
  · replace h := h.1 c1
    refine And.intro (Or.inl rfl) ?_
    exact h
  · replace h := h.2 c1
    refine And.intro (fun c2 => ?_) (fun c2 => ?_)
    · replace h := h.1 c2
      refine And.intro (Or.inl rfl) ?_
      exact h
    · replace h := h.2 c2
      refine And.intro (Or.inr rfl) ?_
      exact h
theorem v_E_isSlot {L d : Nat} {p1 : Int32} {hi : pm_B} {Q : pm_Q} (h : ((p1 < 0) → Q (some (.inl 0)) hi) ∧ ((¬ (p1 < 0)) → ((5 ≤ p1) → Q (some (.inl 0)) hi) ∧ ((¬ (5 ≤ p1)) → Q (some (.inl 1)) hi))) : pm_C pm_g (SH L) HR (d + 1) m_E_isSlot [.inl p1] hi Q := by
  refine pm_C_of (maxL := 1) (t := pm_t127) rfl (Nat.le_of_ble_eq_true rfl) ?_
  refine pm_W_of 10 [] rfl ?_
  refine And.intro (fun c1 => ?_) (fun c1 => ?_)
  · replace h := h.1 c1
    refine And.intro (Or.inl rfl) ?_
    exact h
  · replace h := h.2 c1
    refine And.intro (fun c2 => ?_) (fun c2 => ?_)
    · replace h := h.1 c2
      refine And.intro (Or.inl rfl) ?_
      exact h
    · replace h := h.2 c2
      refine And.intro (Or.inr rfl) ?_
      exact h
theorem v_Folk_hasSpeaker {L d : Nat} {this : Nat} (h_this : pm_fo this) {p1 : Int32} {hi : pm_B} {Q : pm_Q} (h : ((p1 < 0) → Q (some (.inl 0)) hi) ∧ ((¬ (p1 < 0)) → (((hi this 2) ≤ p1) → Q (some (.inl 0)) hi) ∧ ((¬ ((hi this 2) ≤ p1)) → ((8 ≤ p1) → Q (some (.inl 0)) hi) ∧ ((¬ (8 ≤ p1)) → Q (some (.inl 1)) hi)))) : pm_C pm_g (SH L) HR (d + 1) m_Folk_hasSpeaker [.inr this, .inl p1] hi Q := by
  refine pm_C_of (maxL := 2) (t := pm_t2) rfl (Nat.le_of_ble_eq_true rfl) ?_
  refine pm_W_of 16 [] rfl ?_
  refine And.intro (fun c1 => ?_) (fun c1 => ?_)
  · replace h := h.1 c1
    refine And.intro (Or.inl rfl) ?_
    exact h
  · replace h := h.2 c1
    refine And.intro (sh_fo h_this) ?_
    refine And.intro (fun c2 => ?_) (fun c2 => ?_)
    · replace h := h.1 c2
      refine And.intro (Or.inl rfl) ?_
      exact h
    · replace h := h.2 c2
      refine And.intro (sh_fo h_this) ?_
      rw [(hr_fo1 h_this)]
      refine ⟨8, ⟨0, _, (sh_fo1 h_this)⟩, ?_⟩
      rw [show nI 8 = (8 : Int32) from rfl]
      refine And.intro (fun c3 => ?_) (fun c3 => ?_)
      · replace h := h.1 c3
        refine And.intro (Or.inl rfl) ?_
        exact h
      · replace h := h.2 c3
        refine And.intro (Or.inr rfl) ?_
        exact h
theorem v_Folk_hasRoom {L d : Nat} {this : Nat} (h_this : pm_fo this) {hi : pm_B} {Q : pm_Q} (h : (((hi this 2) < 0) → Q (some (.inl 0)) hi) ∧ ((¬ ((hi this 2) < 0)) → ((8 ≤ (hi this 2)) → Q (some (.inl 0)) hi) ∧ ((¬ (8 ≤ (hi this 2))) → Q (some (.inl 1)) hi))) : pm_C pm_g (SH L) HR (d + 1) m_Folk_hasRoom [.inr this] hi Q := by
  refine pm_C_of (maxL := 1) (t := pm_t3) rfl (Nat.le_of_ble_eq_true rfl) ?_
  refine pm_W_of 14 [] rfl ?_
  refine And.intro (sh_fo h_this) ?_
  refine And.intro (fun c1 => ?_) (fun c1 => ?_)
  · replace h := h.1 c1
    refine And.intro (Or.inl rfl) ?_
    exact h
  · replace h := h.2 c1
    refine And.intro (sh_fo h_this) ?_
    refine And.intro (sh_fo h_this) ?_
    rw [(hr_fo1 h_this)]
    refine ⟨8, ⟨0, _, (sh_fo1 h_this)⟩, ?_⟩
    rw [show nI 8 = (8 : Int32) from rfl]
    refine And.intro (fun c2 => ?_) (fun c2 => ?_)
    · replace h := h.1 c2
      refine And.intro (Or.inl rfl) ?_
      exact h
    · replace h := h.2 c2
      refine And.intro (Or.inr rfl) ?_
      exact h
theorem v_Sheet_hasPlace {L d : Nat} {this : Nat} (h_this : pm_st this) {p1 : Int32} {hi : pm_B} {Q : pm_Q} (h : ((p1 < 0) → Q (some (.inl 0)) hi) ∧ ((¬ (p1 < 0)) → (((hi this 1) ≤ p1) → Q (some (.inl 0)) hi) ∧ ((¬ ((hi this 1) ≤ p1)) → ((24 ≤ p1) → Q (some (.inl 0)) hi) ∧ ((¬ (24 ≤ p1)) → Q (some (.inl 1)) hi)))) : pm_C pm_g (SH L) HR (d + 1) m_Sheet_hasPlace [.inr this, .inl p1] hi Q := by
  refine pm_C_of (maxL := 2) (t := pm_t56) rfl (Nat.le_of_ble_eq_true rfl) ?_
  refine pm_W_of 16 [] rfl ?_
  refine And.intro (fun c1 => ?_) (fun c1 => ?_)
  · replace h := h.1 c1
    refine And.intro (Or.inl rfl) ?_
    exact h
  · replace h := h.2 c1
    refine And.intro (sh_st h_this) ?_
    refine And.intro (fun c2 => ?_) (fun c2 => ?_)
    · replace h := h.1 c2
      refine And.intro (Or.inl rfl) ?_
      exact h
    · replace h := h.2 c2
      refine And.intro (sh_st h_this) ?_
      rw [(hr_st h_this)]
      refine ⟨24, ⟨0, _, (sh_st1 h_this)⟩, ?_⟩
      rw [show nI 24 = (24 : Int32) from rfl]
      refine And.intro (fun c3 => ?_) (fun c3 => ?_)
      · replace h := h.1 c3
        refine And.intro (Or.inl rfl) ?_
        exact h
      · replace h := h.2 c3
        refine And.intro (Or.inr rfl) ?_
        exact h
theorem v_Sheet_hasPlaces {L d : Nat} {this : Nat} (h_this : pm_st this) {p1 : Int32} {p2 : Int32} {hi : pm_B} {Q : pm_Q} (h : ((p1 < 0) → Q (some (.inl 0)) hi) ∧ ((¬ (p1 < 0)) → ((p2 < 0) → Q (some (.inl 0)) hi) ∧ ((¬ (p2 < 0)) → (((hi this 1) < p1) → Q (some (.inl 0)) hi) ∧ ((¬ ((hi this 1) < p1)) → ((24 < (hi this 1)) → Q (some (.inl 0)) hi) ∧ ((¬ (24 < (hi this 1))) → ((((hi this 1) - p1) < p2) → Q (some (.inl 0)) hi) ∧ ((¬ (((hi this 1) - p1) < p2)) → Q (some (.inl 1)) hi)))))) : pm_C pm_g (SH L) HR (d + 1) m_Sheet_hasPlaces [.inr this, .inl p1, .inl p2] hi Q := by
  refine pm_C_of (maxL := 3) (t := pm_t57) rfl (Nat.le_of_ble_eq_true rfl) ?_
  refine pm_W_of 25 [] rfl ?_
  refine And.intro (fun c1 => ?_) (fun c1 => ?_)
  · replace h := h.1 c1
    refine And.intro (Or.inl rfl) ?_
    exact h
  · replace h := h.2 c1
    refine And.intro (fun c2 => ?_) (fun c2 => ?_)
    · replace h := h.1 c2
      refine And.intro (Or.inl rfl) ?_
      exact h
    · replace h := h.2 c2
      refine And.intro (sh_st h_this) ?_
      refine And.intro (fun c3 => ?_) (fun c3 => ?_)
      · replace h := h.1 c3
        refine And.intro (Or.inl rfl) ?_
        exact h
      · replace h := h.2 c3
        refine And.intro (sh_st h_this) ?_
        refine And.intro (sh_st h_this) ?_
        rw [(hr_st h_this)]
        refine ⟨24, ⟨0, _, (sh_st1 h_this)⟩, ?_⟩
        rw [show nI 24 = (24 : Int32) from rfl]
        refine And.intro (fun c4 => ?_) (fun c4 => ?_)
        · replace h := h.1 c4
          refine And.intro (Or.inl rfl) ?_
          exact h
        · replace h := h.2 c4
          refine And.intro (sh_st h_this) ?_
          refine And.intro (fun c5 => ?_) (fun c5 => ?_)
          · replace h := h.1 c5
            refine And.intro (Or.inl rfl) ?_
            exact h
          · replace h := h.2 c5
            refine And.intro (Or.inr rfl) ?_
            exact h
theorem v_M_in {L d : Nat} {p1 : Int32} {p2 : Int32} {p3 : Int32} {hi : pm_B} {Q : pm_Q} (h : ((p1 < p2) → Q (some (.inl 0)) hi) ∧ ((¬ (p1 < p2)) → ((p3 < p1) → Q (some (.inl 0)) hi) ∧ ((¬ (p3 < p1)) → Q (some (.inl 1)) hi))) : pm_C pm_g (SH L) HR (d + 1) m_M_in [.inl p1, .inl p2, .inl p3] hi Q := by
  refine pm_C_of (maxL := 3) (t := pm_t136) rfl (Nat.le_of_ble_eq_true rfl) ?_
  refine pm_W_of 11 [] rfl ?_
  refine And.intro (fun c1 => ?_) (fun c1 => ?_)
  · replace h := h.1 c1
    refine And.intro (Or.inl rfl) ?_
    exact h
  · replace h := h.2 c1
    refine And.intro (fun c2 => ?_) (fun c2 => ?_)
    · replace h := h.1 c2
      refine And.intro (Or.inl rfl) ?_
      exact h
    · replace h := h.2 c2
      refine And.intro (Or.inr rfl) ?_
      exact h
theorem v_M_isSpeaker {L d : Nat} {p1 : Int32} {hi : pm_B} {Q : pm_Q} (h : ((p1 < 0) → Q (some (.inl 0)) hi) ∧ ((¬ (p1 < 0)) → ((((hi 142 1) - 1) < p1) → Q (some (.inl 0)) hi) ∧ ((¬ (((hi 142 1) - 1) < p1)) → Q (some (.inl 1)) hi))) : pm_C pm_g (SH L) HR (d + 2) m_M_isSpeaker [.inr 141, .inl p1] hi Q := by
  refine pm_C_of (maxL := 2) (t := pm_t139) rfl (Nat.le_of_ble_eq_true rfl) ?_
  refine pm_W_of 12 [] rfl ?_
  refine And.intro sh_l141 ?_
  rw [hr_141_0]
  refine And.intro (pm_ao_of (t := 0) sh_l142 (by decide : 1 < 1611) (rfl : (1 : Int32) = nI 1) (by decide)) ?_
  rw [pm_tn (rfl : (1 : Int32) = nI 1) (by decide : 1 < 1611) (by decide)]
  refine And.intro trivial ?_
  refine v_M_in (d := d)  ?_
  refine And.intro (fun c1 => ?_) (fun c1 => ?_)
  · replace h := h.1 c1
    refine ⟨_, rfl, ?_⟩
    refine And.intro (Or.inl rfl) ?_
    exact h
  · replace h := h.2 c1
    refine And.intro (fun c2 => ?_) (fun c2 => ?_)
    · replace h := h.1 c2
      refine ⟨_, rfl, ?_⟩
      refine And.intro (Or.inl rfl) ?_
      exact h
    · replace h := h.2 c2
      refine ⟨_, rfl, ?_⟩
      refine And.intro (Or.inr rfl) ?_
      exact h
theorem v_M_isWord {L d : Nat} {p1 : Int32} {hi : pm_B} {Q : pm_Q} (h : ((p1 < 0) → Q (some (.inl 0)) hi) ∧ ((¬ (p1 < 0)) → ((19 < p1) → Q (some (.inl 0)) hi) ∧ ((¬ (19 < p1)) → Q (some (.inl 1)) hi))) : pm_C pm_g (SH L) HR (d + 2) m_M_isWord [.inl p1] hi Q := by
  refine pm_C_of (maxL := 1) (t := pm_t140) rfl (Nat.le_of_ble_eq_true rfl) ?_
  refine pm_W_of 11 [] rfl ?_
  refine And.intro trivial ?_
  refine v_M_in (d := d)  ?_
  refine And.intro (fun c1 => ?_) (fun c1 => ?_)
  · replace h := h.1 c1
    refine ⟨_, rfl, ?_⟩
    refine And.intro (Or.inl rfl) ?_
    exact h
  · replace h := h.2 c1
    refine And.intro (fun c2 => ?_) (fun c2 => ?_)
    · replace h := h.1 c2
      refine ⟨_, rfl, ?_⟩
      refine And.intro (Or.inl rfl) ?_
      exact h
    · replace h := h.2 c2
      refine ⟨_, rfl, ?_⟩
      refine And.intro (Or.inr rfl) ?_
      exact h
theorem v_M_isOf {L d : Nat} {p1 : Int32} {p2 : Int32} {hi : pm_B} {Q : pm_Q} (h : ((¬ p1 = 1) → ((p2 < 0) → Q (some (.inl 0)) hi) ∧ ((¬ (p2 < 0)) → ((99 < p2) → Q (some (.inl 0)) hi) ∧ ((¬ (99 < p2)) → Q (some (.inl 1)) hi))) ∧ ((¬ (¬ p1 = 1)) → ((p2 < 1) → Q (some (.inl 0)) hi) ∧ ((¬ (p2 < 1)) → ((9 < p2) → Q (some (.inl 0)) hi) ∧ ((¬ (9 < p2)) → Q (some (.inl 1)) hi)))) : pm_C pm_g (SH L) HR (d + 2) m_M_isOf [.inl p1, .inl p2] hi Q := by
  refine pm_C_of (maxL := 2) (t := pm_t145) rfl (Nat.le_of_ble_eq_true rfl) ?_
  refine pm_W_of 11 [] rfl ?_
  refine And.intro (fun c1 => ?_) (fun c1 => ?_)
  · replace h := h.1 c1
    refine And.intro trivial ?_
    refine v_M_in (d := d)  ?_
    refine And.intro (fun c2 => ?_) (fun c2 => ?_)
    · replace h := h.1 c2
      refine ⟨_, rfl, ?_⟩
      refine And.intro (Or.inl rfl) ?_
      exact h
    · replace h := h.2 c2
      refine And.intro (fun c3 => ?_) (fun c3 => ?_)
      · replace h := h.1 c3
        refine ⟨_, rfl, ?_⟩
        refine And.intro (Or.inl rfl) ?_
        exact h
      · replace h := h.2 c3
        refine ⟨_, rfl, ?_⟩
        refine And.intro (Or.inr rfl) ?_
        exact h
  · replace h := h.2 c1
    refine And.intro trivial ?_
    refine v_M_in (d := d)  ?_
    refine And.intro (fun c4 => ?_) (fun c4 => ?_)
    · replace h := h.1 c4
      refine ⟨_, rfl, ?_⟩
      refine And.intro (Or.inl rfl) ?_
      exact h
    · replace h := h.2 c4
      refine And.intro (fun c5 => ?_) (fun c5 => ?_)
      · replace h := h.1 c5
        refine ⟨_, rfl, ?_⟩
        refine And.intro (Or.inl rfl) ?_
        exact h
      · replace h := h.2 c5
        refine ⟨_, rfl, ?_⟩
        refine And.intro (Or.inr rfl) ?_
        exact h
theorem v_M_isSheet {L d : Nat} {p1 : Int32} {hi : pm_B} {Q : pm_Q} (h : ((p1 < 0) → Q (some (.inl 0)) hi) ∧ ((¬ (p1 < 0)) → ((3 < p1) → Q (some (.inl 0)) hi) ∧ ((¬ (3 < p1)) → Q (some (.inl 1)) hi))) : pm_C pm_g (SH L) HR (d + 2) m_M_isSheet [.inl p1] hi Q := by
  refine pm_C_of (maxL := 1) (t := pm_t215) rfl (Nat.le_of_ble_eq_true rfl) ?_
  refine pm_W_of 11 [] rfl ?_
  refine And.intro trivial ?_
  refine v_M_in (d := d)  ?_
  refine And.intro (fun c1 => ?_) (fun c1 => ?_)
  · replace h := h.1 c1
    refine ⟨_, rfl, ?_⟩
    refine And.intro (Or.inl rfl) ?_
    exact h
  · replace h := h.2 c1
    refine And.intro (fun c2 => ?_) (fun c2 => ?_)
    · replace h := h.1 c2
      refine ⟨_, rfl, ?_⟩
      refine And.intro (Or.inl rfl) ?_
      exact h
    · replace h := h.2 c2
      refine ⟨_, rfl, ?_⟩
      refine And.intro (Or.inr rfl) ?_
      exact h
theorem v_M_isSlot {L d : Nat} {p1 : Int32} {hi : pm_B} {Q : pm_Q} (h : ((p1 < 0) → Q (some (.inl 0)) hi) ∧ ((¬ (p1 < 0)) → ((4 < p1) → Q (some (.inl 0)) hi) ∧ ((¬ (4 < p1)) → Q (some (.inl 1)) hi))) : pm_C pm_g (SH L) HR (d + 2) m_M_isSlot [.inl p1] hi Q := by
  refine pm_C_of (maxL := 1) (t := pm_t216) rfl (Nat.le_of_ble_eq_true rfl) ?_
  refine pm_W_of 11 [] rfl ?_
  refine And.intro trivial ?_
  refine v_M_in (d := d)  ?_
  refine And.intro (fun c1 => ?_) (fun c1 => ?_)
  · replace h := h.1 c1
    refine ⟨_, rfl, ?_⟩
    refine And.intro (Or.inl rfl) ?_
    exact h
  · replace h := h.2 c1
    refine And.intro (fun c2 => ?_) (fun c2 => ?_)
    · replace h := h.1 c2
      refine ⟨_, rfl, ?_⟩
      refine And.intro (Or.inl rfl) ?_
      exact h
    · replace h := h.2 c2
      refine ⟨_, rfl, ?_⟩
      refine And.intro (Or.inr rfl) ?_
      exact h
theorem v_M_put {L d : Nat} {p1 : Int32} {p2 : Int32} {p3 : Int32} {hi : pm_B} {Q : pm_Q} (h : ∃ k1 : Nat, k1 < 1611 ∧ ((7 + (29 * p1)) + p2) = nI k1 ∧ (Q none (pm_u hi 142 k1 p3))) : pm_C pm_g (SH L) HR (d + 1) m_M_put [.inr 141, .inl p1, .inl p2, .inl p3] hi Q := by
  refine pm_C_of (maxL := 4) (t := pm_t142) rfl (Nat.le_of_ble_eq_true rfl) ?_
  refine pm_W_of 14 [] rfl ?_
  refine And.intro sh_l141 ?_
  rw [hr_141_0]
  obtain ⟨k1, hkk1, hek1, h⟩ := h
  refine And.intro ⟨pm_aw_of sh_l142 hkk1 hek1 (by decide), trivial⟩ ?_
  rw [pm_tn hek1 hkk1 (by decide)]
  exact h
theorem v_M_becomes {L d : Nat} {p1 : Int32} {p2 : Int32} {hi : pm_B} {Q : pm_Q} (h : ∃ k1 : Nat, k1 < 1611 ∧ p1 = nI k1 ∧ (∃ k2 : Nat, k2 < 1611 ∧ p1 = nI k2 ∧ (Q (some (.inl (hi 142 k1))) (pm_u hi 142 k2 p2)))) : pm_C pm_g (SH L) HR (d + 1) m_M_becomes [.inr 141, .inl p1, .inl p2] hi Q := by
  refine pm_C_of (maxL := 4) (t := pm_t143) rfl (Nat.le_of_ble_eq_true rfl) ?_
  refine pm_W_of 14 [] rfl ?_
  refine And.intro sh_l141 ?_
  rw [hr_141_0]
  obtain ⟨k1, hkk1, hek1, h⟩ := h
  refine And.intro (pm_ao_of (t := 0) sh_l142 hkk1 hek1 (by decide)) ?_
  rw [pm_tn hek1 hkk1 (by decide)]
  refine And.intro sh_l141 ?_
  rw [hr_141_0]
  obtain ⟨k2, hkk2, hek2, h⟩ := h
  refine And.intro ⟨pm_aw_of sh_l142 hkk2 hek2 (by decide), trivial⟩ ?_
  rw [pm_tn hek2 hkk2 (by decide)]
  refine And.intro trivial ?_
  exact h
theorem v_M_of {L d : Nat} {p1 : Int32} {p2 : Int32} {hi : pm_B} {Q : pm_Q} (h : ∃ k1 : Nat, k1 < 1611 ∧ ((7 + (29 * p1)) + p2) = nI k1 ∧ (Q (some (.inl (hi 142 k1))) hi)) : pm_C pm_g (SH L) HR (d + 1) m_M_of [.inr 141, .inl p1, .inl p2] hi Q := by
  refine pm_C_of (maxL := 3) (t := pm_t141) rfl (Nat.le_of_ble_eq_true rfl) ?_
  refine pm_W_of 13 [] rfl ?_
  refine And.intro sh_l141 ?_
  rw [hr_141_0]
  obtain ⟨k1, hkk1, hek1, h⟩ := h
  refine And.intro (pm_ao_of (t := 0) sh_l142 hkk1 hek1 (by decide)) ?_
  rw [pm_tn hek1 hkk1 (by decide)]
  refine And.intro trivial ?_
  exact h
theorem v_Speaker_wordAt {L d : Nat} {this : Nat} (h_this : pm_sk this) {p1 : Int32} {hi : pm_B} {Q : pm_Q} (h : ((p1 < 0) → Q (some (.inl (-1000000005))) hi) ∧ ((¬ (p1 < 0)) → (((hi this 4) ≤ p1) → Q (some (.inl (-1000000005))) hi) ∧ ((¬ ((hi this 4) ≤ p1)) → ((24 ≤ p1) → Q (some (.inl (-1000000005))) hi) ∧ ((¬ (24 ≤ p1)) → ∃ k4 : Nat, k4 < 24 ∧ p1 = nI k4 ∧ (Q (some (.inl (hi (this + 1) k4))) hi))))) : pm_C pm_g (SH L) HR (d + 1) m_Speaker_wordAt [.inr this, .inl p1] hi Q := by
  refine pm_C_of (maxL := 2) (t := pm_t63) rfl (Nat.le_of_ble_eq_true rfl) ?_
  refine pm_W_of 19 [] rfl ?_
  refine And.intro (fun c1 => ?_) (fun c1 => ?_)
  · replace h := h.1 c1
    refine And.intro trivial ?_
    exact h
  · replace h := h.2 c1
    refine And.intro (sh_sk h_this) ?_
    refine And.intro (fun c2 => ?_) (fun c2 => ?_)
    · replace h := h.1 c2
      refine And.intro trivial ?_
      exact h
    · replace h := h.2 c2
      refine And.intro (sh_sk h_this) ?_
      rw [(hr_sk h_this)]
      refine ⟨24, ⟨0, _, (sh_sk1 h_this)⟩, ?_⟩
      rw [show nI 24 = (24 : Int32) from rfl]
      refine And.intro (fun c3 => ?_) (fun c3 => ?_)
      · replace h := h.1 c3
        refine And.intro trivial ?_
        exact h
      · replace h := h.2 c3
        refine And.intro (sh_sk h_this) ?_
        rw [(hr_sk h_this)]
        obtain ⟨k4, hkk4, hek4, h⟩ := h
        refine And.intro (pm_ao_of (t := 0) (sh_sk1 h_this) hkk4 hek4 (by decide)) ?_
        rw [pm_tn hek4 hkk4 (by decide)]
        refine And.intro trivial ?_
        exact h
theorem v_Tape_byteAt {L d : Nat} {p1 : Int32} {hi : pm_B} {Q : pm_Q} (h : ((p1 < 0) → Q (some (.inl (-1))) hi) ∧ ((¬ (p1 < 0)) → (((hi 107 1) ≤ p1) → Q (some (.inl (-1))) hi) ∧ ((¬ ((hi 107 1) ≤ p1)) → ((96 ≤ p1) → Q (some (.inl (-1))) hi) ∧ ((¬ (96 ≤ p1)) → ∃ k4 : Nat, k4 < 96 ∧ p1 = nI k4 ∧ (Q (some (.inl (hi 108 k4))) hi))))) : pm_C pm_g (SH L) HR (d + 1) m_Tape_byteAt [.inr 107, .inl p1] hi Q := by
  refine pm_C_of (maxL := 2) (t := pm_t69) rfl (Nat.le_of_ble_eq_true rfl) ?_
  refine pm_W_of 19 [] rfl ?_
  refine And.intro (fun c1 => ?_) (fun c1 => ?_)
  · replace h := h.1 c1
    refine And.intro trivial ?_
    exact h
  · replace h := h.2 c1
    refine And.intro sh_l107 ?_
    refine And.intro (fun c2 => ?_) (fun c2 => ?_)
    · replace h := h.1 c2
      refine And.intro trivial ?_
      exact h
    · replace h := h.2 c2
      refine And.intro sh_l107 ?_
      rw [hr_107_0]
      refine ⟨96, ⟨0, _, sh_l108⟩, ?_⟩
      rw [show nI 96 = (96 : Int32) from rfl]
      refine And.intro (fun c3 => ?_) (fun c3 => ?_)
      · replace h := h.1 c3
        refine And.intro trivial ?_
        exact h
      · replace h := h.2 c3
        refine And.intro sh_l107 ?_
        rw [hr_107_0]
        obtain ⟨k4, hkk4, hek4, h⟩ := h
        refine And.intro (pm_ao_of (t := 0) sh_l108 hkk4 hek4 (by decide)) ?_
        rw [pm_tn hek4 hkk4 (by decide)]
        refine And.intro trivial ?_
        exact h
theorem v_Folk_lawOf {L d : Nat} {this : Nat} (h_this : pm_fo this) {p1 : Int32} {hi : pm_B} {Q : pm_Q} (h : ((p1 < 0) → Q (some (.inl (-1000000005))) hi) ∧ ((¬ (p1 < 0)) → ((3 ≤ p1) → Q (some (.inl (-1000000005))) hi) ∧ ((¬ (3 ≤ p1)) → ∃ k3 : Nat, k3 < 3 ∧ p1 = nI k3 ∧ (Q (some (.inl (hi (this + 18) k3))) hi)))) : pm_C pm_g (SH L) HR (d + 1) m_Folk_lawOf [.inr this, .inl p1] hi Q := by
  refine pm_C_of (maxL := 2) (t := pm_t7) rfl (Nat.le_of_ble_eq_true rfl) ?_
  refine pm_W_of 15 [] rfl ?_
  refine And.intro (fun c1 => ?_) (fun c1 => ?_)
  · replace h := h.1 c1
    refine And.intro trivial ?_
    exact h
  · replace h := h.2 c1
    refine And.intro (sh_fo h_this) ?_
    rw [(hr_fo9 h_this)]
    refine ⟨3, ⟨0, _, (sh_fo18 h_this)⟩, ?_⟩
    rw [show nI 3 = (3 : Int32) from rfl]
    refine And.intro (fun c2 => ?_) (fun c2 => ?_)
    · replace h := h.1 c2
      refine And.intro trivial ?_
      exact h
    · replace h := h.2 c2
      refine And.intro (sh_fo h_this) ?_
      rw [(hr_fo9 h_this)]
      obtain ⟨k3, hkk3, hek3, h⟩ := h
      refine And.intro (pm_ao_of (t := 0) (sh_fo18 h_this) hkk3 hek3 (by decide)) ?_
      rw [pm_tn hek3 hkk3 (by decide)]
      refine And.intro trivial ?_
      exact h
theorem v_Speaker_begin {L d : Nat} {this : Nat} (h_this : pm_sk this) {p1 : Int32} {p2 : Int32} {p3 : Int32} {hi : pm_B} {Q : pm_Q} (h : ∀ hi1 : pm_B, hi1 = pm_u (pm_u hi this 0 p1) this 1 p2 → (∀ hi2 : pm_B, hi2 = pm_u (pm_u hi1 this 2 p3) this 3 0 → (Q none (pm_u hi2 this 4 0)))) : pm_C pm_g (SH L) HR (d + 1) m_Speaker_begin [.inr this, .inl p1, .inl p2, .inl p3] hi Q := by
  refine pm_C_of (maxL := 4) (t := pm_t61) rfl (Nat.le_of_ble_eq_true rfl) ?_
  refine pm_W_of 18 [] rfl ?_
  refine And.intro ⟨(sh_sk h_this), trivial⟩ ?_
  refine And.intro ⟨(sh_sk h_this), trivial⟩ ?_
  obtain ⟨hi1, ehi1⟩ : ∃ m : pm_B, m = pm_u (pm_u hi this 0 p1) this 1 p2 := ⟨_, rfl⟩
  replace h := h hi1 ehi1
  rw [← ehi1]
  refine And.intro ⟨(sh_sk h_this), trivial⟩ ?_
  refine And.intro ⟨(sh_sk h_this), trivial⟩ ?_
  obtain ⟨hi2, ehi2⟩ : ∃ m : pm_B, m = pm_u (pm_u hi1 this 2 p3) this 3 0 := ⟨_, rfl⟩
  replace h := h hi2 ehi2
  rw [← ehi2]
  refine And.intro ⟨(sh_sk h_this), trivial⟩ ?_
  exact h
theorem v_Text_begin {L d : Nat} {this : Nat} (h_this : pm_tx this) {hi : pm_B} {Q : pm_Q} (h : ∀ hi1 : pm_B, hi1 = pm_u (pm_u hi this 0 0) this 1 0 → (Q none (pm_u hi1 this 2 0))) : pm_C pm_g (SH L) HR (d + 1) m_Text_begin [.inr this] hi Q := by
  refine pm_C_of (maxL := 1) (t := pm_t71) rfl (Nat.le_of_ble_eq_true rfl) ?_
  refine pm_W_of 12 [] rfl ?_
  refine And.intro ⟨(sh_tx h_this), trivial⟩ ?_
  refine And.intro ⟨(sh_tx h_this), trivial⟩ ?_
  obtain ⟨hi1, ehi1⟩ : ∃ m : pm_B, m = pm_u (pm_u hi this 0 0) this 1 0 := ⟨_, rfl⟩
  replace h := h hi1 ehi1
  rw [← ehi1]
  refine And.intro ⟨(sh_tx h_this), trivial⟩ ?_
  exact h
theorem v_Text_put {L d : Nat} {this : Nat} (h_this : pm_tx this) {p1 : Int32} {hi : pm_B} {Q : pm_Q} (h : (((hi this 2) < 0) → Q none hi) ∧ ((¬ ((hi this 2) < 0)) → (((hi this 2) < 96) → ∃ k3 : Nat, k3 < 96 ∧ (hi this 2) = nI k3 ∧ (∀ hi4 : pm_B, hi4 = pm_u (pm_u hi (this + 1) k3 p1) this 2 (((pm_u hi (this + 1) k3 p1) this 2) + 1) → (Q none hi4))) ∧ ((¬ ((hi this 2) < 96)) → Q none hi))) : pm_C pm_g (SH L) HR (d + 1) m_Text_put [.inr this, .inl p1] hi Q := by
  refine pm_C_of (maxL := 2) (t := pm_t72) rfl (Nat.le_of_ble_eq_true rfl) ?_
  refine pm_W_of 24 [] rfl ?_
  refine And.intro (sh_tx h_this) ?_
  refine And.intro (fun c1 => ?_) (fun c1 => ?_)
  · replace h := h.1 c1
    exact h
  · replace h := h.2 c1
    refine And.intro (sh_tx h_this) ?_
    refine And.intro (sh_tx h_this) ?_
    rw [(hr_tx h_this)]
    refine ⟨96, ⟨0, _, (sh_tx1 h_this)⟩, ?_⟩
    rw [show nI 96 = (96 : Int32) from rfl]
    refine And.intro (fun c2 => ?_) (fun c2 => ?_)
    · replace h := h.1 c2
      refine And.intro (sh_tx h_this) ?_
      rw [(hr_tx h_this)]
      refine And.intro (sh_tx h_this) ?_
      obtain ⟨k3, hkk3, hek3, h⟩ := h
      refine And.intro ⟨pm_aw_of (sh_tx1 h_this) hkk3 hek3 (by decide), trivial⟩ ?_
      rw [pm_tn hek3 hkk3 (by decide)]
      refine And.intro (sh_tx h_this) ?_
      refine And.intro ⟨(sh_tx h_this), trivial⟩ ?_
      obtain ⟨hi4, ehi4⟩ : ∃ m : pm_B, m = pm_u (pm_u hi (this + 1) k3 p1) this 2 (((pm_u hi (this + 1) k3 p1) this 2) + 1) := ⟨_, rfl⟩
      replace h := h hi4 ehi4
      rw [← ehi4]
      exact h
    · replace h := h.2 c2
      exact h
theorem v_Slot_holdSpeaker {L d : Nat} {this : Nat} (h_this : pm_su this) {p1 : Nat} (h_p1 : pm_sk p1) {hi : pm_B} {Q : pm_Q} (h : ∀ hi1 : pm_B, hi1 = pm_u (pm_u hi this 1 (hi p1 0)) this 2 ((pm_u hi this 1 (hi p1 0)) p1 2) → (Q none hi1)) : pm_C pm_g (SH L) HR (d + 1) m_Slot_holdSpeaker [.inr this, .inr p1] hi Q := by
  refine pm_C_of (maxL := 2) (t := pm_t59) rfl (Nat.le_of_ble_eq_true rfl) ?_
  refine pm_W_of 11 [] rfl ?_
  refine And.intro (sh_sk h_p1) ?_
  refine And.intro ⟨(sh_su h_this), trivial⟩ ?_
  refine And.intro (sh_sk h_p1) ?_
  refine And.intro ⟨(sh_su h_this), trivial⟩ ?_
  obtain ⟨hi1, ehi1⟩ : ∃ m : pm_B, m = pm_u (pm_u hi this 1 (hi p1 0)) this 2 ((pm_u hi this 1 (hi p1 0)) p1 2) := ⟨_, rfl⟩
  replace h := h hi1 ehi1
  rw [← ehi1]
  exact h
theorem v_M_comes {L d : Nat} {p1 : Int32} {p2 : Int32} {p3 : Int32} {hi : pm_B} {Q : pm_Q} (h : ∃ k1 : Nat, k1 < 1611 ∧ ((7 + (29 * (hi 142 1))) + 0) = nI k1 ∧ (∀ hi2 : pm_B, hi2 = pm_u (pm_u hi 142 1 ((hi 142 1) + 1)) 142 k1 p1 → (∃ k3 : Nat, k3 < 1611 ∧ ((7 + (29 * (hi 142 1))) + 1) = nI k3 ∧ (∀ hi4 : pm_B, hi4 = pm_u hi2 142 k3 p2 → (∃ k5 : Nat, k5 < 1611 ∧ ((7 + (29 * (hi 142 1))) + 2) = nI k5 ∧ (∀ hi6 : pm_B, hi6 = pm_u hi4 142 k5 p3 → (∃ k7 : Nat, k7 < 1611 ∧ ((7 + (29 * (hi 142 1))) + 3) = nI k7 ∧ (∀ hi8 : pm_B, hi8 = pm_u hi6 142 k7 0 → (∃ k9 : Nat, k9 < 1611 ∧ ((7 + (29 * (hi 142 1))) + 4) = nI k9 ∧ (∀ hi10 : pm_B, hi10 = pm_u hi8 142 k9 0 → (Q (some (.inl (hi 142 1))) hi10))))))))))) : pm_C pm_g (SH L) HR (d + 2) m_M_comes [.inr 141, .inl p1, .inl p2, .inl p3] hi Q := by
  refine pm_C_of (maxL := 5) (t := pm_t144) rfl (Nat.le_of_ble_eq_true rfl) ?_
  refine pm_W_of 42 [] rfl ?_
  refine And.intro sh_l141 ?_
  rw [hr_141_0]
  refine And.intro (pm_ao_of (t := 0) sh_l142 (by decide : 1 < 1611) (rfl : (1 : Int32) = nI 1) (by decide)) ?_
  rw [pm_tn (rfl : (1 : Int32) = nI 1) (by decide : 1 < 1611) (by decide)]
  refine And.intro sh_l141 ?_
  rw [hr_141_0]
  refine And.intro (pm_ao_of (t := 0) sh_l142 (by decide : 1 < 1611) (rfl : (1 : Int32) = nI 1) (by decide)) ?_
  rw [pm_tn (rfl : (1 : Int32) = nI 1) (by decide : 1 < 1611) (by decide)]
  refine And.intro ⟨pm_aw_of sh_l142 (by decide : 1 < 1611) (rfl : (1 : Int32) = nI 1) (by decide), trivial⟩ ?_
  rw [pm_tn (rfl : (1 : Int32) = nI 1) (by decide : 1 < 1611) (by decide)]
  refine And.intro sh_l141 ?_
  refine v_M_put (d := d)  ?_
  obtain ⟨k1, hkk1, hek1, h⟩ := h
  refine ⟨k1, hkk1, hek1, ?_⟩
  refine ⟨rfl, ?_⟩
  obtain ⟨hi2, ehi2⟩ : ∃ m : pm_B, m = pm_u (pm_u hi 142 1 ((hi 142 1) + 1)) 142 k1 p1 := ⟨_, rfl⟩
  replace h := h hi2 ehi2
  rw [← ehi2]
  refine And.intro sh_l141 ?_
  refine v_M_put (d := d)  ?_
  obtain ⟨k3, hkk3, hek3, h⟩ := h
  refine ⟨k3, hkk3, hek3, ?_⟩
  refine ⟨rfl, ?_⟩
  obtain ⟨hi4, ehi4⟩ : ∃ m : pm_B, m = pm_u hi2 142 k3 p2 := ⟨_, rfl⟩
  replace h := h hi4 ehi4
  rw [← ehi4]
  refine And.intro sh_l141 ?_
  refine v_M_put (d := d)  ?_
  obtain ⟨k5, hkk5, hek5, h⟩ := h
  refine ⟨k5, hkk5, hek5, ?_⟩
  refine ⟨rfl, ?_⟩
  obtain ⟨hi6, ehi6⟩ : ∃ m : pm_B, m = pm_u hi4 142 k5 p3 := ⟨_, rfl⟩
  replace h := h hi6 ehi6
  rw [← ehi6]
  refine And.intro sh_l141 ?_
  refine v_M_put (d := d)  ?_
  obtain ⟨k7, hkk7, hek7, h⟩ := h
  refine ⟨k7, hkk7, hek7, ?_⟩
  refine ⟨rfl, ?_⟩
  obtain ⟨hi8, ehi8⟩ : ∃ m : pm_B, m = pm_u hi6 142 k7 0 := ⟨_, rfl⟩
  replace h := h hi8 ehi8
  rw [← ehi8]
  refine And.intro sh_l141 ?_
  refine v_M_put (d := d)  ?_
  obtain ⟨k9, hkk9, hek9, h⟩ := h
  refine ⟨k9, hkk9, hek9, ?_⟩
  refine ⟨rfl, ?_⟩
  obtain ⟨hi10, ehi10⟩ : ∃ m : pm_B, m = pm_u hi8 142 k9 0 := ⟨_, rfl⟩
  replace h := h hi10 ehi10
  rw [← ehi10]
  refine And.intro trivial ?_
  exact h
theorem v_M_speaksOne {L d : Nat} {p1 : Int32} {hi : pm_B} {Q : pm_Q} (h : ((p1 < 0) → Q none hi) ∧ ((¬ (p1 < 0)) → ∃ k2 : Nat, k2 < 12 ∧ (hi 141 5) = nI k2 ∧ (∀ hi3 : pm_B, hi3 = pm_u (pm_u hi 145 k2 p1) 141 5 (((pm_u hi 145 k2 p1) 141 5) + 1) → (Q none hi3)))) : pm_C pm_g (SH L) HR (d + 1) m_M_speaksOne [.inr 141, .inl p1] hi Q := by
  refine pm_C_of (maxL := 2) (t := pm_t160) rfl (Nat.le_of_ble_eq_true rfl) ?_
  refine pm_W_of 17 [] rfl ?_
  refine And.intro (fun c1 => ?_) (fun c1 => ?_)
  · replace h := h.1 c1
    exact h
  · replace h := h.2 c1
    refine And.intro sh_l141 ?_
    rw [hr_141_4]
    refine And.intro sh_l141 ?_
    obtain ⟨k2, hkk2, hek2, h⟩ := h
    refine And.intro ⟨pm_aw_of sh_l145 hkk2 hek2 (by decide), trivial⟩ ?_
    rw [pm_tn hek2 hkk2 (by decide)]
    refine And.intro sh_l141 ?_
    refine And.intro ⟨sh_l141, trivial⟩ ?_
    obtain ⟨hi3, ehi3⟩ : ∃ m : pm_B, m = pm_u (pm_u hi 145 k2 p1) 141 5 (((pm_u hi 145 k2 p1) 141 5) + 1) := ⟨_, rfl⟩
    replace h := h hi3 ehi3
    rw [← ehi3]
    exact h
theorem v_Folk_takeLaw {L d : Nat} {this : Nat} (h_this : pm_fo this) {p1 : Int32} {hi : pm_B} {Q : pm_Q} (h : ((p1 < 0) → Q none hi) ∧ ((¬ (p1 < 0)) → ((p1 < 3) → ∃ k3 : Nat, k3 < 3 ∧ p1 = nI k3 ∧ (∀ hi4 : pm_B, hi4 = pm_u (pm_u hi (this + 18) k3 (hi this 8)) this 8 (((pm_u hi (this + 18) k3 (hi this 8)) this 8) + 1) → (Q none hi4))) ∧ ((¬ (p1 < 3)) → Q none hi))) : pm_C pm_g (SH L) HR (d + 1) m_Folk_takeLaw [.inr this, .inl p1] hi Q := by
  refine pm_C_of (maxL := 2) (t := pm_t8) rfl (Nat.le_of_ble_eq_true rfl) ?_
  refine pm_W_of 22 [] rfl ?_
  refine And.intro (fun c1 => ?_) (fun c1 => ?_)
  · replace h := h.1 c1
    exact h
  · replace h := h.2 c1
    refine And.intro (sh_fo h_this) ?_
    rw [(hr_fo9 h_this)]
    refine ⟨3, ⟨0, _, (sh_fo18 h_this)⟩, ?_⟩
    rw [show nI 3 = (3 : Int32) from rfl]
    refine And.intro (fun c2 => ?_) (fun c2 => ?_)
    · replace h := h.1 c2
      refine And.intro (sh_fo h_this) ?_
      rw [(hr_fo9 h_this)]
      refine And.intro (sh_fo h_this) ?_
      obtain ⟨k3, hkk3, hek3, h⟩ := h
      refine And.intro ⟨pm_aw_of (sh_fo18 h_this) hkk3 hek3 (by decide), trivial⟩ ?_
      rw [pm_tn hek3 hkk3 (by decide)]
      refine And.intro (sh_fo h_this) ?_
      refine And.intro ⟨(sh_fo h_this), trivial⟩ ?_
      obtain ⟨hi4, ehi4⟩ : ∃ m : pm_B, m = pm_u (pm_u hi (this + 18) k3 (hi this 8)) this 8 (((pm_u hi (this + 18) k3 (hi this 8)) this 8) + 1) := ⟨_, rfl⟩
      replace h := h hi4 ehi4
      rw [← ehi4]
      exact h
    · replace h := h.2 c2
      exact h
theorem v_Parser_fail {L d : Nat}  {hi : pm_B} {Q : pm_Q} (h : ((¬ (hi 109 7) = (-1000000005)) → Q none (pm_u hi 109 2 4)) ∧ ((¬ (¬ (hi 109 7) = (-1000000005))) → ∀ hi2 : pm_B, hi2 = pm_u (pm_u hi 109 7 (hi 109 3)) 109 2 4 → (Q none hi2))) : pm_C pm_g (SH L) HR (d + 1) m_Parser_fail [.inr 109] hi Q := by
  refine pm_C_of (maxL := 1) (t := pm_t29) rfl (Nat.le_of_ble_eq_true rfl) ?_
  refine pm_W_of 14 [] rfl ?_
  refine And.intro sh_l109 ?_
  refine And.intro (fun c1 => ?_) (fun c1 => ?_)
  · replace h := h.1 c1
    refine And.intro ⟨sh_l109, trivial⟩ ?_
    exact h
  · replace h := h.2 c1
    refine And.intro sh_l109 ?_
    refine And.intro ⟨sh_l109, trivial⟩ ?_
    refine And.intro ⟨sh_l109, trivial⟩ ?_
    obtain ⟨hi2, ehi2⟩ : ∃ m : pm_B, m = pm_u (pm_u hi 109 7 (hi 109 3)) 109 2 4 := ⟨_, rfl⟩
    replace h := h hi2 ehi2
    rw [← ehi2]
    exact h
theorem v_E_isTold {L d : Nat} {p1 : Int32} {p2 : Int32} {p3 : Int32} {hi : pm_B} {Q : pm_Q} (h : ((p1 < 0) → Q (some (.inl 0)) hi) ∧ ((¬ (p1 < 0)) → ((p2 ≤ p1) → Q (some (.inl 0)) hi) ∧ ((¬ (p2 ≤ p1)) → ((60 ≤ p1) → Q (some (.inl 0)) hi) ∧ ((¬ (60 ≤ p1)) → ∃ k4 : Nat, k4 < 60 ∧ p1 = nI k4 ∧ (((¬ (hi 140 k4) = p3) → Q (some (.inl 0)) hi) ∧ ((¬ (¬ (hi 140 k4) = p3)) → Q (some (.inl 1)) hi)))))) : pm_C pm_g (SH L) HR (d + 1) m_E_isTold [.inr 16, .inl p1, .inl p2, .inl p3] hi Q := by
  refine pm_C_of (maxL := 4) (t := pm_t134) rfl (Nat.le_of_ble_eq_true rfl) ?_
  refine pm_W_of 21 [] rfl ?_
  refine And.intro (fun c1 => ?_) (fun c1 => ?_)
  · replace h := h.1 c1
    refine And.intro (Or.inl rfl) ?_
    exact h
  · replace h := h.2 c1
    refine And.intro (fun c2 => ?_) (fun c2 => ?_)
    · replace h := h.1 c2
      refine And.intro (Or.inl rfl) ?_
      exact h
    · replace h := h.2 c2
      refine And.intro sh_l16 ?_
      rw [hr_16_11]
      refine ⟨60, ⟨0, _, sh_l140⟩, ?_⟩
      rw [show nI 60 = (60 : Int32) from rfl]
      refine And.intro (fun c3 => ?_) (fun c3 => ?_)
      · replace h := h.1 c3
        refine And.intro (Or.inl rfl) ?_
        exact h
      · replace h := h.2 c3
        refine And.intro sh_l16 ?_
        rw [hr_16_11]
        obtain ⟨k4, hkk4, hek4, h⟩ := h
        refine And.intro (pm_ao_of (t := 0) sh_l140 hkk4 hek4 (by decide)) ?_
        rw [pm_tn hek4 hkk4 (by decide)]
        refine And.intro (fun c5 => ?_) (fun c5 => ?_)
        · replace h := h.1 c5
          refine And.intro (Or.inl rfl) ?_
          exact h
        · replace h := h.2 c5
          refine And.intro (Or.inr rfl) ?_
          exact h
theorem v_String_coder {L d : Nat} {this : Nat} (h_this : pm_sr this) {hi : pm_B} {Q : pm_Q} (h : pm_fit 1 (hi this 1) ∧ (Q (some (.inl (hi this 1))) hi)) : pm_C pm_g (SH L) HR (d + 1) m_String_coder [.inr this] hi Q := by
  refine pm_C_of (maxL := 1) (t := pm_t236) rfl (Nat.le_of_ble_eq_true rfl) ?_
  refine pm_W_of 8 [] rfl ?_
  refine And.intro (fun hc => absurd hc (pm_cd_f (by decide))) (fun _ => ?_)
  refine And.intro (sh_sr h_this) ?_
  refine And.intro h.1 ?_
  replace h := h.2
  exact h
theorem v_String_isLatin1 {L d : Nat} {this : Nat} (h_this : pm_sr this) {hi : pm_B} {Q : pm_Q} (h : ((¬ (hi this 1) = 0) → Q (some (.inl 0)) hi) ∧ ((¬ (¬ (hi this 1) = 0)) → Q (some (.inl 1)) hi)) : pm_C pm_g (SH L) HR (d + 1) m_String_isLatin1 [.inr this] hi Q := by
  refine pm_C_of (maxL := 1) (t := pm_t237) rfl (Nat.le_of_ble_eq_true rfl) ?_
  refine pm_W_of 10 [] rfl ?_
  refine And.intro (fun hc => absurd hc (pm_cd_f (by decide))) (fun _ => ?_)
  refine And.intro (sh_sr h_this) ?_
  refine And.intro (fun c1 => ?_) (fun c1 => ?_)
  · replace h := h.1 c1
    refine And.intro (Or.inl rfl) ?_
    exact h
  · replace h := h.2 c1
    refine And.intro (Or.inr rfl) ?_
    exact h
theorem v_String_length {L d : Nat} {this : Nat} (h_this : pm_sr this) {hi : pm_B} {Q : pm_Q} (h : pm_fit 1 (hi this 1) ∧ (Q (some (.inl ((nI (slen this)) >>> ((hi this 1) &&& 31)))) hi)) : pm_C pm_g (SH L) HR (d + 2) m_String_length [.inr this] hi Q := by
  refine pm_C_of (maxL := 1) (t := pm_t232) rfl (Nat.le_of_ble_eq_true rfl) ?_
  refine pm_W_of 9 [] rfl ?_
  refine And.intro (sh_sr h_this) ?_
  rw [(hr_sr h_this)]
  refine ⟨(slen this), ⟨1, _, (sh_sr6 h_this)⟩, ?_⟩
  refine And.intro (sh_sr h_this) ?_
  refine v_String_coder (d := d) h_this ?_
  refine And.intro h.1 ?_
  replace h := h.2
  refine ⟨_, rfl, ?_⟩
  refine And.intro trivial ?_
  exact h
theorem v_Preconditions_checkIndex {L d : Nat} {p1 : Int32} {p2 : Int32} {hi : pm_B} {Q : pm_Q} (h : ((p1 < 0) → False) ∧ ((¬ (p1 < 0)) → ((p1 < p2) → Q (some (.inl p1)) hi) ∧ ((¬ (p1 < p2)) → False))) : pm_C pm_g (SH L) HR (d + 1) m_Preconditions_checkIndex [.inl p1, .inl p2, .inr 15] hi Q := by
  refine pm_C_of (maxL := 3) (t := pm_t244) rfl (Nat.le_of_ble_eq_true rfl) ?_
  refine pm_W_of 11 [] rfl ?_
  refine And.intro (fun c1 => ?_) (fun c1 => ?_)
  · replace h := h.1 c1
    exact h.elim
  · replace h := h.2 c1
    refine And.intro (fun c2 => ?_) (fun c2 => ?_)
    · replace h := h.1 c2
      refine And.intro trivial ?_
      exact h
    · replace h := h.2 c2
      exact h.elim
theorem v_String_checkIndex {L d : Nat} {p1 : Int32} {p2 : Int32} {hi : pm_B} {Q : pm_Q} (h : ((p1 < 0) → False) ∧ ((¬ (p1 < 0)) → ((p1 < p2) → Q none hi) ∧ ((¬ (p1 < p2)) → False))) : pm_C pm_g (SH L) HR (d + 2) m_String_checkIndex [.inl p1, .inl p2] hi Q := by
  refine pm_C_of (maxL := 2) (t := pm_t238) rfl (Nat.le_of_ble_eq_true rfl) ?_
  refine pm_W_of 11 [] rfl ?_
  refine And.intro trivial ?_
  refine v_Preconditions_checkIndex (d := d)  ?_
  refine And.intro (fun c1 => ?_) (fun c1 => ?_)
  · replace h := h.1 c1
    exact h.elim
  · replace h := h.2 c1
    refine And.intro (fun c2 => ?_) (fun c2 => ?_)
    · replace h := h.1 c2
      refine ⟨_, rfl, ?_⟩
      exact h
    · replace h := h.2 c2
      exact h.elim
theorem v_StringLatin1_charAt {L d : Nat} {p1 n_p1 : Nat} (h_p1 : (SH L)[p1]? = some (2, 1, n_p1)) (hl_p1 : n_p1 ≤ 2147483648) {p2 : Int32} {hi : pm_B} {Q : pm_Q} (h : ((p2 < 0) → False) ∧ ((¬ (p2 < 0)) → ((p2 < (nI n_p1)) → ∃ k3 : Nat, k3 < n_p1 ∧ p2 = nI k3 ∧ (pm_fit 2 ((Int32.toUInt32 ((hi p1 k3) &&& 255) % 65536).toInt32) ∧ (Q (some (.inl (Int32.toUInt32 ((hi p1 k3) &&& 255) % 65536).toInt32)) hi))) ∧ ((¬ (p2 < (nI n_p1))) → False))) : pm_C pm_g (SH L) HR (d + 3) m_StringLatin1_charAt [.inr p1, .inl p2] hi Q := by
  refine pm_C_of (maxL := 2) (t := pm_t240) rfl (Nat.le_of_ble_eq_true rfl) ?_
  refine pm_W_of 13 [] rfl ?_
  refine ⟨n_p1, ⟨1, _, h_p1⟩, ?_⟩
  refine And.intro trivial ?_
  refine v_String_checkIndex (d := d)  ?_
  refine And.intro (fun c1 => ?_) (fun c1 => ?_)
  · replace h := h.1 c1
    exact h.elim
  · replace h := h.2 c1
    refine And.intro (fun c2 => ?_) (fun c2 => ?_)
    · replace h := h.1 c2
      refine ⟨rfl, ?_⟩
      obtain ⟨k3, hkk3, hek3, h⟩ := h
      refine And.intro (pm_ao_of (t := 1) h_p1 hkk3 hek3 hl_p1) ?_
      rw [pm_tn hek3 hkk3 hl_p1]
      refine And.intro h.1 ?_
      replace h := h.2
      exact h
    · replace h := h.2 c2
      exact h.elim
theorem v_String_charAt {L d : Nat} {this : Nat} (h_this : pm_sr this) {p1 : Int32} {hi : pm_B} {Q : pm_Q} (h : ((¬ (hi this 1) = 0) → False) ∧ ((¬ (¬ (hi this 1) = 0)) → ((p1 < 0) → False) ∧ ((¬ (p1 < 0)) → ((p1 < (nI (slen this))) → ∃ k4 : Nat, k4 < (slen this) ∧ p1 = nI k4 ∧ (pm_fit 2 ((Int32.toUInt32 ((hi (this + 6) k4) &&& 255) % 65536).toInt32) ∧ (pm_fit 2 ((Int32.toUInt32 ((hi (this + 6) k4) &&& 255) % 65536).toInt32) ∧ (Q (some (.inl (Int32.toUInt32 ((hi (this + 6) k4) &&& 255) % 65536).toInt32)) hi)))) ∧ ((¬ (p1 < (nI (slen this)))) → False)))) : pm_C pm_g (SH L) HR (d + 4) m_String_charAt [.inr this, .inl p1] hi Q := by
  refine pm_C_of (maxL := 2) (t := pm_t233) rfl (Nat.le_of_ble_eq_true rfl) ?_
  refine pm_W_of 13 [] rfl ?_
  refine And.intro (sh_sr h_this) ?_
  refine v_String_isLatin1 (d := d + 2) h_this ?_
  refine And.intro (fun c1 => ?_) (fun c1 => ?_)
  · replace h := h.1 c1
    refine ⟨_, rfl, ?_⟩
    refine And.intro (fun _ => ?_) (fun hc => absurd (pm_cd_t (by decide)) hc)
    refine And.intro (sh_sr h_this) ?_
    rw [(hr_sr h_this)]
    exact h.elim
  · replace h := h.2 c1
    refine ⟨_, rfl, ?_⟩
    refine And.intro (fun hc => absurd hc (pm_cd_f (by decide))) (fun _ => ?_)
    refine And.intro (sh_sr h_this) ?_
    rw [(hr_sr h_this)]
    refine And.intro trivial ?_
    refine v_StringLatin1_charAt (d := d) (sh_sr6 h_this) (slen_lt h_this) ?_
    refine And.intro (fun c2 => ?_) (fun c2 => ?_)
    · replace h := h.1 c2
      exact h.elim
    · replace h := h.2 c2
      refine And.intro (fun c3 => ?_) (fun c3 => ?_)
      · replace h := h.1 c3
        obtain ⟨k4, hkk4, hek4, h⟩ := h
        refine ⟨k4, hkk4, hek4, ?_⟩
        refine And.intro h.1 ?_
        replace h := h.2
        refine ⟨_, rfl, ?_⟩
        refine And.intro h.1 ?_
        replace h := h.2
        exact h
      · replace h := h.2 c3
        exact h.elim
theorem v_StringLatin1_canEncode {L d : Nat} {p1 : Int32} {hi : pm_B} {Q : pm_Q} (h : ((p1 < 0) → Q (some (.inl 0)) hi) ∧ ((¬ (p1 < 0)) → ((255 < p1) → Q (some (.inl 0)) hi) ∧ ((¬ (255 < p1)) → Q (some (.inl 1)) hi))) : pm_C pm_g (SH L) HR (d + 1) m_StringLatin1_canEncode [.inl p1] hi Q := by
  refine pm_C_of (maxL := 1) (t := pm_t241) rfl (Nat.le_of_ble_eq_true rfl) ?_
  refine pm_W_of 10 [] rfl ?_
  refine And.intro (fun c1 => ?_) (fun c1 => ?_)
  · replace h := h.1 c1
    refine And.intro (Or.inl rfl) ?_
    exact h
  · replace h := h.2 c1
    refine And.intro (fun c2 => ?_) (fun c2 => ?_)
    · replace h := h.1 c2
      refine And.intro (Or.inl rfl) ?_
      exact h
    · replace h := h.2 c2
      refine And.intro (Or.inr rfl) ?_
      exact h
theorem v_Parser_namesOf {L d : Nat} {p1 : Int32} {hi : pm_B} {Q : pm_Q} (h : ((p1 = 0) → Q (some (.inr 6)) hi) ∧ ((¬ p1 = 0) → ((p1 = 1) → Q (some (.inr 7)) hi) ∧ ((¬ p1 = 1) → Q (some (.inr 8)) hi))) : pm_C pm_g (SH L) HR (d + 1) m_Parser_namesOf [.inl p1] hi Q := by
  refine pm_C_of (maxL := 1) (t := pm_t43) rfl (Nat.le_of_ble_eq_true rfl) ?_
  refine pm_W_of 6 [] rfl ?_
  intro pc1 hsw
  by_cases c1 : p1 = 0
  · rw [pm_sw_t c1] at hsw
    subst hsw
    replace h := h.1 c1
    exact h
  · rw [pm_sw_f c1] at hsw
    replace h := h.2 c1
    by_cases c2 : p1 = 1
    · rw [pm_sw_t c2] at hsw
      subst hsw
      replace h := h.1 c2
      exact h
    · rw [pm_sw_f c2] at hsw
      replace h := h.2 c2
      replace hsw : 34 = pc1 := hsw
      subst hsw
      exact h
