/-! printed by program (wip/whole/vcg.py): what each method needs -/
theorem v_M_copyAll {L d : Nat} {p1 n_p1 : Nat} (h_p1 : (SH L)[p1]? = some (1, 0, n_p1)) (hl_p1 : n_p1 ≤ 2147483648) {p2 n_p2 : Nat} (h_p2 : (SH L)[p2]? = some (1, 0, n_p2)) (hl_p2 : n_p2 ≤ 2147483648) {hi : pm_B} {Q : pm_Q} (h : pm_W pm_g (SH L) HR (d) pm_t138 2 [some (.inr p1), some (.inr p2), some (.inl 0)] [] hi Q) : pm_C pm_g (SH L) HR (d + 1) m_M_copyAll [.inr p1, .inr p2] hi Q := by
  refine pm_C_of (maxL := 3) (t := pm_t138) rfl (Nat.le_of_ble_eq_true rfl) ?_
  refine pm_W_of 4 [2] rfl ?_
  exact h
theorem v_M_copyAll_2 {L d : Nat}  {p1 n_p1 : Nat} (h_p1 : (SH L)[p1]? = some (1, 0, n_p1)) (hl_p1 : n_p1 ≤ 2147483648) {p2 n_p2 : Nat} (h_p2 : (SH L)[p2]? = some (1, 0, n_p2)) (hl_p2 : n_p2 ≤ 2147483648) {y2 : Int32} {hi : pm_B} {Q : pm_Q} (h : ((1611 ≤ y2) → Q none hi) ∧ ((¬ (1611 ≤ y2)) → ∃ k2 : Nat, k2 < n_p1 ∧ y2 = nI k2 ∧ (∃ k3 : Nat, k3 < n_p2 ∧ y2 = nI k3 ∧ (pm_W pm_g (SH L) HR (d) pm_t138 2 [some (.inr p1), some (.inr p2), some (.inl (y2 + 1))] [] (pm_u hi p2 k3 (hi p1 k2)) Q)))) : pm_W pm_g (SH L) HR (d) pm_t138 2 [some (.inr p1), some (.inr p2), some (.inl y2)] [] hi Q := by
  refine pm_W_of 13 [2] rfl ?_
  refine And.intro (fun c1 => ?_) (fun c1 => ?_)
  · replace h := h.1 c1
    exact h
  · replace h := h.2 c1
    obtain ⟨k2, hkk2, hek2, h⟩ := h
    refine And.intro (pm_ao_of (t := 0) h_p1 hkk2 hek2 hl_p1) ?_
    rw [pm_tn hek2 hkk2 hl_p1]
    obtain ⟨k3, hkk3, hek3, h⟩ := h
    refine And.intro ⟨pm_aw_of h_p2 hkk3 hek3 hl_p2, trivial⟩ ?_
    rw [pm_tn hek3 hkk3 hl_p2]
    exact h
theorem v_M_speaker {L d : Nat} {p1 : Int32} {p2 : Int32} {p3 : Int32} {hi : pm_B} {Q : pm_Q} (h : ((p1 < 0) → Q (some (.inl (-1000000001))) hi) ∧ ((¬ (p1 < 0)) → ((5 < p1) → Q (some (.inl (-1000000001))) hi) ∧ ((¬ (5 < p1)) → ((p2 < 1) → Q (some (.inl (-1000000001))) hi) ∧ ((¬ (p2 < 1)) → ((9 < p2) → Q (some (.inl (-1000000001))) hi) ∧ ((¬ (9 < p2)) → ((p3 < 0) → Q (some (.inl (-1000000001))) hi) ∧ ((¬ (p3 < 0)) → ((99 < p3) → Q (some (.inl (-1000000001))) hi) ∧ ((¬ (99 < p3)) → ((¬ (hi 142 1) = 8) → ∃ k8 : Nat, k8 < 1611 ∧ ((7 + (29 * (hi 142 1))) + 0) = nI k8 ∧ (∀ hi9 : pm_B, hi9 = pm_u (pm_u hi 142 1 ((hi 142 1) + 1)) 142 k8 p1 → (∃ k10 : Nat, k10 < 1611 ∧ ((7 + (29 * (hi 142 1))) + 1) = nI k10 ∧ (∀ hi11 : pm_B, hi11 = pm_u hi9 142 k10 p2 → (∃ k12 : Nat, k12 < 1611 ∧ ((7 + (29 * (hi 142 1))) + 2) = nI k12 ∧ (∀ hi13 : pm_B, hi13 = pm_u hi11 142 k12 p3 → (∃ k14 : Nat, k14 < 1611 ∧ ((7 + (29 * (hi 142 1))) + 3) = nI k14 ∧ (∀ hi15 : pm_B, hi15 = pm_u hi13 142 k14 0 → (∃ k16 : Nat, k16 < 1611 ∧ ((7 + (29 * (hi 142 1))) + 4) = nI k16 ∧ (∀ hi17 : pm_B, hi17 = pm_u hi15 142 k16 0 → (Q (some (.inl (hi 142 1))) hi17))))))))))) ∧ ((¬ (¬ (hi 142 1) = 8)) → Q (some (.inl (-1000000003))) hi)))))))) : pm_C pm_g (SH L) HR (d + 3) m_M_speaker [.inr 141, .inl p1, .inl p2, .inl p3] hi Q := by
  refine pm_C_of (maxL := 4) (t := pm_t146) rfl (Nat.le_of_ble_eq_true rfl) ?_
  refine pm_W_of 42 [] rfl ?_
  refine And.intro trivial ?_
  refine v_M_in (d := d + 1)  ?_
  refine And.intro (fun c1 => ?_) (fun c1 => ?_)
  · replace h := h.1 c1
    refine ⟨_, rfl, ?_⟩
    refine And.intro (fun _ => ?_) (fun hc => absurd (pm_cd_t (by decide)) hc)
    refine And.intro trivial ?_
    exact h
  · replace h := h.2 c1
    refine And.intro (fun c2 => ?_) (fun c2 => ?_)
    · replace h := h.1 c2
      refine ⟨_, rfl, ?_⟩
      refine And.intro (fun _ => ?_) (fun hc => absurd (pm_cd_t (by decide)) hc)
      refine And.intro trivial ?_
      exact h
    · replace h := h.2 c2
      refine ⟨_, rfl, ?_⟩
      refine And.intro (fun hc => absurd hc (pm_cd_f (by decide))) (fun _ => ?_)
      refine And.intro trivial ?_
      refine v_M_isOf (d := d)  ?_
      refine And.intro (fun hc => absurd hc (by decide)) (fun _ => ?_)
      refine And.intro (fun c3 => ?_) (fun c3 => ?_)
      · replace h := h.1 c3
        refine ⟨_, rfl, ?_⟩
        refine And.intro (fun _ => ?_) (fun hc => absurd (pm_cd_t (by decide)) hc)
        refine And.intro trivial ?_
        exact h
      · replace h := h.2 c3
        refine And.intro (fun c4 => ?_) (fun c4 => ?_)
        · replace h := h.1 c4
          refine ⟨_, rfl, ?_⟩
          refine And.intro (fun _ => ?_) (fun hc => absurd (pm_cd_t (by decide)) hc)
          refine And.intro trivial ?_
          exact h
        · replace h := h.2 c4
          refine ⟨_, rfl, ?_⟩
          refine And.intro (fun hc => absurd hc (pm_cd_f (by decide))) (fun _ => ?_)
          refine And.intro trivial ?_
          refine v_M_isOf (d := d)  ?_
          refine And.intro (fun _ => ?_) (fun hc => absurd (by decide) hc)
          refine And.intro (fun c5 => ?_) (fun c5 => ?_)
          · replace h := h.1 c5
            refine ⟨_, rfl, ?_⟩
            refine And.intro (fun hc => absurd hc (pm_cd_f (by decide))) (fun _ => ?_)
            refine And.intro trivial ?_
            exact h
          · replace h := h.2 c5
            refine And.intro (fun c6 => ?_) (fun c6 => ?_)
            · replace h := h.1 c6
              refine ⟨_, rfl, ?_⟩
              refine And.intro (fun hc => absurd hc (pm_cd_f (by decide))) (fun _ => ?_)
              refine And.intro trivial ?_
              exact h
            · replace h := h.2 c6
              refine ⟨_, rfl, ?_⟩
              refine And.intro (fun _ => ?_) (fun hc => absurd (pm_cd_t (by decide)) hc)
              refine And.intro sh_l141 ?_
              rw [hr_141_0]
              refine And.intro (pm_ao_of (t := 0) sh_l142 (by decide : 1 < 1611) (rfl : (1 : Int32) = nI 1) (by decide)) ?_
              rw [pm_tn (rfl : (1 : Int32) = nI 1) (by decide : 1 < 1611) (by decide)]
              refine And.intro (fun c7 => ?_) (fun c7 => ?_)
              · replace h := h.1 c7
                refine And.intro sh_l141 ?_
                refine v_M_comes (d := d)  ?_
                obtain ⟨k8, hkk8, hek8, h⟩ := h
                refine ⟨k8, hkk8, hek8, ?_⟩
                intro hi9 ehi9
                replace h := h hi9 ehi9
                obtain ⟨k10, hkk10, hek10, h⟩ := h
                refine ⟨k10, hkk10, hek10, ?_⟩
                intro hi11 ehi11
                replace h := h hi11 ehi11
                obtain ⟨k12, hkk12, hek12, h⟩ := h
                refine ⟨k12, hkk12, hek12, ?_⟩
                intro hi13 ehi13
                replace h := h hi13 ehi13
                obtain ⟨k14, hkk14, hek14, h⟩ := h
                refine ⟨k14, hkk14, hek14, ?_⟩
                intro hi15 ehi15
                replace h := h hi15 ehi15
                obtain ⟨k16, hkk16, hek16, h⟩ := h
                refine ⟨k16, hkk16, hek16, ?_⟩
                intro hi17 ehi17
                replace h := h hi17 ehi17
                refine ⟨_, rfl, ?_⟩
                refine And.intro trivial ?_
                exact h
              · replace h := h.2 c7
                refine And.intro trivial ?_
                exact h
theorem v_M_keepsOf {L d : Nat} {p1 : Int32} {hi : pm_B} {Q : pm_Q} (h : pm_C pm_g (SH L) HR (d + 1) m_M_counts [.inr 141, .inl 0] hi (fun v hi1 => ∃ x2 : Int32, v = some (.inl x2) ∧ (∃ k3 : Nat, k3 < 1611 ∧ ((7 + (29 * p1)) + 1) = nI k3 ∧ (∃ k4 : Nat, k4 < 1611 ∧ ((7 + (29 * p1)) + 2) = nI k4 ∧ (∀ hi5 : pm_B, hi5 = pm_u (pm_u hi1 156 0 (hi1 142 k3)) 156 1 ((pm_u hi1 156 0 (hi1 142 k3)) 142 k4) → (∃ k6 : Nat, k6 < 1611 ∧ ((7 + (29 * p1)) + 4) = nI k6 ∧ (((0 ≤ x2) → pm_C pm_g (SH L) HR (d + 1) m_M_worksOut [.inr 141, .inl x2] (pm_u hi5 156 2 (hi5 142 k6)) (fun v hi8 => ∃ x9 : Int32, v = some (.inl x9) ∧ (∃ k10 : Nat, k10 < 1611 ∧ ((7 + (29 * p1)) + 0) = nI k10 ∧ ((((hi8 142 k10) = 1) → Q (some (.inl ((f_M_within x9 0 12) / 2))) hi8) ∧ ((¬ (hi8 142 k10) = 1) → (((hi8 142 k10) = 2) → Q (some (.inl (f_M_within ((f_M_within x9 0 12) - 2) 0 12))) hi8) ∧ ((¬ (hi8 142 k10) = 2) → (((hi8 142 k10) = 3) → Q (some (.inl (((f_M_within x9 0 12) / 2) + 3))) hi8) ∧ ((¬ (hi8 142 k10) = 3) → (((hi8 142 k10) = 4) → Q (some (.inl (f_M_within ((f_M_within x9 0 12) - 2) 0 12))) hi8) ∧ ((¬ (hi8 142 k10) = 4) → (((hi8 142 k10) = 5) → Q (some (.inl 0)) hi8) ∧ ((¬ (hi8 142 k10) = 5) → Q (some (.inl (f_M_within x9 0 12))) hi8))))))))) ∧ ((¬ (0 ≤ x2)) → ∃ k16 : Nat, k16 < 1611 ∧ ((7 + (29 * p1)) + 0) = nI k16 ∧ (((((pm_u hi5 156 2 (hi5 142 k6)) 142 k16) = 1) → Q (some (.inl (12 / 2))) (pm_u hi5 156 2 (hi5 142 k6))) ∧ ((¬ ((pm_u hi5 156 2 (hi5 142 k6)) 142 k16) = 1) → ((((pm_u hi5 156 2 (hi5 142 k6)) 142 k16) = 2) → Q (some (.inl (f_M_within (12 - 2) 0 12))) (pm_u hi5 156 2 (hi5 142 k6))) ∧ ((¬ ((pm_u hi5 156 2 (hi5 142 k6)) 142 k16) = 2) → ((((pm_u hi5 156 2 (hi5 142 k6)) 142 k16) = 3) → Q (some (.inl ((12 / 2) + 3))) (pm_u hi5 156 2 (hi5 142 k6))) ∧ ((¬ ((pm_u hi5 156 2 (hi5 142 k6)) 142 k16) = 3) → ((((pm_u hi5 156 2 (hi5 142 k6)) 142 k16) = 4) → Q (some (.inl (f_M_within (12 - 2) 0 12))) (pm_u hi5 156 2 (hi5 142 k6))) ∧ ((¬ ((pm_u hi5 156 2 (hi5 142 k6)) 142 k16) = 4) → ((((pm_u hi5 156 2 (hi5 142 k6)) 142 k16) = 5) → Q (some (.inl 0)) (pm_u hi5 156 2 (hi5 142 k6))) ∧ ((¬ ((pm_u hi5 156 2 (hi5 142 k6)) 142 k16) = 5) → Q (some (.inl 12)) (pm_u hi5 156 2 (hi5 142 k6)))))))))))))))) : pm_C pm_g (SH L) HR (d + 2) m_M_keepsOf [.inr 141, .inl p1] hi Q := by
  refine pm_C_of (maxL := 4) (t := pm_t147) rfl (Nat.le_of_ble_eq_true rfl) ?_
  refine pm_W_of 51 [] rfl ?_
  refine And.intro sh_l141 ?_
  refine pm_C_imp h (fun v hi1 h => ?_)
  obtain ⟨x2, rfl, h⟩ := h
  refine ⟨_, rfl, ?_⟩
  refine And.intro sh_l141 ?_
  rw [hr_141_27]
  refine And.intro sh_l141 ?_
  refine v_M_of (d := d)  ?_
  obtain ⟨k3, hkk3, hek3, h⟩ := h
  refine ⟨k3, hkk3, hek3, ?_⟩
  refine ⟨_, rfl, ?_⟩
  refine And.intro ⟨pm_aw_of sh_l156 (by decide : 0 < 4) (rfl : (0 : Int32) = nI 0) (by decide), trivial⟩ ?_
  rw [pm_tn (rfl : (0 : Int32) = nI 0) (by decide : 0 < 4) (by decide)]
  refine And.intro sh_l141 ?_
  rw [hr_141_27]
  refine And.intro sh_l141 ?_
  refine v_M_of (d := d)  ?_
  obtain ⟨k4, hkk4, hek4, h⟩ := h
  refine ⟨k4, hkk4, hek4, ?_⟩
  refine ⟨_, rfl, ?_⟩
  refine And.intro ⟨pm_aw_of sh_l156 (by decide : 1 < 4) (rfl : (1 : Int32) = nI 1) (by decide), trivial⟩ ?_
  rw [pm_tn (rfl : (1 : Int32) = nI 1) (by decide : 1 < 4) (by decide)]
  obtain ⟨hi5, ehi5⟩ : ∃ m : pm_B, m = pm_u (pm_u hi1 156 0 (hi1 142 k3)) 156 1 ((pm_u hi1 156 0 (hi1 142 k3)) 142 k4) := ⟨_, rfl⟩
  replace h := h hi5 ehi5
  rw [← ehi5]
  refine And.intro sh_l141 ?_
  rw [hr_141_27]
  refine And.intro sh_l141 ?_
  refine v_M_of (d := d)  ?_
  obtain ⟨k6, hkk6, hek6, h⟩ := h
  refine ⟨k6, hkk6, hek6, ?_⟩
  refine ⟨_, rfl, ?_⟩
  refine And.intro ⟨pm_aw_of sh_l156 (by decide : 2 < 4) (rfl : (2 : Int32) = nI 2) (by decide), trivial⟩ ?_
  rw [pm_tn (rfl : (2 : Int32) = nI 2) (by decide : 2 < 4) (by decide)]
  refine And.intro (fun c7 => ?_) (fun c7 => ?_)
  · replace h := h.1 c7
    refine And.intro sh_l141 ?_
    refine pm_C_imp h (fun v hi8 h => ?_)
    obtain ⟨x9, rfl, h⟩ := h
    refine ⟨_, rfl, ?_⟩
    refine And.intro trivial ?_
    refine f_M_within_c (d := d)  ?_
    refine ⟨_, rfl, ?_⟩
    refine And.intro sh_l141 ?_
    refine v_M_of (d := d)  ?_
    obtain ⟨k10, hkk10, hek10, h⟩ := h
    refine ⟨k10, hkk10, hek10, ?_⟩
    refine ⟨_, rfl, ?_⟩
    intro pc1 hsw
    by_cases c11 : (hi8 142 k10) = 1
    · rw [pm_sw_t c11] at hsw
      subst hsw
      replace h := h.1 c11
      refine And.intro (by decide) ?_
      refine And.intro trivial ?_
      exact h
    · rw [pm_sw_f c11] at hsw
      replace h := h.2 c11
      by_cases c12 : (hi8 142 k10) = 2
      · rw [pm_sw_t c12] at hsw
        subst hsw
        replace h := h.1 c12
        refine And.intro trivial ?_
        refine f_M_within_c (d := d)  ?_
        refine ⟨_, rfl, ?_⟩
        refine And.intro trivial ?_
        exact h
      · rw [pm_sw_f c12] at hsw
        replace h := h.2 c12
        by_cases c13 : (hi8 142 k10) = 3
        · rw [pm_sw_t c13] at hsw
          subst hsw
          replace h := h.1 c13
          refine And.intro (by decide) ?_
          refine And.intro trivial ?_
          exact h
        · rw [pm_sw_f c13] at hsw
          replace h := h.2 c13
          by_cases c14 : (hi8 142 k10) = 4
          · rw [pm_sw_t c14] at hsw
            subst hsw
            replace h := h.1 c14
            refine And.intro trivial ?_
            refine f_M_within_c (d := d)  ?_
            refine ⟨_, rfl, ?_⟩
            refine And.intro trivial ?_
            exact h
          · rw [pm_sw_f c14] at hsw
            replace h := h.2 c14
            by_cases c15 : (hi8 142 k10) = 5
            · rw [pm_sw_t c15] at hsw
              subst hsw
              replace h := h.1 c15
              refine And.intro trivial ?_
              exact h
            · rw [pm_sw_f c15] at hsw
              replace h := h.2 c15
              replace hsw : 126 = pc1 := hsw
              subst hsw
              refine And.intro trivial ?_
              exact h
  · replace h := h.2 c7
    refine And.intro sh_l141 ?_
    refine v_M_of (d := d)  ?_
    obtain ⟨k16, hkk16, hek16, h⟩ := h
    refine ⟨k16, hkk16, hek16, ?_⟩
    refine ⟨_, rfl, ?_⟩
    intro pc1 hsw
    by_cases c17 : ((pm_u hi5 156 2 (hi5 142 k6)) 142 k16) = 1
    · rw [pm_sw_t c17] at hsw
      subst hsw
      replace h := h.1 c17
      refine And.intro (by decide) ?_
      refine And.intro trivial ?_
      exact h
    · rw [pm_sw_f c17] at hsw
      replace h := h.2 c17
      by_cases c18 : ((pm_u hi5 156 2 (hi5 142 k6)) 142 k16) = 2
      · rw [pm_sw_t c18] at hsw
        subst hsw
        replace h := h.1 c18
        refine And.intro trivial ?_
        refine f_M_within_c (d := d)  ?_
        refine ⟨_, rfl, ?_⟩
        refine And.intro trivial ?_
        exact h
      · rw [pm_sw_f c18] at hsw
        replace h := h.2 c18
        by_cases c19 : ((pm_u hi5 156 2 (hi5 142 k6)) 142 k16) = 3
        · rw [pm_sw_t c19] at hsw
          subst hsw
          replace h := h.1 c19
          refine And.intro (by decide) ?_
          refine And.intro trivial ?_
          exact h
        · rw [pm_sw_f c19] at hsw
          replace h := h.2 c19
          by_cases c20 : ((pm_u hi5 156 2 (hi5 142 k6)) 142 k16) = 4
          · rw [pm_sw_t c20] at hsw
            subst hsw
            replace h := h.1 c20
            refine And.intro trivial ?_
            refine f_M_within_c (d := d)  ?_
            refine ⟨_, rfl, ?_⟩
            refine And.intro trivial ?_
            exact h
          · rw [pm_sw_f c20] at hsw
            replace h := h.2 c20
            by_cases c21 : ((pm_u hi5 156 2 (hi5 142 k6)) 142 k16) = 5
            · rw [pm_sw_t c21] at hsw
              subst hsw
              replace h := h.1 c21
              refine And.intro trivial ?_
              exact h
            · rw [pm_sw_f c21] at hsw
              replace h := h.2 c21
              replace hsw : 126 = pc1 := hsw
              subst hsw
              refine And.intro trivial ?_
              exact h
theorem v_M_takesOf {L d : Nat} {p1 : Int32} {hi : pm_B} {Q : pm_Q} (h : ∃ k1 : Nat, k1 < 1611 ∧ ((7 + (29 * p1)) + 1) = nI k1 ∧ (∃ k2 : Nat, k2 < 1611 ∧ ((7 + (29 * p1)) + 0) = nI k2 ∧ ((((hi 142 k2) = 1) → Q (some (.inl ((hi 142 k1) + 2))) hi) ∧ ((¬ (hi 142 k2) = 1) → (((hi 142 k2) = 2) → Q (some (.inl ((hi 142 k1) / 2))) hi) ∧ ((¬ (hi 142 k2) = 2) → (((hi 142 k2) = 3) → Q (some (.inl ((hi 142 k1) + 2))) hi) ∧ ((¬ (hi 142 k2) = 3) → (((hi 142 k2) = 4) → Q (some (.inl (((hi 142 k1) / 2) + 1))) hi) ∧ ((¬ (hi 142 k2) = 4) → (((hi 142 k2) = 5) → Q (some (.inl 0)) hi) ∧ ((¬ (hi 142 k2) = 5) → Q (some (.inl (hi 142 k1))) hi)))))))) : pm_C pm_g (SH L) HR (d + 2) m_M_takesOf [.inr 141, .inl p1] hi Q := by
  refine pm_C_of (maxL := 3) (t := pm_t148) rfl (Nat.le_of_ble_eq_true rfl) ?_
  refine pm_W_of 18 [] rfl ?_
  refine And.intro sh_l141 ?_
  refine v_M_of (d := d)  ?_
  obtain ⟨k1, hkk1, hek1, h⟩ := h
  refine ⟨k1, hkk1, hek1, ?_⟩
  refine ⟨_, rfl, ?_⟩
  refine And.intro sh_l141 ?_
  refine v_M_of (d := d)  ?_
  obtain ⟨k2, hkk2, hek2, h⟩ := h
  refine ⟨k2, hkk2, hek2, ?_⟩
  refine ⟨_, rfl, ?_⟩
  intro pc1 hsw
  by_cases c3 : (hi 142 k2) = 1
  · rw [pm_sw_t c3] at hsw
    subst hsw
    replace h := h.1 c3
    refine And.intro trivial ?_
    exact h
  · rw [pm_sw_f c3] at hsw
    replace h := h.2 c3
    by_cases c4 : (hi 142 k2) = 2
    · rw [pm_sw_t c4] at hsw
      subst hsw
      replace h := h.1 c4
      refine And.intro (by decide) ?_
      refine And.intro trivial ?_
      exact h
    · rw [pm_sw_f c4] at hsw
      replace h := h.2 c4
      by_cases c5 : (hi 142 k2) = 3
      · rw [pm_sw_t c5] at hsw
        subst hsw
        replace h := h.1 c5
        refine And.intro trivial ?_
        exact h
      · rw [pm_sw_f c5] at hsw
        replace h := h.2 c5
        by_cases c6 : (hi 142 k2) = 4
        · rw [pm_sw_t c6] at hsw
          subst hsw
          replace h := h.1 c6
          refine And.intro (by decide) ?_
          refine And.intro trivial ?_
          exact h
        · rw [pm_sw_f c6] at hsw
          replace h := h.2 c6
          by_cases c7 : (hi 142 k2) = 5
          · rw [pm_sw_t c7] at hsw
            subst hsw
            replace h := h.1 c7
            refine And.intro trivial ?_
            exact h
          · rw [pm_sw_f c7] at hsw
            replace h := h.2 c7
            replace hsw : 64 = pc1 := hsw
            subst hsw
            refine And.intro trivial ?_
            exact h
theorem v_M_goesOf {L d : Nat} {p1 : Int32} {hi : pm_B} {Q : pm_Q} (h : ∃ k1 : Nat, k1 < 1611 ∧ ((7 + (29 * p1)) + 0) = nI k1 ∧ ((((hi 142 k1) = 1) → Q (some (.inl 2)) hi) ∧ ((¬ (hi 142 k1) = 1) → (((hi 142 k1) = 2) → Q (some (.inl 4)) hi) ∧ ((¬ (hi 142 k1) = 2) → (((hi 142 k1) = 3) → Q (some (.inl 4)) hi) ∧ ((¬ (hi 142 k1) = 3) → (((hi 142 k1) = 4) → Q (some (.inl 9)) hi) ∧ ((¬ (hi 142 k1) = 4) → Q (some (.inl 3)) hi)))))) : pm_C pm_g (SH L) HR (d + 2) m_M_goesOf [.inr 141, .inl p1] hi Q := by
  refine pm_C_of (maxL := 2) (t := pm_t149) rfl (Nat.le_of_ble_eq_true rfl) ?_
  refine pm_W_of 13 [] rfl ?_
  refine And.intro sh_l141 ?_
  refine v_M_of (d := d)  ?_
  obtain ⟨k1, hkk1, hek1, h⟩ := h
  refine ⟨k1, hkk1, hek1, ?_⟩
  refine ⟨_, rfl, ?_⟩
  intro pc1 hsw
  by_cases c2 : (hi 142 k1) = 1
  · rw [pm_sw_t c2] at hsw
    subst hsw
    replace h := h.1 c2
    refine And.intro trivial ?_
    exact h
  · rw [pm_sw_f c2] at hsw
    replace h := h.2 c2
    by_cases c3 : (hi 142 k1) = 2
    · rw [pm_sw_t c3] at hsw
      subst hsw
      replace h := h.1 c3
      refine And.intro trivial ?_
      exact h
    · rw [pm_sw_f c3] at hsw
      replace h := h.2 c3
      by_cases c4 : (hi 142 k1) = 3
      · rw [pm_sw_t c4] at hsw
        subst hsw
        replace h := h.1 c4
        refine And.intro trivial ?_
        exact h
      · rw [pm_sw_f c4] at hsw
        replace h := h.2 c4
        by_cases c5 : (hi 142 k1) = 4
        · rw [pm_sw_t c5] at hsw
          subst hsw
          replace h := h.1 c5
          refine And.intro trivial ?_
          exact h
        · rw [pm_sw_f c5] at hsw
          replace h := h.2 c5
          replace hsw : 43 = pc1 := hsw
          subst hsw
          refine And.intro trivial ?_
          exact h
theorem v_M_worthOf {L d : Nat} {p1 : Int32} {hi : pm_B} {Q : pm_Q} (h : ∃ k1 : Nat, k1 < 1611 ∧ ((7 + (29 * p1)) + 2) = nI k1 ∧ (∃ k2 : Nat, k2 < 1611 ∧ ((7 + (29 * p1)) + 0) = nI k2 ∧ ((((hi 142 k2) = 1) → Q (some (.inl ((hi 142 k1) + 6))) hi) ∧ ((¬ (hi 142 k2) = 1) → (((hi 142 k2) = 2) → Q (some (.inl (99 - (hi 142 k1)))) hi) ∧ ((¬ (hi 142 k2) = 2) → (((hi 142 k2) = 3) → Q (some (.inl (2 * ((hi 142 k1) + 6)))) hi) ∧ ((¬ (hi 142 k2) = 3) → (((hi 142 k2) = 4) → Q (some (.inl (91 - (hi 142 k1)))) hi) ∧ ((¬ (hi 142 k2) = 4) → (((hi 142 k2) = 5) → Q (some (.inl 1)) hi) ∧ ((¬ (hi 142 k2) = 5) → Q (some (.inl (hi 142 k1))) hi)))))))) : pm_C pm_g (SH L) HR (d + 2) m_M_worthOf [.inr 141, .inl p1] hi Q := by
  refine pm_C_of (maxL := 3) (t := pm_t150) rfl (Nat.le_of_ble_eq_true rfl) ?_
  refine pm_W_of 18 [] rfl ?_
  refine And.intro sh_l141 ?_
  refine v_M_of (d := d)  ?_
  obtain ⟨k1, hkk1, hek1, h⟩ := h
  refine ⟨k1, hkk1, hek1, ?_⟩
  refine ⟨_, rfl, ?_⟩
  refine And.intro sh_l141 ?_
  refine v_M_of (d := d)  ?_
  obtain ⟨k2, hkk2, hek2, h⟩ := h
  refine ⟨k2, hkk2, hek2, ?_⟩
  refine ⟨_, rfl, ?_⟩
  intro pc1 hsw
  by_cases c3 : (hi 142 k2) = 1
  · rw [pm_sw_t c3] at hsw
    subst hsw
    replace h := h.1 c3
    refine And.intro trivial ?_
    exact h
  · rw [pm_sw_f c3] at hsw
    replace h := h.2 c3
    by_cases c4 : (hi 142 k2) = 2
    · rw [pm_sw_t c4] at hsw
      subst hsw
      replace h := h.1 c4
      refine And.intro trivial ?_
      exact h
    · rw [pm_sw_f c4] at hsw
      replace h := h.2 c4
      by_cases c5 : (hi 142 k2) = 3
      · rw [pm_sw_t c5] at hsw
        subst hsw
        replace h := h.1 c5
        refine And.intro trivial ?_
        exact h
      · rw [pm_sw_f c5] at hsw
        replace h := h.2 c5
        by_cases c6 : (hi 142 k2) = 4
        · rw [pm_sw_t c6] at hsw
          subst hsw
          replace h := h.1 c6
          refine And.intro trivial ?_
          exact h
        · rw [pm_sw_f c6] at hsw
          replace h := h.2 c6
          by_cases c7 : (hi 142 k2) = 5
          · rw [pm_sw_t c7] at hsw
            subst hsw
            replace h := h.1 c7
            refine And.intro trivial ?_
            exact h
          · rw [pm_sw_f c7] at hsw
            replace h := h.2 c7
            replace hsw : 72 = pc1 := hsw
            subst hsw
            refine And.intro trivial ?_
            exact h
theorem v_M_wordsOf {L d : Nat} {p1 : Int32} {hi : pm_B} {Q : pm_Q} (h : pm_W pm_g (SH L) HR (d + 1) pm_t151 4 [some (.inr 141), some (.inl p1), some (.inl 0), some (.inl 0)] [] hi Q) : pm_C pm_g (SH L) HR (d + 2) m_M_wordsOf [.inr 141, .inl p1] hi Q := by
  refine pm_C_of (maxL := 4) (t := pm_t151) rfl (Nat.le_of_ble_eq_true rfl) ?_
  refine pm_W_of 6 [4] rfl ?_
  exact h
theorem v_M_wordsOf_4 {L d : Nat}  {p1 : Int32} {y2 : Int32} {y3 : Int32} {hi : pm_B} {Q : pm_Q} (h : ∃ k1 : Nat, k1 < 1611 ∧ ((7 + (29 * p1)) + 4) = nI k1 ∧ ((((hi 142 k1) ≤ y3) → Q (some (.inl y2)) hi) ∧ ((¬ ((hi 142 k1) ≤ y3)) → ∃ k3 : Nat, k3 < 1611 ∧ ((7 + (29 * p1)) + (5 + y3)) = nI k3 ∧ (pm_W pm_g (SH L) HR (d + 1) pm_t151 4 [some (.inr 141), some (.inl p1), some (.inl (y2 ||| (1 <<< ((hi 142 k3) &&& 31)))), some (.inl (y3 + 1))] [] hi Q)))) : pm_W pm_g (SH L) HR (d + 1) pm_t151 4 [some (.inr 141), some (.inl p1), some (.inl y2), some (.inl y3)] [] hi Q := by
  refine pm_W_of 21 [4] rfl ?_
  refine And.intro sh_l141 ?_
  refine v_M_of (d := d)  ?_
  obtain ⟨k1, hkk1, hek1, h⟩ := h
  refine ⟨k1, hkk1, hek1, ?_⟩
  refine ⟨_, rfl, ?_⟩
  refine And.intro (fun c2 => ?_) (fun c2 => ?_)
  · replace h := h.1 c2
    refine And.intro trivial ?_
    exact h
  · replace h := h.2 c2
    refine And.intro sh_l141 ?_
    refine v_M_of (d := d)  ?_
    obtain ⟨k3, hkk3, hek3, h⟩ := h
    refine ⟨k3, hkk3, hek3, ?_⟩
    refine ⟨_, rfl, ?_⟩
    exact h
theorem v_M_told {L d : Nat} {p1 : Int32} {p2 : Int32} {hi : pm_B} {Q : pm_Q} (h : ((p1 < 0) → Q (some (.inl (-1000000001))) hi) ∧ ((¬ (p1 < 0)) → ((((hi 142 1) - 1) < p1) → Q (some (.inl (-1000000001))) hi) ∧ ((¬ (((hi 142 1) - 1) < p1)) → ((p2 = 0) → ∃ k4 : Nat, k4 < 1611 ∧ ((7 + (29 * p1)) + p2) = nI k4 ∧ (Q (some (.inl (hi 142 k4))) hi)) ∧ ((¬ p2 = 0) → ((p2 = 1) → ∃ k6 : Nat, k6 < 1611 ∧ ((7 + (29 * p1)) + p2) = nI k6 ∧ (Q (some (.inl (hi 142 k6))) hi)) ∧ ((¬ p2 = 1) → ((p2 = 2) → ∃ k8 : Nat, k8 < 1611 ∧ ((7 + (29 * p1)) + p2) = nI k8 ∧ (Q (some (.inl (hi 142 k8))) hi)) ∧ ((¬ p2 = 2) → ((p2 = 3) → ∃ k10 : Nat, k10 < 1611 ∧ ((7 + (29 * p1)) + p2) = nI k10 ∧ (Q (some (.inl (hi 142 k10))) hi)) ∧ ((¬ p2 = 3) → ((p2 = 4) → ∃ k12 : Nat, k12 < 1611 ∧ ((7 + (29 * p1)) + p2) = nI k12 ∧ (Q (some (.inl (hi 142 k12))) hi)) ∧ ((¬ p2 = 4) → ((p2 = 5) → pm_C pm_g (SH L) HR (d + 2) m_M_wordsOf [.inr 141, .inl p1] hi (fun v hi14 => ∃ x15 : Int32, v = some (.inl x15) ∧ (Q (some (.inl x15)) hi14))) ∧ ((¬ p2 = 5) → ((p2 = 6) → pm_C pm_g (SH L) HR (d + 2) m_M_keepsOf [.inr 141, .inl p1] hi (fun v hi17 => ∃ x18 : Int32, v = some (.inl x18) ∧ (Q (some (.inl x18)) hi17))) ∧ ((¬ p2 = 6) → ((p2 = 7) → pm_C pm_g (SH L) HR (d + 2) m_M_takesOf [.inr 141, .inl p1] hi (fun v hi20 => ∃ x21 : Int32, v = some (.inl x21) ∧ (Q (some (.inl x21)) hi20))) ∧ ((¬ p2 = 7) → ((p2 = 8) → pm_C pm_g (SH L) HR (d + 2) m_M_goesOf [.inr 141, .inl p1] hi (fun v hi23 => ∃ x24 : Int32, v = some (.inl x24) ∧ (Q (some (.inl x24)) hi23))) ∧ ((¬ p2 = 8) → ((p2 = 9) → pm_C pm_g (SH L) HR (d + 2) m_M_worthOf [.inr 141, .inl p1] hi (fun v hi26 => ∃ x27 : Int32, v = some (.inl x27) ∧ (Q (some (.inl x27)) hi26))) ∧ ((¬ p2 = 9) → Q (some (.inl (-1000000001))) hi))))))))))))) : pm_C pm_g (SH L) HR (d + 3) m_M_told [.inr 141, .inl p1, .inl p2] hi Q := by
  refine pm_C_of (maxL := 3) (t := pm_t152) rfl (Nat.le_of_ble_eq_true rfl) ?_
  refine pm_W_of 13 [] rfl ?_
  refine And.intro sh_l141 ?_
  refine v_M_isSpeaker (d := d)  ?_
  refine And.intro (fun c1 => ?_) (fun c1 => ?_)
  · replace h := h.1 c1
    refine ⟨_, rfl, ?_⟩
    refine And.intro (fun hc => absurd hc (pm_cd_f (by decide))) (fun _ => ?_)
    refine And.intro trivial ?_
    exact h
  · replace h := h.2 c1
    refine And.intro (fun c2 => ?_) (fun c2 => ?_)
    · replace h := h.1 c2
      refine ⟨_, rfl, ?_⟩
      refine And.intro (fun hc => absurd hc (pm_cd_f (by decide))) (fun _ => ?_)
      refine And.intro trivial ?_
      exact h
    · replace h := h.2 c2
      refine ⟨_, rfl, ?_⟩
      refine And.intro (fun _ => ?_) (fun hc => absurd (pm_cd_t (by decide)) hc)
      intro pc1 hsw
      by_cases c3 : p2 = 0
      · rw [pm_sw_t c3] at hsw
        subst hsw
        replace h := h.1 c3
        refine And.intro sh_l141 ?_
        refine v_M_of (d := d + 1)  ?_
        obtain ⟨k4, hkk4, hek4, h⟩ := h
        refine ⟨k4, hkk4, hek4, ?_⟩
        refine ⟨_, rfl, ?_⟩
        refine And.intro trivial ?_
        exact h
      · rw [pm_sw_f c3] at hsw
        replace h := h.2 c3
        by_cases c5 : p2 = 1
        · rw [pm_sw_t c5] at hsw
          subst hsw
          replace h := h.1 c5
          refine And.intro sh_l141 ?_
          refine v_M_of (d := d + 1)  ?_
          obtain ⟨k6, hkk6, hek6, h⟩ := h
          refine ⟨k6, hkk6, hek6, ?_⟩
          refine ⟨_, rfl, ?_⟩
          refine And.intro trivial ?_
          exact h
        · rw [pm_sw_f c5] at hsw
          replace h := h.2 c5
          by_cases c7 : p2 = 2
          · rw [pm_sw_t c7] at hsw
            subst hsw
            replace h := h.1 c7
            refine And.intro sh_l141 ?_
            refine v_M_of (d := d + 1)  ?_
            obtain ⟨k8, hkk8, hek8, h⟩ := h
            refine ⟨k8, hkk8, hek8, ?_⟩
            refine ⟨_, rfl, ?_⟩
            refine And.intro trivial ?_
            exact h
          · rw [pm_sw_f c7] at hsw
            replace h := h.2 c7
            by_cases c9 : p2 = 3
            · rw [pm_sw_t c9] at hsw
              subst hsw
              replace h := h.1 c9
              refine And.intro sh_l141 ?_
              refine v_M_of (d := d + 1)  ?_
              obtain ⟨k10, hkk10, hek10, h⟩ := h
              refine ⟨k10, hkk10, hek10, ?_⟩
              refine ⟨_, rfl, ?_⟩
              refine And.intro trivial ?_
              exact h
            · rw [pm_sw_f c9] at hsw
              replace h := h.2 c9
              by_cases c11 : p2 = 4
              · rw [pm_sw_t c11] at hsw
                subst hsw
                replace h := h.1 c11
                refine And.intro sh_l141 ?_
                refine v_M_of (d := d + 1)  ?_
                obtain ⟨k12, hkk12, hek12, h⟩ := h
                refine ⟨k12, hkk12, hek12, ?_⟩
                refine ⟨_, rfl, ?_⟩
                refine And.intro trivial ?_
                exact h
              · rw [pm_sw_f c11] at hsw
                replace h := h.2 c11
                by_cases c13 : p2 = 5
                · rw [pm_sw_t c13] at hsw
                  subst hsw
                  replace h := h.1 c13
                  refine And.intro sh_l141 ?_
                  refine pm_C_imp h (fun v hi14 h => ?_)
                  obtain ⟨x15, rfl, h⟩ := h
                  refine ⟨_, rfl, ?_⟩
                  refine And.intro trivial ?_
                  exact h
                · rw [pm_sw_f c13] at hsw
                  replace h := h.2 c13
                  by_cases c16 : p2 = 6
                  · rw [pm_sw_t c16] at hsw
                    subst hsw
                    replace h := h.1 c16
                    refine And.intro sh_l141 ?_
                    refine pm_C_imp h (fun v hi17 h => ?_)
                    obtain ⟨x18, rfl, h⟩ := h
                    refine ⟨_, rfl, ?_⟩
                    refine And.intro trivial ?_
                    exact h
                  · rw [pm_sw_f c16] at hsw
                    replace h := h.2 c16
                    by_cases c19 : p2 = 7
                    · rw [pm_sw_t c19] at hsw
                      subst hsw
                      replace h := h.1 c19
                      refine And.intro sh_l141 ?_
                      refine pm_C_imp h (fun v hi20 h => ?_)
                      obtain ⟨x21, rfl, h⟩ := h
                      refine ⟨_, rfl, ?_⟩
                      refine And.intro trivial ?_
                      exact h
                    · rw [pm_sw_f c19] at hsw
                      replace h := h.2 c19
                      by_cases c22 : p2 = 8
                      · rw [pm_sw_t c22] at hsw
                        subst hsw
                        replace h := h.1 c22
                        refine And.intro sh_l141 ?_
                        refine pm_C_imp h (fun v hi23 h => ?_)
                        obtain ⟨x24, rfl, h⟩ := h
                        refine ⟨_, rfl, ?_⟩
                        refine And.intro trivial ?_
                        exact h
                      · rw [pm_sw_f c22] at hsw
                        replace h := h.2 c22
                        by_cases c25 : p2 = 9
                        · rw [pm_sw_t c25] at hsw
                          subst hsw
                          replace h := h.1 c25
                          refine And.intro sh_l141 ?_
                          refine pm_C_imp h (fun v hi26 h => ?_)
                          obtain ⟨x27, rfl, h⟩ := h
                          refine ⟨_, rfl, ?_⟩
                          refine And.intro trivial ?_
                          exact h
                        · rw [pm_sw_f c25] at hsw
                          replace h := h.2 c25
                          replace hsw : 105 = pc1 := hsw
                          subst hsw
                          refine And.intro trivial ?_
                          exact h
theorem v_M_heard {L d : Nat} {p1 : Int32} {p2 : Int32} {hi : pm_B} {Q : pm_Q} (h : ((p1 < 0) → Q (some (.inl (-1000000001))) hi) ∧ ((¬ (p1 < 0)) → ((((hi 142 1) - 1) < p1) → Q (some (.inl (-1000000001))) hi) ∧ ((¬ (((hi 142 1) - 1) < p1)) → ((p2 < 0) → Q (some (.inl (-1000000001))) hi) ∧ ((¬ (p2 < 0)) → ((11 < p2) → Q (some (.inl (-1000000001))) hi) ∧ ((¬ (11 < p2)) → ∃ k5 : Nat, k5 < 1611 ∧ ((7 + (29 * p1)) + 4) = nI k5 ∧ ((((hi 142 k5) ≤ p2) → Q (some (.inl (-1000000005))) hi) ∧ ((¬ ((hi 142 k5) ≤ p2)) → ∃ k7 : Nat, k7 < 1611 ∧ ((7 + (29 * p1)) + (5 + p2)) = nI k7 ∧ (Q (some (.inl (hi 142 k7))) hi)))))))) : pm_C pm_g (SH L) HR (d + 3) m_M_heard [.inr 141, .inl p1, .inl p2] hi Q := by
  refine pm_C_of (maxL := 3) (t := pm_t153) rfl (Nat.le_of_ble_eq_true rfl) ?_
  refine pm_W_of 25 [] rfl ?_
  refine And.intro sh_l141 ?_
  refine v_M_isSpeaker (d := d)  ?_
  refine And.intro (fun c1 => ?_) (fun c1 => ?_)
  · replace h := h.1 c1
    refine ⟨_, rfl, ?_⟩
    refine And.intro (fun _ => ?_) (fun hc => absurd (pm_cd_t (by decide)) hc)
    refine And.intro trivial ?_
    exact h
  · replace h := h.2 c1
    refine And.intro (fun c2 => ?_) (fun c2 => ?_)
    · replace h := h.1 c2
      refine ⟨_, rfl, ?_⟩
      refine And.intro (fun _ => ?_) (fun hc => absurd (pm_cd_t (by decide)) hc)
      refine And.intro trivial ?_
      exact h
    · replace h := h.2 c2
      refine ⟨_, rfl, ?_⟩
      refine And.intro (fun hc => absurd hc (pm_cd_f (by decide))) (fun _ => ?_)
      refine And.intro trivial ?_
      refine v_M_in (d := d + 1)  ?_
      refine And.intro (fun c3 => ?_) (fun c3 => ?_)
      · replace h := h.1 c3
        refine ⟨_, rfl, ?_⟩
        refine And.intro (fun hc => absurd hc (pm_cd_f (by decide))) (fun _ => ?_)
        refine And.intro trivial ?_
        exact h
      · replace h := h.2 c3
        refine And.intro (fun c4 => ?_) (fun c4 => ?_)
        · replace h := h.1 c4
          refine ⟨_, rfl, ?_⟩
          refine And.intro (fun hc => absurd hc (pm_cd_f (by decide))) (fun _ => ?_)
          refine And.intro trivial ?_
          exact h
        · replace h := h.2 c4
          refine ⟨_, rfl, ?_⟩
          refine And.intro (fun _ => ?_) (fun hc => absurd (pm_cd_t (by decide)) hc)
          refine And.intro sh_l141 ?_
          refine v_M_of (d := d + 1)  ?_
          obtain ⟨k5, hkk5, hek5, h⟩ := h
          refine ⟨k5, hkk5, hek5, ?_⟩
          refine ⟨_, rfl, ?_⟩
          refine And.intro (fun c6 => ?_) (fun c6 => ?_)
          · replace h := h.1 c6
            refine And.intro trivial ?_
            exact h
          · replace h := h.2 c6
            refine And.intro sh_l141 ?_
            refine v_M_of (d := d + 1)  ?_
            obtain ⟨k7, hkk7, hek7, h⟩ := h
            refine ⟨k7, hkk7, hek7, ?_⟩
            refine ⟨_, rfl, ?_⟩
            refine And.intro trivial ?_
            exact h
theorem v_M_as {L d : Nat} {p1 : Int32} {p2 : Int32} {hi : pm_B} {Q : pm_Q} (h : ((p1 < 0) → Q (some (.inl (-1000000001))) hi) ∧ ((¬ (p1 < 0)) → ((((hi 142 1) - 1) < p1) → Q (some (.inl (-1000000001))) hi) ∧ ((¬ (((hi 142 1) - 1) < p1)) → ((p2 < 0) → Q (some (.inl (-1000000001))) hi) ∧ ((¬ (p2 < 0)) → ((5 < p2) → Q (some (.inl (-1000000001))) hi) ∧ ((¬ (5 < p2)) → ∃ k5 : Nat, k5 < 1611 ∧ ((7 + (29 * p1)) + 0) = nI k5 ∧ ((((f_M_isUnder (hi 142 k5) p2) = 0) → Q (some (.inl (-1000000012))) hi) ∧ ((¬ ((f_M_isUnder (hi 142 k5) p2) = 0)) → ∃ k7 : Nat, k7 < 1611 ∧ ((7 + (29 * p1)) + 2) = nI k7 ∧ (Q (some (.inl (hi 142 k7))) hi)))))))) : pm_C pm_g (SH L) HR (d + 3) m_M_as [.inr 141, .inl p1, .inl p2] hi Q := by
  refine pm_C_of (maxL := 3) (t := pm_t155) rfl (Nat.le_of_ble_eq_true rfl) ?_
  refine pm_W_of 24 [] rfl ?_
  refine And.intro sh_l141 ?_
  refine v_M_isSpeaker (d := d)  ?_
  refine And.intro (fun c1 => ?_) (fun c1 => ?_)
  · replace h := h.1 c1
    refine ⟨_, rfl, ?_⟩
    refine And.intro (fun _ => ?_) (fun hc => absurd (pm_cd_t (by decide)) hc)
    refine And.intro trivial ?_
    exact h
  · replace h := h.2 c1
    refine And.intro (fun c2 => ?_) (fun c2 => ?_)
    · replace h := h.1 c2
      refine ⟨_, rfl, ?_⟩
      refine And.intro (fun _ => ?_) (fun hc => absurd (pm_cd_t (by decide)) hc)
      refine And.intro trivial ?_
      exact h
    · replace h := h.2 c2
      refine ⟨_, rfl, ?_⟩
      refine And.intro (fun hc => absurd hc (pm_cd_f (by decide))) (fun _ => ?_)
      refine And.intro trivial ?_
      refine v_M_in (d := d + 1)  ?_
      refine And.intro (fun c3 => ?_) (fun c3 => ?_)
      · replace h := h.1 c3
        refine ⟨_, rfl, ?_⟩
        refine And.intro (fun hc => absurd hc (pm_cd_f (by decide))) (fun _ => ?_)
        refine And.intro trivial ?_
        exact h
      · replace h := h.2 c3
        refine And.intro (fun c4 => ?_) (fun c4 => ?_)
        · replace h := h.1 c4
          refine ⟨_, rfl, ?_⟩
          refine And.intro (fun hc => absurd hc (pm_cd_f (by decide))) (fun _ => ?_)
          refine And.intro trivial ?_
          exact h
        · replace h := h.2 c4
          refine ⟨_, rfl, ?_⟩
          refine And.intro (fun _ => ?_) (fun hc => absurd (pm_cd_t (by decide)) hc)
          refine And.intro sh_l141 ?_
          refine v_M_of (d := d + 1)  ?_
          obtain ⟨k5, hkk5, hek5, h⟩ := h
          refine ⟨k5, hkk5, hek5, ?_⟩
          refine ⟨_, rfl, ?_⟩
          refine And.intro trivial ?_
          refine f_M_isUnder_c (d := d + 1)  ?_
          refine ⟨_, rfl, ?_⟩
          refine And.intro (fun c6 => ?_) (fun c6 => ?_)
          · replace h := h.1 c6
            refine And.intro trivial ?_
            exact h
          · replace h := h.2 c6
            refine And.intro sh_l141 ?_
            refine v_M_of (d := d + 1)  ?_
            obtain ⟨k7, hkk7, hek7, h⟩ := h
            refine ⟨k7, hkk7, hek7, ?_⟩
            refine ⟨_, rfl, ?_⟩
            refine And.intro trivial ?_
            exact h
theorem v_M_turns {L d : Nat} {p1 : Int32} {p2 : Int32} {hi : pm_B} {Q : pm_Q} (h : ((p1 < 0) → Q (some (.inl (-1000000001))) hi) ∧ ((¬ (p1 < 0)) → ((((hi 142 1) - 1) < p1) → Q (some (.inl (-1000000001))) hi) ∧ ((¬ (((hi 142 1) - 1) < p1)) → ((p2 < 0) → Q (some (.inl (-1000000001))) hi) ∧ ((¬ (p2 < 0)) → ((5 < p2) → Q (some (.inl (-1000000001))) hi) ∧ ((¬ (5 < p2)) → ∃ k5 : Nat, k5 < 1611 ∧ (7 + (29 * p1)) = nI k5 ∧ (∃ k6 : Nat, k6 < 1611 ∧ (7 + (29 * p1)) = nI k6 ∧ (∀ hi7 : pm_B, hi7 = pm_u hi 142 k6 p2 → (Q (some (.inl (hi 142 k5))) hi7)))))))) : pm_C pm_g (SH L) HR (d + 3) m_M_turns [.inr 141, .inl p1, .inl p2] hi Q := by
  refine pm_C_of (maxL := 3) (t := pm_t156) rfl (Nat.le_of_ble_eq_true rfl) ?_
  refine pm_W_of 21 [] rfl ?_
  refine And.intro sh_l141 ?_
  refine v_M_isSpeaker (d := d)  ?_
  refine And.intro (fun c1 => ?_) (fun c1 => ?_)
  · replace h := h.1 c1
    refine ⟨_, rfl, ?_⟩
    refine And.intro (fun _ => ?_) (fun hc => absurd (pm_cd_t (by decide)) hc)
    refine And.intro trivial ?_
    exact h
  · replace h := h.2 c1
    refine And.intro (fun c2 => ?_) (fun c2 => ?_)
    · replace h := h.1 c2
      refine ⟨_, rfl, ?_⟩
      refine And.intro (fun _ => ?_) (fun hc => absurd (pm_cd_t (by decide)) hc)
      refine And.intro trivial ?_
      exact h
    · replace h := h.2 c2
      refine ⟨_, rfl, ?_⟩
      refine And.intro (fun hc => absurd hc (pm_cd_f (by decide))) (fun _ => ?_)
      refine And.intro trivial ?_
      refine v_M_in (d := d + 1)  ?_
      refine And.intro (fun c3 => ?_) (fun c3 => ?_)
      · replace h := h.1 c3
        refine ⟨_, rfl, ?_⟩
        refine And.intro (fun _ => ?_) (fun hc => absurd (pm_cd_t (by decide)) hc)
        refine And.intro trivial ?_
        exact h
      · replace h := h.2 c3
        refine And.intro (fun c4 => ?_) (fun c4 => ?_)
        · replace h := h.1 c4
          refine ⟨_, rfl, ?_⟩
          refine And.intro (fun _ => ?_) (fun hc => absurd (pm_cd_t (by decide)) hc)
          refine And.intro trivial ?_
          exact h
        · replace h := h.2 c4
          refine ⟨_, rfl, ?_⟩
          refine And.intro (fun hc => absurd hc (pm_cd_f (by decide))) (fun _ => ?_)
          refine And.intro sh_l141 ?_
          refine v_M_becomes (d := d + 1)  ?_
          obtain ⟨k5, hkk5, hek5, h⟩ := h
          refine ⟨k5, hkk5, hek5, ?_⟩
          obtain ⟨k6, hkk6, hek6, h⟩ := h
          refine ⟨k6, hkk6, hek6, ?_⟩
          refine ⟨_, rfl, ?_⟩
          obtain ⟨hi7, ehi7⟩ : ∃ m : pm_B, m = pm_u hi 142 k6 p2 := ⟨_, rfl⟩
          replace h := h hi7 ehi7
          rw [← ehi7]
          refine And.intro trivial ?_
          exact h
theorem v_M_set {L d : Nat} {p1 : Int32} {p2 : Int32} {p3 : Int32} {hi : pm_B} {Q : pm_Q} (h : ((p1 < 0) → Q (some (.inl (-1000000001))) hi) ∧ ((¬ (p1 < 0)) → ((((hi 142 1) - 1) < p1) → Q (some (.inl (-1000000001))) hi) ∧ ((¬ (((hi 142 1) - 1) < p1)) → ((p2 < 1) → Q (some (.inl (-1000000001))) hi) ∧ ((¬ (p2 < 1)) → ((2 < p2) → Q (some (.inl (-1000000001))) hi) ∧ ((¬ (2 < p2)) → ((¬ p2 = 1) → ((p3 < 0) → Q (some (.inl (-1000000001))) hi) ∧ ((¬ (p3 < 0)) → ((99 < p3) → Q (some (.inl (-1000000001))) hi) ∧ ((¬ (99 < p3)) → ∃ k8 : Nat, k8 < 1611 ∧ ((7 + (29 * p1)) + p2) = nI k8 ∧ (∃ k9 : Nat, k9 < 1611 ∧ ((7 + (29 * p1)) + p2) = nI k9 ∧ (∀ hi10 : pm_B, hi10 = pm_u hi 142 k9 p3 → (Q (some (.inl (hi 142 k8))) hi10)))))) ∧ ((¬ (¬ p2 = 1)) → ((p3 < 1) → Q (some (.inl (-1000000001))) hi) ∧ ((¬ (p3 < 1)) → ((9 < p3) → Q (some (.inl (-1000000001))) hi) ∧ ((¬ (9 < p3)) → ∃ k13 : Nat, k13 < 1611 ∧ ((7 + (29 * p1)) + p2) = nI k13 ∧ (∃ k14 : Nat, k14 < 1611 ∧ ((7 + (29 * p1)) + p2) = nI k14 ∧ (∀ hi15 : pm_B, hi15 = pm_u hi 142 k14 p3 → (Q (some (.inl (hi 142 k13))) hi15))))))))))) : pm_C pm_g (SH L) HR (d + 3) m_M_set [.inr 141, .inl p1, .inl p2, .inl p3] hi Q := by
  refine pm_C_of (maxL := 4) (t := pm_t157) rfl (Nat.le_of_ble_eq_true rfl) ?_
  refine pm_W_of 27 [] rfl ?_
  refine And.intro sh_l141 ?_
  refine v_M_isSpeaker (d := d)  ?_
  refine And.intro (fun c1 => ?_) (fun c1 => ?_)
  · replace h := h.1 c1
    refine ⟨_, rfl, ?_⟩
    refine And.intro (fun _ => ?_) (fun hc => absurd (pm_cd_t (by decide)) hc)
    refine And.intro trivial ?_
    exact h
  · replace h := h.2 c1
    refine And.intro (fun c2 => ?_) (fun c2 => ?_)
    · replace h := h.1 c2
      refine ⟨_, rfl, ?_⟩
      refine And.intro (fun _ => ?_) (fun hc => absurd (pm_cd_t (by decide)) hc)
      refine And.intro trivial ?_
      exact h
    · replace h := h.2 c2
      refine ⟨_, rfl, ?_⟩
      refine And.intro (fun hc => absurd hc (pm_cd_f (by decide))) (fun _ => ?_)
      refine And.intro trivial ?_
      refine v_M_in (d := d + 1)  ?_
      refine And.intro (fun c3 => ?_) (fun c3 => ?_)
      · replace h := h.1 c3
        refine ⟨_, rfl, ?_⟩
        refine And.intro (fun _ => ?_) (fun hc => absurd (pm_cd_t (by decide)) hc)
        refine And.intro trivial ?_
        exact h
      · replace h := h.2 c3
        refine And.intro (fun c4 => ?_) (fun c4 => ?_)
        · replace h := h.1 c4
          refine ⟨_, rfl, ?_⟩
          refine And.intro (fun _ => ?_) (fun hc => absurd (pm_cd_t (by decide)) hc)
          refine And.intro trivial ?_
          exact h
        · replace h := h.2 c4
          refine ⟨_, rfl, ?_⟩
          refine And.intro (fun hc => absurd hc (pm_cd_f (by decide))) (fun _ => ?_)
          refine And.intro trivial ?_
          refine v_M_isOf (d := d)  ?_
          refine And.intro (fun c5 => ?_) (fun c5 => ?_)
          · replace h := h.1 c5
            refine And.intro (fun c6 => ?_) (fun c6 => ?_)
            · replace h := h.1 c6
              refine ⟨_, rfl, ?_⟩
              refine And.intro (fun _ => ?_) (fun hc => absurd (pm_cd_t (by decide)) hc)
              refine And.intro trivial ?_
              exact h
            · replace h := h.2 c6
              refine And.intro (fun c7 => ?_) (fun c7 => ?_)
              · replace h := h.1 c7
                refine ⟨_, rfl, ?_⟩
                refine And.intro (fun _ => ?_) (fun hc => absurd (pm_cd_t (by decide)) hc)
                refine And.intro trivial ?_
                exact h
              · replace h := h.2 c7
                refine ⟨_, rfl, ?_⟩
                refine And.intro (fun hc => absurd hc (pm_cd_f (by decide))) (fun _ => ?_)
                refine And.intro sh_l141 ?_
                refine v_M_becomes (d := d + 1)  ?_
                obtain ⟨k8, hkk8, hek8, h⟩ := h
                refine ⟨k8, hkk8, hek8, ?_⟩
                obtain ⟨k9, hkk9, hek9, h⟩ := h
                refine ⟨k9, hkk9, hek9, ?_⟩
                refine ⟨_, rfl, ?_⟩
                obtain ⟨hi10, ehi10⟩ : ∃ m : pm_B, m = pm_u hi 142 k9 p3 := ⟨_, rfl⟩
                replace h := h hi10 ehi10
                rw [← ehi10]
                refine And.intro trivial ?_
                exact h
          · replace h := h.2 c5
            refine And.intro (fun c11 => ?_) (fun c11 => ?_)
            · replace h := h.1 c11
              refine ⟨_, rfl, ?_⟩
              refine And.intro (fun _ => ?_) (fun hc => absurd (pm_cd_t (by decide)) hc)
              refine And.intro trivial ?_
              exact h
            · replace h := h.2 c11
              refine And.intro (fun c12 => ?_) (fun c12 => ?_)
              · replace h := h.1 c12
                refine ⟨_, rfl, ?_⟩
                refine And.intro (fun _ => ?_) (fun hc => absurd (pm_cd_t (by decide)) hc)
                refine And.intro trivial ?_
                exact h
              · replace h := h.2 c12
                refine ⟨_, rfl, ?_⟩
                refine And.intro (fun hc => absurd hc (pm_cd_f (by decide))) (fun _ => ?_)
                refine And.intro sh_l141 ?_
                refine v_M_becomes (d := d + 1)  ?_
                obtain ⟨k13, hkk13, hek13, h⟩ := h
                refine ⟨k13, hkk13, hek13, ?_⟩
                obtain ⟨k14, hkk14, hek14, h⟩ := h
                refine ⟨k14, hkk14, hek14, ?_⟩
                refine ⟨_, rfl, ?_⟩
                obtain ⟨hi15, ehi15⟩ : ∃ m : pm_B, m = pm_u hi 142 k14 p3 := ⟨_, rfl⟩
                replace h := h hi15 ehi15
                rw [← ehi15]
                refine And.intro trivial ?_
                exact h
theorem v_M_forgetsOldest {L d : Nat} {p1 : Int32} {hi : pm_B} {Q : pm_Q} (h : ∃ k1 : Nat, k1 < 1611 ∧ ((7 + (29 * p1)) + 4) = nI k1 ∧ (∃ k2 : Nat, k2 < 1611 ∧ ((7 + (29 * p1)) + 4) = nI k2 ∧ (∀ hi3 : pm_B, hi3 = pm_u hi 142 k2 ((hi 142 k1) - 1) → (pm_W pm_g (SH L) HR (d + 1) pm_t158 18 [some (.inr 141), some (.inl p1), some (.inl ((hi 142 k1) - 1)), some (.inl 0)] [] hi3 Q)))) : pm_C pm_g (SH L) HR (d + 2) m_M_forgetsOldest [.inr 141, .inl p1] hi Q := by
  refine pm_C_of (maxL := 4) (t := pm_t158) rfl (Nat.le_of_ble_eq_true rfl) ?_
  refine pm_W_of 16 [18] rfl ?_
  refine And.intro sh_l141 ?_
  refine v_M_of (d := d)  ?_
  obtain ⟨k1, hkk1, hek1, h⟩ := h
  refine ⟨k1, hkk1, hek1, ?_⟩
  refine ⟨_, rfl, ?_⟩
  refine And.intro sh_l141 ?_
  refine v_M_put (d := d)  ?_
  obtain ⟨k2, hkk2, hek2, h⟩ := h
  refine ⟨k2, hkk2, hek2, ?_⟩
  refine ⟨rfl, ?_⟩
  obtain ⟨hi3, ehi3⟩ : ∃ m : pm_B, m = pm_u hi 142 k2 ((hi 142 k1) - 1) := ⟨_, rfl⟩
  replace h := h hi3 ehi3
  rw [← ehi3]
  exact h
theorem v_M_forgetsOldest_18 {L d : Nat}  {p1 : Int32} {y2 : Int32} {y3 : Int32} {hi : pm_B} {Q : pm_Q} (h : ((y2 ≤ y3) → Q none (pm_u hi 142 5 ((hi 142 5) + 1))) ∧ ((¬ (y2 ≤ y3)) → ∃ k2 : Nat, k2 < 1611 ∧ ((7 + (29 * p1)) + ((5 + y3) + 1)) = nI k2 ∧ (∃ k3 : Nat, k3 < 1611 ∧ ((7 + (29 * p1)) + (5 + y3)) = nI k3 ∧ (∀ hi4 : pm_B, hi4 = pm_u hi 142 k3 (hi 142 k2) → (pm_W pm_g (SH L) HR (d + 1) pm_t158 18 [some (.inr 141), some (.inl p1), some (.inl y2), some (.inl (y3 + 1))] [] hi4 Q))))) : pm_W pm_g (SH L) HR (d + 1) pm_t158 18 [some (.inr 141), some (.inl p1), some (.inl y2), some (.inl y3)] [] hi Q := by
  refine pm_W_of 21 [18] rfl ?_
  refine And.intro (fun c1 => ?_) (fun c1 => ?_)
  · replace h := h.1 c1
    refine And.intro sh_l141 ?_
    rw [hr_141_0]
    refine And.intro (pm_ao_of (t := 0) sh_l142 (by decide : 5 < 1611) (rfl : (5 : Int32) = nI 5) (by decide)) ?_
    rw [pm_tn (rfl : (5 : Int32) = nI 5) (by decide : 5 < 1611) (by decide)]
    refine And.intro ⟨pm_aw_of sh_l142 (by decide : 5 < 1611) (rfl : (5 : Int32) = nI 5) (by decide), trivial⟩ ?_
    rw [pm_tn (rfl : (5 : Int32) = nI 5) (by decide : 5 < 1611) (by decide)]
    exact h
  · replace h := h.2 c1
    refine And.intro sh_l141 ?_
    refine v_M_of (d := d)  ?_
    obtain ⟨k2, hkk2, hek2, h⟩ := h
    refine ⟨k2, hkk2, hek2, ?_⟩
    refine ⟨_, rfl, ?_⟩
    refine And.intro sh_l141 ?_
    refine v_M_put (d := d)  ?_
    obtain ⟨k3, hkk3, hek3, h⟩ := h
    refine ⟨k3, hkk3, hek3, ?_⟩
    refine ⟨rfl, ?_⟩
    obtain ⟨hi4, ehi4⟩ : ∃ m : pm_B, m = pm_u hi 142 k3 (hi 142 k2) := ⟨_, rfl⟩
    replace h := h hi4 ehi4
    rw [← ehi4]
    exact h
theorem v_M_hears {L d : Nat} {p1 : Int32} {hi : pm_B} {Q : pm_Q} (h : pm_C pm_g (SH L) HR (d + 1) m_M_takesOf [.inr 141, .inl p1] hi (fun v hi1 => ∃ x2 : Int32, v = some (.inl x2) ∧ (pm_W pm_g (SH L) HR (d + 1) pm_t159 16 [some (.inr 141), some (.inl p1), some (.inl (f_M_within x2 0 (hi1 141 5))), some (.inl 0)] [] hi1 Q))) : pm_C pm_g (SH L) HR (d + 2) m_M_hears [.inr 141, .inl p1] hi Q := by
  refine pm_C_of (maxL := 4) (t := pm_t159) rfl (Nat.le_of_ble_eq_true rfl) ?_
  refine pm_W_of 12 [16, 60] rfl ?_
  refine And.intro sh_l141 ?_
  refine pm_C_imp h (fun v hi1 h => ?_)
  obtain ⟨x2, rfl, h⟩ := h
  refine ⟨_, rfl, ?_⟩
  refine And.intro sh_l141 ?_
  refine And.intro trivial ?_
  refine f_M_within_c (d := d)  ?_
  refine ⟨_, rfl, ?_⟩
  exact h
theorem v_M_hears_16 {L d : Nat}  {p1 : Int32} {y2 : Int32} {y3 : Int32} {hi : pm_B} {Q : pm_Q} (h : ((y2 ≤ y3) → pm_W pm_g (SH L) HR (d + 1) pm_t159 60 [some (.inr 141), some (.inl p1), some (.inl y2), some (.inl y3)] [] hi Q) ∧ ((¬ (y2 ≤ y3)) → ∃ k2 : Nat, k2 < 1611 ∧ ((7 + (29 * p1)) + 4) = nI k2 ∧ (∃ k3 : Nat, k3 < 12 ∧ y3 = nI k3 ∧ (∃ k4 : Nat, k4 < 1611 ∧ ((7 + (29 * p1)) + (5 + (hi 142 k2))) = nI k4 ∧ (∀ hi5 : pm_B, hi5 = pm_u hi 142 k4 (hi 145 k3) → (∃ k6 : Nat, k6 < 1611 ∧ ((7 + (29 * p1)) + 4) = nI k6 ∧ (∃ k7 : Nat, k7 < 1611 ∧ ((7 + (29 * p1)) + 4) = nI k7 ∧ (∀ hi8 : pm_B, hi8 = pm_u hi5 142 k7 ((hi5 142 k6) + 1) → (pm_W pm_g (SH L) HR (d + 1) pm_t159 16 [some (.inr 141), some (.inl p1), some (.inl y2), some (.inl (y3 + 1))] [] hi8 Q))))))))) : pm_W pm_g (SH L) HR (d + 1) pm_t159 16 [some (.inr 141), some (.inl p1), some (.inl y2), some (.inl y3)] [] hi Q := by
  refine pm_W_of 30 [16, 60] rfl ?_
  refine And.intro (fun c1 => ?_) (fun c1 => ?_)
  · replace h := h.1 c1
    exact h
  · replace h := h.2 c1
    refine And.intro sh_l141 ?_
    refine v_M_of (d := d)  ?_
    obtain ⟨k2, hkk2, hek2, h⟩ := h
    refine ⟨k2, hkk2, hek2, ?_⟩
    refine ⟨_, rfl, ?_⟩
    refine And.intro sh_l141 ?_
    rw [hr_141_4]
    obtain ⟨k3, hkk3, hek3, h⟩ := h
    refine And.intro (pm_ao_of (t := 0) sh_l145 hkk3 hek3 (by decide)) ?_
    rw [pm_tn hek3 hkk3 (by decide)]
    refine And.intro sh_l141 ?_
    refine v_M_put (d := d)  ?_
    obtain ⟨k4, hkk4, hek4, h⟩ := h
    refine ⟨k4, hkk4, hek4, ?_⟩
    refine ⟨rfl, ?_⟩
    obtain ⟨hi5, ehi5⟩ : ∃ m : pm_B, m = pm_u hi 142 k4 (hi 145 k3) := ⟨_, rfl⟩
    replace h := h hi5 ehi5
    rw [← ehi5]
    refine And.intro sh_l141 ?_
    refine v_M_of (d := d)  ?_
    obtain ⟨k6, hkk6, hek6, h⟩ := h
    refine ⟨k6, hkk6, hek6, ?_⟩
    refine ⟨_, rfl, ?_⟩
    refine And.intro sh_l141 ?_
    refine v_M_put (d := d)  ?_
    obtain ⟨k7, hkk7, hek7, h⟩ := h
    refine ⟨k7, hkk7, hek7, ?_⟩
    refine ⟨rfl, ?_⟩
    obtain ⟨hi8, ehi8⟩ : ∃ m : pm_B, m = pm_u hi5 142 k7 ((hi5 142 k6) + 1) := ⟨_, rfl⟩
    replace h := h hi8 ehi8
    rw [← ehi8]
    exact h
theorem v_M_hears_60 {L d : Nat}  {p1 : Int32} {y2 : Int32} {y3 : Int32} {hi : pm_B} {Q : pm_Q} (h : ∃ k1 : Nat, k1 < 1611 ∧ ((7 + (29 * p1)) + 4) = nI k1 ∧ (pm_C pm_g (SH L) HR (d + 1) m_M_keepsOf [.inr 141, .inl p1] hi (fun v hi2 => ∃ x3 : Int32, v = some (.inl x3) ∧ ((((hi 142 k1) ≤ x3) → Q none hi2) ∧ ((¬ ((hi 142 k1) ≤ x3)) → pm_C pm_g (SH L) HR (d + 1) m_M_forgetsOldest [.inr 141, .inl p1] hi2 (fun v hi5 => v = none ∧ (pm_W pm_g (SH L) HR (d + 1) pm_t159 60 [some (.inr 141), some (.inl p1), some (.inl y2), some (.inl y3)] [] hi5 Q))))))) : pm_W pm_g (SH L) HR (d + 1) pm_t159 60 [some (.inr 141), some (.inl p1), some (.inl y2), some (.inl y3)] [] hi Q := by
  refine pm_W_of 14 [16, 60] rfl ?_
  refine And.intro sh_l141 ?_
  refine v_M_of (d := d)  ?_
  obtain ⟨k1, hkk1, hek1, h⟩ := h
  refine ⟨k1, hkk1, hek1, ?_⟩
  refine ⟨_, rfl, ?_⟩
  refine And.intro sh_l141 ?_
  refine pm_C_imp h (fun v hi2 h => ?_)
  obtain ⟨x3, rfl, h⟩ := h
  refine ⟨_, rfl, ?_⟩
  refine And.intro (fun c4 => ?_) (fun c4 => ?_)
  · replace h := h.1 c4
    exact h
  · replace h := h.2 c4
    refine And.intro sh_l141 ?_
    refine pm_C_imp h (fun v hi5 h => ?_)
    obtain ⟨rfl, h⟩ := h
    refine ⟨rfl, ?_⟩
    exact h
theorem v_M_speaks {L d : Nat} {p1 : Int32} {p2 : Int32} {p3 : Int32} {p4 : Int32} {hi : pm_B} {Q : pm_Q} (h : ((p1 < 0) → Q (some (.inl (-1000000001))) hi) ∧ ((¬ (p1 < 0)) → ((((hi 142 1) - 1) < p1) → Q (some (.inl (-1000000001))) hi) ∧ ((¬ (((hi 142 1) - 1) < p1)) → ((p2 < (-1)) → Q (some (.inl (-1000000001))) hi) ∧ ((¬ (p2 < (-1))) → ((19 < p2) → Q (some (.inl (-1000000001))) hi) ∧ ((¬ (19 < p2)) → ((p3 < (-1)) → Q (some (.inl (-1000000001))) hi) ∧ ((¬ (p3 < (-1))) → ((19 < p3) → Q (some (.inl (-1000000001))) hi) ∧ ((¬ (19 < p3)) → ((p4 < (-1)) → Q (some (.inl (-1000000001))) hi) ∧ ((¬ (p4 < (-1))) → ((19 < p4) → Q (some (.inl (-1000000001))) hi) ∧ ((¬ (19 < p4)) → ((p2 < 0) → ((p3 < 0) → ((p4 < 0) → pm_C pm_g (SH L) HR (d + 2) m_M_hears [.inr 141, .inl p1] (pm_u hi 141 5 0) (fun v hi12 => v = none ∧ (∃ k13 : Nat, k13 < 1611 ∧ ((7 + (29 * p1)) + 4) = nI k13 ∧ (Q (some (.inl (hi12 142 k13))) hi12)))) ∧ ((¬ (p4 < 0)) → ∃ k14 : Nat, k14 < 12 ∧ ((pm_u hi 141 5 0) 141 5) = nI k14 ∧ (∀ hi15 : pm_B, hi15 = pm_u (pm_u (pm_u hi 141 5 0) 145 k14 p4) 141 5 (((pm_u (pm_u hi 141 5 0) 145 k14 p4) 141 5) + 1) → (pm_C pm_g (SH L) HR (d + 2) m_M_hears [.inr 141, .inl p1] hi15 (fun v hi16 => v = none ∧ (∃ k17 : Nat, k17 < 1611 ∧ ((7 + (29 * p1)) + 4) = nI k17 ∧ (Q (some (.inl (hi16 142 k17))) hi16))))))) ∧ ((¬ (p3 < 0)) → ∃ k18 : Nat, k18 < 12 ∧ ((pm_u hi 141 5 0) 141 5) = nI k18 ∧ (∀ hi19 : pm_B, hi19 = pm_u (pm_u (pm_u hi 141 5 0) 145 k18 p3) 141 5 (((pm_u (pm_u hi 141 5 0) 145 k18 p3) 141 5) + 1) → (((p4 < 0) → pm_C pm_g (SH L) HR (d + 2) m_M_hears [.inr 141, .inl p1] hi19 (fun v hi21 => v = none ∧ (∃ k22 : Nat, k22 < 1611 ∧ ((7 + (29 * p1)) + 4) = nI k22 ∧ (Q (some (.inl (hi21 142 k22))) hi21)))) ∧ ((¬ (p4 < 0)) → ∃ k23 : Nat, k23 < 12 ∧ (hi19 141 5) = nI k23 ∧ (∀ hi24 : pm_B, hi24 = pm_u (pm_u hi19 145 k23 p4) 141 5 (((pm_u hi19 145 k23 p4) 141 5) + 1) → (pm_C pm_g (SH L) HR (d + 2) m_M_hears [.inr 141, .inl p1] hi24 (fun v hi25 => v = none ∧ (∃ k26 : Nat, k26 < 1611 ∧ ((7 + (29 * p1)) + 4) = nI k26 ∧ (Q (some (.inl (hi25 142 k26))) hi25)))))))))) ∧ ((¬ (p2 < 0)) → ∃ k27 : Nat, k27 < 12 ∧ ((pm_u hi 141 5 0) 141 5) = nI k27 ∧ (∀ hi28 : pm_B, hi28 = pm_u (pm_u (pm_u hi 141 5 0) 145 k27 p2) 141 5 (((pm_u (pm_u hi 141 5 0) 145 k27 p2) 141 5) + 1) → (((p3 < 0) → ((p4 < 0) → pm_C pm_g (SH L) HR (d + 2) m_M_hears [.inr 141, .inl p1] hi28 (fun v hi31 => v = none ∧ (∃ k32 : Nat, k32 < 1611 ∧ ((7 + (29 * p1)) + 4) = nI k32 ∧ (Q (some (.inl (hi31 142 k32))) hi31)))) ∧ ((¬ (p4 < 0)) → ∃ k33 : Nat, k33 < 12 ∧ (hi28 141 5) = nI k33 ∧ (∀ hi34 : pm_B, hi34 = pm_u (pm_u hi28 145 k33 p4) 141 5 (((pm_u hi28 145 k33 p4) 141 5) + 1) → (pm_C pm_g (SH L) HR (d + 2) m_M_hears [.inr 141, .inl p1] hi34 (fun v hi35 => v = none ∧ (∃ k36 : Nat, k36 < 1611 ∧ ((7 + (29 * p1)) + 4) = nI k36 ∧ (Q (some (.inl (hi35 142 k36))) hi35))))))) ∧ ((¬ (p3 < 0)) → ∃ k37 : Nat, k37 < 12 ∧ (hi28 141 5) = nI k37 ∧ (∀ hi38 : pm_B, hi38 = pm_u (pm_u hi28 145 k37 p3) 141 5 (((pm_u hi28 145 k37 p3) 141 5) + 1) → (((p4 < 0) → pm_C pm_g (SH L) HR (d + 2) m_M_hears [.inr 141, .inl p1] hi38 (fun v hi40 => v = none ∧ (∃ k41 : Nat, k41 < 1611 ∧ ((7 + (29 * p1)) + 4) = nI k41 ∧ (Q (some (.inl (hi40 142 k41))) hi40)))) ∧ ((¬ (p4 < 0)) → ∃ k42 : Nat, k42 < 12 ∧ (hi38 141 5) = nI k42 ∧ (∀ hi43 : pm_B, hi43 = pm_u (pm_u hi38 145 k42 p4) 141 5 (((pm_u hi38 145 k42 p4) 141 5) + 1) → (pm_C pm_g (SH L) HR (d + 2) m_M_hears [.inr 141, .inl p1] hi43 (fun v hi44 => v = none ∧ (∃ k45 : Nat, k45 < 1611 ∧ ((7 + (29 * p1)) + 4) = nI k45 ∧ (Q (some (.inl (hi44 142 k45))) hi44))))))))))))))))))))) : pm_C pm_g (SH L) HR (d + 3) m_M_speaks [.inr 141, .inl p1, .inl p2, .inl p3, .inl p4] hi Q := by
  refine pm_C_of (maxL := 5) (t := pm_t161) rfl (Nat.le_of_ble_eq_true rfl) ?_
  refine pm_W_of 41 [] rfl ?_
  refine And.intro sh_l141 ?_
  refine v_M_isSpeaker (d := d)  ?_
  refine And.intro (fun c1 => ?_) (fun c1 => ?_)
  · replace h := h.1 c1
    refine ⟨_, rfl, ?_⟩
    refine And.intro (fun _ => ?_) (fun hc => absurd (pm_cd_t (by decide)) hc)
    refine And.intro trivial ?_
    exact h
  · replace h := h.2 c1
    refine And.intro (fun c2 => ?_) (fun c2 => ?_)
    · replace h := h.1 c2
      refine ⟨_, rfl, ?_⟩
      refine And.intro (fun _ => ?_) (fun hc => absurd (pm_cd_t (by decide)) hc)
      refine And.intro trivial ?_
      exact h
    · replace h := h.2 c2
      refine ⟨_, rfl, ?_⟩
      refine And.intro (fun hc => absurd hc (pm_cd_f (by decide))) (fun _ => ?_)
      refine And.intro trivial ?_
      refine v_M_in (d := d + 1)  ?_
      refine And.intro (fun c3 => ?_) (fun c3 => ?_)
      · replace h := h.1 c3
        refine ⟨_, rfl, ?_⟩
        refine And.intro (fun _ => ?_) (fun hc => absurd (pm_cd_t (by decide)) hc)
        refine And.intro trivial ?_
        exact h
      · replace h := h.2 c3
        refine And.intro (fun c4 => ?_) (fun c4 => ?_)
        · replace h := h.1 c4
          refine ⟨_, rfl, ?_⟩
          refine And.intro (fun _ => ?_) (fun hc => absurd (pm_cd_t (by decide)) hc)
          refine And.intro trivial ?_
          exact h
        · replace h := h.2 c4
          refine ⟨_, rfl, ?_⟩
          refine And.intro (fun hc => absurd hc (pm_cd_f (by decide))) (fun _ => ?_)
          refine And.intro trivial ?_
          refine v_M_in (d := d + 1)  ?_
          refine And.intro (fun c5 => ?_) (fun c5 => ?_)
          · replace h := h.1 c5
            refine ⟨_, rfl, ?_⟩
            refine And.intro (fun _ => ?_) (fun hc => absurd (pm_cd_t (by decide)) hc)
            refine And.intro trivial ?_
            exact h
          · replace h := h.2 c5
            refine And.intro (fun c6 => ?_) (fun c6 => ?_)
            · replace h := h.1 c6
              refine ⟨_, rfl, ?_⟩
              refine And.intro (fun _ => ?_) (fun hc => absurd (pm_cd_t (by decide)) hc)
              refine And.intro trivial ?_
              exact h
            · replace h := h.2 c6
              refine ⟨_, rfl, ?_⟩
              refine And.intro (fun hc => absurd hc (pm_cd_f (by decide))) (fun _ => ?_)
              refine And.intro trivial ?_
              refine v_M_in (d := d + 1)  ?_
              refine And.intro (fun c7 => ?_) (fun c7 => ?_)
              · replace h := h.1 c7
                refine ⟨_, rfl, ?_⟩
                refine And.intro (fun hc => absurd hc (pm_cd_f (by decide))) (fun _ => ?_)
                refine And.intro trivial ?_
                exact h
              · replace h := h.2 c7
                refine And.intro (fun c8 => ?_) (fun c8 => ?_)
                · replace h := h.1 c8
                  refine ⟨_, rfl, ?_⟩
                  refine And.intro (fun hc => absurd hc (pm_cd_f (by decide))) (fun _ => ?_)
                  refine And.intro trivial ?_
                  exact h
                · replace h := h.2 c8
                  refine ⟨_, rfl, ?_⟩
                  refine And.intro (fun _ => ?_) (fun hc => absurd (pm_cd_t (by decide)) hc)
                  refine And.intro ⟨sh_l141, trivial⟩ ?_
                  refine And.intro sh_l141 ?_
                  refine v_M_speaksOne (d := d + 1)  ?_
                  refine And.intro (fun c9 => ?_) (fun c9 => ?_)
                  · replace h := h.1 c9
                    refine ⟨rfl, ?_⟩
                    refine And.intro sh_l141 ?_
                    refine v_M_speaksOne (d := d + 1)  ?_
                    refine And.intro (fun c10 => ?_) (fun c10 => ?_)
                    · replace h := h.1 c10
                      refine ⟨rfl, ?_⟩
                      refine And.intro sh_l141 ?_
                      refine v_M_speaksOne (d := d + 1)  ?_
                      refine And.intro (fun c11 => ?_) (fun c11 => ?_)
                      · replace h := h.1 c11
                        refine ⟨rfl, ?_⟩
                        refine And.intro sh_l141 ?_
                        refine pm_C_imp h (fun v hi12 h => ?_)
                        obtain ⟨rfl, h⟩ := h
                        refine ⟨rfl, ?_⟩
                        refine And.intro sh_l141 ?_
                        refine v_M_of (d := d + 1)  ?_
                        obtain ⟨k13, hkk13, hek13, h⟩ := h
                        refine ⟨k13, hkk13, hek13, ?_⟩
                        refine ⟨_, rfl, ?_⟩
                        refine And.intro trivial ?_
                        exact h
                      · replace h := h.2 c11
                        obtain ⟨k14, hkk14, hek14, h⟩ := h
                        refine ⟨k14, hkk14, hek14, ?_⟩
                        intro hi15 ehi15
                        replace h := h hi15 ehi15
                        refine ⟨rfl, ?_⟩
                        refine And.intro sh_l141 ?_
                        refine pm_C_imp h (fun v hi16 h => ?_)
                        obtain ⟨rfl, h⟩ := h
                        refine ⟨rfl, ?_⟩
                        refine And.intro sh_l141 ?_
                        refine v_M_of (d := d + 1)  ?_
                        obtain ⟨k17, hkk17, hek17, h⟩ := h
                        refine ⟨k17, hkk17, hek17, ?_⟩
                        refine ⟨_, rfl, ?_⟩
                        refine And.intro trivial ?_
                        exact h
                    · replace h := h.2 c10
                      obtain ⟨k18, hkk18, hek18, h⟩ := h
                      refine ⟨k18, hkk18, hek18, ?_⟩
                      intro hi19 ehi19
                      replace h := h hi19 ehi19
                      refine ⟨rfl, ?_⟩
                      refine And.intro sh_l141 ?_
                      refine v_M_speaksOne (d := d + 1)  ?_
                      refine And.intro (fun c20 => ?_) (fun c20 => ?_)
                      · replace h := h.1 c20
                        refine ⟨rfl, ?_⟩
                        refine And.intro sh_l141 ?_
                        refine pm_C_imp h (fun v hi21 h => ?_)
                        obtain ⟨rfl, h⟩ := h
                        refine ⟨rfl, ?_⟩
                        refine And.intro sh_l141 ?_
                        refine v_M_of (d := d + 1)  ?_
                        obtain ⟨k22, hkk22, hek22, h⟩ := h
                        refine ⟨k22, hkk22, hek22, ?_⟩
                        refine ⟨_, rfl, ?_⟩
                        refine And.intro trivial ?_
                        exact h
                      · replace h := h.2 c20
                        obtain ⟨k23, hkk23, hek23, h⟩ := h
                        refine ⟨k23, hkk23, hek23, ?_⟩
                        intro hi24 ehi24
                        replace h := h hi24 ehi24
                        refine ⟨rfl, ?_⟩
                        refine And.intro sh_l141 ?_
                        refine pm_C_imp h (fun v hi25 h => ?_)
                        obtain ⟨rfl, h⟩ := h
                        refine ⟨rfl, ?_⟩
                        refine And.intro sh_l141 ?_
                        refine v_M_of (d := d + 1)  ?_
                        obtain ⟨k26, hkk26, hek26, h⟩ := h
                        refine ⟨k26, hkk26, hek26, ?_⟩
                        refine ⟨_, rfl, ?_⟩
                        refine And.intro trivial ?_
                        exact h
                  · replace h := h.2 c9
                    obtain ⟨k27, hkk27, hek27, h⟩ := h
                    refine ⟨k27, hkk27, hek27, ?_⟩
                    intro hi28 ehi28
                    replace h := h hi28 ehi28
                    refine ⟨rfl, ?_⟩
                    refine And.intro sh_l141 ?_
                    refine v_M_speaksOne (d := d + 1)  ?_
                    refine And.intro (fun c29 => ?_) (fun c29 => ?_)
                    · replace h := h.1 c29
                      refine ⟨rfl, ?_⟩
                      refine And.intro sh_l141 ?_
                      refine v_M_speaksOne (d := d + 1)  ?_
                      refine And.intro (fun c30 => ?_) (fun c30 => ?_)
                      · replace h := h.1 c30
                        refine ⟨rfl, ?_⟩
                        refine And.intro sh_l141 ?_
                        refine pm_C_imp h (fun v hi31 h => ?_)
                        obtain ⟨rfl, h⟩ := h
                        refine ⟨rfl, ?_⟩
                        refine And.intro sh_l141 ?_
                        refine v_M_of (d := d + 1)  ?_
                        obtain ⟨k32, hkk32, hek32, h⟩ := h
                        refine ⟨k32, hkk32, hek32, ?_⟩
                        refine ⟨_, rfl, ?_⟩
                        refine And.intro trivial ?_
                        exact h
                      · replace h := h.2 c30
                        obtain ⟨k33, hkk33, hek33, h⟩ := h
                        refine ⟨k33, hkk33, hek33, ?_⟩
                        intro hi34 ehi34
                        replace h := h hi34 ehi34
                        refine ⟨rfl, ?_⟩
                        refine And.intro sh_l141 ?_
                        refine pm_C_imp h (fun v hi35 h => ?_)
                        obtain ⟨rfl, h⟩ := h
                        refine ⟨rfl, ?_⟩
                        refine And.intro sh_l141 ?_
                        refine v_M_of (d := d + 1)  ?_
                        obtain ⟨k36, hkk36, hek36, h⟩ := h
                        refine ⟨k36, hkk36, hek36, ?_⟩
                        refine ⟨_, rfl, ?_⟩
                        refine And.intro trivial ?_
                        exact h
                    · replace h := h.2 c29
                      obtain ⟨k37, hkk37, hek37, h⟩ := h
                      refine ⟨k37, hkk37, hek37, ?_⟩
                      intro hi38 ehi38
                      replace h := h hi38 ehi38
                      refine ⟨rfl, ?_⟩
                      refine And.intro sh_l141 ?_
                      refine v_M_speaksOne (d := d + 1)  ?_
                      refine And.intro (fun c39 => ?_) (fun c39 => ?_)
                      · replace h := h.1 c39
                        refine ⟨rfl, ?_⟩
                        refine And.intro sh_l141 ?_
                        refine pm_C_imp h (fun v hi40 h => ?_)
                        obtain ⟨rfl, h⟩ := h
                        refine ⟨rfl, ?_⟩
                        refine And.intro sh_l141 ?_
                        refine v_M_of (d := d + 1)  ?_
                        obtain ⟨k41, hkk41, hek41, h⟩ := h
                        refine ⟨k41, hkk41, hek41, ?_⟩
                        refine ⟨_, rfl, ?_⟩
                        refine And.intro trivial ?_
                        exact h
                      · replace h := h.2 c39
                        obtain ⟨k42, hkk42, hek42, h⟩ := h
                        refine ⟨k42, hkk42, hek42, ?_⟩
                        intro hi43 ehi43
                        replace h := h hi43 ehi43
                        refine ⟨rfl, ?_⟩
                        refine And.intro sh_l141 ?_
                        refine pm_C_imp h (fun v hi44 h => ?_)
                        obtain ⟨rfl, h⟩ := h
                        refine ⟨rfl, ?_⟩
                        refine And.intro sh_l141 ?_
                        refine v_M_of (d := d + 1)  ?_
                        obtain ⟨k45, hkk45, hek45, h⟩ := h
                        refine ⟨k45, hkk45, hek45, ?_⟩
                        refine ⟨_, rfl, ?_⟩
                        refine And.intro trivial ?_
                        exact h
theorem v_M_begins {L d : Nat} {p1 : Int32} {p2 : Int32} {p3 : Int32} {hi : pm_B} {Q : pm_Q} (h : pm_W pm_g (SH L) HR (d + 1) pm_t162 8 [some (.inr 141), some (.inl p1), some (.inl p2), some (.inl p3), some (.inl p2)] [] (pm_u hi 141 5 0) Q) : pm_C pm_g (SH L) HR (d + 2) m_M_begins [.inr 141, .inl p1, .inl p2, .inl p3] hi Q := by
  refine pm_C_of (maxL := 5) (t := pm_t162) rfl (Nat.le_of_ble_eq_true rfl) ?_
  refine pm_W_of 7 [8] rfl ?_
  refine And.intro ⟨sh_l141, trivial⟩ ?_
  exact h
theorem v_M_begins_8 {L d : Nat}  {p1 : Int32} {p2 : Int32} {p3 : Int32} {y4 : Int32} {hi : pm_B} {Q : pm_Q} (h : ∃ k1 : Nat, k1 < 1611 ∧ ((7 + (29 * p1)) + 4) = nI k1 ∧ ((((hi 142 k1) ≤ y4) → Q none hi) ∧ ((¬ ((hi 142 k1) ≤ y4)) → ((p3 ≤ (hi 141 5)) → Q none hi) ∧ ((¬ (p3 ≤ (hi 141 5))) → ∃ k4 : Nat, k4 < 1611 ∧ ((7 + (29 * p1)) + (5 + y4)) = nI k4 ∧ ((((hi 142 k4) < 0) → pm_W pm_g (SH L) HR (d + 1) pm_t162 8 [some (.inr 141), some (.inl p1), some (.inl p2), some (.inl p3), some (.inl (y4 + 1))] [] hi Q) ∧ ((¬ ((hi 142 k4) < 0)) → ∃ k6 : Nat, k6 < 12 ∧ (hi 141 5) = nI k6 ∧ (∀ hi7 : pm_B, hi7 = pm_u (pm_u hi 145 k6 (hi 142 k4)) 141 5 (((pm_u hi 145 k6 (hi 142 k4)) 141 5) + 1) → (pm_W pm_g (SH L) HR (d + 1) pm_t162 8 [some (.inr 141), some (.inl p1), some (.inl p2), some (.inl p3), some (.inl (y4 + 1))] [] hi7 Q)))))))) : pm_W pm_g (SH L) HR (d + 1) pm_t162 8 [some (.inr 141), some (.inl p1), some (.inl p2), some (.inl p3), some (.inl y4)] [] hi Q := by
  refine pm_W_of 22 [8] rfl ?_
  refine And.intro sh_l141 ?_
  refine v_M_of (d := d)  ?_
  obtain ⟨k1, hkk1, hek1, h⟩ := h
  refine ⟨k1, hkk1, hek1, ?_⟩
  refine ⟨_, rfl, ?_⟩
  refine And.intro (fun c2 => ?_) (fun c2 => ?_)
  · replace h := h.1 c2
    exact h
  · replace h := h.2 c2
    refine And.intro sh_l141 ?_
    refine And.intro (fun c3 => ?_) (fun c3 => ?_)
    · replace h := h.1 c3
      exact h
    · replace h := h.2 c3
      refine And.intro sh_l141 ?_
      refine v_M_of (d := d)  ?_
      obtain ⟨k4, hkk4, hek4, h⟩ := h
      refine ⟨k4, hkk4, hek4, ?_⟩
      refine ⟨_, rfl, ?_⟩
      refine And.intro sh_l141 ?_
      refine v_M_speaksOne (d := d)  ?_
      refine And.intro (fun c5 => ?_) (fun c5 => ?_)
      · replace h := h.1 c5
        refine ⟨rfl, ?_⟩
        exact h
      · replace h := h.2 c5
        obtain ⟨k6, hkk6, hek6, h⟩ := h
        refine ⟨k6, hkk6, hek6, ?_⟩
        intro hi7 ehi7
        replace h := h hi7 ehi7
        refine ⟨rfl, ?_⟩
        exact h
theorem v_M_tells {L d : Nat} {p1 : Int32} {p2 : Int32} {p3 : Int32} {hi : pm_B} {Q : pm_Q} (h : pm_C pm_g (SH L) HR (d + 1) m_M_goesOf [.inr 141, .inl p1] hi (fun v hi1 => ∃ x2 : Int32, v = some (.inl x2) ∧ (pm_C pm_g (SH L) HR (d + 1) m_M_begins [.inr 141, .inl p1, .inl p3, .inl x2] hi1 (fun v hi3 => v = none ∧ (∃ k4 : Nat, k4 < 1611 ∧ ((7 + (29 * p1)) + 3) = nI k4 ∧ (∃ k5 : Nat, k5 < 1611 ∧ ((7 + (29 * p1)) + 3) = nI k5 ∧ (∀ hi6 : pm_B, hi6 = pm_u hi3 142 k5 ((hi3 142 k4) + (hi3 141 5)) → (pm_C pm_g (SH L) HR (d + 1) m_M_hears [.inr 141, .inl p2] (pm_u hi6 142 4 ((hi6 142 4) + 1)) (fun v hi7 => v = none ∧ (Q (some (.inl (hi7 141 5))) hi7)))))))))) : pm_C pm_g (SH L) HR (d + 2) m_M_tells [.inr 141, .inl p1, .inl p2, .inl p3] hi Q := by
  refine pm_C_of (maxL := 4) (t := pm_t163) rfl (Nat.le_of_ble_eq_true rfl) ?_
  refine pm_W_of 34 [] rfl ?_
  refine And.intro sh_l141 ?_
  refine pm_C_imp h (fun v hi1 h => ?_)
  obtain ⟨x2, rfl, h⟩ := h
  refine ⟨_, rfl, ?_⟩
  refine And.intro sh_l141 ?_
  refine pm_C_imp h (fun v hi3 h => ?_)
  obtain ⟨rfl, h⟩ := h
  refine ⟨rfl, ?_⟩
  refine And.intro sh_l141 ?_
  refine v_M_of (d := d)  ?_
  obtain ⟨k4, hkk4, hek4, h⟩ := h
  refine ⟨k4, hkk4, hek4, ?_⟩
  refine ⟨_, rfl, ?_⟩
  refine And.intro sh_l141 ?_
  refine And.intro sh_l141 ?_
  refine v_M_put (d := d)  ?_
  obtain ⟨k5, hkk5, hek5, h⟩ := h
  refine ⟨k5, hkk5, hek5, ?_⟩
  refine ⟨rfl, ?_⟩
  obtain ⟨hi6, ehi6⟩ : ∃ m : pm_B, m = pm_u hi3 142 k5 ((hi3 142 k4) + (hi3 141 5)) := ⟨_, rfl⟩
  replace h := h hi6 ehi6
  rw [← ehi6]
  refine And.intro sh_l141 ?_
  rw [hr_141_0]
  refine And.intro (pm_ao_of (t := 0) sh_l142 (by decide : 4 < 1611) (rfl : (4 : Int32) = nI 4) (by decide)) ?_
  rw [pm_tn (rfl : (4 : Int32) = nI 4) (by decide : 4 < 1611) (by decide)]
  refine And.intro ⟨pm_aw_of sh_l142 (by decide : 4 < 1611) (rfl : (4 : Int32) = nI 4) (by decide), trivial⟩ ?_
  rw [pm_tn (rfl : (4 : Int32) = nI 4) (by decide : 4 < 1611) (by decide)]
  refine And.intro sh_l141 ?_
  refine pm_C_imp h (fun v hi7 h => ?_)
  obtain ⟨rfl, h⟩ := h
  refine ⟨rfl, ?_⟩
  refine And.intro sh_l141 ?_
  refine And.intro trivial ?_
  exact h
theorem v_M_says {L d : Nat} {p1 : Int32} {p2 : Int32} {p3 : Int32} {hi : pm_B} {Q : pm_Q} (h : ((p1 < 0) → Q (some (.inl (-1000000001))) hi) ∧ ((¬ (p1 < 0)) → ((((hi 142 1) - 1) < p1) → Q (some (.inl (-1000000001))) hi) ∧ ((¬ (((hi 142 1) - 1) < p1)) → ((p2 < 0) → Q (some (.inl (-1000000001))) hi) ∧ ((¬ (p2 < 0)) → ((((hi 142 1) - 1) < p2) → Q (some (.inl (-1000000001))) hi) ∧ ((¬ (((hi 142 1) - 1) < p2)) → ((p1 = p2) → Q (some (.inl (-1000000001))) hi) ∧ ((¬ (p1 = p2)) → ((p3 < 0) → Q (some (.inl (-1000000001))) hi) ∧ ((¬ (p3 < 0)) → ((11 < p3) → Q (some (.inl (-1000000001))) hi) ∧ ((¬ (11 < p3)) → ∃ k8 : Nat, k8 < 1611 ∧ ((7 + (29 * p1)) + 4) = nI k8 ∧ ((((hi 142 k8) ≤ p3) → Q (some (.inl (-1000000005))) hi) ∧ ((¬ ((hi 142 k8) ≤ p3)) → pm_C pm_g (SH L) HR (d + 2) m_M_tells [.inr 141, .inl p1, .inl p2, .inl p3] hi (fun v hi10 => ∃ x11 : Int32, v = some (.inl x11) ∧ (Q (some (.inl x11)) hi10)))))))))))) : pm_C pm_g (SH L) HR (d + 3) m_M_says [.inr 141, .inl p1, .inl p2, .inl p3] hi Q := by
  refine pm_C_of (maxL := 4) (t := pm_t164) rfl (Nat.le_of_ble_eq_true rfl) ?_
  refine pm_W_of 31 [] rfl ?_
  refine And.intro sh_l141 ?_
  refine v_M_isSpeaker (d := d)  ?_
  refine And.intro (fun c1 => ?_) (fun c1 => ?_)
  · replace h := h.1 c1
    refine ⟨_, rfl, ?_⟩
    refine And.intro (fun _ => ?_) (fun hc => absurd (pm_cd_t (by decide)) hc)
    refine And.intro trivial ?_
    exact h
  · replace h := h.2 c1
    refine And.intro (fun c2 => ?_) (fun c2 => ?_)
    · replace h := h.1 c2
      refine ⟨_, rfl, ?_⟩
      refine And.intro (fun _ => ?_) (fun hc => absurd (pm_cd_t (by decide)) hc)
      refine And.intro trivial ?_
      exact h
    · replace h := h.2 c2
      refine ⟨_, rfl, ?_⟩
      refine And.intro (fun hc => absurd hc (pm_cd_f (by decide))) (fun _ => ?_)
      refine And.intro sh_l141 ?_
      refine v_M_isSpeaker (d := d)  ?_
      refine And.intro (fun c3 => ?_) (fun c3 => ?_)
      · replace h := h.1 c3
        refine ⟨_, rfl, ?_⟩
        refine And.intro (fun _ => ?_) (fun hc => absurd (pm_cd_t (by decide)) hc)
        refine And.intro trivial ?_
        exact h
      · replace h := h.2 c3
        refine And.intro (fun c4 => ?_) (fun c4 => ?_)
        · replace h := h.1 c4
          refine ⟨_, rfl, ?_⟩
          refine And.intro (fun _ => ?_) (fun hc => absurd (pm_cd_t (by decide)) hc)
          refine And.intro trivial ?_
          exact h
        · replace h := h.2 c4
          refine ⟨_, rfl, ?_⟩
          refine And.intro (fun hc => absurd hc (pm_cd_f (by decide))) (fun _ => ?_)
          refine And.intro (fun c5 => ?_) (fun c5 => ?_)
          · replace h := h.1 c5
            refine And.intro trivial ?_
            exact h
          · replace h := h.2 c5
            refine And.intro trivial ?_
            refine v_M_in (d := d + 1)  ?_
            refine And.intro (fun c6 => ?_) (fun c6 => ?_)
            · replace h := h.1 c6
              refine ⟨_, rfl, ?_⟩
              refine And.intro (fun hc => absurd hc (pm_cd_f (by decide))) (fun _ => ?_)
              refine And.intro trivial ?_
              exact h
            · replace h := h.2 c6
              refine And.intro (fun c7 => ?_) (fun c7 => ?_)
              · replace h := h.1 c7
                refine ⟨_, rfl, ?_⟩
                refine And.intro (fun hc => absurd hc (pm_cd_f (by decide))) (fun _ => ?_)
                refine And.intro trivial ?_
                exact h
              · replace h := h.2 c7
                refine ⟨_, rfl, ?_⟩
                refine And.intro (fun _ => ?_) (fun hc => absurd (pm_cd_t (by decide)) hc)
                refine And.intro sh_l141 ?_
                refine v_M_of (d := d + 1)  ?_
                obtain ⟨k8, hkk8, hek8, h⟩ := h
                refine ⟨k8, hkk8, hek8, ?_⟩
                refine ⟨_, rfl, ?_⟩
                refine And.intro (fun c9 => ?_) (fun c9 => ?_)
                · replace h := h.1 c9
                  refine And.intro trivial ?_
                  exact h
                · replace h := h.2 c9
                  refine And.intro sh_l141 ?_
                  refine pm_C_imp h (fun v hi10 h => ?_)
                  obtain ⟨x11, rfl, h⟩ := h
                  refine ⟨_, rfl, ?_⟩
                  refine And.intro trivial ?_
                  exact h
theorem v_M_forgets {L d : Nat} {p1 : Int32} {hi : pm_B} {Q : pm_Q} (h : ((p1 < 0) → Q (some (.inl (-1000000001))) hi) ∧ ((¬ (p1 < 0)) → ((((hi 142 1) - 1) < p1) → Q (some (.inl (-1000000001))) hi) ∧ ((¬ (((hi 142 1) - 1) < p1)) → ∃ k3 : Nat, k3 < 1611 ∧ ((7 + (29 * p1)) + 4) = nI k3 ∧ (∃ k4 : Nat, k4 < 1611 ∧ ((7 + (29 * p1)) + 4) = nI k4 ∧ (∀ hi5 : pm_B, hi5 = pm_u (pm_u hi 142 5 ((hi 142 5) + (hi 142 k3))) 142 k4 0 → (Q (some (.inl (hi 142 k3))) hi5)))))) : pm_C pm_g (SH L) HR (d + 3) m_M_forgets [.inr 141, .inl p1] hi Q := by
  refine pm_C_of (maxL := 3) (t := pm_t165) rfl (Nat.le_of_ble_eq_true rfl) ?_
  refine pm_W_of 26 [] rfl ?_
  refine And.intro sh_l141 ?_
  refine v_M_isSpeaker (d := d)  ?_
  refine And.intro (fun c1 => ?_) (fun c1 => ?_)
  · replace h := h.1 c1
    refine ⟨_, rfl, ?_⟩
    refine And.intro (fun hc => absurd hc (pm_cd_f (by decide))) (fun _ => ?_)
    refine And.intro trivial ?_
    exact h
  · replace h := h.2 c1
    refine And.intro (fun c2 => ?_) (fun c2 => ?_)
    · replace h := h.1 c2
      refine ⟨_, rfl, ?_⟩
      refine And.intro (fun hc => absurd hc (pm_cd_f (by decide))) (fun _ => ?_)
      refine And.intro trivial ?_
      exact h
    · replace h := h.2 c2
      refine ⟨_, rfl, ?_⟩
      refine And.intro (fun _ => ?_) (fun hc => absurd (pm_cd_t (by decide)) hc)
      refine And.intro sh_l141 ?_
      refine v_M_of (d := d + 1)  ?_
      obtain ⟨k3, hkk3, hek3, h⟩ := h
      refine ⟨k3, hkk3, hek3, ?_⟩
      refine ⟨_, rfl, ?_⟩
      refine And.intro sh_l141 ?_
      rw [hr_141_0]
      refine And.intro (pm_ao_of (t := 0) sh_l142 (by decide : 5 < 1611) (rfl : (5 : Int32) = nI 5) (by decide)) ?_
      rw [pm_tn (rfl : (5 : Int32) = nI 5) (by decide : 5 < 1611) (by decide)]
      refine And.intro ⟨pm_aw_of sh_l142 (by decide : 5 < 1611) (rfl : (5 : Int32) = nI 5) (by decide), trivial⟩ ?_
      rw [pm_tn (rfl : (5 : Int32) = nI 5) (by decide : 5 < 1611) (by decide)]
      refine And.intro sh_l141 ?_
      refine v_M_put (d := d + 1)  ?_
      obtain ⟨k4, hkk4, hek4, h⟩ := h
      refine ⟨k4, hkk4, hek4, ?_⟩
      refine ⟨rfl, ?_⟩
      obtain ⟨hi5, ehi5⟩ : ∃ m : pm_B, m = pm_u (pm_u hi 142 5 ((hi 142 5) + (hi 142 k3))) 142 k4 0 := ⟨_, rfl⟩
      replace h := h hi5 ehi5
      rw [← ehi5]
      refine And.intro trivial ?_
      exact h
theorem v_M_talk {L d : Nat} {p1 : Int32} {hi : pm_B} {Q : pm_Q} (h : ((p1 < 0) → Q (some (.inl (-1000000001))) hi) ∧ ((¬ (p1 < 0)) → ((100 < p1) → Q (some (.inl (-1000000001))) hi) ∧ ((¬ (100 < p1)) → ∀ hi3 : pm_B, hi3 = pm_u hi 142 3 p1 → (Q (some (.inl (hi 142 3))) hi3)))) : pm_C pm_g (SH L) HR (d + 2) m_M_talk [.inr 141, .inl p1] hi Q := by
  refine pm_C_of (maxL := 2) (t := pm_t166) rfl (Nat.le_of_ble_eq_true rfl) ?_
  refine pm_W_of 14 [] rfl ?_
  refine And.intro trivial ?_
  refine v_M_in (d := d)  ?_
  refine And.intro (fun c1 => ?_) (fun c1 => ?_)
  · replace h := h.1 c1
    refine ⟨_, rfl, ?_⟩
    refine And.intro (fun _ => ?_) (fun hc => absurd (pm_cd_t (by decide)) hc)
    refine And.intro trivial ?_
    exact h
  · replace h := h.2 c1
    refine And.intro (fun c2 => ?_) (fun c2 => ?_)
    · replace h := h.1 c2
      refine ⟨_, rfl, ?_⟩
      refine And.intro (fun _ => ?_) (fun hc => absurd (pm_cd_t (by decide)) hc)
      refine And.intro trivial ?_
      exact h
    · replace h := h.2 c2
      refine ⟨_, rfl, ?_⟩
      refine And.intro (fun hc => absurd hc (pm_cd_f (by decide))) (fun _ => ?_)
      refine And.intro sh_l141 ?_
      refine v_M_becomes (d := d)  ?_
      refine ⟨3, by decide, rfl, ?_⟩
      refine ⟨3, by decide, rfl, ?_⟩
      refine ⟨_, rfl, ?_⟩
      obtain ⟨hi3, ehi3⟩ : ∃ m : pm_B, m = pm_u hi 142 3 p1 := ⟨_, rfl⟩
      replace h := h hi3 ehi3
      rw [← ehi3]
      refine And.intro trivial ?_
      exact h
theorem v_M_draw {L d : Nat}  {hi : pm_B} {Q : pm_Q} (h : Q (some (.inl ((Int32.toUInt32 ((pm_u hi 142 0 (((hi 142 0) * 1103515245) + 12345)) 142 0) >>> (Int32.toUInt32 8 &&& Int32.toUInt32 31)).toInt32))) (pm_u hi 142 0 (((hi 142 0) * 1103515245) + 12345))) : pm_C pm_g (SH L) HR (d + 1) m_M_draw [.inr 141] hi Q := by
  refine pm_C_of (maxL := 1) (t := pm_t167) rfl (Nat.le_of_ble_eq_true rfl) ?_
  refine pm_W_of 21 [] rfl ?_
  refine And.intro sh_l141 ?_
  rw [hr_141_0]
  refine And.intro sh_l141 ?_
  rw [hr_141_0]
  refine And.intro (pm_ao_of (t := 0) sh_l142 (by decide : 0 < 1611) (rfl : (0 : Int32) = nI 0) (by decide)) ?_
  rw [pm_tn (rfl : (0 : Int32) = nI 0) (by decide : 0 < 1611) (by decide)]
  refine And.intro ⟨pm_aw_of sh_l142 (by decide : 0 < 1611) (rfl : (0 : Int32) = nI 0) (by decide), trivial⟩ ?_
  rw [pm_tn (rfl : (0 : Int32) = nI 0) (by decide : 0 < 1611) (by decide)]
  refine And.intro sh_l141 ?_
  rw [hr_141_0]
  refine And.intro (pm_ao_of (t := 0) sh_l142 (by decide : 0 < 1611) (rfl : (0 : Int32) = nI 0) (by decide)) ?_
  rw [pm_tn (rfl : (0 : Int32) = nI 0) (by decide : 0 < 1611) (by decide)]
  refine And.intro trivial ?_
  exact h
theorem v_M_deal {L d : Nat} {p1 : Int32} {hi : pm_B} {Q : pm_Q} (h : ((p1 < 1) → Q (some (.inl (-1000000001))) hi) ∧ ((¬ (p1 < 1)) → ((8 < p1) → Q (some (.inl (-1000000001))) hi) ∧ ((¬ (8 < p1)) → pm_W pm_g (SH L) HR (d + 2) pm_t168 15 [some (.inr 141), some (.inl p1), some (.inl 0), none, none, none] [] hi Q))) : pm_C pm_g (SH L) HR (d + 3) m_M_deal [.inr 141, .inl p1] hi Q := by
  refine pm_C_of (maxL := 6) (t := pm_t168) rfl (Nat.le_of_ble_eq_true rfl) ?_
  refine pm_W_of 11 [15] rfl ?_
  refine And.intro trivial ?_
  refine v_M_in (d := d + 1)  ?_
  refine And.intro (fun c1 => ?_) (fun c1 => ?_)
  · replace h := h.1 c1
    refine ⟨_, rfl, ?_⟩
    refine And.intro (fun hc => absurd hc (pm_cd_f (by decide))) (fun _ => ?_)
    refine And.intro trivial ?_
    exact h
  · replace h := h.2 c1
    refine And.intro (fun c2 => ?_) (fun c2 => ?_)
    · replace h := h.1 c2
      refine ⟨_, rfl, ?_⟩
      refine And.intro (fun hc => absurd hc (pm_cd_f (by decide))) (fun _ => ?_)
      refine And.intro trivial ?_
      exact h
    · replace h := h.2 c2
      refine ⟨_, rfl, ?_⟩
      refine And.intro (fun _ => ?_) (fun hc => absurd (pm_cd_t (by decide)) hc)
      exact h
theorem v_M_deal_15 {L d : Nat} {o3 : Option pm_V} {o4 : Option pm_V} {o5 : Option pm_V} {p1 : Int32} {y2 : Int32} {hi : pm_B} {Q : pm_Q} (h : ((p1 ≤ y2) → Q (some (.inl y2)) hi) ∧ ((¬ (p1 ≤ y2)) → ((8 ≤ (hi 142 1)) → Q (some (.inl y2)) hi) ∧ ((¬ (8 ≤ (hi 142 1))) → pm_C pm_g (SH L) HR (d + 2) m_M_draw [.inr 141] hi (fun v hi3 => ∃ x4 : Int32, v = some (.inl x4) ∧ (pm_C pm_g (SH L) HR (d + 2) m_M_draw [.inr 141] hi3 (fun v hi5 => ∃ x6 : Int32, v = some (.inl x6) ∧ (pm_C pm_g (SH L) HR (d + 2) m_M_draw [.inr 141] hi5 (fun v hi7 => ∃ x8 : Int32, v = some (.inl x8) ∧ (∃ k9 : Nat, k9 < 1611 ∧ ((7 + (29 * (hi7 142 1))) + 0) = nI k9 ∧ (∀ hi10 : pm_B, hi10 = pm_u (pm_u hi7 142 1 ((hi7 142 1) + 1)) 142 k9 (x4 - x4 / 6 * 6) → (∃ k11 : Nat, k11 < 1611 ∧ ((7 + (29 * (hi7 142 1))) + 1) = nI k11 ∧ (∀ hi12 : pm_B, hi12 = pm_u hi10 142 k11 (1 + (x6 - x6 / 9 * 9)) → (∃ k13 : Nat, k13 < 1611 ∧ ((7 + (29 * (hi7 142 1))) + 2) = nI k13 ∧ (∀ hi14 : pm_B, hi14 = pm_u hi12 142 k13 (x8 - x8 / 100 * 100) → (∃ k15 : Nat, k15 < 1611 ∧ ((7 + (29 * (hi7 142 1))) + 3) = nI k15 ∧ (∀ hi16 : pm_B, hi16 = pm_u hi14 142 k15 0 → (∃ k17 : Nat, k17 < 1611 ∧ ((7 + (29 * (hi7 142 1))) + 4) = nI k17 ∧ (∀ hi18 : pm_B, hi18 = pm_u hi16 142 k17 0 → (pm_W pm_g (SH L) HR (d + 2) pm_t168 15 [some (.inr 141), some (.inl p1), some (.inl (y2 + 1)), some (.inl (x4 - x4 / 6 * 6)), some (.inl (1 + (x6 - x6 / 9 * 9))), some (.inl (hi7 142 1))] [] hi18 Q))))))))))))))))))) : pm_W pm_g (SH L) HR (d + 2) pm_t168 15 [some (.inr 141), some (.inl p1), some (.inl y2), o3, o4, o5] [] hi Q := by
  refine pm_W_of 42 [15] rfl ?_
  refine And.intro (fun c1 => ?_) (fun c1 => ?_)
  · replace h := h.1 c1
    refine And.intro trivial ?_
    exact h
  · replace h := h.2 c1
    refine And.intro sh_l141 ?_
    rw [hr_141_0]
    refine And.intro (pm_ao_of (t := 0) sh_l142 (by decide : 1 < 1611) (rfl : (1 : Int32) = nI 1) (by decide)) ?_
    rw [pm_tn (rfl : (1 : Int32) = nI 1) (by decide : 1 < 1611) (by decide)]
    refine And.intro (fun c2 => ?_) (fun c2 => ?_)
    · replace h := h.1 c2
      refine And.intro trivial ?_
      exact h
    · replace h := h.2 c2
      refine And.intro sh_l141 ?_
      refine pm_C_imp h (fun v hi3 h => ?_)
      obtain ⟨x4, rfl, h⟩ := h
      refine ⟨_, rfl, ?_⟩
      refine And.intro (by decide) ?_
      refine And.intro sh_l141 ?_
      refine pm_C_imp h (fun v hi5 h => ?_)
      obtain ⟨x6, rfl, h⟩ := h
      refine ⟨_, rfl, ?_⟩
      refine And.intro (by decide) ?_
      refine And.intro sh_l141 ?_
      refine pm_C_imp h (fun v hi7 h => ?_)
      obtain ⟨x8, rfl, h⟩ := h
      refine ⟨_, rfl, ?_⟩
      refine And.intro (by decide) ?_
      refine And.intro sh_l141 ?_
      refine v_M_comes (d := d)  ?_
      obtain ⟨k9, hkk9, hek9, h⟩ := h
      refine ⟨k9, hkk9, hek9, ?_⟩
      intro hi10 ehi10
      replace h := h hi10 ehi10
      obtain ⟨k11, hkk11, hek11, h⟩ := h
      refine ⟨k11, hkk11, hek11, ?_⟩
      intro hi12 ehi12
      replace h := h hi12 ehi12
      obtain ⟨k13, hkk13, hek13, h⟩ := h
      refine ⟨k13, hkk13, hek13, ?_⟩
      intro hi14 ehi14
      replace h := h hi14 ehi14
      obtain ⟨k15, hkk15, hek15, h⟩ := h
      refine ⟨k15, hkk15, hek15, ?_⟩
      intro hi16 ehi16
      replace h := h hi16 ehi16
      obtain ⟨k17, hkk17, hek17, h⟩ := h
      refine ⟨k17, hkk17, hek17, ?_⟩
      intro hi18 ehi18
      replace h := h hi18 ehi18
      refine ⟨_, rfl, ?_⟩
      exact h
theorem v_M_seed {L d : Nat} {p1 : Int32} {hi : pm_B} {Q : pm_Q} (h : ∀ hi1 : pm_B, hi1 = pm_u hi 142 0 p1 → (Q (some (.inl (hi 142 0))) hi1)) : pm_C pm_g (SH L) HR (d + 2) m_M_seed [.inr 141, .inl p1] hi Q := by
  refine pm_C_of (maxL := 2) (t := pm_t169) rfl (Nat.le_of_ble_eq_true rfl) ?_
  refine pm_W_of 14 [] rfl ?_
  refine And.intro sh_l141 ?_
  refine v_M_becomes (d := d)  ?_
  refine ⟨0, by decide, rfl, ?_⟩
  refine ⟨0, by decide, rfl, ?_⟩
  refine ⟨_, rfl, ?_⟩
  obtain ⟨hi1, ehi1⟩ : ∃ m : pm_B, m = pm_u hi 142 0 p1 := ⟨_, rfl⟩
  replace h := h hi1 ehi1
  rw [← ehi1]
  refine And.intro trivial ?_
  exact h
theorem v_M_talks {L d : Nat}  {hi : pm_B} {Q : pm_Q} (h : pm_C pm_g (SH L) HR (d + 1) m_M_draw [.inr 141] hi (fun v hi1 => ∃ x2 : Int32, v = some (.inl x2) ∧ ((¬ (hi1 142 1) = 0) ∧ (pm_C pm_g (SH L) HR (d + 1) m_M_draw [.inr 141] hi1 (fun v hi3 => ∃ x4 : Int32, v = some (.inl x4) ∧ ((¬ ((hi3 142 1) - 1) = 0) ∧ ((((x4 - x4 / ((hi3 142 1) - 1) * ((hi3 142 1) - 1)) < (x2 - x2 / (hi1 142 1) * (hi1 142 1))) → ∃ k6 : Nat, k6 < 1611 ∧ ((7 + (29 * (x2 - x2 / (hi1 142 1) * (hi1 142 1)))) + 4) = nI k6 ∧ ((((hi3 142 k6) ≤ 0) → Q none hi3) ∧ ((¬ ((hi3 142 k6) ≤ 0)) → pm_C pm_g (SH L) HR (d + 1) m_M_draw [.inr 141] hi3 (fun v hi8 => ∃ x9 : Int32, v = some (.inl x9) ∧ (∃ k10 : Nat, k10 < 1611 ∧ ((7 + (29 * (x2 - x2 / (hi1 142 1) * (hi1 142 1)))) + 4) = nI k10 ∧ ((¬ (hi8 142 k10) = 0) ∧ (pm_C pm_g (SH L) HR (d + 1) m_M_tells [.inr 141, .inl (x2 - x2 / (hi1 142 1) * (hi1 142 1)), .inl ((x4 - x4 / ((hi3 142 1) - 1) * ((hi3 142 1) - 1)) + 0), .inl (x9 - x9 / (hi8 142 k10) * (hi8 142 k10))] hi8 (fun v hi11 => ∃ x12 : Int32, v = some (.inl x12) ∧ (Q none hi11))))))))) ∧ ((¬ ((x4 - x4 / ((hi3 142 1) - 1) * ((hi3 142 1) - 1)) < (x2 - x2 / (hi1 142 1) * (hi1 142 1)))) → ∃ k13 : Nat, k13 < 1611 ∧ ((7 + (29 * (x2 - x2 / (hi1 142 1) * (hi1 142 1)))) + 4) = nI k13 ∧ ((((hi3 142 k13) ≤ 0) → Q none hi3) ∧ ((¬ ((hi3 142 k13) ≤ 0)) → pm_C pm_g (SH L) HR (d + 1) m_M_draw [.inr 141] hi3 (fun v hi15 => ∃ x16 : Int32, v = some (.inl x16) ∧ (∃ k17 : Nat, k17 < 1611 ∧ ((7 + (29 * (x2 - x2 / (hi1 142 1) * (hi1 142 1)))) + 4) = nI k17 ∧ ((¬ (hi15 142 k17) = 0) ∧ (pm_C pm_g (SH L) HR (d + 1) m_M_tells [.inr 141, .inl (x2 - x2 / (hi1 142 1) * (hi1 142 1)), .inl ((x4 - x4 / ((hi3 142 1) - 1) * ((hi3 142 1) - 1)) + 1), .inl (x16 - x16 / (hi15 142 k17) * (hi15 142 k17))] hi15 (fun v hi18 => ∃ x19 : Int32, v = some (.inl x19) ∧ (Q none hi18)))))))))))))))) : pm_C pm_g (SH L) HR (d + 2) m_M_talks [.inr 141] hi Q := by
  refine pm_C_of (maxL := 4) (t := pm_t170) rfl (Nat.le_of_ble_eq_true rfl) ?_
  refine pm_W_of 46 [] rfl ?_
  refine And.intro sh_l141 ?_
  refine pm_C_imp h (fun v hi1 h => ?_)
  obtain ⟨x2, rfl, h⟩ := h
  refine ⟨_, rfl, ?_⟩
  refine And.intro sh_l141 ?_
  rw [hr_141_0]
  refine And.intro (pm_ao_of (t := 0) sh_l142 (by decide : 1 < 1611) (rfl : (1 : Int32) = nI 1) (by decide)) ?_
  rw [pm_tn (rfl : (1 : Int32) = nI 1) (by decide : 1 < 1611) (by decide)]
  refine And.intro h.1 ?_
  replace h := h.2
  refine And.intro sh_l141 ?_
  refine pm_C_imp h (fun v hi3 h => ?_)
  obtain ⟨x4, rfl, h⟩ := h
  refine ⟨_, rfl, ?_⟩
  refine And.intro sh_l141 ?_
  rw [hr_141_0]
  refine And.intro (pm_ao_of (t := 0) sh_l142 (by decide : 1 < 1611) (rfl : (1 : Int32) = nI 1) (by decide)) ?_
  rw [pm_tn (rfl : (1 : Int32) = nI 1) (by decide : 1 < 1611) (by decide)]
  refine And.intro h.1 ?_
  replace h := h.2
  refine And.intro (fun c5 => ?_) (fun c5 => ?_)
  · replace h := h.1 c5
    refine And.intro sh_l141 ?_
    refine v_M_of (d := d)  ?_
    obtain ⟨k6, hkk6, hek6, h⟩ := h
    refine ⟨k6, hkk6, hek6, ?_⟩
    refine ⟨_, rfl, ?_⟩
    refine And.intro (fun c7 => ?_) (fun c7 => ?_)
    · replace h := h.1 c7
      exact h
    · replace h := h.2 c7
      refine And.intro sh_l141 ?_
      refine pm_C_imp h (fun v hi8 h => ?_)
      obtain ⟨x9, rfl, h⟩ := h
      refine ⟨_, rfl, ?_⟩
      refine And.intro sh_l141 ?_
      refine v_M_of (d := d)  ?_
      obtain ⟨k10, hkk10, hek10, h⟩ := h
      refine ⟨k10, hkk10, hek10, ?_⟩
      refine ⟨_, rfl, ?_⟩
      refine And.intro h.1 ?_
      replace h := h.2
      refine And.intro sh_l141 ?_
      refine pm_C_imp h (fun v hi11 h => ?_)
      obtain ⟨x12, rfl, h⟩ := h
      refine ⟨_, rfl, ?_⟩
      exact h
  · replace h := h.2 c5
    refine And.intro sh_l141 ?_
    refine v_M_of (d := d)  ?_
    obtain ⟨k13, hkk13, hek13, h⟩ := h
    refine ⟨k13, hkk13, hek13, ?_⟩
    refine ⟨_, rfl, ?_⟩
    refine And.intro (fun c14 => ?_) (fun c14 => ?_)
    · replace h := h.1 c14
      exact h
    · replace h := h.2 c14
      refine And.intro sh_l141 ?_
      refine pm_C_imp h (fun v hi15 h => ?_)
      obtain ⟨x16, rfl, h⟩ := h
      refine ⟨_, rfl, ?_⟩
      refine And.intro sh_l141 ?_
      refine v_M_of (d := d)  ?_
      obtain ⟨k17, hkk17, hek17, h⟩ := h
      refine ⟨k17, hkk17, hek17, ?_⟩
      refine ⟨_, rfl, ?_⟩
      refine And.intro h.1 ?_
      replace h := h.2
      refine And.intro sh_l141 ?_
      refine pm_C_imp h (fun v hi18 h => ?_)
      obtain ⟨x19, rfl, h⟩ := h
      refine ⟨_, rfl, ?_⟩
      exact h
theorem v_M_day {L d : Nat}  {hi : pm_B} {Q : pm_Q} (h : pm_C pm_g (SH L) HR (d) m_M_draw [.inr 141] hi (fun v hi1 => ∃ x2 : Int32, v = some (.inl x2) ∧ ((((hi1 142 3) ≤ (x2 - x2 / 100 * 100)) → Q none (pm_u hi1 142 2 ((hi1 142 2) + 1))) ∧ ((¬ ((hi1 142 3) ≤ (x2 - x2 / 100 * 100))) → (((hi1 142 1) ≤ 1) → Q none (pm_u hi1 142 2 ((hi1 142 2) + 1))) ∧ ((¬ ((hi1 142 1) ≤ 1)) → pm_C pm_g (SH L) HR (d) m_M_talks [.inr 141] hi1 (fun v hi5 => v = none ∧ (Q none (pm_u hi5 142 2 ((hi5 142 2) + 1))))))))) : pm_C pm_g (SH L) HR (d + 1) m_M_day [.inr 141] hi Q := by
  refine pm_C_of (maxL := 2) (t := pm_t171) rfl (Nat.le_of_ble_eq_true rfl) ?_
  refine pm_W_of 33 [] rfl ?_
  refine And.intro sh_l141 ?_
  refine pm_C_imp h (fun v hi1 h => ?_)
  obtain ⟨x2, rfl, h⟩ := h
  refine ⟨_, rfl, ?_⟩
  refine And.intro (by decide) ?_
  refine And.intro sh_l141 ?_
  rw [hr_141_0]
  refine And.intro (pm_ao_of (t := 0) sh_l142 (by decide : 3 < 1611) (rfl : (3 : Int32) = nI 3) (by decide)) ?_
  rw [pm_tn (rfl : (3 : Int32) = nI 3) (by decide : 3 < 1611) (by decide)]
  refine And.intro (fun c3 => ?_) (fun c3 => ?_)
  · replace h := h.1 c3
    refine And.intro (fun _ => ?_) (fun hc => absurd (pm_cd_t (by decide)) hc)
    refine And.intro sh_l141 ?_
    rw [hr_141_0]
    refine And.intro (pm_ao_of (t := 0) sh_l142 (by decide : 2 < 1611) (rfl : (2 : Int32) = nI 2) (by decide)) ?_
    rw [pm_tn (rfl : (2 : Int32) = nI 2) (by decide : 2 < 1611) (by decide)]
    refine And.intro ⟨pm_aw_of sh_l142 (by decide : 2 < 1611) (rfl : (2 : Int32) = nI 2) (by decide), trivial⟩ ?_
    rw [pm_tn (rfl : (2 : Int32) = nI 2) (by decide : 2 < 1611) (by decide)]
    exact h
  · replace h := h.2 c3
    refine And.intro (fun hc => absurd hc (pm_cd_f (by decide))) (fun _ => ?_)
    refine And.intro sh_l141 ?_
    rw [hr_141_0]
    refine And.intro (pm_ao_of (t := 0) sh_l142 (by decide : 1 < 1611) (rfl : (1 : Int32) = nI 1) (by decide)) ?_
    rw [pm_tn (rfl : (1 : Int32) = nI 1) (by decide : 1 < 1611) (by decide)]
    refine And.intro (fun c4 => ?_) (fun c4 => ?_)
    · replace h := h.1 c4
      refine And.intro sh_l141 ?_
      rw [hr_141_0]
      refine And.intro (pm_ao_of (t := 0) sh_l142 (by decide : 2 < 1611) (rfl : (2 : Int32) = nI 2) (by decide)) ?_
      rw [pm_tn (rfl : (2 : Int32) = nI 2) (by decide : 2 < 1611) (by decide)]
      refine And.intro ⟨pm_aw_of sh_l142 (by decide : 2 < 1611) (rfl : (2 : Int32) = nI 2) (by decide), trivial⟩ ?_
      rw [pm_tn (rfl : (2 : Int32) = nI 2) (by decide : 2 < 1611) (by decide)]
      exact h
    · replace h := h.2 c4
      refine And.intro sh_l141 ?_
      refine pm_C_imp h (fun v hi5 h => ?_)
      obtain ⟨rfl, h⟩ := h
      refine ⟨rfl, ?_⟩
      refine And.intro sh_l141 ?_
      rw [hr_141_0]
      refine And.intro (pm_ao_of (t := 0) sh_l142 (by decide : 2 < 1611) (rfl : (2 : Int32) = nI 2) (by decide)) ?_
      rw [pm_tn (rfl : (2 : Int32) = nI 2) (by decide : 2 < 1611) (by decide)]
      refine And.intro ⟨pm_aw_of sh_l142 (by decide : 2 < 1611) (rfl : (2 : Int32) = nI 2) (by decide), trivial⟩ ?_
      rw [pm_tn (rfl : (2 : Int32) = nI 2) (by decide : 2 < 1611) (by decide)]
      exact h
theorem v_M_goesOn {L d : Nat} {p1 : Int32} {hi : pm_B} {Q : pm_Q} (h : pm_W pm_g (SH L) HR (d) pm_t172 2 [some (.inr 141), some (.inl p1), some (.inl 0)] [] hi Q) : pm_C pm_g (SH L) HR (d + 1) m_M_goesOn [.inr 141, .inl p1] hi Q := by
  refine pm_C_of (maxL := 3) (t := pm_t172) rfl (Nat.le_of_ble_eq_true rfl) ?_
  refine pm_W_of 4 [2] rfl ?_
  exact h
theorem v_M_goesOn_2 {L d : Nat}  {p1 : Int32} {y2 : Int32} {hi : pm_B} {Q : pm_Q} (h : ((p1 ≤ y2) → Q none hi) ∧ ((¬ (p1 ≤ y2)) → pm_C pm_g (SH L) HR (d) m_M_day [.inr 141] hi (fun v hi2 => v = none ∧ (pm_W pm_g (SH L) HR (d) pm_t172 2 [some (.inr 141), some (.inl p1), some (.inl (y2 + 1))] [] hi2 Q)))) : pm_W pm_g (SH L) HR (d) pm_t172 2 [some (.inr 141), some (.inl p1), some (.inl y2)] [] hi Q := by
  refine pm_W_of 9 [2] rfl ?_
  refine And.intro (fun c1 => ?_) (fun c1 => ?_)
  · replace h := h.1 c1
    exact h
  · replace h := h.2 c1
    refine And.intro sh_l141 ?_
    refine pm_C_imp h (fun v hi2 h => ?_)
    obtain ⟨rfl, h⟩ := h
    refine ⟨rfl, ?_⟩
    exact h
theorem v_M_days {L d : Nat} {p1 : Int32} {hi : pm_B} {Q : pm_Q} (h : ((p1 < 1) → Q (some (.inl (-1000000001))) hi) ∧ ((¬ (p1 < 1)) → ((100 < p1) → Q (some (.inl (-1000000001))) hi) ∧ ((¬ (100 < p1)) → pm_C pm_g (SH L) HR (d + 1) m_M_goesOn [.inr 141, .inl (f_M_within (9999 - (hi 142 2)) 0 p1)] hi (fun v hi3 => v = none ∧ (Q (some (.inl ((hi3 142 4) - (hi 142 4)))) hi3))))) : pm_C pm_g (SH L) HR (d + 2) m_M_days [.inr 141, .inl p1] hi Q := by
  refine pm_C_of (maxL := 3) (t := pm_t173) rfl (Nat.le_of_ble_eq_true rfl) ?_
  refine pm_W_of 30 [] rfl ?_
  refine And.intro trivial ?_
  refine v_M_in (d := d)  ?_
  refine And.intro (fun c1 => ?_) (fun c1 => ?_)
  · replace h := h.1 c1
    refine ⟨_, rfl, ?_⟩
    refine And.intro (fun hc => absurd hc (pm_cd_f (by decide))) (fun _ => ?_)
    refine And.intro trivial ?_
    exact h
  · replace h := h.2 c1
    refine And.intro (fun c2 => ?_) (fun c2 => ?_)
    · replace h := h.1 c2
      refine ⟨_, rfl, ?_⟩
      refine And.intro (fun hc => absurd hc (pm_cd_f (by decide))) (fun _ => ?_)
      refine And.intro trivial ?_
      exact h
    · replace h := h.2 c2
      refine ⟨_, rfl, ?_⟩
      refine And.intro (fun _ => ?_) (fun hc => absurd (pm_cd_t (by decide)) hc)
      refine And.intro sh_l141 ?_
      rw [hr_141_0]
      refine And.intro (pm_ao_of (t := 0) sh_l142 (by decide : 4 < 1611) (rfl : (4 : Int32) = nI 4) (by decide)) ?_
      rw [pm_tn (rfl : (4 : Int32) = nI 4) (by decide : 4 < 1611) (by decide)]
      refine And.intro sh_l141 ?_
      rw [hr_141_0]
      refine And.intro (pm_ao_of (t := 0) sh_l142 (by decide : 2 < 1611) (rfl : (2 : Int32) = nI 2) (by decide)) ?_
      rw [pm_tn (rfl : (2 : Int32) = nI 2) (by decide : 2 < 1611) (by decide)]
      refine And.intro trivial ?_
      refine f_M_within_c (d := d)  ?_
      refine ⟨_, rfl, ?_⟩
      refine And.intro sh_l141 ?_
      refine pm_C_imp h (fun v hi3 h => ?_)
      obtain ⟨rfl, h⟩ := h
      refine ⟨rfl, ?_⟩
      refine And.intro sh_l141 ?_
      rw [hr_141_0]
      refine And.intro (pm_ao_of (t := 0) sh_l142 (by decide : 4 < 1611) (rfl : (4 : Int32) = nI 4) (by decide)) ?_
      rw [pm_tn (rfl : (4 : Int32) = nI 4) (by decide : 4 < 1611) (by decide)]
      refine And.intro trivial ?_
      exact h
theorem v_M_wordsOfAll {L d : Nat}  {hi : pm_B} {Q : pm_Q} (h : pm_W pm_g (SH L) HR (d + 1) pm_t174 4 [some (.inr 141), some (.inl 0), some (.inl 0)] [] hi Q) : pm_C pm_g (SH L) HR (d + 2) m_M_wordsOfAll [.inr 141] hi Q := by
  refine pm_C_of (maxL := 3) (t := pm_t174) rfl (Nat.le_of_ble_eq_true rfl) ?_
  refine pm_W_of 6 [4] rfl ?_
  exact h
theorem v_M_wordsOfAll_4 {L d : Nat}  {y1 : Int32} {y2 : Int32} {hi : pm_B} {Q : pm_Q} (h : (((hi 142 1) ≤ y2) → Q (some (.inl y1)) hi) ∧ ((¬ ((hi 142 1) ≤ y2)) → ∃ k2 : Nat, k2 < 1611 ∧ ((7 + (29 * y2)) + 4) = nI k2 ∧ (pm_W pm_g (SH L) HR (d + 1) pm_t174 4 [some (.inr 141), some (.inl (y1 + (hi 142 k2))), some (.inl (y2 + 1))] [] hi Q))) : pm_W pm_g (SH L) HR (d + 1) pm_t174 4 [some (.inr 141), some (.inl y1), some (.inl y2)] [] hi Q := by
  refine pm_W_of 17 [4] rfl ?_
  refine And.intro sh_l141 ?_
  rw [hr_141_0]
  refine And.intro (pm_ao_of (t := 0) sh_l142 (by decide : 1 < 1611) (rfl : (1 : Int32) = nI 1) (by decide)) ?_
  rw [pm_tn (rfl : (1 : Int32) = nI 1) (by decide : 1 < 1611) (by decide)]
  refine And.intro (fun c1 => ?_) (fun c1 => ?_)
  · replace h := h.1 c1
    refine And.intro trivial ?_
    exact h
  · replace h := h.2 c1
    refine And.intro sh_l141 ?_
    refine v_M_of (d := d)  ?_
    obtain ⟨k2, hkk2, hek2, h⟩ := h
    refine ⟨k2, hkk2, hek2, ?_⟩
    refine ⟨_, rfl, ?_⟩
    exact h
theorem v_M_known {L d : Nat}  {hi : pm_B} {Q : pm_Q} (h : pm_W pm_g (SH L) HR (d) pm_t175 4 [some (.inr 141), some (.inl 0), some (.inl 0)] [] hi Q) : pm_C pm_g (SH L) HR (d + 1) m_M_known [.inr 141] hi Q := by
  refine pm_C_of (maxL := 3) (t := pm_t175) rfl (Nat.le_of_ble_eq_true rfl) ?_
  refine pm_W_of 6 [4] rfl ?_
  exact h
theorem v_M_known_4 {L d : Nat}  {y1 : Int32} {y2 : Int32} {hi : pm_B} {Q : pm_Q} (h : (((hi 142 1) ≤ y2) → Q (some (.inl y1)) hi) ∧ ((¬ ((hi 142 1) ≤ y2)) → pm_C pm_g (SH L) HR (d) m_M_wordsOf [.inr 141, .inl y2] hi (fun v hi2 => ∃ x3 : Int32, v = some (.inl x3) ∧ (pm_W pm_g (SH L) HR (d) pm_t175 4 [some (.inr 141), some (.inl (y1 ||| x3)), some (.inl (y2 + 1))] [] hi2 Q)))) : pm_W pm_g (SH L) HR (d) pm_t175 4 [some (.inr 141), some (.inl y1), some (.inl y2)] [] hi Q := by
  refine pm_W_of 16 [4] rfl ?_
  refine And.intro sh_l141 ?_
  rw [hr_141_0]
  refine And.intro (pm_ao_of (t := 0) sh_l142 (by decide : 1 < 1611) (rfl : (1 : Int32) = nI 1) (by decide)) ?_
  rw [pm_tn (rfl : (1 : Int32) = nI 1) (by decide : 1 < 1611) (by decide)]
  refine And.intro (fun c1 => ?_) (fun c1 => ?_)
  · replace h := h.1 c1
    refine And.intro trivial ?_
    exact h
  · replace h := h.2 c1
    refine And.intro sh_l141 ?_
    refine pm_C_imp h (fun v hi2 h => ?_)
    obtain ⟨x3, rfl, h⟩ := h
    refine ⟨_, rfl, ?_⟩
    exact h
theorem v_M_knownToAll {L d : Nat}  {hi : pm_B} {Q : pm_Q} (h : ((¬ (hi 142 1) = 0) → pm_W pm_g (SH L) HR (d) pm_t176 18 [some (.inr 141), some (.inl 1048575), some (.inl 0)] [] hi Q) ∧ ((¬ (¬ (hi 142 1) = 0)) → pm_W pm_g (SH L) HR (d) pm_t176 18 [some (.inr 141), some (.inl 0), some (.inl 0)] [] hi Q)) : pm_C pm_g (SH L) HR (d + 1) m_M_knownToAll [.inr 141] hi Q := by
  refine pm_C_of (maxL := 3) (t := pm_t176) rfl (Nat.le_of_ble_eq_true rfl) ?_
  refine pm_W_of 12 [18] rfl ?_
  refine And.intro sh_l141 ?_
  rw [hr_141_0]
  refine And.intro (pm_ao_of (t := 0) sh_l142 (by decide : 1 < 1611) (rfl : (1 : Int32) = nI 1) (by decide)) ?_
  rw [pm_tn (rfl : (1 : Int32) = nI 1) (by decide : 1 < 1611) (by decide)]
  refine And.intro (fun c1 => ?_) (fun c1 => ?_)
  · replace h := h.1 c1
    exact h
  · replace h := h.2 c1
    exact h
theorem v_M_knownToAll_18 {L d : Nat}  {y1 : Int32} {y2 : Int32} {hi : pm_B} {Q : pm_Q} (h : (((hi 142 1) ≤ y2) → Q (some (.inl y1)) hi) ∧ ((¬ ((hi 142 1) ≤ y2)) → pm_C pm_g (SH L) HR (d) m_M_wordsOf [.inr 141, .inl y2] hi (fun v hi2 => ∃ x3 : Int32, v = some (.inl x3) ∧ (pm_W pm_g (SH L) HR (d) pm_t176 18 [some (.inr 141), some (.inl (y1 &&& x3)), some (.inl (y2 + 1))] [] hi2 Q)))) : pm_W pm_g (SH L) HR (d) pm_t176 18 [some (.inr 141), some (.inl y1), some (.inl y2)] [] hi Q := by
  refine pm_W_of 16 [18] rfl ?_
  refine And.intro sh_l141 ?_
  rw [hr_141_0]
  refine And.intro (pm_ao_of (t := 0) sh_l142 (by decide : 1 < 1611) (rfl : (1 : Int32) = nI 1) (by decide)) ?_
  rw [pm_tn (rfl : (1 : Int32) = nI 1) (by decide : 1 < 1611) (by decide)]
  refine And.intro (fun c1 => ?_) (fun c1 => ?_)
  · replace h := h.1 c1
    refine And.intro trivial ?_
    exact h
  · replace h := h.2 c1
    refine And.intro sh_l141 ?_
    refine pm_C_imp h (fun v hi2 h => ?_)
    obtain ⟨x3, rfl, h⟩ := h
    refine ⟨_, rfl, ?_⟩
    exact h
theorem v_M_folk {L d : Nat} {p1 : Int32} {hi : pm_B} {Q : pm_Q} (h : ((p1 = 0) → ∃ k2 : Nat, k2 < 1611 ∧ (4 + p1) = nI k2 ∧ (Q (some (.inl (hi 142 k2))) hi)) ∧ ((¬ p1 = 0) → ((p1 = 1) → ∃ k4 : Nat, k4 < 1611 ∧ (4 + p1) = nI k4 ∧ (Q (some (.inl (hi 142 k4))) hi)) ∧ ((¬ p1 = 1) → ((p1 = 2) → pm_C pm_g (SH L) HR (d) m_M_wordsOfAll [.inr 141] hi (fun v hi6 => ∃ x7 : Int32, v = some (.inl x7) ∧ (Q (some (.inl x7)) hi6))) ∧ ((¬ p1 = 2) → ((p1 = 3) → pm_C pm_g (SH L) HR (d) m_M_known [.inr 141] hi (fun v hi9 => ∃ x10 : Int32, v = some (.inl x10) ∧ (Q (some (.inl x10)) hi9))) ∧ ((¬ p1 = 3) → ((p1 = 4) → pm_C pm_g (SH L) HR (d) m_M_knownToAll [.inr 141] hi (fun v hi12 => ∃ x13 : Int32, v = some (.inl x13) ∧ (Q (some (.inl x13)) hi12))) ∧ ((¬ p1 = 4) → Q (some (.inl (-1000000001))) hi)))))) : pm_C pm_g (SH L) HR (d + 1) m_M_folk [.inr 141, .inl p1] hi Q := by
  refine pm_C_of (maxL := 2) (t := pm_t177) rfl (Nat.le_of_ble_eq_true rfl) ?_
  refine pm_W_of 11 [] rfl ?_
  intro pc1 hsw
  by_cases c1 : p1 = 0
  · rw [pm_sw_t c1] at hsw
    subst hsw
    replace h := h.1 c1
    refine And.intro sh_l141 ?_
    rw [hr_141_0]
    obtain ⟨k2, hkk2, hek2, h⟩ := h
    refine And.intro (pm_ao_of (t := 0) sh_l142 hkk2 hek2 (by decide)) ?_
    rw [pm_tn hek2 hkk2 (by decide)]
    refine And.intro trivial ?_
    exact h
  · rw [pm_sw_f c1] at hsw
    replace h := h.2 c1
    by_cases c3 : p1 = 1
    · rw [pm_sw_t c3] at hsw
      subst hsw
      replace h := h.1 c3
      refine And.intro sh_l141 ?_
      rw [hr_141_0]
      obtain ⟨k4, hkk4, hek4, h⟩ := h
      refine And.intro (pm_ao_of (t := 0) sh_l142 hkk4 hek4 (by decide)) ?_
      rw [pm_tn hek4 hkk4 (by decide)]
      refine And.intro trivial ?_
      exact h
    · rw [pm_sw_f c3] at hsw
      replace h := h.2 c3
      by_cases c5 : p1 = 2
      · rw [pm_sw_t c5] at hsw
        subst hsw
        replace h := h.1 c5
        refine And.intro sh_l141 ?_
        refine pm_C_imp h (fun v hi6 h => ?_)
        obtain ⟨x7, rfl, h⟩ := h
        refine ⟨_, rfl, ?_⟩
        refine And.intro trivial ?_
        exact h
      · rw [pm_sw_f c5] at hsw
        replace h := h.2 c5
        by_cases c8 : p1 = 3
        · rw [pm_sw_t c8] at hsw
          subst hsw
          replace h := h.1 c8
          refine And.intro sh_l141 ?_
          refine pm_C_imp h (fun v hi9 h => ?_)
          obtain ⟨x10, rfl, h⟩ := h
          refine ⟨_, rfl, ?_⟩
          refine And.intro trivial ?_
          exact h
        · rw [pm_sw_f c8] at hsw
          replace h := h.2 c8
          by_cases c11 : p1 = 4
          · rw [pm_sw_t c11] at hsw
            subst hsw
            replace h := h.1 c11
            refine And.intro sh_l141 ?_
            refine pm_C_imp h (fun v hi12 h => ?_)
            obtain ⟨x13, rfl, h⟩ := h
            refine ⟨_, rfl, ?_⟩
            refine And.intro trivial ?_
            exact h
          · rw [pm_sw_f c11] at hsw
            replace h := h.2 c11
            replace hsw : 60 = pc1 := hsw
            subst hsw
            refine And.intro trivial ?_
            exact h
theorem v_M_readsSaying {L d : Nat} {p1 : Int32} {hi : pm_B} {Q : pm_Q} (h : pm_W pm_g (SH L) HR (d + 2) pm_t178 5 [some (.inr 141), some (.inl p1)] [] (pm_u hi 141 7 0) Q) : pm_C pm_g (SH L) HR (d + 3) m_M_readsSaying [.inr 141, .inl p1] hi Q := by
  refine pm_C_of (maxL := 2) (t := pm_t178) rfl (Nat.le_of_ble_eq_true rfl) ?_
  refine pm_W_of 5 [5] rfl ?_
  refine And.intro ⟨sh_l141, trivial⟩ ?_
  exact h
theorem v_M_readsSaying_5 {L d : Nat}  {p1 : Int32} {hi : pm_B} {Q : pm_Q} (h : ((12 ≤ (hi 141 7)) → Q none hi) ∧ ((¬ (12 ≤ (hi 141 7))) → ∃ k2 : Nat, k2 < 4 ∧ p1 = nI k2 ∧ ((((hi 158 k2) ≤ (hi 141 7)) → Q none hi) ∧ ((¬ ((hi 158 k2) ≤ (hi 141 7))) → ∃ k4 : Nat, k4 < 96 ∧ ((24 * p1) + (hi 141 7)) = nI k4 ∧ ((((hi 159 k4) < 0) → Q none hi) ∧ ((¬ ((hi 159 k4) < 0)) → ((19 < (hi 159 k4)) → Q none hi) ∧ ((¬ (19 < (hi 159 k4))) → ∃ k7 : Nat, k7 < 96 ∧ ((24 * p1) + (hi 141 7)) = nI k7 ∧ (∃ k8 : Nat, k8 < 12 ∧ (hi 141 7) = nI k8 ∧ (∀ hi9 : pm_B, hi9 = pm_u (pm_u hi 146 k8 (hi 159 k7)) 141 7 (((pm_u hi 146 k8 (hi 159 k7)) 141 7) + 1) → (pm_W pm_g (SH L) HR (d + 2) pm_t178 5 [some (.inr 141), some (.inl p1)] [] hi9 Q)))))))))) : pm_W pm_g (SH L) HR (d + 2) pm_t178 5 [some (.inr 141), some (.inl p1)] [] hi Q := by
  refine pm_W_of 45 [5] rfl ?_
  refine And.intro sh_l141 ?_
  refine And.intro (fun c1 => ?_) (fun c1 => ?_)
  · replace h := h.1 c1
    exact h
  · replace h := h.2 c1
    refine And.intro sh_l141 ?_
    refine And.intro sh_l141 ?_
    rw [hr_141_29]
    obtain ⟨k2, hkk2, hek2, h⟩ := h
    refine And.intro (pm_ao_of (t := 0) sh_l158 hkk2 hek2 (by decide)) ?_
    rw [pm_tn hek2 hkk2 (by decide)]
    refine And.intro (fun c3 => ?_) (fun c3 => ?_)
    · replace h := h.1 c3
      exact h
    · replace h := h.2 c3
      refine And.intro sh_l141 ?_
      rw [hr_141_30]
      refine And.intro sh_l141 ?_
      obtain ⟨k4, hkk4, hek4, h⟩ := h
      refine And.intro (pm_ao_of (t := 0) sh_l159 hkk4 hek4 (by decide)) ?_
      rw [pm_tn hek4 hkk4 (by decide)]
      refine And.intro trivial ?_
      refine v_M_isWord (d := d)  ?_
      refine And.intro (fun c5 => ?_) (fun c5 => ?_)
      · replace h := h.1 c5
        refine ⟨_, rfl, ?_⟩
        refine And.intro (fun _ => ?_) (fun hc => absurd (pm_cd_t (by decide)) hc)
        exact h
      · replace h := h.2 c5
        refine And.intro (fun c6 => ?_) (fun c6 => ?_)
        · replace h := h.1 c6
          refine ⟨_, rfl, ?_⟩
          refine And.intro (fun _ => ?_) (fun hc => absurd (pm_cd_t (by decide)) hc)
          exact h
        · replace h := h.2 c6
          refine ⟨_, rfl, ?_⟩
          refine And.intro (fun hc => absurd hc (pm_cd_f (by decide))) (fun _ => ?_)
          refine And.intro sh_l141 ?_
          rw [hr_141_6]
          refine And.intro sh_l141 ?_
          refine And.intro sh_l141 ?_
          rw [hr_141_30]
          refine And.intro sh_l141 ?_
          obtain ⟨k7, hkk7, hek7, h⟩ := h
          refine And.intro (pm_ao_of (t := 0) sh_l159 hkk7 hek7 (by decide)) ?_
          rw [pm_tn hek7 hkk7 (by decide)]
          obtain ⟨k8, hkk8, hek8, h⟩ := h
          refine And.intro ⟨pm_aw_of sh_l146 hkk8 hek8 (by decide), trivial⟩ ?_
          rw [pm_tn hek8 hkk8 (by decide)]
          refine And.intro sh_l141 ?_
          refine And.intro ⟨sh_l141, trivial⟩ ?_
          obtain ⟨hi9, ehi9⟩ : ∃ m : pm_B, m = pm_u (pm_u hi 146 k8 (hi 159 k7)) 141 7 (((pm_u hi 146 k8 (hi 159 k7)) 141 7) + 1) := ⟨_, rfl⟩
          replace h := h hi9 ehi9
          rw [← ehi9]
          exact h
theorem v_M_hasHeard {L d : Nat} {p1 : Int32} {p2 : Int32} {p3 : Int32} {hi : pm_B} {Q : pm_Q} (h : pm_W pm_g (SH L) HR (d + 1) pm_t179 3 [some (.inr 141), some (.inl p1), some (.inl p2), some (.inl p3), some (.inl 0), none] [] hi Q) : pm_C pm_g (SH L) HR (d + 2) m_M_hasHeard [.inr 141, .inl p1, .inl p2, .inl p3] hi Q := by
  refine pm_C_of (maxL := 6) (t := pm_t179) rfl (Nat.le_of_ble_eq_true rfl) ?_
  refine pm_W_of 4 [3, 21] rfl ?_
  exact h
theorem v_M_hasHeard_3 {L d : Nat} {o5 : Option pm_V} {p1 : Int32} {p2 : Int32} {p3 : Int32} {y4 : Int32} {hi : pm_B} {Q : pm_Q} (h : ∃ k1 : Nat, k1 < 1611 ∧ ((7 + (29 * p1)) + 4) = nI k1 ∧ ((((hi 142 k1) < ((y4 + p3) - p2)) → Q (some (.inl 0)) hi) ∧ ((¬ ((hi 142 k1) < ((y4 + p3) - p2))) → pm_W pm_g (SH L) HR (d + 1) pm_t179 21 [some (.inr 141), some (.inl p1), some (.inl p2), some (.inl p3), some (.inl y4), some (.inl 0)] [] hi Q))) : pm_W pm_g (SH L) HR (d + 1) pm_t179 3 [some (.inr 141), some (.inl p1), some (.inl p2), some (.inl p3), some (.inl y4), o5] [] hi Q := by
  refine pm_W_of 14 [3, 21] rfl ?_
  refine And.intro sh_l141 ?_
  refine v_M_of (d := d)  ?_
  obtain ⟨k1, hkk1, hek1, h⟩ := h
  refine ⟨k1, hkk1, hek1, ?_⟩
  refine ⟨_, rfl, ?_⟩
  refine And.intro (fun c2 => ?_) (fun c2 => ?_)
  · replace h := h.1 c2
    refine And.intro (Or.inl rfl) ?_
    exact h
  · replace h := h.2 c2
    exact h
theorem v_M_hasHeard_21 {L d : Nat}  {p1 : Int32} {p2 : Int32} {p3 : Int32} {y4 : Int32} {y5 : Int32} {hi : pm_B} {Q : pm_Q} (h : ((p3 ≤ (p2 + y5)) → ((¬ (p2 + y5) = p3) → pm_W pm_g (SH L) HR (d + 1) pm_t179 3 [some (.inr 141), some (.inl p1), some (.inl p2), some (.inl p3), some (.inl (y4 + 1)), some (.inl y5)] [] hi Q) ∧ ((¬ (¬ (p2 + y5) = p3)) → Q (some (.inl 1)) hi)) ∧ ((¬ (p3 ≤ (p2 + y5))) → ∃ k3 : Nat, k3 < 1611 ∧ ((7 + (29 * p1)) + ((5 + y4) + y5)) = nI k3 ∧ (∃ k4 : Nat, k4 < 12 ∧ (p2 + y5) = nI k4 ∧ (((¬ (hi 142 k3) = (hi 146 k4)) → ((¬ (p2 + y5) = p3) → pm_W pm_g (SH L) HR (d + 1) pm_t179 3 [some (.inr 141), some (.inl p1), some (.inl p2), some (.inl p3), some (.inl (y4 + 1)), some (.inl y5)] [] hi Q) ∧ ((¬ (¬ (p2 + y5) = p3)) → Q (some (.inl 1)) hi)) ∧ ((¬ (¬ (hi 142 k3) = (hi 146 k4))) → pm_W pm_g (SH L) HR (d + 1) pm_t179 21 [some (.inr 141), some (.inl p1), some (.inl p2), some (.inl p3), some (.inl y4), some (.inl (y5 + 1))] [] hi Q))))) : pm_W pm_g (SH L) HR (d + 1) pm_t179 21 [some (.inr 141), some (.inl p1), some (.inl p2), some (.inl p3), some (.inl y4), some (.inl y5)] [] hi Q := by
  refine pm_W_of 29 [3, 21] rfl ?_
  refine And.intro (fun c1 => ?_) (fun c1 => ?_)
  · replace h := h.1 c1
    refine And.intro (fun c2 => ?_) (fun c2 => ?_)
    · replace h := h.1 c2
      exact h
    · replace h := h.2 c2
      refine And.intro (Or.inr rfl) ?_
      exact h
  · replace h := h.2 c1
    refine And.intro sh_l141 ?_
    refine v_M_of (d := d)  ?_
    obtain ⟨k3, hkk3, hek3, h⟩ := h
    refine ⟨k3, hkk3, hek3, ?_⟩
    refine ⟨_, rfl, ?_⟩
    refine And.intro sh_l141 ?_
    rw [hr_141_6]
    obtain ⟨k4, hkk4, hek4, h⟩ := h
    refine And.intro (pm_ao_of (t := 0) sh_l146 hkk4 hek4 (by decide)) ?_
    rw [pm_tn hek4 hkk4 (by decide)]
    refine And.intro (fun c5 => ?_) (fun c5 => ?_)
    · replace h := h.1 c5
      refine And.intro (fun c6 => ?_) (fun c6 => ?_)
      · replace h := h.1 c6
        exact h
      · replace h := h.2 c6
        refine And.intro (Or.inr rfl) ?_
        exact h
    · replace h := h.2 c5
      exact h
theorem v_M_breathsOf {L d : Nat} {p1 : Int32} {hi : pm_B} {Q : pm_Q} (h : pm_C pm_g (SH L) HR (d + 1) m_M_goesOf [.inr 141, .inl p1] hi (fun v hi1 => ∃ x2 : Int32, v = some (.inl x2) ∧ (pm_W pm_g (SH L) HR (d + 1) pm_t180 15 [some (.inr 141), some (.inl p1), some (.inl x2), some (.inl 1), none, none] [] (pm_u hi1 147 0 0) Q))) : pm_C pm_g (SH L) HR (d + 2) m_M_breathsOf [.inr 141, .inl p1] hi Q := by
  refine pm_C_of (maxL := 6) (t := pm_t180) rfl (Nat.le_of_ble_eq_true rfl) ?_
  refine pm_W_of 13 [15, 40] rfl ?_
  refine And.intro sh_l141 ?_
  refine pm_C_imp h (fun v hi1 h => ?_)
  obtain ⟨x2, rfl, h⟩ := h
  refine ⟨_, rfl, ?_⟩
  refine And.intro sh_l141 ?_
  rw [hr_141_8]
  refine And.intro ⟨pm_aw_of sh_l147 (by decide : 0 < 13) (rfl : (0 : Int32) = nI 0) (by decide), trivial⟩ ?_
  rw [pm_tn (rfl : (0 : Int32) = nI 0) (by decide : 0 < 13) (by decide)]
  exact h
theorem v_M_breathsOf_15 {L d : Nat} {o4 : Option pm_V} {o5 : Option pm_V} {p1 : Int32} {y2 : Int32} {y3 : Int32} {hi : pm_B} {Q : pm_Q} (h : (((hi 141 7) < y3) → ∃ k2 : Nat, k2 < 13 ∧ (hi 141 7) = nI k2 ∧ (Q (some (.inl (hi 147 k2))) hi)) ∧ ((¬ ((hi 141 7) < y3)) → ∃ k3 : Nat, k3 < 13 ∧ y3 = nI k3 ∧ (pm_W pm_g (SH L) HR (d + 1) pm_t180 40 [some (.inr 141), some (.inl p1), some (.inl y2), some (.inl y3), some (.inl (f_M_within (y3 - y2) 0 y3)), o5] [] (pm_u hi 147 k3 (-1)) Q))) : pm_W pm_g (SH L) HR (d + 1) pm_t180 15 [some (.inr 141), some (.inl p1), some (.inl y2), some (.inl y3), o4, o5] [] hi Q := by
  refine pm_W_of 18 [15, 40] rfl ?_
  refine And.intro sh_l141 ?_
  refine And.intro (fun c1 => ?_) (fun c1 => ?_)
  · replace h := h.1 c1
    refine And.intro sh_l141 ?_
    rw [hr_141_8]
    refine And.intro sh_l141 ?_
    obtain ⟨k2, hkk2, hek2, h⟩ := h
    refine And.intro (pm_ao_of (t := 0) sh_l147 hkk2 hek2 (by decide)) ?_
    rw [pm_tn hek2 hkk2 (by decide)]
    refine And.intro trivial ?_
    exact h
  · replace h := h.2 c1
    refine And.intro sh_l141 ?_
    rw [hr_141_8]
    obtain ⟨k3, hkk3, hek3, h⟩ := h
    refine And.intro ⟨pm_aw_of sh_l147 hkk3 hek3 (by decide), trivial⟩ ?_
    rw [pm_tn hek3 hkk3 (by decide)]
    refine And.intro trivial ?_
    refine f_M_within_c (d := d)  ?_
    refine ⟨_, rfl, ?_⟩
    exact h
theorem v_M_breathsOf_40 {L d : Nat} {o5 : Option pm_V} {p1 : Int32} {y2 : Int32} {y3 : Int32} {y4 : Int32} {hi : pm_B} {Q : pm_Q} (h : ((y3 ≤ y4) → pm_W pm_g (SH L) HR (d + 1) pm_t180 15 [some (.inr 141), some (.inl p1), some (.inl y2), some (.inl (y3 + 1)), some (.inl y4), o5] [] hi Q) ∧ ((¬ (y3 ≤ y4)) → ∃ k2 : Nat, k2 < 13 ∧ y4 = nI k2 ∧ ((((hi 147 k2) < 0) → ∃ k4 : Nat, k4 < 13 ∧ y3 = nI k4 ∧ (∃ k5 : Nat, k5 < 13 ∧ y3 = nI k5 ∧ (pm_W pm_g (SH L) HR (d + 1) pm_t180 40 [some (.inr 141), some (.inl p1), some (.inl y2), some (.inl y3), some (.inl (y4 + 1)), some (.inl 0)] [] (pm_u hi 147 k5 (hi 147 k4)) Q))) ∧ ((¬ ((hi 147 k2) < 0)) → ∃ k6 : Nat, k6 < 13 ∧ y3 = nI k6 ∧ ((((hi 147 k6) < 0) → pm_C pm_g (SH L) HR (d + 1) m_M_hasHeard [.inr 141, .inl p1, .inl y4, .inl y3] hi (fun v hi8 => ∃ x9 : Int32, v = some (.inl x9) ∧ (((x9 = 0) → ∃ k11 : Nat, k11 < 13 ∧ y3 = nI k11 ∧ (∃ k12 : Nat, k12 < 13 ∧ y3 = nI k12 ∧ (pm_W pm_g (SH L) HR (d + 1) pm_t180 40 [some (.inr 141), some (.inl p1), some (.inl y2), some (.inl y3), some (.inl (y4 + 1)), some (.inl 0)] [] (pm_u hi8 147 k12 (hi8 147 k11)) Q))) ∧ ((¬ (x9 = 0)) → ∃ k13 : Nat, k13 < 13 ∧ y4 = nI k13 ∧ (∃ k14 : Nat, k14 < 13 ∧ y3 = nI k14 ∧ (pm_W pm_g (SH L) HR (d + 1) pm_t180 40 [some (.inr 141), some (.inl p1), some (.inl y2), some (.inl y3), some (.inl (y4 + 1)), some (.inl 1)] [] (pm_u hi8 147 k14 ((hi8 147 k13) + 1)) Q)))))) ∧ ((¬ ((hi 147 k6) < 0)) → ∃ k15 : Nat, k15 < 13 ∧ y4 = nI k15 ∧ (∃ k16 : Nat, k16 < 13 ∧ y3 = nI k16 ∧ ((((hi 147 k16) ≤ ((hi 147 k15) + 1)) → ∃ k18 : Nat, k18 < 13 ∧ y3 = nI k18 ∧ (∃ k19 : Nat, k19 < 13 ∧ y3 = nI k19 ∧ (pm_W pm_g (SH L) HR (d + 1) pm_t180 40 [some (.inr 141), some (.inl p1), some (.inl y2), some (.inl y3), some (.inl (y4 + 1)), some (.inl 0)] [] (pm_u hi 147 k19 (hi 147 k18)) Q))) ∧ ((¬ ((hi 147 k16) ≤ ((hi 147 k15) + 1))) → pm_C pm_g (SH L) HR (d + 1) m_M_hasHeard [.inr 141, .inl p1, .inl y4, .inl y3] hi (fun v hi20 => ∃ x21 : Int32, v = some (.inl x21) ∧ (((x21 = 0) → ∃ k23 : Nat, k23 < 13 ∧ y3 = nI k23 ∧ (∃ k24 : Nat, k24 < 13 ∧ y3 = nI k24 ∧ (pm_W pm_g (SH L) HR (d + 1) pm_t180 40 [some (.inr 141), some (.inl p1), some (.inl y2), some (.inl y3), some (.inl (y4 + 1)), some (.inl 0)] [] (pm_u hi20 147 k24 (hi20 147 k23)) Q))) ∧ ((¬ (x21 = 0)) → ∃ k25 : Nat, k25 < 13 ∧ y4 = nI k25 ∧ (∃ k26 : Nat, k26 < 13 ∧ y3 = nI k26 ∧ (pm_W pm_g (SH L) HR (d + 1) pm_t180 40 [some (.inr 141), some (.inl p1), some (.inl y2), some (.inl y3), some (.inl (y4 + 1)), some (.inl 1)] [] (pm_u hi20 147 k26 ((hi20 147 k25) + 1)) Q)))))))))))))) : pm_W pm_g (SH L) HR (d + 1) pm_t180 40 [some (.inr 141), some (.inl p1), some (.inl y2), some (.inl y3), some (.inl y4), o5] [] hi Q := by
  refine pm_W_of 50 [15, 40] rfl ?_
  refine And.intro (fun c1 => ?_) (fun c1 => ?_)
  · replace h := h.1 c1
    exact h
  · replace h := h.2 c1
    refine And.intro sh_l141 ?_
    rw [hr_141_8]
    obtain ⟨k2, hkk2, hek2, h⟩ := h
    refine And.intro (pm_ao_of (t := 0) sh_l147 hkk2 hek2 (by decide)) ?_
    rw [pm_tn hek2 hkk2 (by decide)]
    refine And.intro (fun c3 => ?_) (fun c3 => ?_)
    · replace h := h.1 c3
      refine And.intro sh_l141 ?_
      rw [hr_141_8]
      refine And.intro (fun _ => ?_) (fun hc => absurd (pm_cd_t (by decide)) hc)
      refine And.intro sh_l141 ?_
      rw [hr_141_8]
      obtain ⟨k4, hkk4, hek4, h⟩ := h
      refine And.intro (pm_ao_of (t := 0) sh_l147 hkk4 hek4 (by decide)) ?_
      rw [pm_tn hek4 hkk4 (by decide)]
      obtain ⟨k5, hkk5, hek5, h⟩ := h
      refine And.intro ⟨pm_aw_of sh_l147 hkk5 hek5 (by decide), trivial⟩ ?_
      rw [pm_tn hek5 hkk5 (by decide)]
      exact h
    · replace h := h.2 c3
      refine And.intro sh_l141 ?_
      rw [hr_141_8]
      obtain ⟨k6, hkk6, hek6, h⟩ := h
      refine And.intro (pm_ao_of (t := 0) sh_l147 hkk6 hek6 (by decide)) ?_
      rw [pm_tn hek6 hkk6 (by decide)]
      refine And.intro (fun c7 => ?_) (fun c7 => ?_)
      · replace h := h.1 c7
        refine And.intro sh_l141 ?_
        refine pm_C_imp h (fun v hi8 h => ?_)
        obtain ⟨x9, rfl, h⟩ := h
        refine ⟨_, rfl, ?_⟩
        refine And.intro (fun c10 => ?_) (fun c10 => ?_)
        · replace h := h.1 c10
          refine And.intro sh_l141 ?_
          rw [hr_141_8]
          refine And.intro (fun _ => ?_) (fun hc => absurd (pm_cd_t (by decide)) hc)
          refine And.intro sh_l141 ?_
          rw [hr_141_8]
          obtain ⟨k11, hkk11, hek11, h⟩ := h
          refine And.intro (pm_ao_of (t := 0) sh_l147 hkk11 hek11 (by decide)) ?_
          rw [pm_tn hek11 hkk11 (by decide)]
          obtain ⟨k12, hkk12, hek12, h⟩ := h
          refine And.intro ⟨pm_aw_of sh_l147 hkk12 hek12 (by decide), trivial⟩ ?_
          rw [pm_tn hek12 hkk12 (by decide)]
          exact h
        · replace h := h.2 c10
          refine And.intro sh_l141 ?_
          rw [hr_141_8]
          refine And.intro (fun hc => absurd hc (pm_cd_f (by decide))) (fun _ => ?_)
          refine And.intro sh_l141 ?_
          rw [hr_141_8]
          obtain ⟨k13, hkk13, hek13, h⟩ := h
          refine And.intro (pm_ao_of (t := 0) sh_l147 hkk13 hek13 (by decide)) ?_
          rw [pm_tn hek13 hkk13 (by decide)]
          obtain ⟨k14, hkk14, hek14, h⟩ := h
          refine And.intro ⟨pm_aw_of sh_l147 hkk14 hek14 (by decide), trivial⟩ ?_
          rw [pm_tn hek14 hkk14 (by decide)]
          exact h
      · replace h := h.2 c7
        refine And.intro sh_l141 ?_
        rw [hr_141_8]
        obtain ⟨k15, hkk15, hek15, h⟩ := h
        refine And.intro (pm_ao_of (t := 0) sh_l147 hkk15 hek15 (by decide)) ?_
        rw [pm_tn hek15 hkk15 (by decide)]
        refine And.intro sh_l141 ?_
        rw [hr_141_8]
        obtain ⟨k16, hkk16, hek16, h⟩ := h
        refine And.intro (pm_ao_of (t := 0) sh_l147 hkk16 hek16 (by decide)) ?_
        rw [pm_tn hek16 hkk16 (by decide)]
        refine And.intro (fun c17 => ?_) (fun c17 => ?_)
        · replace h := h.1 c17
          refine And.intro sh_l141 ?_
          rw [hr_141_8]
          refine And.intro (fun _ => ?_) (fun hc => absurd (pm_cd_t (by decide)) hc)
          refine And.intro sh_l141 ?_
          rw [hr_141_8]
          obtain ⟨k18, hkk18, hek18, h⟩ := h
          refine And.intro (pm_ao_of (t := 0) sh_l147 hkk18 hek18 (by decide)) ?_
          rw [pm_tn hek18 hkk18 (by decide)]
          obtain ⟨k19, hkk19, hek19, h⟩ := h
          refine And.intro ⟨pm_aw_of sh_l147 hkk19 hek19 (by decide), trivial⟩ ?_
          rw [pm_tn hek19 hkk19 (by decide)]
          exact h
        · replace h := h.2 c17
          refine And.intro sh_l141 ?_
          refine pm_C_imp h (fun v hi20 h => ?_)
          obtain ⟨x21, rfl, h⟩ := h
          refine ⟨_, rfl, ?_⟩
          refine And.intro (fun c22 => ?_) (fun c22 => ?_)
          · replace h := h.1 c22
            refine And.intro sh_l141 ?_
            rw [hr_141_8]
            refine And.intro (fun _ => ?_) (fun hc => absurd (pm_cd_t (by decide)) hc)
            refine And.intro sh_l141 ?_
            rw [hr_141_8]
            obtain ⟨k23, hkk23, hek23, h⟩ := h
            refine And.intro (pm_ao_of (t := 0) sh_l147 hkk23 hek23 (by decide)) ?_
            rw [pm_tn hek23 hkk23 (by decide)]
            obtain ⟨k24, hkk24, hek24, h⟩ := h
            refine And.intro ⟨pm_aw_of sh_l147 hkk24 hek24 (by decide), trivial⟩ ?_
            rw [pm_tn hek24 hkk24 (by decide)]
            exact h
          · replace h := h.2 c22
            refine And.intro sh_l141 ?_
            rw [hr_141_8]
            refine And.intro (fun hc => absurd hc (pm_cd_f (by decide))) (fun _ => ?_)
            refine And.intro sh_l141 ?_
            rw [hr_141_8]
            obtain ⟨k25, hkk25, hek25, h⟩ := h
            refine And.intro (pm_ao_of (t := 0) sh_l147 hkk25 hek25 (by decide)) ?_
            rw [pm_tn hek25 hkk25 (by decide)]
            obtain ⟨k26, hkk26, hek26, h⟩ := h
            refine And.intro ⟨pm_aw_of sh_l147 hkk26 hek26 (by decide), trivial⟩ ?_
            rw [pm_tn hek26 hkk26 (by decide)]
            exact h
theorem v_M_breaths {L d : Nat} {p1 : Int32} {p2 : Int32} {hi : pm_B} {Q : pm_Q} (h : ((p1 < 0) → Q (some (.inl (-1000000001))) hi) ∧ ((¬ (p1 < 0)) → ((3 < p1) → Q (some (.inl (-1000000001))) hi) ∧ ((¬ (3 < p1)) → ((p2 < 0) → Q (some (.inl (-1000000001))) hi) ∧ ((¬ (p2 < 0)) → ((((hi 142 1) - 1) < p2) → Q (some (.inl (-1000000001))) hi) ∧ ((¬ (((hi 142 1) - 1) < p2)) → ∃ k5 : Nat, k5 < 4 ∧ p1 = nI k5 ∧ (((0 ≤ (hi 157 k5)) → pm_C pm_g (SH L) HR (d + 2) m_M_readsSaying [.inr 141, .inl p1] hi (fun v hi7 => v = none ∧ (((¬ (hi7 141 7) = 0) → pm_C pm_g (SH L) HR (d + 2) m_M_breathsOf [.inr 141, .inl p2] hi7 (fun v hi9 => ∃ x10 : Int32, v = some (.inl x10) ∧ (((¬ (hi9 141 7) = 0) → ((0 ≤ x10) → Q (some (.inl x10)) hi9) ∧ ((¬ (0 ≤ x10)) → Q (some (.inl (-1000000005))) hi9)) ∧ ((¬ (¬ (hi9 141 7) = 0)) → Q (some (.inl (-1000000014))) hi9)))) ∧ ((¬ (¬ (hi7 141 7) = 0)) → ((¬ (hi7 141 7) = 0) → Q (some (.inl 0)) hi7) ∧ ((¬ (¬ (hi7 141 7) = 0)) → Q (some (.inl (-1000000014))) hi7))))) ∧ ((¬ (0 ≤ (hi 157 k5))) → Q (some (.inl (-1000000011))) hi))))))) : pm_C pm_g (SH L) HR (d + 3) m_M_breaths [.inr 141, .inl p1, .inl p2] hi Q := by
  refine pm_C_of (maxL := 4) (t := pm_t181) rfl (Nat.le_of_ble_eq_true rfl) ?_
  refine pm_W_of 32 [] rfl ?_
  refine And.intro trivial ?_
  refine v_M_isSheet (d := d)  ?_
  refine And.intro (fun c1 => ?_) (fun c1 => ?_)
  · replace h := h.1 c1
    refine ⟨_, rfl, ?_⟩
    refine And.intro (fun _ => ?_) (fun hc => absurd (pm_cd_t (by decide)) hc)
    refine And.intro trivial ?_
    exact h
  · replace h := h.2 c1
    refine And.intro (fun c2 => ?_) (fun c2 => ?_)
    · replace h := h.1 c2
      refine ⟨_, rfl, ?_⟩
      refine And.intro (fun _ => ?_) (fun hc => absurd (pm_cd_t (by decide)) hc)
      refine And.intro trivial ?_
      exact h
    · replace h := h.2 c2
      refine ⟨_, rfl, ?_⟩
      refine And.intro (fun hc => absurd hc (pm_cd_f (by decide))) (fun _ => ?_)
      refine And.intro sh_l141 ?_
      refine v_M_isSpeaker (d := d)  ?_
      refine And.intro (fun c3 => ?_) (fun c3 => ?_)
      · replace h := h.1 c3
        refine ⟨_, rfl, ?_⟩
        refine And.intro (fun hc => absurd hc (pm_cd_f (by decide))) (fun _ => ?_)
        refine And.intro trivial ?_
        exact h
      · replace h := h.2 c3
        refine And.intro (fun c4 => ?_) (fun c4 => ?_)
        · replace h := h.1 c4
          refine ⟨_, rfl, ?_⟩
          refine And.intro (fun hc => absurd hc (pm_cd_f (by decide))) (fun _ => ?_)
          refine And.intro trivial ?_
          exact h
        · replace h := h.2 c4
          refine ⟨_, rfl, ?_⟩
          refine And.intro (fun _ => ?_) (fun hc => absurd (pm_cd_t (by decide)) hc)
          refine And.intro sh_l141 ?_
          rw [hr_141_28]
          obtain ⟨k5, hkk5, hek5, h⟩ := h
          refine And.intro (pm_ao_of (t := 0) sh_l157 hkk5 hek5 (by decide)) ?_
          rw [pm_tn hek5 hkk5 (by decide)]
          refine And.intro (fun c6 => ?_) (fun c6 => ?_)
          · replace h := h.1 c6
            refine And.intro sh_l141 ?_
            refine pm_C_imp h (fun v hi7 h => ?_)
            obtain ⟨rfl, h⟩ := h
            refine ⟨rfl, ?_⟩
            refine And.intro sh_l141 ?_
            refine And.intro (fun c8 => ?_) (fun c8 => ?_)
            · replace h := h.1 c8
              refine And.intro sh_l141 ?_
              refine pm_C_imp h (fun v hi9 h => ?_)
              obtain ⟨x10, rfl, h⟩ := h
              refine ⟨_, rfl, ?_⟩
              refine And.intro sh_l141 ?_
              refine And.intro (fun c11 => ?_) (fun c11 => ?_)
              · replace h := h.1 c11
                refine And.intro (fun c12 => ?_) (fun c12 => ?_)
                · replace h := h.1 c12
                  refine And.intro trivial ?_
                  exact h
                · replace h := h.2 c12
                  refine And.intro trivial ?_
                  exact h
              · replace h := h.2 c11
                refine And.intro trivial ?_
                exact h
            · replace h := h.2 c8
              refine And.intro sh_l141 ?_
              refine And.intro (fun c13 => ?_) (fun c13 => ?_)
              · replace h := h.1 c13
                refine And.intro (fun _ => ?_) (fun hc => absurd (pm_cd_t (by decide)) hc)
                refine And.intro trivial ?_
                exact h
              · replace h := h.2 c13
                refine And.intro trivial ?_
                exact h
          · replace h := h.2 c6
            refine And.intro trivial ?_
            exact h
theorem v_M_wanting {L d : Nat} {p1 : Int32} {hi : pm_B} {Q : pm_Q} (h : ((p1 < 0) → Q (some (.inl (-1000000001))) hi) ∧ ((¬ (p1 < 0)) → ((3 < p1) → Q (some (.inl (-1000000001))) hi) ∧ ((¬ (3 < p1)) → ∃ k3 : Nat, k3 < 4 ∧ p1 = nI k3 ∧ (((0 ≤ (hi 157 k3)) → pm_C pm_g (SH L) HR (d + 2) m_M_readsSaying [.inr 141, .inl p1] hi (fun v hi5 => v = none ∧ (pm_C pm_g (SH L) HR (d + 2) m_M_known [.inr 141] hi5 (fun v hi6 => ∃ x7 : Int32, v = some (.inl x7) ∧ (pm_W pm_g (SH L) HR (d + 2) pm_t182 34 [some (.inr 141), some (.inl p1), some (.inl x7), some (.inl 0)] [] hi6 Q))))) ∧ ((¬ (0 ≤ (hi 157 k3))) → Q (some (.inl (-1000000011))) hi))))) : pm_C pm_g (SH L) HR (d + 3) m_M_wanting [.inr 141, .inl p1] hi Q := by
  refine pm_C_of (maxL := 4) (t := pm_t182) rfl (Nat.le_of_ble_eq_true rfl) ?_
  refine pm_W_of 18 [34] rfl ?_
  refine And.intro trivial ?_
  refine v_M_isSheet (d := d)  ?_
  refine And.intro (fun c1 => ?_) (fun c1 => ?_)
  · replace h := h.1 c1
    refine ⟨_, rfl, ?_⟩
    refine And.intro (fun hc => absurd hc (pm_cd_f (by decide))) (fun _ => ?_)
    refine And.intro trivial ?_
    exact h
  · replace h := h.2 c1
    refine And.intro (fun c2 => ?_) (fun c2 => ?_)
    · replace h := h.1 c2
      refine ⟨_, rfl, ?_⟩
      refine And.intro (fun hc => absurd hc (pm_cd_f (by decide))) (fun _ => ?_)
      refine And.intro trivial ?_
      exact h
    · replace h := h.2 c2
      refine ⟨_, rfl, ?_⟩
      refine And.intro (fun _ => ?_) (fun hc => absurd (pm_cd_t (by decide)) hc)
      refine And.intro sh_l141 ?_
      rw [hr_141_28]
      obtain ⟨k3, hkk3, hek3, h⟩ := h
      refine And.intro (pm_ao_of (t := 0) sh_l157 hkk3 hek3 (by decide)) ?_
      rw [pm_tn hek3 hkk3 (by decide)]
      refine And.intro (fun c4 => ?_) (fun c4 => ?_)
      · replace h := h.1 c4
        refine And.intro sh_l141 ?_
        refine pm_C_imp h (fun v hi5 h => ?_)
        obtain ⟨rfl, h⟩ := h
        refine ⟨rfl, ?_⟩
        refine And.intro sh_l141 ?_
        refine pm_C_imp h (fun v hi6 h => ?_)
        obtain ⟨x7, rfl, h⟩ := h
        refine ⟨_, rfl, ?_⟩
        exact h
      · replace h := h.2 c4
        refine And.intro trivial ?_
        exact h
theorem v_M_wanting_34 {L d : Nat}  {p1 : Int32} {y2 : Int32} {y3 : Int32} {hi : pm_B} {Q : pm_Q} (h : (((hi 141 7) ≤ y3) → Q (some (.inl (-1000000005))) hi) ∧ ((¬ ((hi 141 7) ≤ y3)) → ∃ k2 : Nat, k2 < 12 ∧ y3 = nI k2 ∧ (((¬ ((y2 >>> ((hi 146 k2) &&& 31)) &&& 1) = 0) → pm_W pm_g (SH L) HR (d + 2) pm_t182 34 [some (.inr 141), some (.inl p1), some (.inl y2), some (.inl (y3 + 1))] [] hi Q) ∧ ((¬ (¬ ((y2 >>> ((hi 146 k2) &&& 31)) &&& 1) = 0)) → ∃ k4 : Nat, k4 < 12 ∧ y3 = nI k4 ∧ (Q (some (.inl (hi 146 k4))) hi))))) : pm_W pm_g (SH L) HR (d + 2) pm_t182 34 [some (.inr 141), some (.inl p1), some (.inl y2), some (.inl y3)] [] hi Q := by
  refine pm_W_of 20 [34] rfl ?_
  refine And.intro sh_l141 ?_
  refine And.intro (fun c1 => ?_) (fun c1 => ?_)
  · replace h := h.1 c1
    refine And.intro trivial ?_
    exact h
  · replace h := h.2 c1
    refine And.intro sh_l141 ?_
    rw [hr_141_6]
    obtain ⟨k2, hkk2, hek2, h⟩ := h
    refine And.intro (pm_ao_of (t := 0) sh_l146 hkk2 hek2 (by decide)) ?_
    rw [pm_tn hek2 hkk2 (by decide)]
    refine And.intro (fun c3 => ?_) (fun c3 => ?_)
    · replace h := h.1 c3
      exact h
    · replace h := h.2 c3
      refine And.intro sh_l141 ?_
      rw [hr_141_6]
      obtain ⟨k4, hkk4, hek4, h⟩ := h
      refine And.intro (pm_ao_of (t := 0) sh_l146 hkk4 hek4 (by decide)) ?_
      rw [pm_tn hek4 hkk4 (by decide)]
      refine And.intro trivial ?_
      exact h
theorem v_M_who {L d : Nat} {p1 : Int32} {hi : pm_B} {Q : pm_Q} (h : ((p1 < 0) → Q (some (.inl (-1000000001))) hi) ∧ ((¬ (p1 < 0)) → ((3 < p1) → Q (some (.inl (-1000000001))) hi) ∧ ((¬ (3 < p1)) → ∃ k3 : Nat, k3 < 4 ∧ p1 = nI k3 ∧ (((0 ≤ (hi 157 k3)) → pm_C pm_g (SH L) HR (d + 2) m_M_readsSaying [.inr 141, .inl p1] hi (fun v hi5 => v = none ∧ (pm_W pm_g (SH L) HR (d + 2) pm_t183 31 [some (.inr 141), some (.inl p1), some (.inl 0), some (.inl 0)] [] hi5 Q))) ∧ ((¬ (0 ≤ (hi 157 k3))) → Q (some (.inl (-1000000011))) hi))))) : pm_C pm_g (SH L) HR (d + 3) m_M_who [.inr 141, .inl p1] hi Q := by
  refine pm_C_of (maxL := 4) (t := pm_t183) rfl (Nat.le_of_ble_eq_true rfl) ?_
  refine pm_W_of 17 [31] rfl ?_
  refine And.intro trivial ?_
  refine v_M_isSheet (d := d)  ?_
  refine And.intro (fun c1 => ?_) (fun c1 => ?_)
  · replace h := h.1 c1
    refine ⟨_, rfl, ?_⟩
    refine And.intro (fun hc => absurd hc (pm_cd_f (by decide))) (fun _ => ?_)
    refine And.intro trivial ?_
    exact h
  · replace h := h.2 c1
    refine And.intro (fun c2 => ?_) (fun c2 => ?_)
    · replace h := h.1 c2
      refine ⟨_, rfl, ?_⟩
      refine And.intro (fun hc => absurd hc (pm_cd_f (by decide))) (fun _ => ?_)
      refine And.intro trivial ?_
      exact h
    · replace h := h.2 c2
      refine ⟨_, rfl, ?_⟩
      refine And.intro (fun _ => ?_) (fun hc => absurd (pm_cd_t (by decide)) hc)
      refine And.intro sh_l141 ?_
      rw [hr_141_28]
      obtain ⟨k3, hkk3, hek3, h⟩ := h
      refine And.intro (pm_ao_of (t := 0) sh_l157 hkk3 hek3 (by decide)) ?_
      rw [pm_tn hek3 hkk3 (by decide)]
      refine And.intro (fun c4 => ?_) (fun c4 => ?_)
      · replace h := h.1 c4
        refine And.intro sh_l141 ?_
        refine pm_C_imp h (fun v hi5 h => ?_)
        obtain ⟨rfl, h⟩ := h
        refine ⟨rfl, ?_⟩
        exact h
      · replace h := h.2 c4
        refine And.intro trivial ?_
        exact h
theorem v_M_who_31 {L d : Nat}  {p1 : Int32} {y2 : Int32} {y3 : Int32} {hi : pm_B} {Q : pm_Q} (h : (((hi 142 1) ≤ y3) → ((¬ (hi 141 7) = 0) → Q (some (.inl y2)) hi) ∧ ((¬ (¬ (hi 141 7) = 0)) → Q (some (.inl (-1000000014))) hi)) ∧ ((¬ ((hi 142 1) ≤ y3)) → (((hi 141 7) ≤ 0) → ((¬ (hi 141 7) = 0) → Q (some (.inl y2)) hi) ∧ ((¬ (¬ (hi 141 7) = 0)) → Q (some (.inl (-1000000014))) hi)) ∧ ((¬ ((hi 141 7) ≤ 0)) → pm_C pm_g (SH L) HR (d + 2) m_M_breathsOf [.inr 141, .inl y3] hi (fun v hi5 => ∃ x6 : Int32, v = some (.inl x6) ∧ (((x6 ≤ 0) → pm_W pm_g (SH L) HR (d + 2) pm_t183 31 [some (.inr 141), some (.inl p1), some (.inl (y2 ||| 0)), some (.inl (y3 + 1))] [] hi5 Q) ∧ ((¬ (x6 ≤ 0)) → pm_W pm_g (SH L) HR (d + 2) pm_t183 31 [some (.inr 141), some (.inl p1), some (.inl (y2 ||| (1 <<< (y3 &&& 31)))), some (.inl (y3 + 1))] [] hi5 Q)))))) : pm_W pm_g (SH L) HR (d + 2) pm_t183 31 [some (.inr 141), some (.inl p1), some (.inl y2), some (.inl y3)] [] hi Q := by
  refine pm_W_of 24 [31] rfl ?_
  refine And.intro sh_l141 ?_
  rw [hr_141_0]
  refine And.intro (pm_ao_of (t := 0) sh_l142 (by decide : 1 < 1611) (rfl : (1 : Int32) = nI 1) (by decide)) ?_
  rw [pm_tn (rfl : (1 : Int32) = nI 1) (by decide : 1 < 1611) (by decide)]
  refine And.intro (fun c1 => ?_) (fun c1 => ?_)
  · replace h := h.1 c1
    refine And.intro sh_l141 ?_
    refine And.intro (fun c2 => ?_) (fun c2 => ?_)
    · replace h := h.1 c2
      refine And.intro trivial ?_
      exact h
    · replace h := h.2 c2
      refine And.intro trivial ?_
      exact h
  · replace h := h.2 c1
    refine And.intro sh_l141 ?_
    refine And.intro (fun c3 => ?_) (fun c3 => ?_)
    · replace h := h.1 c3
      refine And.intro sh_l141 ?_
      refine And.intro (fun c4 => ?_) (fun c4 => ?_)
      · replace h := h.1 c4
        refine And.intro trivial ?_
        exact h
      · replace h := h.2 c4
        refine And.intro trivial ?_
        exact h
    · replace h := h.2 c3
      refine And.intro sh_l141 ?_
      refine pm_C_imp h (fun v hi5 h => ?_)
      obtain ⟨x6, rfl, h⟩ := h
      refine ⟨_, rfl, ?_⟩
      refine And.intro (fun c7 => ?_) (fun c7 => ?_)
      · replace h := h.1 c7
        exact h
      · replace h := h.2 c7
        exact h
theorem v_M_thinks {L d : Nat}  {hi : pm_B} {Q : pm_Q} (h : pm_W pm_g (SH L) HR (d) pm_t184 2 [some (.inr 141), some (.inl 0)] [] hi Q) : pm_C pm_g (SH L) HR (d + 1) m_M_thinks [.inr 141] hi Q := by
  refine pm_C_of (maxL := 2) (t := pm_t184) rfl (Nat.le_of_ble_eq_true rfl) ?_
  refine pm_W_of 4 [2] rfl ?_
  exact h
theorem v_M_thinks_2 {L d : Nat}  {y1 : Int32} {hi : pm_B} {Q : pm_Q} (h : ((239 ≤ y1) → Q none hi) ∧ ((¬ (239 ≤ y1)) → ∃ k2 : Nat, k2 < 1611 ∧ y1 = nI k2 ∧ (∃ k3 : Nat, k3 < 239 ∧ y1 = nI k3 ∧ (pm_W pm_g (SH L) HR (d) pm_t184 2 [some (.inr 141), some (.inl (y1 + 1))] [] (pm_u hi 148 k3 (hi 142 k2)) Q)))) : pm_W pm_g (SH L) HR (d) pm_t184 2 [some (.inr 141), some (.inl y1)] [] hi Q := by
  refine pm_W_of 15 [2] rfl ?_
  refine And.intro (fun c1 => ?_) (fun c1 => ?_)
  · replace h := h.1 c1
    exact h
  · replace h := h.2 c1
    refine And.intro sh_l141 ?_
    rw [hr_141_9]
    refine And.intro sh_l141 ?_
    rw [hr_141_0]
    obtain ⟨k2, hkk2, hek2, h⟩ := h
    refine And.intro (pm_ao_of (t := 0) sh_l142 hkk2 hek2 (by decide)) ?_
    rw [pm_tn hek2 hkk2 (by decide)]
    obtain ⟨k3, hkk3, hek3, h⟩ := h
    refine And.intro ⟨pm_aw_of sh_l148 hkk3 hek3 (by decide), trivial⟩ ?_
    rw [pm_tn hek3 hkk3 (by decide)]
    exact h
theorem v_M_putsBack {L d : Nat}  {hi : pm_B} {Q : pm_Q} (h : pm_W pm_g (SH L) HR (d) pm_t185 2 [some (.inr 141), some (.inl 0)] [] hi Q) : pm_C pm_g (SH L) HR (d + 1) m_M_putsBack [.inr 141] hi Q := by
  refine pm_C_of (maxL := 2) (t := pm_t185) rfl (Nat.le_of_ble_eq_true rfl) ?_
  refine pm_W_of 4 [2] rfl ?_
  exact h
theorem v_M_putsBack_2 {L d : Nat}  {y1 : Int32} {hi : pm_B} {Q : pm_Q} (h : ((239 ≤ y1) → Q none hi) ∧ ((¬ (239 ≤ y1)) → ∃ k2 : Nat, k2 < 239 ∧ y1 = nI k2 ∧ (∃ k3 : Nat, k3 < 1611 ∧ y1 = nI k3 ∧ (pm_W pm_g (SH L) HR (d) pm_t185 2 [some (.inr 141), some (.inl (y1 + 1))] [] (pm_u hi 142 k3 (hi 148 k2)) Q)))) : pm_W pm_g (SH L) HR (d) pm_t185 2 [some (.inr 141), some (.inl y1)] [] hi Q := by
  refine pm_W_of 15 [2] rfl ?_
  refine And.intro (fun c1 => ?_) (fun c1 => ?_)
  · replace h := h.1 c1
    exact h
  · replace h := h.2 c1
    refine And.intro sh_l141 ?_
    rw [hr_141_0]
    refine And.intro sh_l141 ?_
    rw [hr_141_9]
    obtain ⟨k2, hkk2, hek2, h⟩ := h
    refine And.intro (pm_ao_of (t := 0) sh_l148 hkk2 hek2 (by decide)) ?_
    rw [pm_tn hek2 hkk2 (by decide)]
    obtain ⟨k3, hkk3, hek3, h⟩ := h
    refine And.intro ⟨pm_aw_of sh_l142 hkk3 hek3 (by decide), trivial⟩ ?_
    rw [pm_tn hek3 hkk3 (by decide)]
    exact h
theorem v_M_teacher {L d : Nat} {p1 : Int32} {p2 : Int32} {p3 : Int32} {hi : pm_B} {Q : pm_Q} (h : ((p1 < 0) → Q (some (.inl (-1000000001))) hi) ∧ ((¬ (p1 < 0)) → ((3 < p1) → Q (some (.inl (-1000000001))) hi) ∧ ((¬ (3 < p1)) → ((p2 < 0) → Q (some (.inl (-1000000001))) hi) ∧ ((¬ (p2 < 0)) → ((((hi 142 1) - 1) < p2) → Q (some (.inl (-1000000001))) hi) ∧ ((¬ (((hi 142 1) - 1) < p2)) → ((p3 < 0) → Q (some (.inl (-1000000001))) hi) ∧ ((¬ (p3 < 0)) → ((1 < p3) → Q (some (.inl (-1000000001))) hi) ∧ ((¬ (1 < p3)) → ∃ k7 : Nat, k7 < 4 ∧ p1 = nI k7 ∧ (((0 ≤ (hi 157 k7)) → pm_C pm_g (SH L) HR (d + 2) m_M_readsSaying [.inr 141, .inl p1] hi (fun v hi9 => v = none ∧ (((¬ (hi9 141 7) = 0) → pm_C pm_g (SH L) HR (d + 2) m_M_thinks [.inr 141] hi9 (fun v hi11 => v = none ∧ (pm_W pm_g (SH L) HR (d + 2) pm_t186 67 [some (.inr 141), some (.inl p1), some (.inl p2), some (.inl p3), some (.inl (-1)), some (.inl 0), some (.inl 0), none] [] hi11 Q))) ∧ ((¬ (¬ (hi9 141 7) = 0)) → Q (some (.inl (-1000000014))) hi9)))) ∧ ((¬ (0 ≤ (hi 157 k7))) → Q (some (.inl (-1000000011))) hi))))))))) : pm_C pm_g (SH L) HR (d + 3) m_M_teacher [.inr 141, .inl p1, .inl p2, .inl p3] hi Q := by
  refine pm_C_of (maxL := 8) (t := pm_t186) rfl (Nat.le_of_ble_eq_true rfl) ?_
  refine pm_W_of 33 [67] rfl ?_
  refine And.intro trivial ?_
  refine v_M_isSheet (d := d)  ?_
  refine And.intro (fun c1 => ?_) (fun c1 => ?_)
  · replace h := h.1 c1
    refine ⟨_, rfl, ?_⟩
    refine And.intro (fun _ => ?_) (fun hc => absurd (pm_cd_t (by decide)) hc)
    refine And.intro trivial ?_
    exact h
  · replace h := h.2 c1
    refine And.intro (fun c2 => ?_) (fun c2 => ?_)
    · replace h := h.1 c2
      refine ⟨_, rfl, ?_⟩
      refine And.intro (fun _ => ?_) (fun hc => absurd (pm_cd_t (by decide)) hc)
      refine And.intro trivial ?_
      exact h
    · replace h := h.2 c2
      refine ⟨_, rfl, ?_⟩
      refine And.intro (fun hc => absurd hc (pm_cd_f (by decide))) (fun _ => ?_)
      refine And.intro sh_l141 ?_
      refine v_M_isSpeaker (d := d)  ?_
      refine And.intro (fun c3 => ?_) (fun c3 => ?_)
      · replace h := h.1 c3
        refine ⟨_, rfl, ?_⟩
        refine And.intro (fun _ => ?_) (fun hc => absurd (pm_cd_t (by decide)) hc)
        refine And.intro trivial ?_
        exact h
      · replace h := h.2 c3
        refine And.intro (fun c4 => ?_) (fun c4 => ?_)
        · replace h := h.1 c4
          refine ⟨_, rfl, ?_⟩
          refine And.intro (fun _ => ?_) (fun hc => absurd (pm_cd_t (by decide)) hc)
          refine And.intro trivial ?_
          exact h
        · replace h := h.2 c4
          refine ⟨_, rfl, ?_⟩
          refine And.intro (fun hc => absurd hc (pm_cd_f (by decide))) (fun _ => ?_)
          refine And.intro trivial ?_
          refine v_M_in (d := d + 1)  ?_
          refine And.intro (fun c5 => ?_) (fun c5 => ?_)
          · replace h := h.1 c5
            refine ⟨_, rfl, ?_⟩
            refine And.intro (fun hc => absurd hc (pm_cd_f (by decide))) (fun _ => ?_)
            refine And.intro trivial ?_
            exact h
          · replace h := h.2 c5
            refine And.intro (fun c6 => ?_) (fun c6 => ?_)
            · replace h := h.1 c6
              refine ⟨_, rfl, ?_⟩
              refine And.intro (fun hc => absurd hc (pm_cd_f (by decide))) (fun _ => ?_)
              refine And.intro trivial ?_
              exact h
            · replace h := h.2 c6
              refine ⟨_, rfl, ?_⟩
              refine And.intro (fun _ => ?_) (fun hc => absurd (pm_cd_t (by decide)) hc)
              refine And.intro sh_l141 ?_
              rw [hr_141_28]
              obtain ⟨k7, hkk7, hek7, h⟩ := h
              refine And.intro (pm_ao_of (t := 0) sh_l157 hkk7 hek7 (by decide)) ?_
              rw [pm_tn hek7 hkk7 (by decide)]
              refine And.intro (fun c8 => ?_) (fun c8 => ?_)
              · replace h := h.1 c8
                refine And.intro sh_l141 ?_
                refine pm_C_imp h (fun v hi9 h => ?_)
                obtain ⟨rfl, h⟩ := h
                refine ⟨rfl, ?_⟩
                refine And.intro sh_l141 ?_
                refine And.intro (fun c10 => ?_) (fun c10 => ?_)
                · replace h := h.1 c10
                  refine And.intro sh_l141 ?_
                  refine pm_C_imp h (fun v hi11 h => ?_)
                  obtain ⟨rfl, h⟩ := h
                  refine ⟨rfl, ?_⟩
                  exact h
                · replace h := h.2 c10
                  refine And.intro trivial ?_
                  exact h
              · replace h := h.2 c8
                refine And.intro trivial ?_
                exact h
theorem v_M_teacher_67 {L d : Nat} {o7 : Option pm_V} {p1 : Int32} {p2 : Int32} {p3 : Int32} {y4 : Int32} {y5 : Int32} {y6 : Int32} {hi : pm_B} {Q : pm_Q} (h : (((hi 142 1) ≤ y6) → ((0 ≤ y4) → ((¬ p3 = 0) → Q (some (.inl y5)) hi) ∧ ((¬ (¬ p3 = 0)) → Q (some (.inl y4)) hi)) ∧ ((¬ (0 ≤ y4)) → Q (some (.inl (-1000000005))) hi)) ∧ ((¬ ((hi 142 1) ≤ y6)) → ((¬ y6 = p2) → pm_C pm_g (SH L) HR (d + 2) m_M_begins [.inr 141, .inl y6, .inl 0, .inl 12] hi (fun v hi5 => v = none ∧ (pm_C pm_g (SH L) HR (d + 2) m_M_hears [.inr 141, .inl p2] hi5 (fun v hi6 => v = none ∧ (pm_C pm_g (SH L) HR (d + 2) m_M_breathsOf [.inr 141, .inl p2] hi6 (fun v hi7 => ∃ x8 : Int32, v = some (.inl x8) ∧ (pm_C pm_g (SH L) HR (d + 2) m_M_putsBack [.inr 141] hi7 (fun v hi9 => v = none ∧ (((y6 = p2) → pm_W pm_g (SH L) HR (d + 2) pm_t186 67 [some (.inr 141), some (.inl p1), some (.inl p2), some (.inl p3), some (.inl y4), some (.inl y5), some (.inl (y6 + 1)), some (.inl x8)] [] hi9 Q) ∧ ((¬ (y6 = p2)) → ((x8 ≤ 0) → pm_W pm_g (SH L) HR (d + 2) pm_t186 67 [some (.inr 141), some (.inl p1), some (.inl p2), some (.inl p3), some (.inl y4), some (.inl y5), some (.inl (y6 + 1)), some (.inl x8)] [] hi9 Q) ∧ ((¬ (x8 ≤ 0)) → ((y4 < 0) → pm_W pm_g (SH L) HR (d + 2) pm_t186 67 [some (.inr 141), some (.inl p1), some (.inl p2), some (.inl p3), some (.inl y6), some (.inl x8), some (.inl (y6 + 1)), some (.inl x8)] [] hi9 Q) ∧ ((¬ (y4 < 0)) → ((y5 ≤ x8) → pm_W pm_g (SH L) HR (d + 2) pm_t186 67 [some (.inr 141), some (.inl p1), some (.inl p2), some (.inl p3), some (.inl y4), some (.inl y5), some (.inl (y6 + 1)), some (.inl x8)] [] hi9 Q) ∧ ((¬ (y5 ≤ x8)) → pm_W pm_g (SH L) HR (d + 2) pm_t186 67 [some (.inr 141), some (.inl p1), some (.inl p2), some (.inl p3), some (.inl y6), some (.inl x8), some (.inl (y6 + 1)), some (.inl x8)] [] hi9 Q))))))))))))) ∧ ((¬ (¬ y6 = p2)) → pm_C pm_g (SH L) HR (d + 2) m_M_begins [.inr 141, .inl y6, .inl 0, .inl 0] hi (fun v hi14 => v = none ∧ (pm_C pm_g (SH L) HR (d + 2) m_M_hears [.inr 141, .inl p2] hi14 (fun v hi15 => v = none ∧ (pm_C pm_g (SH L) HR (d + 2) m_M_breathsOf [.inr 141, .inl p2] hi15 (fun v hi16 => ∃ x17 : Int32, v = some (.inl x17) ∧ (pm_C pm_g (SH L) HR (d + 2) m_M_putsBack [.inr 141] hi16 (fun v hi18 => v = none ∧ (((y6 = p2) → pm_W pm_g (SH L) HR (d + 2) pm_t186 67 [some (.inr 141), some (.inl p1), some (.inl p2), some (.inl p3), some (.inl y4), some (.inl y5), some (.inl (y6 + 1)), some (.inl x17)] [] hi18 Q) ∧ ((¬ (y6 = p2)) → ((x17 ≤ 0) → pm_W pm_g (SH L) HR (d + 2) pm_t186 67 [some (.inr 141), some (.inl p1), some (.inl p2), some (.inl p3), some (.inl y4), some (.inl y5), some (.inl (y6 + 1)), some (.inl x17)] [] hi18 Q) ∧ ((¬ (x17 ≤ 0)) → ((y4 < 0) → pm_W pm_g (SH L) HR (d + 2) pm_t186 67 [some (.inr 141), some (.inl p1), some (.inl p2), some (.inl p3), some (.inl y6), some (.inl x17), some (.inl (y6 + 1)), some (.inl x17)] [] hi18 Q) ∧ ((¬ (y4 < 0)) → ((y5 ≤ x17) → pm_W pm_g (SH L) HR (d + 2) pm_t186 67 [some (.inr 141), some (.inl p1), some (.inl p2), some (.inl p3), some (.inl y4), some (.inl y5), some (.inl (y6 + 1)), some (.inl x17)] [] hi18 Q) ∧ ((¬ (y5 ≤ x17)) → pm_W pm_g (SH L) HR (d + 2) pm_t186 67 [some (.inr 141), some (.inl p1), some (.inl p2), some (.inl p3), some (.inl y6), some (.inl x17), some (.inl (y6 + 1)), some (.inl x17)] [] hi18 Q))))))))))))))) : pm_W pm_g (SH L) HR (d + 2) pm_t186 67 [some (.inr 141), some (.inl p1), some (.inl p2), some (.inl p3), some (.inl y4), some (.inl y5), some (.inl y6), o7] [] hi Q := by
  refine pm_W_of 42 [67] rfl ?_
  refine And.intro sh_l141 ?_
  rw [hr_141_0]
  refine And.intro (pm_ao_of (t := 0) sh_l142 (by decide : 1 < 1611) (rfl : (1 : Int32) = nI 1) (by decide)) ?_
  rw [pm_tn (rfl : (1 : Int32) = nI 1) (by decide : 1 < 1611) (by decide)]
  refine And.intro (fun c1 => ?_) (fun c1 => ?_)
  · replace h := h.1 c1
    refine And.intro (fun c2 => ?_) (fun c2 => ?_)
    · replace h := h.1 c2
      refine And.intro (fun c3 => ?_) (fun c3 => ?_)
      · replace h := h.1 c3
        refine And.intro trivial ?_
        exact h
      · replace h := h.2 c3
        refine And.intro trivial ?_
        exact h
    · replace h := h.2 c2
      refine And.intro trivial ?_
      exact h
  · replace h := h.2 c1
    refine And.intro (fun c4 => ?_) (fun c4 => ?_)
    · replace h := h.1 c4
      refine And.intro sh_l141 ?_
      refine pm_C_imp h (fun v hi5 h => ?_)
      obtain ⟨rfl, h⟩ := h
      refine ⟨rfl, ?_⟩
      refine And.intro sh_l141 ?_
      refine pm_C_imp h (fun v hi6 h => ?_)
      obtain ⟨rfl, h⟩ := h
      refine ⟨rfl, ?_⟩
      refine And.intro sh_l141 ?_
      refine pm_C_imp h (fun v hi7 h => ?_)
      obtain ⟨x8, rfl, h⟩ := h
      refine ⟨_, rfl, ?_⟩
      refine And.intro sh_l141 ?_
      refine pm_C_imp h (fun v hi9 h => ?_)
      obtain ⟨rfl, h⟩ := h
      refine ⟨rfl, ?_⟩
      refine And.intro (fun c10 => ?_) (fun c10 => ?_)
      · replace h := h.1 c10
        exact h
      · replace h := h.2 c10
        refine And.intro (fun c11 => ?_) (fun c11 => ?_)
        · replace h := h.1 c11
          exact h
        · replace h := h.2 c11
          refine And.intro (fun c12 => ?_) (fun c12 => ?_)
          · replace h := h.1 c12
            exact h
          · replace h := h.2 c12
            refine And.intro (fun c13 => ?_) (fun c13 => ?_)
            · replace h := h.1 c13
              exact h
            · replace h := h.2 c13
              exact h
    · replace h := h.2 c4
      refine And.intro sh_l141 ?_
      refine pm_C_imp h (fun v hi14 h => ?_)
      obtain ⟨rfl, h⟩ := h
      refine ⟨rfl, ?_⟩
      refine And.intro sh_l141 ?_
      refine pm_C_imp h (fun v hi15 h => ?_)
      obtain ⟨rfl, h⟩ := h
      refine ⟨rfl, ?_⟩
      refine And.intro sh_l141 ?_
      refine pm_C_imp h (fun v hi16 h => ?_)
      obtain ⟨x17, rfl, h⟩ := h
      refine ⟨_, rfl, ?_⟩
      refine And.intro sh_l141 ?_
      refine pm_C_imp h (fun v hi18 h => ?_)
      obtain ⟨rfl, h⟩ := h
      refine ⟨rfl, ?_⟩
      refine And.intro (fun c19 => ?_) (fun c19 => ?_)
      · replace h := h.1 c19
        exact h
      · replace h := h.2 c19
        refine And.intro (fun c20 => ?_) (fun c20 => ?_)
        · replace h := h.1 c20
          exact h
        · replace h := h.2 c20
          refine And.intro (fun c21 => ?_) (fun c21 => ?_)
          · replace h := h.1 c21
            exact h
          · replace h := h.2 c21
            refine And.intro (fun c22 => ?_) (fun c22 => ?_)
            · replace h := h.1 c22
              exact h
            · replace h := h.2 c22
              exact h
theorem v_M_behind {L d : Nat} {p1 : Int32} {p2 : Int32} {hi : pm_B} {Q : pm_Q} (h : ((p1 < 0) → Q (some (.inl (-1000000001))) hi) ∧ ((¬ (p1 < 0)) → ((100 < p1) → Q (some (.inl (-1000000001))) hi) ∧ ((¬ (100 < p1)) → ((p2 < 0) → Q (some (.inl (-1000000001))) hi) ∧ ((¬ (p2 < 0)) → ((p2 ≤ 2) → pm_C pm_g (SH L) HR (d + 2) m_M_thinks [.inr 141] hi (fun v hi5 => v = none ∧ (pm_C pm_g (SH L) HR (d + 2) m_M_goesOn [.inr 141, .inl p1] hi5 (fun v hi6 => v = none ∧ (((¬ p2 = 0) → ((¬ p2 = 1) → ((¬ p2 = 2) → pm_C pm_g (SH L) HR (d + 2) m_M_wordsOf [.inr 141, .inl (p2 - 3)] hi6 (fun v hi10 => ∃ x11 : Int32, v = some (.inl x11) ∧ (pm_C pm_g (SH L) HR (d + 2) m_M_putsBack [.inr 141] hi10 (fun v hi12 => v = none ∧ (Q (some (.inl x11)) hi12))))) ∧ ((¬ (¬ p2 = 2)) → pm_C pm_g (SH L) HR (d + 2) m_M_wordsOfAll [.inr 141] hi6 (fun v hi13 => ∃ x14 : Int32, v = some (.inl x14) ∧ (pm_C pm_g (SH L) HR (d + 2) m_M_putsBack [.inr 141] hi13 (fun v hi15 => v = none ∧ (Q (some (.inl x14)) hi15)))))) ∧ ((¬ (¬ p2 = 1)) → pm_C pm_g (SH L) HR (d + 2) m_M_putsBack [.inr 141] hi6 (fun v hi16 => v = none ∧ (Q (some (.inl (hi6 142 5))) hi16)))) ∧ ((¬ (¬ p2 = 0)) → pm_C pm_g (SH L) HR (d + 2) m_M_putsBack [.inr 141] hi6 (fun v hi17 => v = none ∧ (Q (some (.inl (hi6 142 4))) hi17)))))))) ∧ ((¬ (p2 ≤ 2)) → (((p2 - 3) < 0) → Q (some (.inl (-1000000001))) hi) ∧ ((¬ ((p2 - 3) < 0)) → ((((hi 142 1) - 1) < (p2 - 3)) → Q (some (.inl (-1000000001))) hi) ∧ ((¬ (((hi 142 1) - 1) < (p2 - 3))) → pm_C pm_g (SH L) HR (d + 2) m_M_thinks [.inr 141] hi (fun v hi20 => v = none ∧ (pm_C pm_g (SH L) HR (d + 2) m_M_goesOn [.inr 141, .inl p1] hi20 (fun v hi21 => v = none ∧ (((¬ p2 = 0) → ((¬ p2 = 1) → ((¬ p2 = 2) → pm_C pm_g (SH L) HR (d + 2) m_M_wordsOf [.inr 141, .inl (p2 - 3)] hi21 (fun v hi25 => ∃ x26 : Int32, v = some (.inl x26) ∧ (pm_C pm_g (SH L) HR (d + 2) m_M_putsBack [.inr 141] hi25 (fun v hi27 => v = none ∧ (Q (some (.inl x26)) hi27))))) ∧ ((¬ (¬ p2 = 2)) → pm_C pm_g (SH L) HR (d + 2) m_M_wordsOfAll [.inr 141] hi21 (fun v hi28 => ∃ x29 : Int32, v = some (.inl x29) ∧ (pm_C pm_g (SH L) HR (d + 2) m_M_putsBack [.inr 141] hi28 (fun v hi30 => v = none ∧ (Q (some (.inl x29)) hi30)))))) ∧ ((¬ (¬ p2 = 1)) → pm_C pm_g (SH L) HR (d + 2) m_M_putsBack [.inr 141] hi21 (fun v hi31 => v = none ∧ (Q (some (.inl (hi21 142 5))) hi31)))) ∧ ((¬ (¬ p2 = 0)) → pm_C pm_g (SH L) HR (d + 2) m_M_putsBack [.inr 141] hi21 (fun v hi32 => v = none ∧ (Q (some (.inl (hi21 142 4))) hi32)))))))))))))) : pm_C pm_g (SH L) HR (d + 3) m_M_behind [.inr 141, .inl p1, .inl p2] hi Q := by
  refine pm_C_of (maxL := 4) (t := pm_t187) rfl (Nat.le_of_ble_eq_true rfl) ?_
  refine pm_W_of 41 [] rfl ?_
  refine And.intro trivial ?_
  refine v_M_in (d := d + 1)  ?_
  refine And.intro (fun c1 => ?_) (fun c1 => ?_)
  · replace h := h.1 c1
    refine ⟨_, rfl, ?_⟩
    refine And.intro (fun _ => ?_) (fun hc => absurd (pm_cd_t (by decide)) hc)
    refine And.intro trivial ?_
    exact h
  · replace h := h.2 c1
    refine And.intro (fun c2 => ?_) (fun c2 => ?_)
    · replace h := h.1 c2
      refine ⟨_, rfl, ?_⟩
      refine And.intro (fun _ => ?_) (fun hc => absurd (pm_cd_t (by decide)) hc)
      refine And.intro trivial ?_
      exact h
    · replace h := h.2 c2
      refine ⟨_, rfl, ?_⟩
      refine And.intro (fun hc => absurd hc (pm_cd_f (by decide))) (fun _ => ?_)
      refine And.intro (fun c3 => ?_) (fun c3 => ?_)
      · replace h := h.1 c3
        refine And.intro trivial ?_
        exact h
      · replace h := h.2 c3
        refine And.intro (fun c4 => ?_) (fun c4 => ?_)
        · replace h := h.1 c4
          refine And.intro sh_l141 ?_
          refine pm_C_imp h (fun v hi5 h => ?_)
          obtain ⟨rfl, h⟩ := h
          refine ⟨rfl, ?_⟩
          refine And.intro sh_l141 ?_
          refine pm_C_imp h (fun v hi6 h => ?_)
          obtain ⟨rfl, h⟩ := h
          refine ⟨rfl, ?_⟩
          refine And.intro (fun c7 => ?_) (fun c7 => ?_)
          · replace h := h.1 c7
            refine And.intro (fun c8 => ?_) (fun c8 => ?_)
            · replace h := h.1 c8
              refine And.intro (fun c9 => ?_) (fun c9 => ?_)
              · replace h := h.1 c9
                refine And.intro sh_l141 ?_
                refine pm_C_imp h (fun v hi10 h => ?_)
                obtain ⟨x11, rfl, h⟩ := h
                refine ⟨_, rfl, ?_⟩
                refine And.intro sh_l141 ?_
                refine pm_C_imp h (fun v hi12 h => ?_)
                obtain ⟨rfl, h⟩ := h
                refine ⟨rfl, ?_⟩
                refine And.intro trivial ?_
                exact h
              · replace h := h.2 c9
                refine And.intro sh_l141 ?_
                refine pm_C_imp h (fun v hi13 h => ?_)
                obtain ⟨x14, rfl, h⟩ := h
                refine ⟨_, rfl, ?_⟩
                refine And.intro sh_l141 ?_
                refine pm_C_imp h (fun v hi15 h => ?_)
                obtain ⟨rfl, h⟩ := h
                refine ⟨rfl, ?_⟩
                refine And.intro trivial ?_
                exact h
            · replace h := h.2 c8
              refine And.intro sh_l141 ?_
              rw [hr_141_0]
              refine And.intro (pm_ao_of (t := 0) sh_l142 (by decide : 5 < 1611) (rfl : (5 : Int32) = nI 5) (by decide)) ?_
              rw [pm_tn (rfl : (5 : Int32) = nI 5) (by decide : 5 < 1611) (by decide)]
              refine And.intro sh_l141 ?_
              refine pm_C_imp h (fun v hi16 h => ?_)
              obtain ⟨rfl, h⟩ := h
              refine ⟨rfl, ?_⟩
              refine And.intro trivial ?_
              exact h
          · replace h := h.2 c7
            refine And.intro sh_l141 ?_
            rw [hr_141_0]
            refine And.intro (pm_ao_of (t := 0) sh_l142 (by decide : 4 < 1611) (rfl : (4 : Int32) = nI 4) (by decide)) ?_
            rw [pm_tn (rfl : (4 : Int32) = nI 4) (by decide : 4 < 1611) (by decide)]
            refine And.intro sh_l141 ?_
            refine pm_C_imp h (fun v hi17 h => ?_)
            obtain ⟨rfl, h⟩ := h
            refine ⟨rfl, ?_⟩
            refine And.intro trivial ?_
            exact h
        · replace h := h.2 c4
          refine And.intro sh_l141 ?_
          refine v_M_isSpeaker (d := d)  ?_
          refine And.intro (fun c18 => ?_) (fun c18 => ?_)
          · replace h := h.1 c18
            refine ⟨_, rfl, ?_⟩
            refine And.intro (fun hc => absurd hc (pm_cd_f (by decide))) (fun _ => ?_)
            refine And.intro trivial ?_
            exact h
          · replace h := h.2 c18
            refine And.intro (fun c19 => ?_) (fun c19 => ?_)
            · replace h := h.1 c19
              refine ⟨_, rfl, ?_⟩
              refine And.intro (fun hc => absurd hc (pm_cd_f (by decide))) (fun _ => ?_)
              refine And.intro trivial ?_
              exact h
            · replace h := h.2 c19
              refine ⟨_, rfl, ?_⟩
              refine And.intro (fun _ => ?_) (fun hc => absurd (pm_cd_t (by decide)) hc)
              refine And.intro sh_l141 ?_
              refine pm_C_imp h (fun v hi20 h => ?_)
              obtain ⟨rfl, h⟩ := h
              refine ⟨rfl, ?_⟩
              refine And.intro sh_l141 ?_
              refine pm_C_imp h (fun v hi21 h => ?_)
              obtain ⟨rfl, h⟩ := h
              refine ⟨rfl, ?_⟩
              refine And.intro (fun c22 => ?_) (fun c22 => ?_)
              · replace h := h.1 c22
                refine And.intro (fun c23 => ?_) (fun c23 => ?_)
                · replace h := h.1 c23
                  refine And.intro (fun c24 => ?_) (fun c24 => ?_)
                  · replace h := h.1 c24
                    refine And.intro sh_l141 ?_
                    refine pm_C_imp h (fun v hi25 h => ?_)
                    obtain ⟨x26, rfl, h⟩ := h
                    refine ⟨_, rfl, ?_⟩
                    refine And.intro sh_l141 ?_
                    refine pm_C_imp h (fun v hi27 h => ?_)
                    obtain ⟨rfl, h⟩ := h
                    refine ⟨rfl, ?_⟩
                    refine And.intro trivial ?_
                    exact h
                  · replace h := h.2 c24
                    refine And.intro sh_l141 ?_
                    refine pm_C_imp h (fun v hi28 h => ?_)
                    obtain ⟨x29, rfl, h⟩ := h
                    refine ⟨_, rfl, ?_⟩
                    refine And.intro sh_l141 ?_
                    refine pm_C_imp h (fun v hi30 h => ?_)
                    obtain ⟨rfl, h⟩ := h
                    refine ⟨rfl, ?_⟩
                    refine And.intro trivial ?_
                    exact h
                · replace h := h.2 c23
                  refine And.intro sh_l141 ?_
                  rw [hr_141_0]
                  refine And.intro (pm_ao_of (t := 0) sh_l142 (by decide : 5 < 1611) (rfl : (5 : Int32) = nI 5) (by decide)) ?_
                  rw [pm_tn (rfl : (5 : Int32) = nI 5) (by decide : 5 < 1611) (by decide)]
                  refine And.intro sh_l141 ?_
                  refine pm_C_imp h (fun v hi31 h => ?_)
                  obtain ⟨rfl, h⟩ := h
                  refine ⟨rfl, ?_⟩
                  refine And.intro trivial ?_
                  exact h
              · replace h := h.2 c22
                refine And.intro sh_l141 ?_
                rw [hr_141_0]
                refine And.intro (pm_ao_of (t := 0) sh_l142 (by decide : 4 < 1611) (rfl : (4 : Int32) = nI 4) (by decide)) ?_
                rw [pm_tn (rfl : (4 : Int32) = nI 4) (by decide : 4 < 1611) (by decide)]
                refine And.intro sh_l141 ?_
                refine pm_C_imp h (fun v hi32 h => ?_)
                obtain ⟨rfl, h⟩ := h
                refine ⟨rfl, ?_⟩
                refine And.intro trivial ?_
                exact h
theorem v_M_hasCome {L d : Nat} {p1 : Int32} {hi : pm_B} {Q : pm_Q} (h : pm_W pm_g (SH L) HR (d + 1) pm_t188 4 [some (.inr 141), some (.inl p1), some (.inl 1), some (.inl 0)] [] hi Q) : pm_C pm_g (SH L) HR (d + 2) m_M_hasCome [.inr 141, .inl p1] hi Q := by
  refine pm_C_of (maxL := 4) (t := pm_t188) rfl (Nat.le_of_ble_eq_true rfl) ?_
  refine pm_W_of 6 [4] rfl ?_
  exact h
theorem v_M_hasCome_4 {L d : Nat}  {p1 : Int32} {y2 : Int32} {y3 : Int32} {hi : pm_B} {Q : pm_Q} (h : (((hi 142 1) ≤ y3) → pm_fit 3 y2 ∧ (Q (some (.inl y2)) hi)) ∧ ((¬ ((hi 142 1) ≤ y3)) → ((y2 = 0) → pm_W pm_g (SH L) HR (d + 1) pm_t188 4 [some (.inr 141), some (.inl p1), some (.inl 0), some (.inl (y3 + 1))] [] hi Q) ∧ ((¬ (y2 = 0)) → ∃ k3 : Nat, k3 < 1611 ∧ ((7 + (29 * y3)) + 0) = nI k3 ∧ ((((hi 142 k3) = 5) → pm_W pm_g (SH L) HR (d + 1) pm_t188 4 [some (.inr 141), some (.inl p1), some (.inl 1), some (.inl (y3 + 1))] [] hi Q) ∧ ((¬ ((hi 142 k3) = 5)) → pm_C pm_g (SH L) HR (d + 1) m_M_wordsOf [.inr 141, .inl y3] hi (fun v hi5 => ∃ x6 : Int32, v = some (.inl x6) ∧ (((¬ ((x6 >>> (p1 &&& 31)) &&& 1) = 1) → pm_W pm_g (SH L) HR (d + 1) pm_t188 4 [some (.inr 141), some (.inl p1), some (.inl 0), some (.inl (y3 + 1))] [] hi5 Q) ∧ ((¬ (¬ ((x6 >>> (p1 &&& 31)) &&& 1) = 1)) → pm_W pm_g (SH L) HR (d + 1) pm_t188 4 [some (.inr 141), some (.inl p1), some (.inl 1), some (.inl (y3 + 1))] [] hi5 Q)))))))) : pm_W pm_g (SH L) HR (d + 1) pm_t188 4 [some (.inr 141), some (.inl p1), some (.inl y2), some (.inl y3)] [] hi Q := by
  refine pm_W_of 30 [4] rfl ?_
  refine And.intro sh_l141 ?_
  rw [hr_141_0]
  refine And.intro (pm_ao_of (t := 0) sh_l142 (by decide : 1 < 1611) (rfl : (1 : Int32) = nI 1) (by decide)) ?_
  rw [pm_tn (rfl : (1 : Int32) = nI 1) (by decide : 1 < 1611) (by decide)]
  refine And.intro (fun c1 => ?_) (fun c1 => ?_)
  · replace h := h.1 c1
    refine And.intro h.1 ?_
    replace h := h.2
    exact h
  · replace h := h.2 c1
    refine And.intro (fun c2 => ?_) (fun c2 => ?_)
    · replace h := h.1 c2
      exact h
    · replace h := h.2 c2
      refine And.intro sh_l141 ?_
      refine v_M_of (d := d)  ?_
      obtain ⟨k3, hkk3, hek3, h⟩ := h
      refine ⟨k3, hkk3, hek3, ?_⟩
      refine ⟨_, rfl, ?_⟩
      refine And.intro (fun c4 => ?_) (fun c4 => ?_)
      · replace h := h.1 c4
        exact h
      · replace h := h.2 c4
        refine And.intro sh_l141 ?_
        refine pm_C_imp h (fun v hi5 h => ?_)
        obtain ⟨x6, rfl, h⟩ := h
        refine ⟨_, rfl, ?_⟩
        refine And.intro (fun c7 => ?_) (fun c7 => ?_)
        · replace h := h.1 c7
          exact h
        · replace h := h.2 c7
          exact h
theorem v_M_spreads {L d : Nat} {p1 : Int32} {hi : pm_B} {Q : pm_Q} (h : ((p1 < 0) → Q (some (.inl (-1000000001))) hi) ∧ ((¬ (p1 < 0)) → ((19 < p1) → Q (some (.inl (-1000000001))) hi) ∧ ((¬ (19 < p1)) → pm_C pm_g (SH L) HR (d + 2) m_M_thinks [.inr 141] hi (fun v hi3 => v = none ∧ (pm_W pm_g (SH L) HR (d + 2) pm_t189 16 [some (.inr 141), some (.inl p1), some (.inl 0)] [] hi3 Q))))) : pm_C pm_g (SH L) HR (d + 3) m_M_spreads [.inr 141, .inl p1] hi Q := by
  refine pm_C_of (maxL := 3) (t := pm_t189) rfl (Nat.le_of_ble_eq_true rfl) ?_
  refine pm_W_of 11 [16] rfl ?_
  refine And.intro trivial ?_
  refine v_M_isWord (d := d)  ?_
  refine And.intro (fun c1 => ?_) (fun c1 => ?_)
  · replace h := h.1 c1
    refine ⟨_, rfl, ?_⟩
    refine And.intro (fun hc => absurd hc (pm_cd_f (by decide))) (fun _ => ?_)
    refine And.intro trivial ?_
    exact h
  · replace h := h.2 c1
    refine And.intro (fun c2 => ?_) (fun c2 => ?_)
    · replace h := h.1 c2
      refine ⟨_, rfl, ?_⟩
      refine And.intro (fun hc => absurd hc (pm_cd_f (by decide))) (fun _ => ?_)
      refine And.intro trivial ?_
      exact h
    · replace h := h.2 c2
      refine ⟨_, rfl, ?_⟩
      refine And.intro (fun _ => ?_) (fun hc => absurd (pm_cd_t (by decide)) hc)
      refine And.intro sh_l141 ?_
      refine pm_C_imp h (fun v hi3 h => ?_)
      obtain ⟨rfl, h⟩ := h
      refine ⟨rfl, ?_⟩
      exact h
theorem v_M_spreads_16 {L d : Nat}  {p1 : Int32} {y2 : Int32} {hi : pm_B} {Q : pm_Q} (h : ((200 < y2) → pm_C pm_g (SH L) HR (d + 2) m_M_putsBack [.inr 141] hi (fun v hi2 => v = none ∧ (((y2 ≤ 200) → Q (some (.inl y2)) hi2) ∧ ((¬ (y2 ≤ 200)) → Q (some (.inl (-1000000005))) hi2)))) ∧ ((¬ (200 < y2)) → pm_C pm_g (SH L) HR (d + 2) m_M_hasCome [.inr 141, .inl p1] hi (fun v hi4 => ∃ x5 : Int32, v = some (.inl x5) ∧ (((¬ x5 = 0) → pm_C pm_g (SH L) HR (d + 2) m_M_putsBack [.inr 141] hi4 (fun v hi7 => v = none ∧ (((y2 ≤ 200) → Q (some (.inl y2)) hi7) ∧ ((¬ (y2 ≤ 200)) → Q (some (.inl (-1000000005))) hi7)))) ∧ ((¬ (¬ x5 = 0)) → pm_C pm_g (SH L) HR (d + 2) m_M_day [.inr 141] hi4 (fun v hi9 => v = none ∧ (pm_W pm_g (SH L) HR (d + 2) pm_t189 16 [some (.inr 141), some (.inl p1), some (.inl (y2 + 1))] [] hi9 Q))))))) : pm_W pm_g (SH L) HR (d + 2) pm_t189 16 [some (.inr 141), some (.inl p1), some (.inl y2)] [] hi Q := by
  refine pm_W_of 17 [16] rfl ?_
  refine And.intro (fun c1 => ?_) (fun c1 => ?_)
  · replace h := h.1 c1
    refine And.intro sh_l141 ?_
    refine pm_C_imp h (fun v hi2 h => ?_)
    obtain ⟨rfl, h⟩ := h
    refine ⟨rfl, ?_⟩
    refine And.intro (fun c3 => ?_) (fun c3 => ?_)
    · replace h := h.1 c3
      refine And.intro trivial ?_
      exact h
    · replace h := h.2 c3
      refine And.intro trivial ?_
      exact h
  · replace h := h.2 c1
    refine And.intro sh_l141 ?_
    refine pm_C_imp h (fun v hi4 h => ?_)
    obtain ⟨x5, rfl, h⟩ := h
    refine ⟨_, rfl, ?_⟩
    refine And.intro (fun c6 => ?_) (fun c6 => ?_)
    · replace h := h.1 c6
      refine And.intro sh_l141 ?_
      refine pm_C_imp h (fun v hi7 h => ?_)
      obtain ⟨rfl, h⟩ := h
      refine ⟨rfl, ?_⟩
      refine And.intro (fun c8 => ?_) (fun c8 => ?_)
      · replace h := h.1 c8
        refine And.intro trivial ?_
        exact h
      · replace h := h.2 c8
        refine And.intro trivial ?_
        exact h
    · replace h := h.2 c6
      refine And.intro sh_l141 ?_
      refine pm_C_imp h (fun v hi9 h => ?_)
      obtain ⟨rfl, h⟩ := h
      refine ⟨rfl, ?_⟩
      exact h
theorem v_M_learns {L d : Nat} {p1 : Int32} {p2 : Int32} {hi : pm_B} {Q : pm_Q} (h : ((p1 < 0) → Q (some (.inl (-1000000001))) hi) ∧ ((¬ (p1 < 0)) → ((((hi 142 1) - 1) < p1) → Q (some (.inl (-1000000001))) hi) ∧ ((¬ (((hi 142 1) - 1) < p1)) → ((p2 < 1) → Q (some (.inl (-1000000001))) hi) ∧ ((¬ (p2 < 1)) → ((100 < p2) → Q (some (.inl (-1000000001))) hi) ∧ ((¬ (100 < p2)) → pm_C pm_g (SH L) HR (d + 2) m_M_thinks [.inr 141] hi (fun v hi5 => v = none ∧ (pm_C pm_g (SH L) HR (d + 2) m_M_wordsOf [.inr 141, .inl p1] hi5 (fun v hi6 => ∃ x7 : Int32, v = some (.inl x7) ∧ (pm_C pm_g (SH L) HR (d + 2) m_M_goesOn [.inr 141, .inl p2] hi6 (fun v hi8 => v = none ∧ (pm_C pm_g (SH L) HR (d + 2) m_M_wordsOf [.inr 141, .inl p1] hi8 (fun v hi9 => ∃ x10 : Int32, v = some (.inl x10) ∧ (pm_C pm_g (SH L) HR (d + 2) m_M_putsBack [.inr 141] hi9 (fun v hi11 => v = none ∧ (pm_W pm_g (SH L) HR (d + 2) pm_t190 50 [some (.inr 141), some (.inl p1), some (.inl p2), some (.inl x7), some (.inl x10), some (.inl 0)] [] hi11 Q))))))))))))))) : pm_C pm_g (SH L) HR (d + 3) m_M_learns [.inr 141, .inl p1, .inl p2] hi Q := by
  refine pm_C_of (maxL := 6) (t := pm_t190) rfl (Nat.le_of_ble_eq_true rfl) ?_
  refine pm_W_of 28 [50] rfl ?_
  refine And.intro sh_l141 ?_
  refine v_M_isSpeaker (d := d)  ?_
  refine And.intro (fun c1 => ?_) (fun c1 => ?_)
  · replace h := h.1 c1
    refine ⟨_, rfl, ?_⟩
    refine And.intro (fun _ => ?_) (fun hc => absurd (pm_cd_t (by decide)) hc)
    refine And.intro trivial ?_
    exact h
  · replace h := h.2 c1
    refine And.intro (fun c2 => ?_) (fun c2 => ?_)
    · replace h := h.1 c2
      refine ⟨_, rfl, ?_⟩
      refine And.intro (fun _ => ?_) (fun hc => absurd (pm_cd_t (by decide)) hc)
      refine And.intro trivial ?_
      exact h
    · replace h := h.2 c2
      refine ⟨_, rfl, ?_⟩
      refine And.intro (fun hc => absurd hc (pm_cd_f (by decide))) (fun _ => ?_)
      refine And.intro trivial ?_
      refine v_M_in (d := d + 1)  ?_
      refine And.intro (fun c3 => ?_) (fun c3 => ?_)
      · replace h := h.1 c3
        refine ⟨_, rfl, ?_⟩
        refine And.intro (fun hc => absurd hc (pm_cd_f (by decide))) (fun _ => ?_)
        refine And.intro trivial ?_
        exact h
      · replace h := h.2 c3
        refine And.intro (fun c4 => ?_) (fun c4 => ?_)
        · replace h := h.1 c4
          refine ⟨_, rfl, ?_⟩
          refine And.intro (fun hc => absurd hc (pm_cd_f (by decide))) (fun _ => ?_)
          refine And.intro trivial ?_
          exact h
        · replace h := h.2 c4
          refine ⟨_, rfl, ?_⟩
          refine And.intro (fun _ => ?_) (fun hc => absurd (pm_cd_t (by decide)) hc)
          refine And.intro sh_l141 ?_
          refine pm_C_imp h (fun v hi5 h => ?_)
          obtain ⟨rfl, h⟩ := h
          refine ⟨rfl, ?_⟩
          refine And.intro sh_l141 ?_
          refine pm_C_imp h (fun v hi6 h => ?_)
          obtain ⟨x7, rfl, h⟩ := h
          refine ⟨_, rfl, ?_⟩
          refine And.intro sh_l141 ?_
          refine pm_C_imp h (fun v hi8 h => ?_)
          obtain ⟨rfl, h⟩ := h
          refine ⟨rfl, ?_⟩
          refine And.intro sh_l141 ?_
          refine pm_C_imp h (fun v hi9 h => ?_)
          obtain ⟨x10, rfl, h⟩ := h
          refine ⟨_, rfl, ?_⟩
          refine And.intro sh_l141 ?_
          refine pm_C_imp h (fun v hi11 h => ?_)
          obtain ⟨rfl, h⟩ := h
          refine ⟨rfl, ?_⟩
          exact h
theorem v_M_learns_50 {L d : Nat}  {p1 : Int32} {p2 : Int32} {y3 : Int32} {y4 : Int32} {y5 : Int32} {hi : pm_B} {Q : pm_Q} (h : ((20 ≤ y5) → Q (some (.inl (-1000000005))) hi) ∧ ((¬ (20 ≤ y5)) → ((¬ ((y4 >>> (y5 &&& 31)) &&& 1) = 1) → pm_W pm_g (SH L) HR (d + 2) pm_t190 50 [some (.inr 141), some (.inl p1), some (.inl p2), some (.inl y3), some (.inl y4), some (.inl (y5 + 1))] [] hi Q) ∧ ((¬ (¬ ((y4 >>> (y5 &&& 31)) &&& 1) = 1)) → ((¬ ((y3 >>> (y5 &&& 31)) &&& 1) = 0) → pm_W pm_g (SH L) HR (d + 2) pm_t190 50 [some (.inr 141), some (.inl p1), some (.inl p2), some (.inl y3), some (.inl y4), some (.inl (y5 + 1))] [] hi Q) ∧ ((¬ (¬ ((y3 >>> (y5 &&& 31)) &&& 1) = 0)) → Q (some (.inl y5)) hi)))) : pm_W pm_g (SH L) HR (d + 2) pm_t190 50 [some (.inr 141), some (.inl p1), some (.inl p2), some (.inl y3), some (.inl y4), some (.inl y5)] [] hi Q := by
  refine pm_W_of 20 [50] rfl ?_
  refine And.intro (fun c1 => ?_) (fun c1 => ?_)
  · replace h := h.1 c1
    refine And.intro trivial ?_
    exact h
  · replace h := h.2 c1
    refine And.intro (fun c2 => ?_) (fun c2 => ?_)
    · replace h := h.1 c2
      exact h
    · replace h := h.2 c2
      refine And.intro (fun c3 => ?_) (fun c3 => ?_)
      · replace h := h.1 c3
        exact h
      · replace h := h.2 c3
        refine And.intro trivial ?_
        exact h
theorem v_M_quiet {L d : Nat} {p1 : Int32} {p2 : Int32} {hi : pm_B} {Q : pm_Q} (h : ((p1 < 1) → Q (some (.inl (-1000000001))) hi) ∧ ((¬ (p1 < 1)) → ((100 < p1) → Q (some (.inl (-1000000001))) hi) ∧ ((¬ (100 < p1)) → ((p2 < 0) → Q (some (.inl (-1000000001))) hi) ∧ ((¬ (p2 < 0)) → ((1 < p2) → Q (some (.inl (-1000000001))) hi) ∧ ((¬ (1 < p2)) → pm_C pm_g (SH L) HR (d + 1) m_M_thinks [.inr 141] hi (fun v hi5 => v = none ∧ (pm_W pm_g (SH L) HR (d + 1) pm_t191 34 [some (.inr 141), some (.inl p1), some (.inl p2), some (.inl (-1)), some (.inl 0), some (.inl 0), none] [] hi5 Q))))))) : pm_C pm_g (SH L) HR (d + 2) m_M_quiet [.inr 141, .inl p1, .inl p2] hi Q := by
  refine pm_C_of (maxL := 7) (t := pm_t191) rfl (Nat.le_of_ble_eq_true rfl) ?_
  refine pm_W_of 20 [34] rfl ?_
  refine And.intro trivial ?_
  refine v_M_in (d := d)  ?_
  refine And.intro (fun c1 => ?_) (fun c1 => ?_)
  · replace h := h.1 c1
    refine ⟨_, rfl, ?_⟩
    refine And.intro (fun _ => ?_) (fun hc => absurd (pm_cd_t (by decide)) hc)
    refine And.intro trivial ?_
    exact h
  · replace h := h.2 c1
    refine And.intro (fun c2 => ?_) (fun c2 => ?_)
    · replace h := h.1 c2
      refine ⟨_, rfl, ?_⟩
      refine And.intro (fun _ => ?_) (fun hc => absurd (pm_cd_t (by decide)) hc)
      refine And.intro trivial ?_
      exact h
    · replace h := h.2 c2
      refine ⟨_, rfl, ?_⟩
      refine And.intro (fun hc => absurd hc (pm_cd_f (by decide))) (fun _ => ?_)
      refine And.intro trivial ?_
      refine v_M_in (d := d)  ?_
      refine And.intro (fun c3 => ?_) (fun c3 => ?_)
      · replace h := h.1 c3
        refine ⟨_, rfl, ?_⟩
        refine And.intro (fun hc => absurd hc (pm_cd_f (by decide))) (fun _ => ?_)
        refine And.intro trivial ?_
        exact h
      · replace h := h.2 c3
        refine And.intro (fun c4 => ?_) (fun c4 => ?_)
        · replace h := h.1 c4
          refine ⟨_, rfl, ?_⟩
          refine And.intro (fun hc => absurd hc (pm_cd_f (by decide))) (fun _ => ?_)
          refine And.intro trivial ?_
          exact h
        · replace h := h.2 c4
          refine ⟨_, rfl, ?_⟩
          refine And.intro (fun _ => ?_) (fun hc => absurd (pm_cd_t (by decide)) hc)
          refine And.intro sh_l141 ?_
          refine pm_C_imp h (fun v hi5 h => ?_)
          obtain ⟨rfl, h⟩ := h
          refine ⟨rfl, ?_⟩
          exact h
theorem v_M_quiet_34 {L d : Nat} {o6 : Option pm_V} {p1 : Int32} {p2 : Int32} {y3 : Int32} {y4 : Int32} {y5 : Int32} {hi : pm_B} {Q : pm_Q} (h : (((hi 142 1) ≤ y5) → ((0 ≤ y3) → ((¬ p2 = 0) → Q (some (.inl y4)) hi) ∧ ((¬ (¬ p2 = 0)) → Q (some (.inl y3)) hi)) ∧ ((¬ (0 ≤ y3)) → Q (some (.inl (-1000000005))) hi)) ∧ ((¬ ((hi 142 1) ≤ y5)) → ∃ k4 : Nat, k4 < 1611 ∧ ((7 + (29 * y5)) + 4) = nI k4 ∧ (∀ hi5 : pm_B, hi5 = pm_u hi 142 k4 0 → (pm_C pm_g (SH L) HR (d + 1) m_M_goesOn [.inr 141, .inl p1] hi5 (fun v hi6 => v = none ∧ (pm_C pm_g (SH L) HR (d + 1) m_M_putsBack [.inr 141] hi6 (fun v hi7 => v = none ∧ (((y3 < 0) → pm_W pm_g (SH L) HR (d + 1) pm_t191 34 [some (.inr 141), some (.inl p1), some (.inl p2), some (.inl y5), some (.inl (hi6 142 4)), some (.inl (y5 + 1)), some (.inl (hi6 142 4))] [] hi7 Q) ∧ ((¬ (y3 < 0)) → ((y4 ≤ (hi6 142 4)) → pm_W pm_g (SH L) HR (d + 1) pm_t191 34 [some (.inr 141), some (.inl p1), some (.inl p2), some (.inl y3), some (.inl y4), some (.inl (y5 + 1)), some (.inl (hi6 142 4))] [] hi7 Q) ∧ ((¬ (y4 ≤ (hi6 142 4))) → pm_W pm_g (SH L) HR (d + 1) pm_t191 34 [some (.inr 141), some (.inl p1), some (.inl p2), some (.inl y5), some (.inl (hi6 142 4)), some (.inl (y5 + 1)), some (.inl (hi6 142 4))] [] hi7 Q)))))))))) : pm_W pm_g (SH L) HR (d + 1) pm_t191 34 [some (.inr 141), some (.inl p1), some (.inl p2), some (.inl y3), some (.inl y4), some (.inl y5), o6] [] hi Q := by
  refine pm_W_of 34 [34] rfl ?_
  refine And.intro sh_l141 ?_
  rw [hr_141_0]
  refine And.intro (pm_ao_of (t := 0) sh_l142 (by decide : 1 < 1611) (rfl : (1 : Int32) = nI 1) (by decide)) ?_
  rw [pm_tn (rfl : (1 : Int32) = nI 1) (by decide : 1 < 1611) (by decide)]
  refine And.intro (fun c1 => ?_) (fun c1 => ?_)
  · replace h := h.1 c1
    refine And.intro (fun c2 => ?_) (fun c2 => ?_)
    · replace h := h.1 c2
      refine And.intro (fun c3 => ?_) (fun c3 => ?_)
      · replace h := h.1 c3
        refine And.intro trivial ?_
        exact h
      · replace h := h.2 c3
        refine And.intro trivial ?_
        exact h
    · replace h := h.2 c2
      refine And.intro trivial ?_
      exact h
  · replace h := h.2 c1
    refine And.intro sh_l141 ?_
    refine v_M_put (d := d)  ?_
    obtain ⟨k4, hkk4, hek4, h⟩ := h
    refine ⟨k4, hkk4, hek4, ?_⟩
    refine ⟨rfl, ?_⟩
    obtain ⟨hi5, ehi5⟩ : ∃ m : pm_B, m = pm_u hi 142 k4 0 := ⟨_, rfl⟩
    replace h := h hi5 ehi5
    rw [← ehi5]
    refine And.intro sh_l141 ?_
    refine pm_C_imp h (fun v hi6 h => ?_)
    obtain ⟨rfl, h⟩ := h
    refine ⟨rfl, ?_⟩
    refine And.intro sh_l141 ?_
    rw [hr_141_0]
    refine And.intro (pm_ao_of (t := 0) sh_l142 (by decide : 4 < 1611) (rfl : (4 : Int32) = nI 4) (by decide)) ?_
    rw [pm_tn (rfl : (4 : Int32) = nI 4) (by decide : 4 < 1611) (by decide)]
    refine And.intro sh_l141 ?_
    refine pm_C_imp h (fun v hi7 h => ?_)
    obtain ⟨rfl, h⟩ := h
    refine ⟨rfl, ?_⟩
    refine And.intro (fun c8 => ?_) (fun c8 => ?_)
    · replace h := h.1 c8
      exact h
    · replace h := h.2 c8
      refine And.intro (fun c9 => ?_) (fun c9 => ?_)
      · replace h := h.1 c9
        exact h
      · replace h := h.2 c9
        exact h
theorem v_M_manyOf {L d : Nat} {p1 : Int32} {hi : pm_B} {Q : pm_Q} (h : pm_W pm_g (SH L) HR (d) pm_t192 4 [some (.inl p1), some (.inl 0), some (.inl p1)] [] hi Q) : pm_C pm_g (SH L) HR (d + 1) m_M_manyOf [.inl p1] hi Q := by
  refine pm_C_of (maxL := 3) (t := pm_t192) rfl (Nat.le_of_ble_eq_true rfl) ?_
  refine pm_W_of 6 [4] rfl ?_
  exact h
theorem v_M_manyOf_4 {L d : Nat}  {p1 : Int32} {y1 : Int32} {y2 : Int32} {hi : pm_B} {Q : pm_Q} (h : ((y2 = 0) → Q (some (.inl y1)) hi) ∧ ((¬ (y2 = 0)) → pm_W pm_g (SH L) HR (d) pm_t192 4 [some (.inl p1), some (.inl (y1 + 1)), some (.inl (y2 &&& (y2 - 1)))] [] hi Q)) : pm_W pm_g (SH L) HR (d) pm_t192 4 [some (.inl p1), some (.inl y1), some (.inl y2)] [] hi Q := by
  refine pm_W_of 12 [4] rfl ?_
  refine And.intro (fun c1 => ?_) (fun c1 => ?_)
  · replace h := h.1 c1
    refine And.intro trivial ?_
    exact h
  · replace h := h.2 c1
    exact h
theorem v_M_ears {L d : Nat} {p1 : Int32} {p2 : Int32} {p3 : Int32} {hi : pm_B} {Q : pm_Q} (h : ((p1 < 0) → Q (some (.inl (-1000000001))) hi) ∧ ((¬ (p1 < 0)) → ((((hi 142 1) - 1) < p1) → Q (some (.inl (-1000000001))) hi) ∧ ((¬ (((hi 142 1) - 1) < p1)) → ((p2 < 1) → Q (some (.inl (-1000000001))) hi) ∧ ((¬ (p2 < 1)) → ((60 < p2) → Q (some (.inl (-1000000001))) hi) ∧ ((¬ (60 < p2)) → ((p3 < 0) → Q (some (.inl (-1000000001))) hi) ∧ ((¬ (p3 < 0)) → ((1 < p3) → Q (some (.inl (-1000000001))) hi) ∧ ((¬ (1 < p3)) → pm_C pm_g (SH L) HR (d + 2) m_M_thinks [.inr 141] hi (fun v hi7 => v = none ∧ (pm_W pm_g (SH L) HR (d + 2) pm_t193 43 [some (.inr 141), some (.inl p1), some (.inl p2), some (.inl p3), some (.inl 0), some (.inl (-1)), some (.inl 1), none] [] hi7 Q))))))))) : pm_C pm_g (SH L) HR (d + 3) m_M_ears [.inr 141, .inl p1, .inl p2, .inl p3] hi Q := by
  refine pm_C_of (maxL := 8) (t := pm_t193) rfl (Nat.le_of_ble_eq_true rfl) ?_
  refine pm_W_of 24 [43] rfl ?_
  refine And.intro sh_l141 ?_
  refine v_M_isSpeaker (d := d)  ?_
  refine And.intro (fun c1 => ?_) (fun c1 => ?_)
  · replace h := h.1 c1
    refine ⟨_, rfl, ?_⟩
    refine And.intro (fun _ => ?_) (fun hc => absurd (pm_cd_t (by decide)) hc)
    refine And.intro trivial ?_
    exact h
  · replace h := h.2 c1
    refine And.intro (fun c2 => ?_) (fun c2 => ?_)
    · replace h := h.1 c2
      refine ⟨_, rfl, ?_⟩
      refine And.intro (fun _ => ?_) (fun hc => absurd (pm_cd_t (by decide)) hc)
      refine And.intro trivial ?_
      exact h
    · replace h := h.2 c2
      refine ⟨_, rfl, ?_⟩
      refine And.intro (fun hc => absurd hc (pm_cd_f (by decide))) (fun _ => ?_)
      refine And.intro trivial ?_
      refine v_M_in (d := d + 1)  ?_
      refine And.intro (fun c3 => ?_) (fun c3 => ?_)
      · replace h := h.1 c3
        refine ⟨_, rfl, ?_⟩
        refine And.intro (fun _ => ?_) (fun hc => absurd (pm_cd_t (by decide)) hc)
        refine And.intro trivial ?_
        exact h
      · replace h := h.2 c3
        refine And.intro (fun c4 => ?_) (fun c4 => ?_)
        · replace h := h.1 c4
          refine ⟨_, rfl, ?_⟩
          refine And.intro (fun _ => ?_) (fun hc => absurd (pm_cd_t (by decide)) hc)
          refine And.intro trivial ?_
          exact h
        · replace h := h.2 c4
          refine ⟨_, rfl, ?_⟩
          refine And.intro (fun hc => absurd hc (pm_cd_f (by decide))) (fun _ => ?_)
          refine And.intro trivial ?_
          refine v_M_in (d := d + 1)  ?_
          refine And.intro (fun c5 => ?_) (fun c5 => ?_)
          · replace h := h.1 c5
            refine ⟨_, rfl, ?_⟩
            refine And.intro (fun hc => absurd hc (pm_cd_f (by decide))) (fun _ => ?_)
            refine And.intro trivial ?_
            exact h
          · replace h := h.2 c5
            refine And.intro (fun c6 => ?_) (fun c6 => ?_)
            · replace h := h.1 c6
              refine ⟨_, rfl, ?_⟩
              refine And.intro (fun hc => absurd hc (pm_cd_f (by decide))) (fun _ => ?_)
              refine And.intro trivial ?_
              exact h
            · replace h := h.2 c6
              refine ⟨_, rfl, ?_⟩
              refine And.intro (fun _ => ?_) (fun hc => absurd (pm_cd_t (by decide)) hc)
              refine And.intro sh_l141 ?_
              refine pm_C_imp h (fun v hi7 h => ?_)
              obtain ⟨rfl, h⟩ := h
              refine ⟨rfl, ?_⟩
              exact h
theorem v_M_ears_43 {L d : Nat} {o7 : Option pm_V} {p1 : Int32} {p2 : Int32} {p3 : Int32} {y4 : Int32} {y5 : Int32} {y6 : Int32} {hi : pm_B} {Q : pm_Q} (h : ((10 ≤ y6) → ((¬ p3 = 0) → Q (some (.inl y5)) hi) ∧ ((¬ (¬ p3 = 0)) → Q (some (.inl y4)) hi)) ∧ ((¬ (10 ≤ y6)) → ∃ k3 : Nat, k3 < 1611 ∧ ((7 + (29 * p1)) + 1) = nI k3 ∧ (∀ hi4 : pm_B, hi4 = pm_u hi 142 k3 y6 → (pm_C pm_g (SH L) HR (d + 2) m_M_goesOn [.inr 141, .inl p2] hi4 (fun v hi5 => v = none ∧ (pm_C pm_g (SH L) HR (d + 2) m_M_wordsOf [.inr 141, .inl p1] hi5 (fun v hi6 => ∃ x7 : Int32, v = some (.inl x7) ∧ (pm_C pm_g (SH L) HR (d + 2) m_M_manyOf [.inl x7] hi6 (fun v hi8 => ∃ x9 : Int32, v = some (.inl x9) ∧ (pm_C pm_g (SH L) HR (d + 2) m_M_putsBack [.inr 141] hi8 (fun v hi10 => v = none ∧ (((x9 ≤ y5) → ((x9 ≤ y5) → pm_W pm_g (SH L) HR (d + 2) pm_t193 43 [some (.inr 141), some (.inl p1), some (.inl p2), some (.inl p3), some (.inl y4), some (.inl y5), some (.inl (y6 + 1)), some (.inl x9)] [] hi10 Q) ∧ ((¬ (x9 ≤ y5)) → pm_W pm_g (SH L) HR (d + 2) pm_t193 43 [some (.inr 141), some (.inl p1), some (.inl p2), some (.inl p3), some (.inl y4), some (.inl x9), some (.inl (y6 + 1)), some (.inl x9)] [] hi10 Q)) ∧ ((¬ (x9 ≤ y5)) → ((x9 ≤ y5) → pm_W pm_g (SH L) HR (d + 2) pm_t193 43 [some (.inr 141), some (.inl p1), some (.inl p2), some (.inl p3), some (.inl y6), some (.inl y5), some (.inl (y6 + 1)), some (.inl x9)] [] hi10 Q) ∧ ((¬ (x9 ≤ y5)) → pm_W pm_g (SH L) HR (d + 2) pm_t193 43 [some (.inr 141), some (.inl p1), some (.inl p2), some (.inl p3), some (.inl y6), some (.inl x9), some (.inl (y6 + 1)), some (.inl x9)] [] hi10 Q)))))))))))))) : pm_W pm_g (SH L) HR (d + 2) pm_t193 43 [some (.inr 141), some (.inl p1), some (.inl p2), some (.inl p3), some (.inl y4), some (.inl y5), some (.inl y6), o7] [] hi Q := by
  refine pm_W_of 34 [43] rfl ?_
  refine And.intro (fun c1 => ?_) (fun c1 => ?_)
  · replace h := h.1 c1
    refine And.intro (fun c2 => ?_) (fun c2 => ?_)
    · replace h := h.1 c2
      refine And.intro trivial ?_
      exact h
    · replace h := h.2 c2
      refine And.intro trivial ?_
      exact h
  · replace h := h.2 c1
    refine And.intro sh_l141 ?_
    refine v_M_put (d := d + 1)  ?_
    obtain ⟨k3, hkk3, hek3, h⟩ := h
    refine ⟨k3, hkk3, hek3, ?_⟩
    refine ⟨rfl, ?_⟩
    obtain ⟨hi4, ehi4⟩ : ∃ m : pm_B, m = pm_u hi 142 k3 y6 := ⟨_, rfl⟩
    replace h := h hi4 ehi4
    rw [← ehi4]
    refine And.intro sh_l141 ?_
    refine pm_C_imp h (fun v hi5 h => ?_)
    obtain ⟨rfl, h⟩ := h
    refine ⟨rfl, ?_⟩
    refine And.intro sh_l141 ?_
    refine pm_C_imp h (fun v hi6 h => ?_)
    obtain ⟨x7, rfl, h⟩ := h
    refine ⟨_, rfl, ?_⟩
    refine And.intro trivial ?_
    refine pm_C_imp h (fun v hi8 h => ?_)
    obtain ⟨x9, rfl, h⟩ := h
    refine ⟨_, rfl, ?_⟩
    refine And.intro sh_l141 ?_
    refine pm_C_imp h (fun v hi10 h => ?_)
    obtain ⟨rfl, h⟩ := h
    refine ⟨rfl, ?_⟩
    refine And.intro (fun c11 => ?_) (fun c11 => ?_)
    · replace h := h.1 c11
      refine And.intro (fun c12 => ?_) (fun c12 => ?_)
      · replace h := h.1 c12
        exact h
      · replace h := h.2 c12
        exact h
    · replace h := h.2 c11
      refine And.intro (fun c13 => ?_) (fun c13 => ?_)
      · replace h := h.1 c13
        exact h
      · replace h := h.2 c13
        exact h
theorem v_M_fee {L d : Nat}  {hi : pm_B} {Q : pm_Q} (h : pm_C pm_g (SH L) HR (d) m_M_counts [.inr 141, .inl 1] hi (fun v hi1 => ∃ x2 : Int32, v = some (.inl x2) ∧ (∀ hi3 : pm_B, hi3 = pm_u (pm_u hi1 156 0 (hi1 142 4)) 156 1 ((pm_u hi1 156 0 (hi1 142 4)) 142 5) → (((0 ≤ x2) → pm_C pm_g (SH L) HR (d) m_M_worksOut [.inr 141, .inl x2] hi3 (fun v hi5 => ∃ x6 : Int32, v = some (.inl x6) ∧ (Q (some (.inl x6)) hi5))) ∧ ((¬ (0 ≤ x2)) → Q (some (.inl (hi3 142 4))) hi3))))) : pm_C pm_g (SH L) HR (d + 1) m_M_fee [.inr 141] hi Q := by
  refine pm_C_of (maxL := 2) (t := pm_t194) rfl (Nat.le_of_ble_eq_true rfl) ?_
  refine pm_W_of 30 [] rfl ?_
  refine And.intro sh_l141 ?_
  refine pm_C_imp h (fun v hi1 h => ?_)
  obtain ⟨x2, rfl, h⟩ := h
  refine ⟨_, rfl, ?_⟩
  refine And.intro sh_l141 ?_
  rw [hr_141_27]
  refine And.intro sh_l141 ?_
  rw [hr_141_0]
  refine And.intro (pm_ao_of (t := 0) sh_l142 (by decide : 4 < 1611) (rfl : (4 : Int32) = nI 4) (by decide)) ?_
  rw [pm_tn (rfl : (4 : Int32) = nI 4) (by decide : 4 < 1611) (by decide)]
  refine And.intro ⟨pm_aw_of sh_l156 (by decide : 0 < 4) (rfl : (0 : Int32) = nI 0) (by decide), trivial⟩ ?_
  rw [pm_tn (rfl : (0 : Int32) = nI 0) (by decide : 0 < 4) (by decide)]
  refine And.intro sh_l141 ?_
  rw [hr_141_27]
  refine And.intro sh_l141 ?_
  rw [hr_141_0]
  refine And.intro (pm_ao_of (t := 0) sh_l142 (by decide : 5 < 1611) (rfl : (5 : Int32) = nI 5) (by decide)) ?_
  rw [pm_tn (rfl : (5 : Int32) = nI 5) (by decide : 5 < 1611) (by decide)]
  refine And.intro ⟨pm_aw_of sh_l156 (by decide : 1 < 4) (rfl : (1 : Int32) = nI 1) (by decide), trivial⟩ ?_
  rw [pm_tn (rfl : (1 : Int32) = nI 1) (by decide : 1 < 4) (by decide)]
  obtain ⟨hi3, ehi3⟩ : ∃ m : pm_B, m = pm_u (pm_u hi1 156 0 (hi1 142 4)) 156 1 ((pm_u hi1 156 0 (hi1 142 4)) 142 5) := ⟨_, rfl⟩
  replace h := h hi3 ehi3
  rw [← ehi3]
  refine And.intro (fun c4 => ?_) (fun c4 => ?_)
  · replace h := h.1 c4
    refine And.intro sh_l141 ?_
    refine pm_C_imp h (fun v hi5 h => ?_)
    obtain ⟨x6, rfl, h⟩ := h
    refine ⟨_, rfl, ?_⟩
    refine And.intro trivial ?_
    exact h
  · replace h := h.2 c4
    refine And.intro sh_l141 ?_
    rw [hr_141_0]
    refine And.intro (pm_ao_of (t := 0) sh_l142 (by decide : 4 < 1611) (rfl : (4 : Int32) = nI 4) (by decide)) ?_
    rw [pm_tn (rfl : (4 : Int32) = nI 4) (by decide : 4 < 1611) (by decide)]
    refine And.intro trivial ?_
    exact h
theorem v_M_fine {L d : Nat} {p1 : Int32} {hi : pm_B} {Q : pm_Q} (h : ((p1 < 0) → Q (some (.inl (-1000000001))) hi) ∧ ((¬ (p1 < 0)) → ((((hi 142 1) - 1) < p1) → Q (some (.inl (-1000000001))) hi) ∧ ((¬ (((hi 142 1) - 1) < p1)) → pm_C pm_g (SH L) HR (d + 2) m_M_counts [.inr 141, .inl 2] hi (fun v hi3 => ∃ x4 : Int32, v = some (.inl x4) ∧ (∃ k5 : Nat, k5 < 1611 ∧ ((7 + (29 * p1)) + 3) = nI k5 ∧ (∃ k6 : Nat, k6 < 1611 ∧ ((7 + (29 * p1)) + 2) = nI k6 ∧ (∀ hi7 : pm_B, hi7 = pm_u (pm_u hi3 156 0 (hi3 142 k5)) 156 1 ((pm_u hi3 156 0 (hi3 142 k5)) 142 k6) → (((0 ≤ x4) → pm_C pm_g (SH L) HR (d + 2) m_M_worksOut [.inr 141, .inl x4] hi7 (fun v hi9 => ∃ x10 : Int32, v = some (.inl x10) ∧ (Q (some (.inl x10)) hi9))) ∧ ((¬ (0 ≤ x4)) → ∃ k11 : Nat, k11 < 1611 ∧ ((7 + (29 * p1)) + 3) = nI k11 ∧ (Q (some (.inl (hi7 142 k11))) hi7)))))))))) : pm_C pm_g (SH L) HR (d + 3) m_M_fine [.inr 141, .inl p1] hi Q := by
  refine pm_C_of (maxL := 3) (t := pm_t195) rfl (Nat.le_of_ble_eq_true rfl) ?_
  refine pm_W_of 34 [] rfl ?_
  refine And.intro sh_l141 ?_
  refine v_M_isSpeaker (d := d)  ?_
  refine And.intro (fun c1 => ?_) (fun c1 => ?_)
  · replace h := h.1 c1
    refine ⟨_, rfl, ?_⟩
    refine And.intro (fun hc => absurd hc (pm_cd_f (by decide))) (fun _ => ?_)
    refine And.intro trivial ?_
    exact h
  · replace h := h.2 c1
    refine And.intro (fun c2 => ?_) (fun c2 => ?_)
    · replace h := h.1 c2
      refine ⟨_, rfl, ?_⟩
      refine And.intro (fun hc => absurd hc (pm_cd_f (by decide))) (fun _ => ?_)
      refine And.intro trivial ?_
      exact h
    · replace h := h.2 c2
      refine ⟨_, rfl, ?_⟩
      refine And.intro (fun _ => ?_) (fun hc => absurd (pm_cd_t (by decide)) hc)
      refine And.intro sh_l141 ?_
      refine pm_C_imp h (fun v hi3 h => ?_)
      obtain ⟨x4, rfl, h⟩ := h
      refine ⟨_, rfl, ?_⟩
      refine And.intro sh_l141 ?_
      rw [hr_141_27]
      refine And.intro sh_l141 ?_
      refine v_M_of (d := d + 1)  ?_
      obtain ⟨k5, hkk5, hek5, h⟩ := h
      refine ⟨k5, hkk5, hek5, ?_⟩
      refine ⟨_, rfl, ?_⟩
      refine And.intro ⟨pm_aw_of sh_l156 (by decide : 0 < 4) (rfl : (0 : Int32) = nI 0) (by decide), trivial⟩ ?_
      rw [pm_tn (rfl : (0 : Int32) = nI 0) (by decide : 0 < 4) (by decide)]
      refine And.intro sh_l141 ?_
      rw [hr_141_27]
      refine And.intro sh_l141 ?_
      refine v_M_of (d := d + 1)  ?_
      obtain ⟨k6, hkk6, hek6, h⟩ := h
      refine ⟨k6, hkk6, hek6, ?_⟩
      refine ⟨_, rfl, ?_⟩
      refine And.intro ⟨pm_aw_of sh_l156 (by decide : 1 < 4) (rfl : (1 : Int32) = nI 1) (by decide), trivial⟩ ?_
      rw [pm_tn (rfl : (1 : Int32) = nI 1) (by decide : 1 < 4) (by decide)]
      obtain ⟨hi7, ehi7⟩ : ∃ m : pm_B, m = pm_u (pm_u hi3 156 0 (hi3 142 k5)) 156 1 ((pm_u hi3 156 0 (hi3 142 k5)) 142 k6) := ⟨_, rfl⟩
      replace h := h hi7 ehi7
      rw [← ehi7]
      refine And.intro (fun c8 => ?_) (fun c8 => ?_)
      · replace h := h.1 c8
        refine And.intro sh_l141 ?_
        refine pm_C_imp h (fun v hi9 h => ?_)
        obtain ⟨x10, rfl, h⟩ := h
        refine ⟨_, rfl, ?_⟩
        refine And.intro trivial ?_
        exact h
      · replace h := h.2 c8
        refine And.intro sh_l141 ?_
        refine v_M_of (d := d + 1)  ?_
        obtain ⟨k11, hkk11, hek11, h⟩ := h
        refine ⟨k11, hkk11, hek11, ?_⟩
        refine ⟨_, rfl, ?_⟩
        refine And.intro trivial ?_
        exact h
theorem v_M_feed {L d : Nat} {p1 : Int32} {p2 : Int32} {p3 : Int32} {hi : pm_B} {Q : pm_Q} (h : ((((hi 141 11) + 12) ≤ 96) → pm_W pm_g (SH L) HR (d) pm_t196 18 [some (.inr 141), some (.inl p1), some (.inl p2), some (.inl p3), some (.inl 0), none] [] hi Q) ∧ ((¬ (((hi 141 11) + 12) ≤ 96)) → Q (some (.inl (-1000000003))) hi)) : pm_C pm_g (SH L) HR (d + 1) m_M_feed [.inr 141, .inl p1, .inl p2, .inl p3] hi Q := by
  refine pm_C_of (maxL := 6) (t := pm_t196) rfl (Nat.le_of_ble_eq_true rfl) ?_
  refine pm_W_of 10 [18] rfl ?_
  refine And.intro sh_l141 ?_
  refine And.intro (fun c1 => ?_) (fun c1 => ?_)
  · replace h := h.1 c1
    exact h
  · replace h := h.2 c1
    refine And.intro trivial ?_
    exact h
theorem v_M_feed_18 {L d : Nat} {o5 : Option pm_V} {p1 : Int32} {p2 : Int32} {p3 : Int32} {y4 : Int32} {hi : pm_B} {Q : pm_Q} (h : ((12 ≤ y4) → Q (some (.inl ((pm_u hi 141 11 ((hi 141 11) + 12)) 141 11))) (pm_u hi 141 11 ((hi 141 11) + 12))) ∧ ((¬ (12 ≤ y4)) → ((4 ≤ y4) → ((8 ≤ y4) → ∃ k4 : Nat, k4 < 96 ∧ ((hi 141 11) + y4) = nI k4 ∧ (pm_W pm_g (SH L) HR (d) pm_t196 18 [some (.inr 141), some (.inl p1), some (.inl p2), some (.inl p3), some (.inl (y4 + 1)), some (.inl p3)] [] (pm_u hi 149 k4 ((p3 >>> ((24 - (8 * (y4 - y4 / 4 * 4))) &&& 31)) &&& 255)) Q)) ∧ ((¬ (8 ≤ y4)) → ∃ k5 : Nat, k5 < 96 ∧ ((hi 141 11) + y4) = nI k5 ∧ (pm_W pm_g (SH L) HR (d) pm_t196 18 [some (.inr 141), some (.inl p1), some (.inl p2), some (.inl p3), some (.inl (y4 + 1)), some (.inl p2)] [] (pm_u hi 149 k5 ((p2 >>> ((24 - (8 * (y4 - y4 / 4 * 4))) &&& 31)) &&& 255)) Q))) ∧ ((¬ (4 ≤ y4)) → ∃ k6 : Nat, k6 < 96 ∧ ((hi 141 11) + y4) = nI k6 ∧ (pm_W pm_g (SH L) HR (d) pm_t196 18 [some (.inr 141), some (.inl p1), some (.inl p2), some (.inl p3), some (.inl (y4 + 1)), some (.inl p1)] [] (pm_u hi 149 k6 ((p1 >>> ((24 - (8 * (y4 - y4 / 4 * 4))) &&& 31)) &&& 255)) Q)))) : pm_W pm_g (SH L) HR (d) pm_t196 18 [some (.inr 141), some (.inl p1), some (.inl p2), some (.inl p3), some (.inl y4), o5] [] hi Q := by
  refine pm_W_of 34 [18] rfl ?_
  refine And.intro (fun c1 => ?_) (fun c1 => ?_)
  · replace h := h.1 c1
    refine And.intro sh_l141 ?_
    refine And.intro ⟨sh_l141, trivial⟩ ?_
    refine And.intro sh_l141 ?_
    refine And.intro trivial ?_
    exact h
  · replace h := h.2 c1
    refine And.intro (fun c2 => ?_) (fun c2 => ?_)
    · replace h := h.1 c2
      refine And.intro (fun c3 => ?_) (fun c3 => ?_)
      · replace h := h.1 c3
        refine And.intro sh_l141 ?_
        rw [hr_141_10]
        refine And.intro sh_l141 ?_
        refine And.intro (by decide) ?_
        obtain ⟨k4, hkk4, hek4, h⟩ := h
        refine And.intro ⟨pm_aw_of sh_l149 hkk4 hek4 (by decide), trivial⟩ ?_
        rw [pm_tn hek4 hkk4 (by decide)]
        exact h
      · replace h := h.2 c3
        refine And.intro sh_l141 ?_
        rw [hr_141_10]
        refine And.intro sh_l141 ?_
        refine And.intro (by decide) ?_
        obtain ⟨k5, hkk5, hek5, h⟩ := h
        refine And.intro ⟨pm_aw_of sh_l149 hkk5 hek5 (by decide), trivial⟩ ?_
        rw [pm_tn hek5 hkk5 (by decide)]
        exact h
    · replace h := h.2 c2
      refine And.intro sh_l141 ?_
      rw [hr_141_10]
      refine And.intro sh_l141 ?_
      refine And.intro (by decide) ?_
      obtain ⟨k6, hkk6, hek6, h⟩ := h
      refine And.intro ⟨pm_aw_of sh_l149 hkk6 hek6 (by decide), trivial⟩ ?_
      rw [pm_tn hek6 hkk6 (by decide)]
      exact h
theorem v_M_trim {L d : Nat} {p1 : Int32} {hi : pm_B} {Q : pm_Q} (h : ((p1 < 0) → Q (some (.inl (-1000000001))) hi) ∧ ((¬ (p1 < 0)) → (((hi 141 11) < p1) → Q (some (.inl (-1000000001))) hi) ∧ ((¬ ((hi 141 11) < p1)) → Q (some (.inl p1)) (pm_u hi 141 11 p1)))) : pm_C pm_g (SH L) HR (d + 2) m_M_trim [.inr 141, .inl p1] hi Q := by
  refine pm_C_of (maxL := 2) (t := pm_t197) rfl (Nat.le_of_ble_eq_true rfl) ?_
  refine pm_W_of 13 [] rfl ?_
  refine And.intro sh_l141 ?_
  refine And.intro trivial ?_
  refine v_M_in (d := d)  ?_
  refine And.intro (fun c1 => ?_) (fun c1 => ?_)
  · replace h := h.1 c1
    refine ⟨_, rfl, ?_⟩
    refine And.intro (fun hc => absurd hc (pm_cd_f (by decide))) (fun _ => ?_)
    refine And.intro trivial ?_
    exact h
  · replace h := h.2 c1
    refine And.intro (fun c2 => ?_) (fun c2 => ?_)
    · replace h := h.1 c2
      refine ⟨_, rfl, ?_⟩
      refine And.intro (fun hc => absurd hc (pm_cd_f (by decide))) (fun _ => ?_)
      refine And.intro trivial ?_
      exact h
    · replace h := h.2 c2
      refine ⟨_, rfl, ?_⟩
      refine And.intro (fun _ => ?_) (fun hc => absurd (pm_cd_t (by decide)) hc)
      refine And.intro ⟨sh_l141, trivial⟩ ?_
      refine And.intro trivial ?_
      exact h
theorem v_M_textTold {L d : Nat} {p1 : Int32} {p2 : Int32} {hi : pm_B} {Q : pm_Q} (h : ((p1 < 0) → Q (some (.inl (-1000000001))) hi) ∧ ((¬ (p1 < 0)) → ((((hi 142 6) - 1) < p1) → Q (some (.inl (-1000000001))) hi) ∧ ((¬ (((hi 142 6) - 1) < p1)) → ((p2 < 0) → Q (some (.inl (-1000000001))) hi) ∧ ((¬ (p2 < 0)) → ((1 < p2) → Q (some (.inl (-1000000001))) hi) ∧ ((¬ (1 < p2)) → ((¬ p2 = 0) → ∃ k6 : Nat, k6 < 1611 ∧ ((239 + (2 * p1)) + 1) = nI k6 ∧ (Q (some (.inl (hi 142 k6))) hi)) ∧ ((¬ (¬ p2 = 0)) → ∃ k7 : Nat, k7 < 1611 ∧ (239 + (2 * p1)) = nI k7 ∧ (Q (some (.inl ((hi 142 k7) / 1000))) hi))))))) : pm_C pm_g (SH L) HR (d + 2) m_M_textTold [.inr 141, .inl p1, .inl p2] hi Q := by
  refine pm_C_of (maxL := 3) (t := pm_t210) rfl (Nat.le_of_ble_eq_true rfl) ?_
  refine pm_W_of 31 [] rfl ?_
  refine And.intro sh_l141 ?_
  rw [hr_141_0]
  refine And.intro (pm_ao_of (t := 0) sh_l142 (by decide : 6 < 1611) (rfl : (6 : Int32) = nI 6) (by decide)) ?_
  rw [pm_tn (rfl : (6 : Int32) = nI 6) (by decide : 6 < 1611) (by decide)]
  refine And.intro trivial ?_
  refine v_M_in (d := d)  ?_
  refine And.intro (fun c1 => ?_) (fun c1 => ?_)
  · replace h := h.1 c1
    refine ⟨_, rfl, ?_⟩
    refine And.intro (fun _ => ?_) (fun hc => absurd (pm_cd_t (by decide)) hc)
    refine And.intro trivial ?_
    exact h
  · replace h := h.2 c1
    refine And.intro (fun c2 => ?_) (fun c2 => ?_)
    · replace h := h.1 c2
      refine ⟨_, rfl, ?_⟩
      refine And.intro (fun _ => ?_) (fun hc => absurd (pm_cd_t (by decide)) hc)
      refine And.intro trivial ?_
      exact h
    · replace h := h.2 c2
      refine ⟨_, rfl, ?_⟩
      refine And.intro (fun hc => absurd hc (pm_cd_f (by decide))) (fun _ => ?_)
      refine And.intro trivial ?_
      refine v_M_in (d := d)  ?_
      refine And.intro (fun c3 => ?_) (fun c3 => ?_)
      · replace h := h.1 c3
        refine ⟨_, rfl, ?_⟩
        refine And.intro (fun hc => absurd hc (pm_cd_f (by decide))) (fun _ => ?_)
        refine And.intro trivial ?_
        exact h
      · replace h := h.2 c3
        refine And.intro (fun c4 => ?_) (fun c4 => ?_)
        · replace h := h.1 c4
          refine ⟨_, rfl, ?_⟩
          refine And.intro (fun hc => absurd hc (pm_cd_f (by decide))) (fun _ => ?_)
          refine And.intro trivial ?_
          exact h
        · replace h := h.2 c4
          refine ⟨_, rfl, ?_⟩
          refine And.intro (fun _ => ?_) (fun hc => absurd (pm_cd_t (by decide)) hc)
          refine And.intro (fun c5 => ?_) (fun c5 => ?_)
          · replace h := h.1 c5
            refine And.intro sh_l141 ?_
            rw [hr_141_0]
            obtain ⟨k6, hkk6, hek6, h⟩ := h
            refine And.intro (pm_ao_of (t := 0) sh_l142 hkk6 hek6 (by decide)) ?_
            rw [pm_tn hek6 hkk6 (by decide)]
            refine And.intro trivial ?_
            exact h
          · replace h := h.2 c5
            refine And.intro sh_l141 ?_
            rw [hr_141_0]
            obtain ⟨k7, hkk7, hek7, h⟩ := h
            refine And.intro (pm_ao_of (t := 0) sh_l142 hkk7 hek7 (by decide)) ?_
            rw [pm_tn hek7 hkk7 (by decide)]
            refine And.intro (by decide) ?_
            refine And.intro trivial ?_
            exact h
theorem v_M_counts {L d : Nat} {p1 : Int32} {hi : pm_B} {Q : pm_Q} (h : pm_W pm_g (SH L) HR (d) pm_t211 10 [some (.inr 141), some (.inl p1), some (.inl ((hi 142 6) - 1))] [] hi Q) : pm_C pm_g (SH L) HR (d + 1) m_M_counts [.inr 141, .inl p1] hi Q := by
  refine pm_C_of (maxL := 3) (t := pm_t211) rfl (Nat.le_of_ble_eq_true rfl) ?_
  refine pm_W_of 9 [10] rfl ?_
  refine And.intro sh_l141 ?_
  rw [hr_141_0]
  refine And.intro (pm_ao_of (t := 0) sh_l142 (by decide : 6 < 1611) (rfl : (6 : Int32) = nI 6) (by decide)) ?_
  rw [pm_tn (rfl : (6 : Int32) = nI 6) (by decide : 6 < 1611) (by decide)]
  exact h
theorem v_M_counts_10 {L d : Nat}  {p1 : Int32} {y2 : Int32} {hi : pm_B} {Q : pm_Q} (h : ((y2 < 0) → Q (some (.inl (-1))) hi) ∧ ((¬ (y2 < 0)) → ∃ k2 : Nat, k2 < 1611 ∧ (239 + (2 * y2)) = nI k2 ∧ (((¬ ((hi 142 k2) / 1000) = p1) → pm_W pm_g (SH L) HR (d) pm_t211 10 [some (.inr 141), some (.inl p1), some (.inl (y2 + (-1)))] [] hi Q) ∧ ((¬ (¬ ((hi 142 k2) / 1000) = p1)) → Q (some (.inl y2)) hi)))) : pm_W pm_g (SH L) HR (d) pm_t211 10 [some (.inr 141), some (.inl p1), some (.inl y2)] [] hi Q := by
  refine pm_W_of 18 [10] rfl ?_
  refine And.intro (fun c1 => ?_) (fun c1 => ?_)
  · replace h := h.1 c1
    refine And.intro trivial ?_
    exact h
  · replace h := h.2 c1
    refine And.intro sh_l141 ?_
    rw [hr_141_0]
    obtain ⟨k2, hkk2, hek2, h⟩ := h
    refine And.intro (pm_ao_of (t := 0) sh_l142 hkk2 hek2 (by decide)) ?_
    rw [pm_tn hek2 hkk2 (by decide)]
    refine And.intro (by decide) ?_
    refine And.intro (fun c3 => ?_) (fun c3 => ?_)
    · replace h := h.1 c3
      exact h
    · replace h := h.2 c3
      refine And.intro trivial ?_
      exact h
theorem v_M_why {L d : Nat} {p1 : Int32} {hi : pm_B} {Q : pm_Q} (h : ((p1 < 0) → Q (some (.inl (-1000000001))) hi) ∧ ((¬ (p1 < 0)) → ((2 < p1) → Q (some (.inl (-1000000001))) hi) ∧ ((¬ (2 < p1)) → pm_C pm_g (SH L) HR (d + 1) m_M_counts [.inr 141, .inl p1] hi (fun v hi3 => ∃ x4 : Int32, v = some (.inl x4) ∧ (((0 ≤ x4) → Q (some (.inl x4)) hi3) ∧ ((¬ (0 ≤ x4)) → Q (some (.inl (-1000000005))) hi3)))))) : pm_C pm_g (SH L) HR (d + 2) m_M_why [.inr 141, .inl p1] hi Q := by
  refine pm_C_of (maxL := 3) (t := pm_t212) rfl (Nat.le_of_ble_eq_true rfl) ?_
  refine pm_W_of 16 [] rfl ?_
  refine And.intro trivial ?_
  refine v_M_in (d := d)  ?_
  refine And.intro (fun c1 => ?_) (fun c1 => ?_)
  · replace h := h.1 c1
    refine ⟨_, rfl, ?_⟩
    refine And.intro (fun hc => absurd hc (pm_cd_f (by decide))) (fun _ => ?_)
    refine And.intro trivial ?_
    exact h
  · replace h := h.2 c1
    refine And.intro (fun c2 => ?_) (fun c2 => ?_)
    · replace h := h.1 c2
      refine ⟨_, rfl, ?_⟩
      refine And.intro (fun hc => absurd hc (pm_cd_f (by decide))) (fun _ => ?_)
      refine And.intro trivial ?_
      exact h
    · replace h := h.2 c2
      refine ⟨_, rfl, ?_⟩
      refine And.intro (fun _ => ?_) (fun hc => absurd (pm_cd_t (by decide)) hc)
      refine And.intro sh_l141 ?_
      refine pm_C_imp h (fun v hi3 h => ?_)
      obtain ⟨x4, rfl, h⟩ := h
      refine ⟨_, rfl, ?_⟩
      refine And.intro (fun c5 => ?_) (fun c5 => ?_)
      · replace h := h.1 c5
        refine And.intro trivial ?_
        exact h
      · replace h := h.2 c5
        refine And.intro trivial ?_
        exact h
theorem v_M_worksOut {L d : Nat} {p1 : Int32} {hi : pm_B} {Q : pm_Q} (h : ∃ k1 : Nat, k1 < 1611 ∧ (239 + (2 * p1)) = nI k1 ∧ (pm_W pm_g (SH L) HR (d + 1) pm_t214 22 [some (.inr 141), some (.inl p1), some (.inl 0), some (.inl ((hi 142 k1) - (hi 142 k1) / 1000 * 1000)), some (.inl 0), none] [] hi Q)) : pm_C pm_g (SH L) HR (d + 2) m_M_worksOut [.inr 141, .inl p1] hi Q := by
  refine pm_C_of (maxL := 6) (t := pm_t214) rfl (Nat.le_of_ble_eq_true rfl) ?_
  refine pm_W_of 17 [22] rfl ?_
  refine And.intro sh_l141 ?_
  rw [hr_141_0]
  obtain ⟨k1, hkk1, hek1, h⟩ := h
  refine And.intro (pm_ao_of (t := 0) sh_l142 hkk1 hek1 (by decide)) ?_
  rw [pm_tn hek1 hkk1 (by decide)]
  refine And.intro (by decide) ?_
  exact h
theorem v_M_worksOut_22 {L d : Nat} {o5 : Option pm_V} {p1 : Int32} {y2 : Int32} {y3 : Int32} {y4 : Int32} {hi : pm_B} {Q : pm_Q} (h : ((y3 ≤ y4) → Q (some (.inl (hi 155 0))) hi) ∧ ((¬ (y3 ≤ y4)) → ∃ k2 : Nat, k2 < 1611 ∧ ((267 + (96 * p1)) + y4) = nI k2 ∧ ((((hi 142 k2) < 0) → ((¬ (hi 142 k2) = (-10)) → ∃ k5 : Nat, k5 < 96 ∧ ((y2 + (-1)) - 1) = nI k5 ∧ (∃ k6 : Nat, k6 < 96 ∧ (y2 + (-1)) = nI k6 ∧ (∃ k7 : Nat, k7 < 96 ∧ ((y2 + (-1)) - 1) = nI k7 ∧ (pm_W pm_g (SH L) HR (d + 1) pm_t214 22 [some (.inr 141), some (.inl p1), some (.inl (y2 + (-1))), some (.inl y3), some (.inl (y4 + 1)), some (.inl (hi 142 k2))] [] (pm_u hi 155 k7 (f_M_two (hi 142 k2) (hi 155 k5) (hi 155 k6))) Q)))) ∧ ((¬ (¬ (hi 142 k2) = (-10))) → ∃ k8 : Nat, k8 < 96 ∧ (y2 - 1) = nI k8 ∧ (((¬ (hi 155 k8) = 0) → ∃ k10 : Nat, k10 < 96 ∧ (y2 - 1) = nI k10 ∧ (pm_W pm_g (SH L) HR (d + 1) pm_t214 22 [some (.inr 141), some (.inl p1), some (.inl y2), some (.inl y3), some (.inl (y4 + 1)), some (.inl (hi 142 k2))] [] (pm_u hi 155 k10 0) Q)) ∧ ((¬ (¬ (hi 155 k8) = 0)) → ∃ k11 : Nat, k11 < 96 ∧ (y2 - 1) = nI k11 ∧ (pm_W pm_g (SH L) HR (d + 1) pm_t214 22 [some (.inr 141), some (.inl p1), some (.inl y2), some (.inl y3), some (.inl (y4 + 1)), some (.inl (hi 142 k2))] [] (pm_u hi 155 k11 1) Q))))) ∧ ((¬ ((hi 142 k2) < 0)) → ((10000 ≤ (hi 142 k2)) → ∃ k13 : Nat, k13 < 4 ∧ ((hi 142 k2) - 10000) = nI k13 ∧ (∃ k14 : Nat, k14 < 96 ∧ y2 = nI k14 ∧ (pm_W pm_g (SH L) HR (d + 1) pm_t214 22 [some (.inr 141), some (.inl p1), some (.inl (y2 + 1)), some (.inl y3), some (.inl (y4 + 1)), some (.inl (hi 142 k2))] [] (pm_u hi 155 k14 (hi 156 k13)) Q))) ∧ ((¬ (10000 ≤ (hi 142 k2))) → ∃ k15 : Nat, k15 < 96 ∧ y2 = nI k15 ∧ (pm_W pm_g (SH L) HR (d + 1) pm_t214 22 [some (.inr 141), some (.inl p1), some (.inl (y2 + 1)), some (.inl y3), some (.inl (y4 + 1)), some (.inl (hi 142 k2))] [] (pm_u hi 155 k15 (hi 142 k2)) Q)))))) : pm_W pm_g (SH L) HR (d + 1) pm_t214 22 [some (.inr 141), some (.inl p1), some (.inl y2), some (.inl y3), some (.inl y4), o5] [] hi Q := by
  refine pm_W_of 42 [22] rfl ?_
  refine And.intro (fun c1 => ?_) (fun c1 => ?_)
  · replace h := h.1 c1
    refine And.intro sh_l141 ?_
    rw [hr_141_26]
    refine And.intro (pm_ao_of (t := 0) sh_l155 (by decide : 0 < 96) (rfl : (0 : Int32) = nI 0) (by decide)) ?_
    rw [pm_tn (rfl : (0 : Int32) = nI 0) (by decide : 0 < 96) (by decide)]
    refine And.intro trivial ?_
    exact h
  · replace h := h.2 c1
    refine And.intro sh_l141 ?_
    rw [hr_141_0]
    obtain ⟨k2, hkk2, hek2, h⟩ := h
    refine And.intro (pm_ao_of (t := 0) sh_l142 hkk2 hek2 (by decide)) ?_
    rw [pm_tn hek2 hkk2 (by decide)]
    refine And.intro (fun c3 => ?_) (fun c3 => ?_)
    · replace h := h.1 c3
      refine And.intro (fun c4 => ?_) (fun c4 => ?_)
      · replace h := h.1 c4
        refine And.intro sh_l141 ?_
        rw [hr_141_26]
        refine And.intro sh_l141 ?_
        rw [hr_141_26]
        obtain ⟨k5, hkk5, hek5, h⟩ := h
        refine And.intro (pm_ao_of (t := 0) sh_l155 hkk5 hek5 (by decide)) ?_
        rw [pm_tn hek5 hkk5 (by decide)]
        refine And.intro sh_l141 ?_
        rw [hr_141_26]
        obtain ⟨k6, hkk6, hek6, h⟩ := h
        refine And.intro (pm_ao_of (t := 0) sh_l155 hkk6 hek6 (by decide)) ?_
        rw [pm_tn hek6 hkk6 (by decide)]
        refine And.intro trivial ?_
        refine f_M_two_c (d := d)  ?_
        refine ⟨_, rfl, ?_⟩
        obtain ⟨k7, hkk7, hek7, h⟩ := h
        refine And.intro ⟨pm_aw_of sh_l155 hkk7 hek7 (by decide), trivial⟩ ?_
        rw [pm_tn hek7 hkk7 (by decide)]
        exact h
      · replace h := h.2 c4
        refine And.intro sh_l141 ?_
        rw [hr_141_26]
        refine And.intro sh_l141 ?_
        rw [hr_141_26]
        obtain ⟨k8, hkk8, hek8, h⟩ := h
        refine And.intro (pm_ao_of (t := 0) sh_l155 hkk8 hek8 (by decide)) ?_
        rw [pm_tn hek8 hkk8 (by decide)]
        refine And.intro (fun c9 => ?_) (fun c9 => ?_)
        · replace h := h.1 c9
          obtain ⟨k10, hkk10, hek10, h⟩ := h
          refine And.intro ⟨pm_aw_of sh_l155 hkk10 hek10 (by decide), trivial⟩ ?_
          rw [pm_tn hek10 hkk10 (by decide)]
          exact h
        · replace h := h.2 c9
          obtain ⟨k11, hkk11, hek11, h⟩ := h
          refine And.intro ⟨pm_aw_of sh_l155 hkk11 hek11 (by decide), trivial⟩ ?_
          rw [pm_tn hek11 hkk11 (by decide)]
          exact h
    · replace h := h.2 c3
      refine And.intro sh_l141 ?_
      rw [hr_141_26]
      refine And.intro (fun c12 => ?_) (fun c12 => ?_)
      · replace h := h.1 c12
        refine And.intro sh_l141 ?_
        rw [hr_141_27]
        obtain ⟨k13, hkk13, hek13, h⟩ := h
        refine And.intro (pm_ao_of (t := 0) sh_l156 hkk13 hek13 (by decide)) ?_
        rw [pm_tn hek13 hkk13 (by decide)]
        obtain ⟨k14, hkk14, hek14, h⟩ := h
        refine And.intro ⟨pm_aw_of sh_l155 hkk14 hek14 (by decide), trivial⟩ ?_
        rw [pm_tn hek14 hkk14 (by decide)]
        exact h
      · replace h := h.2 c12
        obtain ⟨k15, hkk15, hek15, h⟩ := h
        refine And.intro ⟨pm_aw_of sh_l155 hkk15 hek15 (by decide), trivial⟩ ?_
        rw [pm_tn hek15 hkk15 (by decide)]
        exact h
theorem v_M_sheet {L d : Nat} {p1 : Int32} {p2 : Int32} {p3 : Int32} {hi : pm_B} {Q : pm_Q} (h : ((p1 < 0) → Q (some (.inl (-1000000001))) hi) ∧ ((¬ (p1 < 0)) → ((3 < p1) → Q (some (.inl (-1000000001))) hi) ∧ ((¬ (3 < p1)) → ((p2 < (-1)) → Q (some (.inl (-1000000001))) hi) ∧ ((¬ (p2 < (-1))) → ((1 < p2) → Q (some (.inl (-1000000001))) hi) ∧ ((¬ (1 < p2)) → ((p2 < 0) → ((p2 < 0) → ∃ k7 : Nat, k7 < 4 ∧ p1 = nI k7 ∧ (((0 ≤ p2) → ∃ k9 : Nat, k9 < 4 ∧ p1 = nI k9 ∧ (∀ hi10 : pm_B, hi10 = pm_u (pm_u hi 157 k7 p2) 158 k9 p3 → (pm_W pm_g (SH L) HR (d + 2) pm_t217 65 [some (.inr 141), some (.inl p1), some (.inl p2), some (.inl p3), some (.inl 0)] [] hi10 Q))) ∧ ((¬ (0 ≤ p2)) → ∃ k11 : Nat, k11 < 4 ∧ p1 = nI k11 ∧ (∀ hi12 : pm_B, hi12 = pm_u (pm_u hi 157 k7 p2) 158 k11 0 → (pm_W pm_g (SH L) HR (d + 2) pm_t217 65 [some (.inr 141), some (.inl p1), some (.inl p2), some (.inl p3), some (.inl 0)] [] hi12 Q))))) ∧ ((¬ (p2 < 0)) → ((0 ≤ p3) → ∃ k14 : Nat, k14 < 4 ∧ p1 = nI k14 ∧ (((0 ≤ p2) → ∃ k16 : Nat, k16 < 4 ∧ p1 = nI k16 ∧ (∀ hi17 : pm_B, hi17 = pm_u (pm_u hi 157 k14 p2) 158 k16 p3 → (pm_W pm_g (SH L) HR (d + 2) pm_t217 65 [some (.inr 141), some (.inl p1), some (.inl p2), some (.inl p3), some (.inl 0)] [] hi17 Q))) ∧ ((¬ (0 ≤ p2)) → ∃ k18 : Nat, k18 < 4 ∧ p1 = nI k18 ∧ (∀ hi19 : pm_B, hi19 = pm_u (pm_u hi 157 k14 p2) 158 k18 0 → (pm_W pm_g (SH L) HR (d + 2) pm_t217 65 [some (.inr 141), some (.inl p1), some (.inl p2), some (.inl p3), some (.inl 0)] [] hi19 Q))))) ∧ ((¬ (0 ≤ p3)) → Q (some (.inl (-1000000014))) hi))) ∧ ((¬ (p2 < 0)) → ((p3 ≤ 24) → ((p2 < 0) → ∃ k22 : Nat, k22 < 4 ∧ p1 = nI k22 ∧ (((0 ≤ p2) → ∃ k24 : Nat, k24 < 4 ∧ p1 = nI k24 ∧ (∀ hi25 : pm_B, hi25 = pm_u (pm_u hi 157 k22 p2) 158 k24 p3 → (pm_W pm_g (SH L) HR (d + 2) pm_t217 65 [some (.inr 141), some (.inl p1), some (.inl p2), some (.inl p3), some (.inl 0)] [] hi25 Q))) ∧ ((¬ (0 ≤ p2)) → ∃ k26 : Nat, k26 < 4 ∧ p1 = nI k26 ∧ (∀ hi27 : pm_B, hi27 = pm_u (pm_u hi 157 k22 p2) 158 k26 0 → (pm_W pm_g (SH L) HR (d + 2) pm_t217 65 [some (.inr 141), some (.inl p1), some (.inl p2), some (.inl p3), some (.inl 0)] [] hi27 Q))))) ∧ ((¬ (p2 < 0)) → ((0 ≤ p3) → ∃ k29 : Nat, k29 < 4 ∧ p1 = nI k29 ∧ (((0 ≤ p2) → ∃ k31 : Nat, k31 < 4 ∧ p1 = nI k31 ∧ (∀ hi32 : pm_B, hi32 = pm_u (pm_u hi 157 k29 p2) 158 k31 p3 → (pm_W pm_g (SH L) HR (d + 2) pm_t217 65 [some (.inr 141), some (.inl p1), some (.inl p2), some (.inl p3), some (.inl 0)] [] hi32 Q))) ∧ ((¬ (0 ≤ p2)) → ∃ k33 : Nat, k33 < 4 ∧ p1 = nI k33 ∧ (∀ hi34 : pm_B, hi34 = pm_u (pm_u hi 157 k29 p2) 158 k33 0 → (pm_W pm_g (SH L) HR (d + 2) pm_t217 65 [some (.inr 141), some (.inl p1), some (.inl p2), some (.inl p3), some (.inl 0)] [] hi34 Q))))) ∧ ((¬ (0 ≤ p3)) → Q (some (.inl (-1000000014))) hi))) ∧ ((¬ (p3 ≤ 24)) → Q (some (.inl (-1000000001))) hi))))))) : pm_C pm_g (SH L) HR (d + 3) m_M_sheet [.inr 141, .inl p1, .inl p2, .inl p3] hi Q := by
  refine pm_C_of (maxL := 5) (t := pm_t217) rfl (Nat.le_of_ble_eq_true rfl) ?_
  refine pm_W_of 34 [65] rfl ?_
  refine And.intro trivial ?_
  refine v_M_isSheet (d := d)  ?_
  refine And.intro (fun c1 => ?_) (fun c1 => ?_)
  · replace h := h.1 c1
    refine ⟨_, rfl, ?_⟩
    refine And.intro (fun _ => ?_) (fun hc => absurd (pm_cd_t (by decide)) hc)
    refine And.intro trivial ?_
    exact h
  · replace h := h.2 c1
    refine And.intro (fun c2 => ?_) (fun c2 => ?_)
    · replace h := h.1 c2
      refine ⟨_, rfl, ?_⟩
      refine And.intro (fun _ => ?_) (fun hc => absurd (pm_cd_t (by decide)) hc)
      refine And.intro trivial ?_
      exact h
    · replace h := h.2 c2
      refine ⟨_, rfl, ?_⟩
      refine And.intro (fun hc => absurd hc (pm_cd_f (by decide))) (fun _ => ?_)
      refine And.intro trivial ?_
      refine v_M_in (d := d + 1)  ?_
      refine And.intro (fun c3 => ?_) (fun c3 => ?_)
      · replace h := h.1 c3
        refine ⟨_, rfl, ?_⟩
        refine And.intro (fun _ => ?_) (fun hc => absurd (pm_cd_t (by decide)) hc)
        refine And.intro trivial ?_
        exact h
      · replace h := h.2 c3
        refine And.intro (fun c4 => ?_) (fun c4 => ?_)
        · replace h := h.1 c4
          refine ⟨_, rfl, ?_⟩
          refine And.intro (fun _ => ?_) (fun hc => absurd (pm_cd_t (by decide)) hc)
          refine And.intro trivial ?_
          exact h
        · replace h := h.2 c4
          refine ⟨_, rfl, ?_⟩
          refine And.intro (fun hc => absurd hc (pm_cd_f (by decide))) (fun _ => ?_)
          refine And.intro (fun c5 => ?_) (fun c5 => ?_)
          · replace h := h.1 c5
            refine And.intro (fun c6 => ?_) (fun c6 => ?_)
            · replace h := h.1 c6
              refine And.intro sh_l141 ?_
              rw [hr_141_28]
              obtain ⟨k7, hkk7, hek7, h⟩ := h
              refine And.intro ⟨pm_aw_of sh_l157 hkk7 hek7 (by decide), trivial⟩ ?_
              rw [pm_tn hek7 hkk7 (by decide)]
              refine And.intro sh_l141 ?_
              rw [hr_141_29]
              refine And.intro (fun c8 => ?_) (fun c8 => ?_)
              · replace h := h.1 c8
                obtain ⟨k9, hkk9, hek9, h⟩ := h
                refine And.intro ⟨pm_aw_of sh_l158 hkk9 hek9 (by decide), trivial⟩ ?_
                rw [pm_tn hek9 hkk9 (by decide)]
                obtain ⟨hi10, ehi10⟩ : ∃ m : pm_B, m = pm_u (pm_u hi 157 k7 p2) 158 k9 p3 := ⟨_, rfl⟩
                replace h := h hi10 ehi10
                rw [← ehi10]
                exact h
              · replace h := h.2 c8
                obtain ⟨k11, hkk11, hek11, h⟩ := h
                refine And.intro ⟨pm_aw_of sh_l158 hkk11 hek11 (by decide), trivial⟩ ?_
                rw [pm_tn hek11 hkk11 (by decide)]
                obtain ⟨hi12, ehi12⟩ : ∃ m : pm_B, m = pm_u (pm_u hi 157 k7 p2) 158 k11 0 := ⟨_, rfl⟩
                replace h := h hi12 ehi12
                rw [← ehi12]
                exact h
            · replace h := h.2 c6
              refine And.intro (fun c13 => ?_) (fun c13 => ?_)
              · replace h := h.1 c13
                refine And.intro sh_l141 ?_
                rw [hr_141_28]
                obtain ⟨k14, hkk14, hek14, h⟩ := h
                refine And.intro ⟨pm_aw_of sh_l157 hkk14 hek14 (by decide), trivial⟩ ?_
                rw [pm_tn hek14 hkk14 (by decide)]
                refine And.intro sh_l141 ?_
                rw [hr_141_29]
                refine And.intro (fun c15 => ?_) (fun c15 => ?_)
                · replace h := h.1 c15
                  obtain ⟨k16, hkk16, hek16, h⟩ := h
                  refine And.intro ⟨pm_aw_of sh_l158 hkk16 hek16 (by decide), trivial⟩ ?_
                  rw [pm_tn hek16 hkk16 (by decide)]
                  obtain ⟨hi17, ehi17⟩ : ∃ m : pm_B, m = pm_u (pm_u hi 157 k14 p2) 158 k16 p3 := ⟨_, rfl⟩
                  replace h := h hi17 ehi17
                  rw [← ehi17]
                  exact h
                · replace h := h.2 c15
                  obtain ⟨k18, hkk18, hek18, h⟩ := h
                  refine And.intro ⟨pm_aw_of sh_l158 hkk18 hek18 (by decide), trivial⟩ ?_
                  rw [pm_tn hek18 hkk18 (by decide)]
                  obtain ⟨hi19, ehi19⟩ : ∃ m : pm_B, m = pm_u (pm_u hi 157 k14 p2) 158 k18 0 := ⟨_, rfl⟩
                  replace h := h hi19 ehi19
                  rw [← ehi19]
                  exact h
              · replace h := h.2 c13
                refine And.intro trivial ?_
                exact h
          · replace h := h.2 c5
            refine And.intro (fun c20 => ?_) (fun c20 => ?_)
            · replace h := h.1 c20
              refine And.intro (fun c21 => ?_) (fun c21 => ?_)
              · replace h := h.1 c21
                refine And.intro sh_l141 ?_
                rw [hr_141_28]
                obtain ⟨k22, hkk22, hek22, h⟩ := h
                refine And.intro ⟨pm_aw_of sh_l157 hkk22 hek22 (by decide), trivial⟩ ?_
                rw [pm_tn hek22 hkk22 (by decide)]
                refine And.intro sh_l141 ?_
                rw [hr_141_29]
                refine And.intro (fun c23 => ?_) (fun c23 => ?_)
                · replace h := h.1 c23
                  obtain ⟨k24, hkk24, hek24, h⟩ := h
                  refine And.intro ⟨pm_aw_of sh_l158 hkk24 hek24 (by decide), trivial⟩ ?_
                  rw [pm_tn hek24 hkk24 (by decide)]
                  obtain ⟨hi25, ehi25⟩ : ∃ m : pm_B, m = pm_u (pm_u hi 157 k22 p2) 158 k24 p3 := ⟨_, rfl⟩
                  replace h := h hi25 ehi25
                  rw [← ehi25]
                  exact h
                · replace h := h.2 c23
                  obtain ⟨k26, hkk26, hek26, h⟩ := h
                  refine And.intro ⟨pm_aw_of sh_l158 hkk26 hek26 (by decide), trivial⟩ ?_
                  rw [pm_tn hek26 hkk26 (by decide)]
                  obtain ⟨hi27, ehi27⟩ : ∃ m : pm_B, m = pm_u (pm_u hi 157 k22 p2) 158 k26 0 := ⟨_, rfl⟩
                  replace h := h hi27 ehi27
                  rw [← ehi27]
                  exact h
              · replace h := h.2 c21
                refine And.intro (fun c28 => ?_) (fun c28 => ?_)
                · replace h := h.1 c28
                  refine And.intro sh_l141 ?_
                  rw [hr_141_28]
                  obtain ⟨k29, hkk29, hek29, h⟩ := h
                  refine And.intro ⟨pm_aw_of sh_l157 hkk29 hek29 (by decide), trivial⟩ ?_
                  rw [pm_tn hek29 hkk29 (by decide)]
                  refine And.intro sh_l141 ?_
                  rw [hr_141_29]
                  refine And.intro (fun c30 => ?_) (fun c30 => ?_)
                  · replace h := h.1 c30
                    obtain ⟨k31, hkk31, hek31, h⟩ := h
                    refine And.intro ⟨pm_aw_of sh_l158 hkk31 hek31 (by decide), trivial⟩ ?_
                    rw [pm_tn hek31 hkk31 (by decide)]
                    obtain ⟨hi32, ehi32⟩ : ∃ m : pm_B, m = pm_u (pm_u hi 157 k29 p2) 158 k31 p3 := ⟨_, rfl⟩
                    replace h := h hi32 ehi32
                    rw [← ehi32]
                    exact h
                  · replace h := h.2 c30
                    obtain ⟨k33, hkk33, hek33, h⟩ := h
                    refine And.intro ⟨pm_aw_of sh_l158 hkk33 hek33 (by decide), trivial⟩ ?_
                    rw [pm_tn hek33 hkk33 (by decide)]
                    obtain ⟨hi34, ehi34⟩ : ∃ m : pm_B, m = pm_u (pm_u hi 157 k29 p2) 158 k33 0 := ⟨_, rfl⟩
                    replace h := h hi34 ehi34
                    rw [← ehi34]
                    exact h
                · replace h := h.2 c28
                  refine And.intro trivial ?_
                  exact h
            · replace h := h.2 c20
              refine And.intro trivial ?_
              exact h
theorem v_M_sheet_65 {L d : Nat}  {p1 : Int32} {p2 : Int32} {p3 : Int32} {y4 : Int32} {hi : pm_B} {Q : pm_Q} (h : ((24 ≤ y4) → ∃ k2 : Nat, k2 < 4 ∧ p1 = nI k2 ∧ (Q (some (.inl (hi 158 k2))) hi)) ∧ ((¬ (24 ≤ y4)) → ∃ k3 : Nat, k3 < 96 ∧ ((24 * p1) + y4) = nI k3 ∧ (pm_W pm_g (SH L) HR (d + 2) pm_t217 65 [some (.inr 141), some (.inl p1), some (.inl p2), some (.inl p3), some (.inl (y4 + 1))] [] (pm_u hi 159 k3 0) Q))) : pm_W pm_g (SH L) HR (d + 2) pm_t217 65 [some (.inr 141), some (.inl p1), some (.inl p2), some (.inl p3), some (.inl y4)] [] hi Q := by
  refine pm_W_of 16 [65] rfl ?_
  refine And.intro (fun c1 => ?_) (fun c1 => ?_)
  · replace h := h.1 c1
    refine And.intro sh_l141 ?_
    rw [hr_141_29]
    obtain ⟨k2, hkk2, hek2, h⟩ := h
    refine And.intro (pm_ao_of (t := 0) sh_l158 hkk2 hek2 (by decide)) ?_
    rw [pm_tn hek2 hkk2 (by decide)]
    refine And.intro trivial ?_
    exact h
  · replace h := h.2 c1
    refine And.intro sh_l141 ?_
    rw [hr_141_30]
    obtain ⟨k3, hkk3, hek3, h⟩ := h
    refine And.intro ⟨pm_aw_of sh_l159 hkk3 hek3 (by decide), trivial⟩ ?_
    rw [pm_tn hek3 hkk3 (by decide)]
    exact h
theorem v_M_mark {L d : Nat} {p1 : Int32} {p2 : Int32} {p3 : Int32} {hi : pm_B} {Q : pm_Q} (h : ((p1 < 0) → Q (some (.inl (-1000000001))) hi) ∧ ((¬ (p1 < 0)) → ((3 < p1) → Q (some (.inl (-1000000001))) hi) ∧ ((¬ (3 < p1)) → ∃ k3 : Nat, k3 < 4 ∧ p1 = nI k3 ∧ (((0 ≤ (hi 157 k3)) → ∃ k5 : Nat, k5 < 4 ∧ p1 = nI k5 ∧ (((p2 < 0) → Q (some (.inl (-1000000013))) hi) ∧ ((¬ (p2 < 0)) → ((((hi 158 k5) - 1) < p2) → Q (some (.inl (-1000000013))) hi) ∧ ((¬ (((hi 158 k5) - 1) < p2)) → ∃ k8 : Nat, k8 < 4 ∧ p1 = nI k8 ∧ (((¬ (hi 157 k8) = 0) → ∃ k10 : Nat, k10 < 4 ∧ p1 = nI k10 ∧ (((¬ (hi 157 k10) = 1) → ∃ k12 : Nat, k12 < 4 ∧ p1 = nI k12 ∧ (((¬ (hi 157 k12) = 0) → ∃ k14 : Nat, k14 < 96 ∧ ((24 * p1) + p2) = nI k14 ∧ (Q (some (.inl 1)) (pm_u hi 159 k14 p3))) ∧ ((¬ (¬ (hi 157 k12) = 0)) → ∃ k15 : Nat, k15 < 96 ∧ ((24 * p1) + p2) = nI k15 ∧ (Q (some (.inl 1)) (pm_u hi 159 k15 ((Int32.toInt16 p3).toInt32)))))) ∧ ((¬ (¬ (hi 157 k10) = 1)) → ((p3 = (-1000000005)) → ∃ k17 : Nat, k17 < 4 ∧ p1 = nI k17 ∧ (((¬ (hi 157 k17) = 0) → ∃ k19 : Nat, k19 < 96 ∧ ((24 * p1) + p2) = nI k19 ∧ (Q (some (.inl 1)) (pm_u hi 159 k19 p3))) ∧ ((¬ (¬ (hi 157 k17) = 0)) → ∃ k20 : Nat, k20 < 96 ∧ ((24 * p1) + p2) = nI k20 ∧ (Q (some (.inl 1)) (pm_u hi 159 k20 ((Int32.toInt16 p3).toInt32)))))) ∧ ((¬ (p3 = (-1000000005))) → ((p3 < (-99999)) → Q (some (.inl (-1000000001))) hi) ∧ ((¬ (p3 < (-99999))) → ((99999 < p3) → Q (some (.inl (-1000000001))) hi) ∧ ((¬ (99999 < p3)) → ∃ k23 : Nat, k23 < 4 ∧ p1 = nI k23 ∧ (((¬ (hi 157 k23) = 0) → ∃ k25 : Nat, k25 < 96 ∧ ((24 * p1) + p2) = nI k25 ∧ (Q (some (.inl 1)) (pm_u hi 159 k25 p3))) ∧ ((¬ (¬ (hi 157 k23) = 0)) → ∃ k26 : Nat, k26 < 96 ∧ ((24 * p1) + p2) = nI k26 ∧ (Q (some (.inl 1)) (pm_u hi 159 k26 ((Int32.toInt16 p3).toInt32))))))))))) ∧ ((¬ (¬ (hi 157 k8) = 0)) → ((¬ p3 = (-1000000005)) → ∃ k28 : Nat, k28 < 4 ∧ p1 = nI k28 ∧ (((¬ (hi 157 k28) = 1) → ∃ k30 : Nat, k30 < 4 ∧ p1 = nI k30 ∧ (((¬ (hi 157 k30) = 0) → ∃ k32 : Nat, k32 < 96 ∧ ((24 * p1) + p2) = nI k32 ∧ (Q (some (.inl 1)) (pm_u hi 159 k32 p3))) ∧ ((¬ (¬ (hi 157 k30) = 0)) → ∃ k33 : Nat, k33 < 96 ∧ ((24 * p1) + p2) = nI k33 ∧ (Q (some (.inl 1)) (pm_u hi 159 k33 ((Int32.toInt16 p3).toInt32)))))) ∧ ((¬ (¬ (hi 157 k28) = 1)) → ((p3 = (-1000000005)) → ∃ k35 : Nat, k35 < 4 ∧ p1 = nI k35 ∧ (((¬ (hi 157 k35) = 0) → ∃ k37 : Nat, k37 < 96 ∧ ((24 * p1) + p2) = nI k37 ∧ (Q (some (.inl 1)) (pm_u hi 159 k37 p3))) ∧ ((¬ (¬ (hi 157 k35) = 0)) → ∃ k38 : Nat, k38 < 96 ∧ ((24 * p1) + p2) = nI k38 ∧ (Q (some (.inl 1)) (pm_u hi 159 k38 ((Int32.toInt16 p3).toInt32)))))) ∧ ((¬ (p3 = (-1000000005))) → ((p3 < (-99999)) → Q (some (.inl (-1000000001))) hi) ∧ ((¬ (p3 < (-99999))) → ((99999 < p3) → Q (some (.inl (-1000000001))) hi) ∧ ((¬ (99999 < p3)) → ∃ k41 : Nat, k41 < 4 ∧ p1 = nI k41 ∧ (((¬ (hi 157 k41) = 0) → ∃ k43 : Nat, k43 < 96 ∧ ((24 * p1) + p2) = nI k43 ∧ (Q (some (.inl 1)) (pm_u hi 159 k43 p3))) ∧ ((¬ (¬ (hi 157 k41) = 0)) → ∃ k44 : Nat, k44 < 96 ∧ ((24 * p1) + p2) = nI k44 ∧ (Q (some (.inl 1)) (pm_u hi 159 k44 ((Int32.toInt16 p3).toInt32))))))))))) ∧ ((¬ (¬ p3 = (-1000000005))) → Q (some (.inl (-1000000012))) hi))))))) ∧ ((¬ (0 ≤ (hi 157 k3))) → Q (some (.inl (-1000000011))) hi))))) : pm_C pm_g (SH L) HR (d + 3) m_M_mark [.inr 141, .inl p1, .inl p2, .inl p3] hi Q := by
  refine pm_C_of (maxL := 4) (t := pm_t218) rfl (Nat.le_of_ble_eq_true rfl) ?_
  refine pm_W_of 60 [] rfl ?_
  refine And.intro trivial ?_
  refine v_M_isSheet (d := d)  ?_
  refine And.intro (fun c1 => ?_) (fun c1 => ?_)
  · replace h := h.1 c1
    refine ⟨_, rfl, ?_⟩
    refine And.intro (fun hc => absurd hc (pm_cd_f (by decide))) (fun _ => ?_)
    refine And.intro trivial ?_
    exact h
  · replace h := h.2 c1
    refine And.intro (fun c2 => ?_) (fun c2 => ?_)
    · replace h := h.1 c2
      refine ⟨_, rfl, ?_⟩
      refine And.intro (fun hc => absurd hc (pm_cd_f (by decide))) (fun _ => ?_)
      refine And.intro trivial ?_
      exact h
    · replace h := h.2 c2
      refine ⟨_, rfl, ?_⟩
      refine And.intro (fun _ => ?_) (fun hc => absurd (pm_cd_t (by decide)) hc)
      refine And.intro sh_l141 ?_
      rw [hr_141_28]
      obtain ⟨k3, hkk3, hek3, h⟩ := h
      refine And.intro (pm_ao_of (t := 0) sh_l157 hkk3 hek3 (by decide)) ?_
      rw [pm_tn hek3 hkk3 (by decide)]
      refine And.intro (fun c4 => ?_) (fun c4 => ?_)
      · replace h := h.1 c4
        refine And.intro sh_l141 ?_
        rw [hr_141_29]
        obtain ⟨k5, hkk5, hek5, h⟩ := h
        refine And.intro (pm_ao_of (t := 0) sh_l158 hkk5 hek5 (by decide)) ?_
        rw [pm_tn hek5 hkk5 (by decide)]
        refine And.intro trivial ?_
        refine v_M_in (d := d + 1)  ?_
        refine And.intro (fun c6 => ?_) (fun c6 => ?_)
        · replace h := h.1 c6
          refine ⟨_, rfl, ?_⟩
          refine And.intro (fun hc => absurd hc (pm_cd_f (by decide))) (fun _ => ?_)
          refine And.intro trivial ?_
          exact h
        · replace h := h.2 c6
          refine And.intro (fun c7 => ?_) (fun c7 => ?_)
          · replace h := h.1 c7
            refine ⟨_, rfl, ?_⟩
            refine And.intro (fun hc => absurd hc (pm_cd_f (by decide))) (fun _ => ?_)
            refine And.intro trivial ?_
            exact h
          · replace h := h.2 c7
            refine ⟨_, rfl, ?_⟩
            refine And.intro (fun _ => ?_) (fun hc => absurd (pm_cd_t (by decide)) hc)
            refine And.intro sh_l141 ?_
            rw [hr_141_28]
            obtain ⟨k8, hkk8, hek8, h⟩ := h
            refine And.intro (pm_ao_of (t := 0) sh_l157 hkk8 hek8 (by decide)) ?_
            rw [pm_tn hek8 hkk8 (by decide)]
            refine And.intro (fun c9 => ?_) (fun c9 => ?_)
            · replace h := h.1 c9
              refine And.intro sh_l141 ?_
              rw [hr_141_28]
              obtain ⟨k10, hkk10, hek10, h⟩ := h
              refine And.intro (pm_ao_of (t := 0) sh_l157 hkk10 hek10 (by decide)) ?_
              rw [pm_tn hek10 hkk10 (by decide)]
              refine And.intro (fun c11 => ?_) (fun c11 => ?_)
              · replace h := h.1 c11
                refine And.intro sh_l141 ?_
                rw [hr_141_30]
                refine And.intro sh_l141 ?_
                rw [hr_141_28]
                obtain ⟨k12, hkk12, hek12, h⟩ := h
                refine And.intro (pm_ao_of (t := 0) sh_l157 hkk12 hek12 (by decide)) ?_
                rw [pm_tn hek12 hkk12 (by decide)]
                refine And.intro (fun c13 => ?_) (fun c13 => ?_)
                · replace h := h.1 c13
                  obtain ⟨k14, hkk14, hek14, h⟩ := h
                  refine And.intro ⟨pm_aw_of sh_l159 hkk14 hek14 (by decide), trivial⟩ ?_
                  rw [pm_tn hek14 hkk14 (by decide)]
                  refine And.intro trivial ?_
                  exact h
                · replace h := h.2 c13
                  obtain ⟨k15, hkk15, hek15, h⟩ := h
                  refine And.intro ⟨pm_aw_of sh_l159 hkk15 hek15 (by decide), trivial⟩ ?_
                  rw [pm_tn hek15 hkk15 (by decide)]
                  refine And.intro trivial ?_
                  exact h
              · replace h := h.2 c11
                refine And.intro (fun c16 => ?_) (fun c16 => ?_)
                · replace h := h.1 c16
                  refine And.intro sh_l141 ?_
                  rw [hr_141_30]
                  refine And.intro sh_l141 ?_
                  rw [hr_141_28]
                  obtain ⟨k17, hkk17, hek17, h⟩ := h
                  refine And.intro (pm_ao_of (t := 0) sh_l157 hkk17 hek17 (by decide)) ?_
                  rw [pm_tn hek17 hkk17 (by decide)]
                  refine And.intro (fun c18 => ?_) (fun c18 => ?_)
                  · replace h := h.1 c18
                    obtain ⟨k19, hkk19, hek19, h⟩ := h
                    refine And.intro ⟨pm_aw_of sh_l159 hkk19 hek19 (by decide), trivial⟩ ?_
                    rw [pm_tn hek19 hkk19 (by decide)]
                    refine And.intro trivial ?_
                    exact h
                  · replace h := h.2 c18
                    obtain ⟨k20, hkk20, hek20, h⟩ := h
                    refine And.intro ⟨pm_aw_of sh_l159 hkk20 hek20 (by decide), trivial⟩ ?_
                    rw [pm_tn hek20 hkk20 (by decide)]
                    refine And.intro trivial ?_
                    exact h
                · replace h := h.2 c16
                  refine And.intro trivial ?_
                  refine v_M_in (d := d + 1)  ?_
                  refine And.intro (fun c21 => ?_) (fun c21 => ?_)
                  · replace h := h.1 c21
                    refine ⟨_, rfl, ?_⟩
                    refine And.intro (fun hc => absurd hc (pm_cd_f (by decide))) (fun _ => ?_)
                    refine And.intro trivial ?_
                    exact h
                  · replace h := h.2 c21
                    refine And.intro (fun c22 => ?_) (fun c22 => ?_)
                    · replace h := h.1 c22
                      refine ⟨_, rfl, ?_⟩
                      refine And.intro (fun hc => absurd hc (pm_cd_f (by decide))) (fun _ => ?_)
                      refine And.intro trivial ?_
                      exact h
                    · replace h := h.2 c22
                      refine ⟨_, rfl, ?_⟩
                      refine And.intro (fun _ => ?_) (fun hc => absurd (pm_cd_t (by decide)) hc)
                      refine And.intro sh_l141 ?_
                      rw [hr_141_30]
                      refine And.intro sh_l141 ?_
                      rw [hr_141_28]
                      obtain ⟨k23, hkk23, hek23, h⟩ := h
                      refine And.intro (pm_ao_of (t := 0) sh_l157 hkk23 hek23 (by decide)) ?_
                      rw [pm_tn hek23 hkk23 (by decide)]
                      refine And.intro (fun c24 => ?_) (fun c24 => ?_)
                      · replace h := h.1 c24
                        obtain ⟨k25, hkk25, hek25, h⟩ := h
                        refine And.intro ⟨pm_aw_of sh_l159 hkk25 hek25 (by decide), trivial⟩ ?_
                        rw [pm_tn hek25 hkk25 (by decide)]
                        refine And.intro trivial ?_
                        exact h
                      · replace h := h.2 c24
                        obtain ⟨k26, hkk26, hek26, h⟩ := h
                        refine And.intro ⟨pm_aw_of sh_l159 hkk26 hek26 (by decide), trivial⟩ ?_
                        rw [pm_tn hek26 hkk26 (by decide)]
                        refine And.intro trivial ?_
                        exact h
            · replace h := h.2 c9
              refine And.intro (fun c27 => ?_) (fun c27 => ?_)
              · replace h := h.1 c27
                refine And.intro sh_l141 ?_
                rw [hr_141_28]
                obtain ⟨k28, hkk28, hek28, h⟩ := h
                refine And.intro (pm_ao_of (t := 0) sh_l157 hkk28 hek28 (by decide)) ?_
                rw [pm_tn hek28 hkk28 (by decide)]
                refine And.intro (fun c29 => ?_) (fun c29 => ?_)
                · replace h := h.1 c29
                  refine And.intro sh_l141 ?_
                  rw [hr_141_30]
                  refine And.intro sh_l141 ?_
                  rw [hr_141_28]
                  obtain ⟨k30, hkk30, hek30, h⟩ := h
                  refine And.intro (pm_ao_of (t := 0) sh_l157 hkk30 hek30 (by decide)) ?_
                  rw [pm_tn hek30 hkk30 (by decide)]
                  refine And.intro (fun c31 => ?_) (fun c31 => ?_)
                  · replace h := h.1 c31
                    obtain ⟨k32, hkk32, hek32, h⟩ := h
                    refine And.intro ⟨pm_aw_of sh_l159 hkk32 hek32 (by decide), trivial⟩ ?_
                    rw [pm_tn hek32 hkk32 (by decide)]
                    refine And.intro trivial ?_
                    exact h
                  · replace h := h.2 c31
                    obtain ⟨k33, hkk33, hek33, h⟩ := h
                    refine And.intro ⟨pm_aw_of sh_l159 hkk33 hek33 (by decide), trivial⟩ ?_
                    rw [pm_tn hek33 hkk33 (by decide)]
                    refine And.intro trivial ?_
                    exact h
                · replace h := h.2 c29
                  refine And.intro (fun c34 => ?_) (fun c34 => ?_)
                  · replace h := h.1 c34
                    refine And.intro sh_l141 ?_
                    rw [hr_141_30]
                    refine And.intro sh_l141 ?_
                    rw [hr_141_28]
                    obtain ⟨k35, hkk35, hek35, h⟩ := h
                    refine And.intro (pm_ao_of (t := 0) sh_l157 hkk35 hek35 (by decide)) ?_
                    rw [pm_tn hek35 hkk35 (by decide)]
                    refine And.intro (fun c36 => ?_) (fun c36 => ?_)
                    · replace h := h.1 c36
                      obtain ⟨k37, hkk37, hek37, h⟩ := h
                      refine And.intro ⟨pm_aw_of sh_l159 hkk37 hek37 (by decide), trivial⟩ ?_
                      rw [pm_tn hek37 hkk37 (by decide)]
                      refine And.intro trivial ?_
                      exact h
                    · replace h := h.2 c36
                      obtain ⟨k38, hkk38, hek38, h⟩ := h
                      refine And.intro ⟨pm_aw_of sh_l159 hkk38 hek38 (by decide), trivial⟩ ?_
                      rw [pm_tn hek38 hkk38 (by decide)]
                      refine And.intro trivial ?_
                      exact h
                  · replace h := h.2 c34
                    refine And.intro trivial ?_
                    refine v_M_in (d := d + 1)  ?_
                    refine And.intro (fun c39 => ?_) (fun c39 => ?_)
                    · replace h := h.1 c39
                      refine ⟨_, rfl, ?_⟩
                      refine And.intro (fun hc => absurd hc (pm_cd_f (by decide))) (fun _ => ?_)
                      refine And.intro trivial ?_
                      exact h
                    · replace h := h.2 c39
                      refine And.intro (fun c40 => ?_) (fun c40 => ?_)
                      · replace h := h.1 c40
                        refine ⟨_, rfl, ?_⟩
                        refine And.intro (fun hc => absurd hc (pm_cd_f (by decide))) (fun _ => ?_)
                        refine And.intro trivial ?_
                        exact h
                      · replace h := h.2 c40
                        refine ⟨_, rfl, ?_⟩
                        refine And.intro (fun _ => ?_) (fun hc => absurd (pm_cd_t (by decide)) hc)
                        refine And.intro sh_l141 ?_
                        rw [hr_141_30]
                        refine And.intro sh_l141 ?_
                        rw [hr_141_28]
                        obtain ⟨k41, hkk41, hek41, h⟩ := h
                        refine And.intro (pm_ao_of (t := 0) sh_l157 hkk41 hek41 (by decide)) ?_
                        rw [pm_tn hek41 hkk41 (by decide)]
                        refine And.intro (fun c42 => ?_) (fun c42 => ?_)
                        · replace h := h.1 c42
                          obtain ⟨k43, hkk43, hek43, h⟩ := h
                          refine And.intro ⟨pm_aw_of sh_l159 hkk43 hek43 (by decide), trivial⟩ ?_
                          rw [pm_tn hek43 hkk43 (by decide)]
                          refine And.intro trivial ?_
                          exact h
                        · replace h := h.2 c42
                          obtain ⟨k44, hkk44, hek44, h⟩ := h
                          refine And.intro ⟨pm_aw_of sh_l159 hkk44 hek44 (by decide), trivial⟩ ?_
                          rw [pm_tn hek44 hkk44 (by decide)]
                          refine And.intro trivial ?_
                          exact h
              · replace h := h.2 c27
                refine And.intro trivial ?_
                exact h
      · replace h := h.2 c4
        refine And.intro trivial ?_
        exact h
theorem v_M_pour {L d : Nat} {p1 : Int32} {hi : pm_B} {Q : pm_Q} (h : ((p1 < 0) → Q (some (.inl (-1000000001))) hi) ∧ ((¬ (p1 < 0)) → ((3 < p1) → Q (some (.inl (-1000000001))) hi) ∧ ((¬ (3 < p1)) → ∃ k3 : Nat, k3 < 4 ∧ p1 = nI k3 ∧ (((0 ≤ (hi 157 k3)) → pm_W pm_g (SH L) HR (d + 2) pm_t219 26 [some (.inr 141), some (.inl p1), some (.inl 0), some (.inl 0), none, none] [] hi Q) ∧ ((¬ (0 ≤ (hi 157 k3))) → Q (some (.inl (-1000000011))) hi))))) : pm_C pm_g (SH L) HR (d + 3) m_M_pour [.inr 141, .inl p1] hi Q := by
  refine pm_C_of (maxL := 6) (t := pm_t219) rfl (Nat.le_of_ble_eq_true rfl) ?_
  refine pm_W_of 14 [26] rfl ?_
  refine And.intro trivial ?_
  refine v_M_isSheet (d := d)  ?_
  refine And.intro (fun c1 => ?_) (fun c1 => ?_)
  · replace h := h.1 c1
    refine ⟨_, rfl, ?_⟩
    refine And.intro (fun hc => absurd hc (pm_cd_f (by decide))) (fun _ => ?_)
    refine And.intro trivial ?_
    exact h
  · replace h := h.2 c1
    refine And.intro (fun c2 => ?_) (fun c2 => ?_)
    · replace h := h.1 c2
      refine ⟨_, rfl, ?_⟩
      refine And.intro (fun hc => absurd hc (pm_cd_f (by decide))) (fun _ => ?_)
      refine And.intro trivial ?_
      exact h
    · replace h := h.2 c2
      refine ⟨_, rfl, ?_⟩
      refine And.intro (fun _ => ?_) (fun hc => absurd (pm_cd_t (by decide)) hc)
      refine And.intro sh_l141 ?_
      rw [hr_141_28]
      obtain ⟨k3, hkk3, hek3, h⟩ := h
      refine And.intro (pm_ao_of (t := 0) sh_l157 hkk3 hek3 (by decide)) ?_
      rw [pm_tn hek3 hkk3 (by decide)]
      refine And.intro (fun c4 => ?_) (fun c4 => ?_)
      · replace h := h.1 c4
        exact h
      · replace h := h.2 c4
        refine And.intro trivial ?_
        exact h
theorem v_M_pour_26 {L d : Nat} {o4 : Option pm_V} {o5 : Option pm_V} {p1 : Int32} {y2 : Int32} {y3 : Int32} {hi : pm_B} {Q : pm_Q} (h : ∃ k1 : Nat, k1 < 4 ∧ p1 = nI k1 ∧ ((((hi 158 k1) ≤ y3) → Q (some (.inl y2)) hi) ∧ ((¬ ((hi 158 k1) ≤ y3)) → (((hi 142 1) ≤ y3) → Q (some (.inl y2)) hi) ∧ ((¬ ((hi 142 1) ≤ y3)) → ∃ k4 : Nat, k4 < 96 ∧ ((24 * p1) + y3) = nI k4 ∧ (((¬ (hi 159 k4) = (-1000000005)) → ∃ k6 : Nat, k6 < 1611 ∧ ((7 + (29 * y3)) + 2) = nI k6 ∧ (∃ k7 : Nat, k7 < 1611 ∧ ((7 + (29 * y3)) + 2) = nI k7 ∧ (∀ hi8 : pm_B, hi8 = pm_u hi 142 k7 (f_M_within (hi 159 k4) 0 99) → (((¬ (hi 142 k6) = (f_M_within (hi 159 k4) 0 99)) → pm_W pm_g (SH L) HR (d + 2) pm_t219 26 [some (.inr 141), some (.inl p1), some (.inl (y2 + 1)), some (.inl (y3 + 1)), some (.inl (hi 159 k4)), some (.inl (f_M_within (hi 159 k4) 0 99))] [] hi8 Q) ∧ ((¬ (¬ (hi 142 k6) = (f_M_within (hi 159 k4) 0 99))) → pm_W pm_g (SH L) HR (d + 2) pm_t219 26 [some (.inr 141), some (.inl p1), some (.inl (y2 + 0)), some (.inl (y3 + 1)), some (.inl (hi 159 k4)), some (.inl (f_M_within (hi 159 k4) 0 99))] [] hi8 Q))))) ∧ ((¬ (¬ (hi 159 k4) = (-1000000005))) → ∃ k10 : Nat, k10 < 1611 ∧ ((7 + (29 * y3)) + 2) = nI k10 ∧ (∃ k11 : Nat, k11 < 1611 ∧ ((7 + (29 * y3)) + 2) = nI k11 ∧ (∃ k12 : Nat, k12 < 1611 ∧ ((7 + (29 * y3)) + 2) = nI k12 ∧ (∀ hi13 : pm_B, hi13 = pm_u hi 142 k12 (hi 142 k10) → (((¬ (hi 142 k11) = (hi 142 k10)) → pm_W pm_g (SH L) HR (d + 2) pm_t219 26 [some (.inr 141), some (.inl p1), some (.inl (y2 + 1)), some (.inl (y3 + 1)), some (.inl (hi 159 k4)), some (.inl (hi 142 k10))] [] hi13 Q) ∧ ((¬ (¬ (hi 142 k11) = (hi 142 k10))) → pm_W pm_g (SH L) HR (d + 2) pm_t219 26 [some (.inr 141), some (.inl p1), some (.inl (y2 + 0)), some (.inl (y3 + 1)), some (.inl (hi 159 k4)), some (.inl (hi 142 k10))] [] hi13 Q))))))))))) : pm_W pm_g (SH L) HR (d + 2) pm_t219 26 [some (.inr 141), some (.inl p1), some (.inl y2), some (.inl y3), o4, o5] [] hi Q := by
  refine pm_W_of 51 [26] rfl ?_
  refine And.intro sh_l141 ?_
  rw [hr_141_29]
  obtain ⟨k1, hkk1, hek1, h⟩ := h
  refine And.intro (pm_ao_of (t := 0) sh_l158 hkk1 hek1 (by decide)) ?_
  rw [pm_tn hek1 hkk1 (by decide)]
  refine And.intro (fun c2 => ?_) (fun c2 => ?_)
  · replace h := h.1 c2
    refine And.intro trivial ?_
    exact h
  · replace h := h.2 c2
    refine And.intro sh_l141 ?_
    rw [hr_141_0]
    refine And.intro (pm_ao_of (t := 0) sh_l142 (by decide : 1 < 1611) (rfl : (1 : Int32) = nI 1) (by decide)) ?_
    rw [pm_tn (rfl : (1 : Int32) = nI 1) (by decide : 1 < 1611) (by decide)]
    refine And.intro (fun c3 => ?_) (fun c3 => ?_)
    · replace h := h.1 c3
      refine And.intro trivial ?_
      exact h
    · replace h := h.2 c3
      refine And.intro sh_l141 ?_
      rw [hr_141_30]
      obtain ⟨k4, hkk4, hek4, h⟩ := h
      refine And.intro (pm_ao_of (t := 0) sh_l159 hkk4 hek4 (by decide)) ?_
      rw [pm_tn hek4 hkk4 (by decide)]
      refine And.intro (fun c5 => ?_) (fun c5 => ?_)
      · replace h := h.1 c5
        refine And.intro trivial ?_
        refine f_M_within_c (d := d + 1)  ?_
        refine ⟨_, rfl, ?_⟩
        refine And.intro sh_l141 ?_
        refine v_M_becomes (d := d + 1)  ?_
        obtain ⟨k6, hkk6, hek6, h⟩ := h
        refine ⟨k6, hkk6, hek6, ?_⟩
        obtain ⟨k7, hkk7, hek7, h⟩ := h
        refine ⟨k7, hkk7, hek7, ?_⟩
        refine ⟨_, rfl, ?_⟩
        obtain ⟨hi8, ehi8⟩ : ∃ m : pm_B, m = pm_u hi 142 k7 (f_M_within (hi 159 k4) 0 99) := ⟨_, rfl⟩
        replace h := h hi8 ehi8
        rw [← ehi8]
        refine And.intro (fun c9 => ?_) (fun c9 => ?_)
        · replace h := h.1 c9
          exact h
        · replace h := h.2 c9
          exact h
      · replace h := h.2 c5
        refine And.intro sh_l141 ?_
        refine v_M_of (d := d + 1)  ?_
        obtain ⟨k10, hkk10, hek10, h⟩ := h
        refine ⟨k10, hkk10, hek10, ?_⟩
        refine ⟨_, rfl, ?_⟩
        refine And.intro sh_l141 ?_
        refine v_M_becomes (d := d + 1)  ?_
        obtain ⟨k11, hkk11, hek11, h⟩ := h
        refine ⟨k11, hkk11, hek11, ?_⟩
        obtain ⟨k12, hkk12, hek12, h⟩ := h
        refine ⟨k12, hkk12, hek12, ?_⟩
        refine ⟨_, rfl, ?_⟩
        obtain ⟨hi13, ehi13⟩ : ∃ m : pm_B, m = pm_u hi 142 k12 (hi 142 k10) := ⟨_, rfl⟩
        replace h := h hi13 ehi13
        rw [← ehi13]
        refine And.intro (fun c14 => ?_) (fun c14 => ?_)
        · replace h := h.1 c14
          exact h
        · replace h := h.2 c14
          exact h
theorem v_M_reads {L d : Nat} {p1 : Int32} {hi : pm_B} {Q : pm_Q} (h : ((p1 < 0) → Q (some (.inl (-1000000001))) hi) ∧ ((¬ (p1 < 0)) → ((3 < p1) → Q (some (.inl (-1000000001))) hi) ∧ ((¬ (3 < p1)) → ∃ k3 : Nat, k3 < 4 ∧ p1 = nI k3 ∧ (((0 ≤ (hi 157 k3)) → pm_W pm_g (SH L) HR (d + 2) pm_t220 24 [some (.inr 141), some (.inl p1), some (.inl 0), none] [] hi Q) ∧ ((¬ (0 ≤ (hi 157 k3))) → Q (some (.inl (-1000000011))) hi))))) : pm_C pm_g (SH L) HR (d + 3) m_M_reads [.inr 141, .inl p1] hi Q := by
  refine pm_C_of (maxL := 4) (t := pm_t220) rfl (Nat.le_of_ble_eq_true rfl) ?_
  refine pm_W_of 12 [24] rfl ?_
  refine And.intro trivial ?_
  refine v_M_isSheet (d := d)  ?_
  refine And.intro (fun c1 => ?_) (fun c1 => ?_)
  · replace h := h.1 c1
    refine ⟨_, rfl, ?_⟩
    refine And.intro (fun hc => absurd hc (pm_cd_f (by decide))) (fun _ => ?_)
    refine And.intro trivial ?_
    exact h
  · replace h := h.2 c1
    refine And.intro (fun c2 => ?_) (fun c2 => ?_)
    · replace h := h.1 c2
      refine ⟨_, rfl, ?_⟩
      refine And.intro (fun hc => absurd hc (pm_cd_f (by decide))) (fun _ => ?_)
      refine And.intro trivial ?_
      exact h
    · replace h := h.2 c2
      refine ⟨_, rfl, ?_⟩
      refine And.intro (fun _ => ?_) (fun hc => absurd (pm_cd_t (by decide)) hc)
      refine And.intro sh_l141 ?_
      rw [hr_141_28]
      obtain ⟨k3, hkk3, hek3, h⟩ := h
      refine And.intro (pm_ao_of (t := 0) sh_l157 hkk3 hek3 (by decide)) ?_
      rw [pm_tn hek3 hkk3 (by decide)]
      refine And.intro (fun c4 => ?_) (fun c4 => ?_)
      · replace h := h.1 c4
        exact h
      · replace h := h.2 c4
        refine And.intro trivial ?_
        exact h
theorem v_M_reads_24 {L d : Nat} {o3 : Option pm_V} {p1 : Int32} {y2 : Int32} {hi : pm_B} {Q : pm_Q} (h : ∃ k1 : Nat, k1 < 4 ∧ p1 = nI k1 ∧ ((((hi 158 k1) ≤ y2) → Q (some (.inl (-1000000005))) hi) ∧ ((¬ ((hi 158 k1) ≤ y2)) → ∃ k3 : Nat, k3 < 96 ∧ ((24 * p1) + y2) = nI k3 ∧ ((((hi 159 k3) = (-1000000005)) → pm_W pm_g (SH L) HR (d + 2) pm_t220 24 [some (.inr 141), some (.inl p1), some (.inl (y2 + 1)), some (.inl (hi 159 k3))] [] hi Q) ∧ ((¬ ((hi 159 k3) = (-1000000005))) → ((y2 < 0) → Q (some (.inl y2)) hi) ∧ ((¬ (y2 < 0)) → ((((hi 142 1) - 1) < y2) → Q (some (.inl y2)) hi) ∧ ((¬ (((hi 142 1) - 1) < y2)) → ∃ k7 : Nat, k7 < 1611 ∧ ((7 + (29 * y2)) + 4) = nI k7 ∧ ((((hi 159 k3) = (hi 142 k7)) → pm_W pm_g (SH L) HR (d + 2) pm_t220 24 [some (.inr 141), some (.inl p1), some (.inl (y2 + 1)), some (.inl (hi 159 k3))] [] hi Q) ∧ ((¬ ((hi 159 k3) = (hi 142 k7))) → Q (some (.inl y2)) hi))))))))) : pm_W pm_g (SH L) HR (d + 2) pm_t220 24 [some (.inr 141), some (.inl p1), some (.inl y2), o3] [] hi Q := by
  refine pm_W_of 32 [24] rfl ?_
  refine And.intro sh_l141 ?_
  rw [hr_141_29]
  obtain ⟨k1, hkk1, hek1, h⟩ := h
  refine And.intro (pm_ao_of (t := 0) sh_l158 hkk1 hek1 (by decide)) ?_
  rw [pm_tn hek1 hkk1 (by decide)]
  refine And.intro (fun c2 => ?_) (fun c2 => ?_)
  · replace h := h.1 c2
    refine And.intro trivial ?_
    exact h
  · replace h := h.2 c2
    refine And.intro sh_l141 ?_
    rw [hr_141_30]
    obtain ⟨k3, hkk3, hek3, h⟩ := h
    refine And.intro (pm_ao_of (t := 0) sh_l159 hkk3 hek3 (by decide)) ?_
    rw [pm_tn hek3 hkk3 (by decide)]
    refine And.intro (fun c4 => ?_) (fun c4 => ?_)
    · replace h := h.1 c4
      exact h
    · replace h := h.2 c4
      refine And.intro sh_l141 ?_
      refine v_M_isSpeaker (d := d)  ?_
      refine And.intro (fun c5 => ?_) (fun c5 => ?_)
      · replace h := h.1 c5
        refine ⟨_, rfl, ?_⟩
        refine And.intro (fun _ => ?_) (fun hc => absurd (pm_cd_t (by decide)) hc)
        refine And.intro trivial ?_
        exact h
      · replace h := h.2 c5
        refine And.intro (fun c6 => ?_) (fun c6 => ?_)
        · replace h := h.1 c6
          refine ⟨_, rfl, ?_⟩
          refine And.intro (fun _ => ?_) (fun hc => absurd (pm_cd_t (by decide)) hc)
          refine And.intro trivial ?_
          exact h
        · replace h := h.2 c6
          refine ⟨_, rfl, ?_⟩
          refine And.intro (fun hc => absurd hc (pm_cd_f (by decide))) (fun _ => ?_)
          refine And.intro sh_l141 ?_
          refine v_M_of (d := d + 1)  ?_
          obtain ⟨k7, hkk7, hek7, h⟩ := h
          refine ⟨k7, hkk7, hek7, ?_⟩
          refine ⟨_, rfl, ?_⟩
          refine And.intro (fun c8 => ?_) (fun c8 => ?_)
          · replace h := h.1 c8
            exact h
          · replace h := h.2 c8
            refine And.intro trivial ?_
            exact h
theorem v_M_copy {L d : Nat} {p1 : Int32} {p2 : Int32} {p3 : Int32} {p4 : Int32} {p5 : Int32} {hi : pm_B} {Q : pm_Q} (h : ((p1 < 0) → Q (some (.inl (-1000000001))) hi) ∧ ((¬ (p1 < 0)) → ((3 < p1) → Q (some (.inl (-1000000001))) hi) ∧ ((¬ (3 < p1)) → ((p3 < 0) → Q (some (.inl (-1000000001))) hi) ∧ ((¬ (p3 < 0)) → ((3 < p3) → Q (some (.inl (-1000000001))) hi) ∧ ((¬ (3 < p3)) → ∃ k5 : Nat, k5 < 4 ∧ p1 = nI k5 ∧ ((((hi 157 k5) < 0) → Q (some (.inl (-1000000011))) hi) ∧ ((¬ ((hi 157 k5) < 0)) → ∃ k7 : Nat, k7 < 4 ∧ p3 = nI k7 ∧ (((0 ≤ (hi 157 k7)) → ∃ k9 : Nat, k9 < 4 ∧ p1 = nI k9 ∧ (∃ k10 : Nat, k10 < 4 ∧ p3 = nI k10 ∧ ((((hi 157 k9) = (hi 157 k10)) → ((p2 < 0) → Q (some (.inl (-1000000013))) hi) ∧ ((¬ (p2 < 0)) → ((p4 < 0) → Q (some (.inl (-1000000013))) hi) ∧ ((¬ (p4 < 0)) → ((p5 < 0) → Q (some (.inl (-1000000013))) hi) ∧ ((¬ (p5 < 0)) → ∃ k15 : Nat, k15 < 4 ∧ p1 = nI k15 ∧ (((((hi 158 k15) - p5) < p2) → Q (some (.inl (-1000000013))) hi) ∧ ((¬ (((hi 158 k15) - p5) < p2)) → ∃ k17 : Nat, k17 < 4 ∧ p3 = nI k17 ∧ (((p4 ≤ ((hi 158 k17) - p5)) → pm_W pm_g (SH L) HR (d + 2) pm_t221 104 [some (.inr 141), some (.inl p1), some (.inl p2), some (.inl p3), some (.inl p4), some (.inl p5), some (.inl 0)] [] hi Q) ∧ ((¬ (p4 ≤ ((hi 158 k17) - p5))) → Q (some (.inl (-1000000013))) hi)))))))) ∧ ((¬ ((hi 157 k9) = (hi 157 k10))) → Q (some (.inl (-1000000012))) hi)))) ∧ ((¬ (0 ≤ (hi 157 k7))) → Q (some (.inl (-1000000011))) hi))))))))) : pm_C pm_g (SH L) HR (d + 3) m_M_copy [.inr 141, .inl p1, .inl p2, .inl p3, .inl p4, .inl p5] hi Q := by
  refine pm_C_of (maxL := 7) (t := pm_t221) rfl (Nat.le_of_ble_eq_true rfl) ?_
  refine pm_W_of 51 [104, 141] rfl ?_
  refine And.intro trivial ?_
  refine v_M_isSheet (d := d)  ?_
  refine And.intro (fun c1 => ?_) (fun c1 => ?_)
  · replace h := h.1 c1
    refine ⟨_, rfl, ?_⟩
    refine And.intro (fun _ => ?_) (fun hc => absurd (pm_cd_t (by decide)) hc)
    refine And.intro trivial ?_
    exact h
  · replace h := h.2 c1
    refine And.intro (fun c2 => ?_) (fun c2 => ?_)
    · replace h := h.1 c2
      refine ⟨_, rfl, ?_⟩
      refine And.intro (fun _ => ?_) (fun hc => absurd (pm_cd_t (by decide)) hc)
      refine And.intro trivial ?_
      exact h
    · replace h := h.2 c2
      refine ⟨_, rfl, ?_⟩
      refine And.intro (fun hc => absurd hc (pm_cd_f (by decide))) (fun _ => ?_)
      refine And.intro trivial ?_
      refine v_M_isSheet (d := d)  ?_
      refine And.intro (fun c3 => ?_) (fun c3 => ?_)
      · replace h := h.1 c3
        refine ⟨_, rfl, ?_⟩
        refine And.intro (fun hc => absurd hc (pm_cd_f (by decide))) (fun _ => ?_)
        refine And.intro trivial ?_
        exact h
      · replace h := h.2 c3
        refine And.intro (fun c4 => ?_) (fun c4 => ?_)
        · replace h := h.1 c4
          refine ⟨_, rfl, ?_⟩
          refine And.intro (fun hc => absurd hc (pm_cd_f (by decide))) (fun _ => ?_)
          refine And.intro trivial ?_
          exact h
        · replace h := h.2 c4
          refine ⟨_, rfl, ?_⟩
          refine And.intro (fun _ => ?_) (fun hc => absurd (pm_cd_t (by decide)) hc)
          refine And.intro sh_l141 ?_
          rw [hr_141_28]
          obtain ⟨k5, hkk5, hek5, h⟩ := h
          refine And.intro (pm_ao_of (t := 0) sh_l157 hkk5 hek5 (by decide)) ?_
          rw [pm_tn hek5 hkk5 (by decide)]
          refine And.intro (fun c6 => ?_) (fun c6 => ?_)
          · replace h := h.1 c6
            refine And.intro trivial ?_
            exact h
          · replace h := h.2 c6
            refine And.intro sh_l141 ?_
            rw [hr_141_28]
            obtain ⟨k7, hkk7, hek7, h⟩ := h
            refine And.intro (pm_ao_of (t := 0) sh_l157 hkk7 hek7 (by decide)) ?_
            rw [pm_tn hek7 hkk7 (by decide)]
            refine And.intro (fun c8 => ?_) (fun c8 => ?_)
            · replace h := h.1 c8
              refine And.intro sh_l141 ?_
              rw [hr_141_28]
              obtain ⟨k9, hkk9, hek9, h⟩ := h
              refine And.intro (pm_ao_of (t := 0) sh_l157 hkk9 hek9 (by decide)) ?_
              rw [pm_tn hek9 hkk9 (by decide)]
              refine And.intro sh_l141 ?_
              rw [hr_141_28]
              obtain ⟨k10, hkk10, hek10, h⟩ := h
              refine And.intro (pm_ao_of (t := 0) sh_l157 hkk10 hek10 (by decide)) ?_
              rw [pm_tn hek10 hkk10 (by decide)]
              refine And.intro (fun c11 => ?_) (fun c11 => ?_)
              · replace h := h.1 c11
                refine And.intro (fun c12 => ?_) (fun c12 => ?_)
                · replace h := h.1 c12
                  refine And.intro trivial ?_
                  exact h
                · replace h := h.2 c12
                  refine And.intro (fun c13 => ?_) (fun c13 => ?_)
                  · replace h := h.1 c13
                    refine And.intro trivial ?_
                    exact h
                  · replace h := h.2 c13
                    refine And.intro (fun c14 => ?_) (fun c14 => ?_)
                    · replace h := h.1 c14
                      refine And.intro trivial ?_
                      exact h
                    · replace h := h.2 c14
                      refine And.intro sh_l141 ?_
                      rw [hr_141_29]
                      obtain ⟨k15, hkk15, hek15, h⟩ := h
                      refine And.intro (pm_ao_of (t := 0) sh_l158 hkk15 hek15 (by decide)) ?_
                      rw [pm_tn hek15 hkk15 (by decide)]
                      refine And.intro (fun c16 => ?_) (fun c16 => ?_)
                      · replace h := h.1 c16
                        refine And.intro trivial ?_
                        exact h
                      · replace h := h.2 c16
                        refine And.intro sh_l141 ?_
                        rw [hr_141_29]
                        obtain ⟨k17, hkk17, hek17, h⟩ := h
                        refine And.intro (pm_ao_of (t := 0) sh_l158 hkk17 hek17 (by decide)) ?_
                        rw [pm_tn hek17 hkk17 (by decide)]
                        refine And.intro (fun c18 => ?_) (fun c18 => ?_)
                        · replace h := h.1 c18
                          exact h
                        · replace h := h.2 c18
                          refine And.intro trivial ?_
                          exact h
              · replace h := h.2 c11
                refine And.intro trivial ?_
                exact h
            · replace h := h.2 c8
              refine And.intro trivial ?_
              exact h
theorem v_M_copy_104 {L d : Nat}  {p1 : Int32} {p2 : Int32} {p3 : Int32} {p4 : Int32} {p5 : Int32} {y6 : Int32} {hi : pm_B} {Q : pm_Q} (h : ((p5 ≤ y6) → pm_W pm_g (SH L) HR (d + 2) pm_t221 141 [some (.inr 141), some (.inl p1), some (.inl p2), some (.inl p3), some (.inl p4), some (.inl p5), some (.inl 0)] [] hi Q) ∧ ((¬ (p5 ≤ y6)) → ∃ k2 : Nat, k2 < 96 ∧ (((24 * p1) + p2) + y6) = nI k2 ∧ (∃ k3 : Nat, k3 < 24 ∧ y6 = nI k3 ∧ (pm_W pm_g (SH L) HR (d + 2) pm_t221 104 [some (.inr 141), some (.inl p1), some (.inl p2), some (.inl p3), some (.inl p4), some (.inl p5), some (.inl (y6 + 1))] [] (pm_u hi 164 k3 (hi 159 k2)) Q)))) : pm_W pm_g (SH L) HR (d + 2) pm_t221 104 [some (.inr 141), some (.inl p1), some (.inl p2), some (.inl p3), some (.inl p4), some (.inl p5), some (.inl y6)] [] hi Q := by
  refine pm_W_of 21 [104, 141] rfl ?_
  refine And.intro (fun c1 => ?_) (fun c1 => ?_)
  · replace h := h.1 c1
    exact h
  · replace h := h.2 c1
    refine And.intro sh_l141 ?_
    rw [hr_141_35]
    refine And.intro sh_l141 ?_
    rw [hr_141_30]
    obtain ⟨k2, hkk2, hek2, h⟩ := h
    refine And.intro (pm_ao_of (t := 0) sh_l159 hkk2 hek2 (by decide)) ?_
    rw [pm_tn hek2 hkk2 (by decide)]
    obtain ⟨k3, hkk3, hek3, h⟩ := h
    refine And.intro ⟨pm_aw_of sh_l164 hkk3 hek3 (by decide), trivial⟩ ?_
    rw [pm_tn hek3 hkk3 (by decide)]
    exact h
theorem v_M_copy_141 {L d : Nat}  {p1 : Int32} {p2 : Int32} {p3 : Int32} {p4 : Int32} {p5 : Int32} {y6 : Int32} {hi : pm_B} {Q : pm_Q} (h : ((p5 ≤ y6) → Q (some (.inl p5)) hi) ∧ ((¬ (p5 ≤ y6)) → ∃ k2 : Nat, k2 < 24 ∧ y6 = nI k2 ∧ (∃ k3 : Nat, k3 < 96 ∧ (((24 * p3) + p4) + y6) = nI k3 ∧ (pm_W pm_g (SH L) HR (d + 2) pm_t221 141 [some (.inr 141), some (.inl p1), some (.inl p2), some (.inl p3), some (.inl p4), some (.inl p5), some (.inl (y6 + 1))] [] (pm_u hi 159 k3 (hi 164 k2)) Q)))) : pm_W pm_g (SH L) HR (d + 2) pm_t221 141 [some (.inr 141), some (.inl p1), some (.inl p2), some (.inl p3), some (.inl p4), some (.inl p5), some (.inl y6)] [] hi Q := by
  refine pm_W_of 21 [104, 141] rfl ?_
  refine And.intro (fun c1 => ?_) (fun c1 => ?_)
  · replace h := h.1 c1
    refine And.intro trivial ?_
    exact h
  · replace h := h.2 c1
    refine And.intro sh_l141 ?_
    rw [hr_141_30]
    refine And.intro sh_l141 ?_
    rw [hr_141_35]
    obtain ⟨k2, hkk2, hek2, h⟩ := h
    refine And.intro (pm_ao_of (t := 0) sh_l164 hkk2 hek2 (by decide)) ?_
    rw [pm_tn hek2 hkk2 (by decide)]
    obtain ⟨k3, hkk3, hek3, h⟩ := h
    refine And.intro ⟨pm_aw_of sh_l159 hkk3 hek3 (by decide), trivial⟩ ?_
    rw [pm_tn hek3 hkk3 (by decide)]
    exact h
theorem v_M_lay {L d : Nat} {p1 : Int32} {p2 : Int32} {p3 : Int32} {hi : pm_B} {Q : pm_Q} (h : ((p1 < 0) → Q (some (.inl (-1000000001))) hi) ∧ ((¬ (p1 < 0)) → ((4 < p1) → Q (some (.inl (-1000000001))) hi) ∧ ((¬ (4 < p1)) → ((p2 < 0) → Q (some (.inl (-1000000001))) hi) ∧ ((¬ (p2 < 0)) → ((3 < p2) → Q (some (.inl (-1000000001))) hi) ∧ ((¬ (3 < p2)) → ((¬ p2 = 1) → ((¬ p2 = 2) → ((¬ p2 = 2) → ∃ k8 : Nat, k8 < 5 ∧ p1 = nI k8 ∧ (∃ k9 : Nat, k9 < 5 ∧ p1 = nI k9 ∧ (((¬ p2 = 1) → ((¬ p2 = 2) → ∃ k12 : Nat, k12 < 5 ∧ p1 = nI k12 ∧ (∀ hi13 : pm_B, hi13 = pm_u (pm_u hi 160 k9 p2) 161 k12 p3 → (((¬ p2 = 1) → ∃ k15 : Nat, k15 < 5 ∧ p1 = nI k15 ∧ (pm_W pm_g (SH L) HR (d + 2) pm_t222 134 [some (.inr 141), some (.inl p1), some (.inl p2), some (.inl p3), some (.inl (hi 160 k8)), some (.inl 0)] [] (pm_u hi13 162 k15 0) Q)) ∧ ((¬ (¬ p2 = 1)) → pm_C pm_g (SH L) HR (d + 2) m_M_worthOf [.inr 141, .inl p3] hi13 (fun v hi16 => ∃ x17 : Int32, v = some (.inl x17) ∧ (∃ k18 : Nat, k18 < 5 ∧ p1 = nI k18 ∧ (pm_W pm_g (SH L) HR (d + 2) pm_t222 134 [some (.inr 141), some (.inl p1), some (.inl p2), some (.inl p3), some (.inl (hi 160 k8)), some (.inl 0)] [] (pm_u hi16 162 k18 x17) Q))))))) ∧ ((¬ (¬ p2 = 2)) → ∃ k19 : Nat, k19 < 4 ∧ p3 = nI k19 ∧ (∃ k20 : Nat, k20 < 5 ∧ p1 = nI k20 ∧ (∀ hi21 : pm_B, hi21 = pm_u (pm_u hi 160 k9 p2) 161 k20 ((pm_u hi 160 k9 p2) 158 k19) → (((¬ p2 = 1) → ∃ k23 : Nat, k23 < 5 ∧ p1 = nI k23 ∧ (pm_W pm_g (SH L) HR (d + 2) pm_t222 134 [some (.inr 141), some (.inl p1), some (.inl p2), some (.inl p3), some (.inl (hi 160 k8)), some (.inl 0)] [] (pm_u hi21 162 k23 0) Q)) ∧ ((¬ (¬ p2 = 1)) → pm_C pm_g (SH L) HR (d + 2) m_M_worthOf [.inr 141, .inl p3] hi21 (fun v hi24 => ∃ x25 : Int32, v = some (.inl x25) ∧ (∃ k26 : Nat, k26 < 5 ∧ p1 = nI k26 ∧ (pm_W pm_g (SH L) HR (d + 2) pm_t222 134 [some (.inr 141), some (.inl p1), some (.inl p2), some (.inl p3), some (.inl (hi 160 k8)), some (.inl 0)] [] (pm_u hi24 162 k26 x25) Q))))))))) ∧ ((¬ (¬ p2 = 1)) → ∃ k27 : Nat, k27 < 1611 ∧ ((7 + (29 * p3)) + 0) = nI k27 ∧ (∃ k28 : Nat, k28 < 5 ∧ p1 = nI k28 ∧ (∀ hi29 : pm_B, hi29 = pm_u (pm_u hi 160 k9 p2) 161 k28 ((pm_u hi 160 k9 p2) 142 k27) → (((¬ p2 = 1) → ∃ k31 : Nat, k31 < 5 ∧ p1 = nI k31 ∧ (pm_W pm_g (SH L) HR (d + 2) pm_t222 134 [some (.inr 141), some (.inl p1), some (.inl p2), some (.inl p3), some (.inl (hi 160 k8)), some (.inl 0)] [] (pm_u hi29 162 k31 0) Q)) ∧ ((¬ (¬ p2 = 1)) → pm_C pm_g (SH L) HR (d + 2) m_M_worthOf [.inr 141, .inl p3] hi29 (fun v hi32 => ∃ x33 : Int32, v = some (.inl x33) ∧ (∃ k34 : Nat, k34 < 5 ∧ p1 = nI k34 ∧ (pm_W pm_g (SH L) HR (d + 2) pm_t222 134 [some (.inr 141), some (.inl p1), some (.inl p2), some (.inl p3), some (.inl (hi 160 k8)), some (.inl 0)] [] (pm_u hi32 162 k34 x33) Q))))))))))) ∧ ((¬ (¬ p2 = 2)) → ∃ k35 : Nat, k35 < 4 ∧ p3 = nI k35 ∧ (((0 ≤ (hi 157 k35)) → ∃ k37 : Nat, k37 < 5 ∧ p1 = nI k37 ∧ (∃ k38 : Nat, k38 < 5 ∧ p1 = nI k38 ∧ (((¬ p2 = 1) → ((¬ p2 = 2) → ∃ k41 : Nat, k41 < 5 ∧ p1 = nI k41 ∧ (∀ hi42 : pm_B, hi42 = pm_u (pm_u hi 160 k38 p2) 161 k41 p3 → (((¬ p2 = 1) → ∃ k44 : Nat, k44 < 5 ∧ p1 = nI k44 ∧ (pm_W pm_g (SH L) HR (d + 2) pm_t222 134 [some (.inr 141), some (.inl p1), some (.inl p2), some (.inl p3), some (.inl (hi 160 k37)), some (.inl 0)] [] (pm_u hi42 162 k44 0) Q)) ∧ ((¬ (¬ p2 = 1)) → pm_C pm_g (SH L) HR (d + 2) m_M_worthOf [.inr 141, .inl p3] hi42 (fun v hi45 => ∃ x46 : Int32, v = some (.inl x46) ∧ (∃ k47 : Nat, k47 < 5 ∧ p1 = nI k47 ∧ (pm_W pm_g (SH L) HR (d + 2) pm_t222 134 [some (.inr 141), some (.inl p1), some (.inl p2), some (.inl p3), some (.inl (hi 160 k37)), some (.inl 0)] [] (pm_u hi45 162 k47 x46) Q))))))) ∧ ((¬ (¬ p2 = 2)) → ∃ k48 : Nat, k48 < 4 ∧ p3 = nI k48 ∧ (∃ k49 : Nat, k49 < 5 ∧ p1 = nI k49 ∧ (∀ hi50 : pm_B, hi50 = pm_u (pm_u hi 160 k38 p2) 161 k49 ((pm_u hi 160 k38 p2) 158 k48) → (((¬ p2 = 1) → ∃ k52 : Nat, k52 < 5 ∧ p1 = nI k52 ∧ (pm_W pm_g (SH L) HR (d + 2) pm_t222 134 [some (.inr 141), some (.inl p1), some (.inl p2), some (.inl p3), some (.inl (hi 160 k37)), some (.inl 0)] [] (pm_u hi50 162 k52 0) Q)) ∧ ((¬ (¬ p2 = 1)) → pm_C pm_g (SH L) HR (d + 2) m_M_worthOf [.inr 141, .inl p3] hi50 (fun v hi53 => ∃ x54 : Int32, v = some (.inl x54) ∧ (∃ k55 : Nat, k55 < 5 ∧ p1 = nI k55 ∧ (pm_W pm_g (SH L) HR (d + 2) pm_t222 134 [some (.inr 141), some (.inl p1), some (.inl p2), some (.inl p3), some (.inl (hi 160 k37)), some (.inl 0)] [] (pm_u hi53 162 k55 x54) Q))))))))) ∧ ((¬ (¬ p2 = 1)) → ∃ k56 : Nat, k56 < 1611 ∧ ((7 + (29 * p3)) + 0) = nI k56 ∧ (∃ k57 : Nat, k57 < 5 ∧ p1 = nI k57 ∧ (∀ hi58 : pm_B, hi58 = pm_u (pm_u hi 160 k38 p2) 161 k57 ((pm_u hi 160 k38 p2) 142 k56) → (((¬ p2 = 1) → ∃ k60 : Nat, k60 < 5 ∧ p1 = nI k60 ∧ (pm_W pm_g (SH L) HR (d + 2) pm_t222 134 [some (.inr 141), some (.inl p1), some (.inl p2), some (.inl p3), some (.inl (hi 160 k37)), some (.inl 0)] [] (pm_u hi58 162 k60 0) Q)) ∧ ((¬ (¬ p2 = 1)) → pm_C pm_g (SH L) HR (d + 2) m_M_worthOf [.inr 141, .inl p3] hi58 (fun v hi61 => ∃ x62 : Int32, v = some (.inl x62) ∧ (∃ k63 : Nat, k63 < 5 ∧ p1 = nI k63 ∧ (pm_W pm_g (SH L) HR (d + 2) pm_t222 134 [some (.inr 141), some (.inl p1), some (.inl p2), some (.inl p3), some (.inl (hi 160 k37)), some (.inl 0)] [] (pm_u hi61 162 k63 x62) Q))))))))))) ∧ ((¬ (0 ≤ (hi 157 k35))) → Q (some (.inl (-1000000011))) hi)))) ∧ ((¬ (¬ p2 = 2)) → ((p3 < 0) → Q (some (.inl (-1000000001))) hi) ∧ ((¬ (p3 < 0)) → ((3 < p3) → Q (some (.inl (-1000000001))) hi) ∧ ((¬ (3 < p3)) → ((¬ p2 = 2) → ∃ k67 : Nat, k67 < 5 ∧ p1 = nI k67 ∧ (∃ k68 : Nat, k68 < 5 ∧ p1 = nI k68 ∧ (((¬ p2 = 1) → ((¬ p2 = 2) → ∃ k71 : Nat, k71 < 5 ∧ p1 = nI k71 ∧ (∀ hi72 : pm_B, hi72 = pm_u (pm_u hi 160 k68 p2) 161 k71 p3 → (((¬ p2 = 1) → ∃ k74 : Nat, k74 < 5 ∧ p1 = nI k74 ∧ (pm_W pm_g (SH L) HR (d + 2) pm_t222 134 [some (.inr 141), some (.inl p1), some (.inl p2), some (.inl p3), some (.inl (hi 160 k67)), some (.inl 0)] [] (pm_u hi72 162 k74 0) Q)) ∧ ((¬ (¬ p2 = 1)) → pm_C pm_g (SH L) HR (d + 2) m_M_worthOf [.inr 141, .inl p3] hi72 (fun v hi75 => ∃ x76 : Int32, v = some (.inl x76) ∧ (∃ k77 : Nat, k77 < 5 ∧ p1 = nI k77 ∧ (pm_W pm_g (SH L) HR (d + 2) pm_t222 134 [some (.inr 141), some (.inl p1), some (.inl p2), some (.inl p3), some (.inl (hi 160 k67)), some (.inl 0)] [] (pm_u hi75 162 k77 x76) Q))))))) ∧ ((¬ (¬ p2 = 2)) → ∃ k78 : Nat, k78 < 4 ∧ p3 = nI k78 ∧ (∃ k79 : Nat, k79 < 5 ∧ p1 = nI k79 ∧ (∀ hi80 : pm_B, hi80 = pm_u (pm_u hi 160 k68 p2) 161 k79 ((pm_u hi 160 k68 p2) 158 k78) → (((¬ p2 = 1) → ∃ k82 : Nat, k82 < 5 ∧ p1 = nI k82 ∧ (pm_W pm_g (SH L) HR (d + 2) pm_t222 134 [some (.inr 141), some (.inl p1), some (.inl p2), some (.inl p3), some (.inl (hi 160 k67)), some (.inl 0)] [] (pm_u hi80 162 k82 0) Q)) ∧ ((¬ (¬ p2 = 1)) → pm_C pm_g (SH L) HR (d + 2) m_M_worthOf [.inr 141, .inl p3] hi80 (fun v hi83 => ∃ x84 : Int32, v = some (.inl x84) ∧ (∃ k85 : Nat, k85 < 5 ∧ p1 = nI k85 ∧ (pm_W pm_g (SH L) HR (d + 2) pm_t222 134 [some (.inr 141), some (.inl p1), some (.inl p2), some (.inl p3), some (.inl (hi 160 k67)), some (.inl 0)] [] (pm_u hi83 162 k85 x84) Q))))))))) ∧ ((¬ (¬ p2 = 1)) → ∃ k86 : Nat, k86 < 1611 ∧ ((7 + (29 * p3)) + 0) = nI k86 ∧ (∃ k87 : Nat, k87 < 5 ∧ p1 = nI k87 ∧ (∀ hi88 : pm_B, hi88 = pm_u (pm_u hi 160 k68 p2) 161 k87 ((pm_u hi 160 k68 p2) 142 k86) → (((¬ p2 = 1) → ∃ k90 : Nat, k90 < 5 ∧ p1 = nI k90 ∧ (pm_W pm_g (SH L) HR (d + 2) pm_t222 134 [some (.inr 141), some (.inl p1), some (.inl p2), some (.inl p3), some (.inl (hi 160 k67)), some (.inl 0)] [] (pm_u hi88 162 k90 0) Q)) ∧ ((¬ (¬ p2 = 1)) → pm_C pm_g (SH L) HR (d + 2) m_M_worthOf [.inr 141, .inl p3] hi88 (fun v hi91 => ∃ x92 : Int32, v = some (.inl x92) ∧ (∃ k93 : Nat, k93 < 5 ∧ p1 = nI k93 ∧ (pm_W pm_g (SH L) HR (d + 2) pm_t222 134 [some (.inr 141), some (.inl p1), some (.inl p2), some (.inl p3), some (.inl (hi 160 k67)), some (.inl 0)] [] (pm_u hi91 162 k93 x92) Q))))))))))) ∧ ((¬ (¬ p2 = 2)) → ∃ k94 : Nat, k94 < 4 ∧ p3 = nI k94 ∧ (((0 ≤ (hi 157 k94)) → ∃ k96 : Nat, k96 < 5 ∧ p1 = nI k96 ∧ (∃ k97 : Nat, k97 < 5 ∧ p1 = nI k97 ∧ (((¬ p2 = 1) → ((¬ p2 = 2) → ∃ k100 : Nat, k100 < 5 ∧ p1 = nI k100 ∧ (∀ hi101 : pm_B, hi101 = pm_u (pm_u hi 160 k97 p2) 161 k100 p3 → (((¬ p2 = 1) → ∃ k103 : Nat, k103 < 5 ∧ p1 = nI k103 ∧ (pm_W pm_g (SH L) HR (d + 2) pm_t222 134 [some (.inr 141), some (.inl p1), some (.inl p2), some (.inl p3), some (.inl (hi 160 k96)), some (.inl 0)] [] (pm_u hi101 162 k103 0) Q)) ∧ ((¬ (¬ p2 = 1)) → pm_C pm_g (SH L) HR (d + 2) m_M_worthOf [.inr 141, .inl p3] hi101 (fun v hi104 => ∃ x105 : Int32, v = some (.inl x105) ∧ (∃ k106 : Nat, k106 < 5 ∧ p1 = nI k106 ∧ (pm_W pm_g (SH L) HR (d + 2) pm_t222 134 [some (.inr 141), some (.inl p1), some (.inl p2), some (.inl p3), some (.inl (hi 160 k96)), some (.inl 0)] [] (pm_u hi104 162 k106 x105) Q))))))) ∧ ((¬ (¬ p2 = 2)) → ∃ k107 : Nat, k107 < 4 ∧ p3 = nI k107 ∧ (∃ k108 : Nat, k108 < 5 ∧ p1 = nI k108 ∧ (∀ hi109 : pm_B, hi109 = pm_u (pm_u hi 160 k97 p2) 161 k108 ((pm_u hi 160 k97 p2) 158 k107) → (((¬ p2 = 1) → ∃ k111 : Nat, k111 < 5 ∧ p1 = nI k111 ∧ (pm_W pm_g (SH L) HR (d + 2) pm_t222 134 [some (.inr 141), some (.inl p1), some (.inl p2), some (.inl p3), some (.inl (hi 160 k96)), some (.inl 0)] [] (pm_u hi109 162 k111 0) Q)) ∧ ((¬ (¬ p2 = 1)) → pm_C pm_g (SH L) HR (d + 2) m_M_worthOf [.inr 141, .inl p3] hi109 (fun v hi112 => ∃ x113 : Int32, v = some (.inl x113) ∧ (∃ k114 : Nat, k114 < 5 ∧ p1 = nI k114 ∧ (pm_W pm_g (SH L) HR (d + 2) pm_t222 134 [some (.inr 141), some (.inl p1), some (.inl p2), some (.inl p3), some (.inl (hi 160 k96)), some (.inl 0)] [] (pm_u hi112 162 k114 x113) Q))))))))) ∧ ((¬ (¬ p2 = 1)) → ∃ k115 : Nat, k115 < 1611 ∧ ((7 + (29 * p3)) + 0) = nI k115 ∧ (∃ k116 : Nat, k116 < 5 ∧ p1 = nI k116 ∧ (∀ hi117 : pm_B, hi117 = pm_u (pm_u hi 160 k97 p2) 161 k116 ((pm_u hi 160 k97 p2) 142 k115) → (((¬ p2 = 1) → ∃ k119 : Nat, k119 < 5 ∧ p1 = nI k119 ∧ (pm_W pm_g (SH L) HR (d + 2) pm_t222 134 [some (.inr 141), some (.inl p1), some (.inl p2), some (.inl p3), some (.inl (hi 160 k96)), some (.inl 0)] [] (pm_u hi117 162 k119 0) Q)) ∧ ((¬ (¬ p2 = 1)) → pm_C pm_g (SH L) HR (d + 2) m_M_worthOf [.inr 141, .inl p3] hi117 (fun v hi120 => ∃ x121 : Int32, v = some (.inl x121) ∧ (∃ k122 : Nat, k122 < 5 ∧ p1 = nI k122 ∧ (pm_W pm_g (SH L) HR (d + 2) pm_t222 134 [some (.inr 141), some (.inl p1), some (.inl p2), some (.inl p3), some (.inl (hi 160 k96)), some (.inl 0)] [] (pm_u hi120 162 k122 x121) Q))))))))))) ∧ ((¬ (0 ≤ (hi 157 k94))) → Q (some (.inl (-1000000011))) hi))))))) ∧ ((¬ (¬ p2 = 1)) → ((p3 < 0) → Q (some (.inl (-1000000001))) hi) ∧ ((¬ (p3 < 0)) → ((((hi 142 1) - 1) < p3) → Q (some (.inl (-1000000001))) hi) ∧ ((¬ (((hi 142 1) - 1) < p3)) → ((¬ p2 = 2) → ((¬ p2 = 2) → ∃ k127 : Nat, k127 < 5 ∧ p1 = nI k127 ∧ (∃ k128 : Nat, k128 < 5 ∧ p1 = nI k128 ∧ (((¬ p2 = 1) → ((¬ p2 = 2) → ∃ k131 : Nat, k131 < 5 ∧ p1 = nI k131 ∧ (∀ hi132 : pm_B, hi132 = pm_u (pm_u hi 160 k128 p2) 161 k131 p3 → (((¬ p2 = 1) → ∃ k134 : Nat, k134 < 5 ∧ p1 = nI k134 ∧ (pm_W pm_g (SH L) HR (d + 2) pm_t222 134 [some (.inr 141), some (.inl p1), some (.inl p2), some (.inl p3), some (.inl (hi 160 k127)), some (.inl 0)] [] (pm_u hi132 162 k134 0) Q)) ∧ ((¬ (¬ p2 = 1)) → pm_C pm_g (SH L) HR (d + 2) m_M_worthOf [.inr 141, .inl p3] hi132 (fun v hi135 => ∃ x136 : Int32, v = some (.inl x136) ∧ (∃ k137 : Nat, k137 < 5 ∧ p1 = nI k137 ∧ (pm_W pm_g (SH L) HR (d + 2) pm_t222 134 [some (.inr 141), some (.inl p1), some (.inl p2), some (.inl p3), some (.inl (hi 160 k127)), some (.inl 0)] [] (pm_u hi135 162 k137 x136) Q))))))) ∧ ((¬ (¬ p2 = 2)) → ∃ k138 : Nat, k138 < 4 ∧ p3 = nI k138 ∧ (∃ k139 : Nat, k139 < 5 ∧ p1 = nI k139 ∧ (∀ hi140 : pm_B, hi140 = pm_u (pm_u hi 160 k128 p2) 161 k139 ((pm_u hi 160 k128 p2) 158 k138) → (((¬ p2 = 1) → ∃ k142 : Nat, k142 < 5 ∧ p1 = nI k142 ∧ (pm_W pm_g (SH L) HR (d + 2) pm_t222 134 [some (.inr 141), some (.inl p1), some (.inl p2), some (.inl p3), some (.inl (hi 160 k127)), some (.inl 0)] [] (pm_u hi140 162 k142 0) Q)) ∧ ((¬ (¬ p2 = 1)) → pm_C pm_g (SH L) HR (d + 2) m_M_worthOf [.inr 141, .inl p3] hi140 (fun v hi143 => ∃ x144 : Int32, v = some (.inl x144) ∧ (∃ k145 : Nat, k145 < 5 ∧ p1 = nI k145 ∧ (pm_W pm_g (SH L) HR (d + 2) pm_t222 134 [some (.inr 141), some (.inl p1), some (.inl p2), some (.inl p3), some (.inl (hi 160 k127)), some (.inl 0)] [] (pm_u hi143 162 k145 x144) Q))))))))) ∧ ((¬ (¬ p2 = 1)) → ∃ k146 : Nat, k146 < 1611 ∧ ((7 + (29 * p3)) + 0) = nI k146 ∧ (∃ k147 : Nat, k147 < 5 ∧ p1 = nI k147 ∧ (∀ hi148 : pm_B, hi148 = pm_u (pm_u hi 160 k128 p2) 161 k147 ((pm_u hi 160 k128 p2) 142 k146) → (((¬ p2 = 1) → ∃ k150 : Nat, k150 < 5 ∧ p1 = nI k150 ∧ (pm_W pm_g (SH L) HR (d + 2) pm_t222 134 [some (.inr 141), some (.inl p1), some (.inl p2), some (.inl p3), some (.inl (hi 160 k127)), some (.inl 0)] [] (pm_u hi148 162 k150 0) Q)) ∧ ((¬ (¬ p2 = 1)) → pm_C pm_g (SH L) HR (d + 2) m_M_worthOf [.inr 141, .inl p3] hi148 (fun v hi151 => ∃ x152 : Int32, v = some (.inl x152) ∧ (∃ k153 : Nat, k153 < 5 ∧ p1 = nI k153 ∧ (pm_W pm_g (SH L) HR (d + 2) pm_t222 134 [some (.inr 141), some (.inl p1), some (.inl p2), some (.inl p3), some (.inl (hi 160 k127)), some (.inl 0)] [] (pm_u hi151 162 k153 x152) Q))))))))))) ∧ ((¬ (¬ p2 = 2)) → ∃ k154 : Nat, k154 < 4 ∧ p3 = nI k154 ∧ (((0 ≤ (hi 157 k154)) → ∃ k156 : Nat, k156 < 5 ∧ p1 = nI k156 ∧ (∃ k157 : Nat, k157 < 5 ∧ p1 = nI k157 ∧ (((¬ p2 = 1) → ((¬ p2 = 2) → ∃ k160 : Nat, k160 < 5 ∧ p1 = nI k160 ∧ (∀ hi161 : pm_B, hi161 = pm_u (pm_u hi 160 k157 p2) 161 k160 p3 → (((¬ p2 = 1) → ∃ k163 : Nat, k163 < 5 ∧ p1 = nI k163 ∧ (pm_W pm_g (SH L) HR (d + 2) pm_t222 134 [some (.inr 141), some (.inl p1), some (.inl p2), some (.inl p3), some (.inl (hi 160 k156)), some (.inl 0)] [] (pm_u hi161 162 k163 0) Q)) ∧ ((¬ (¬ p2 = 1)) → pm_C pm_g (SH L) HR (d + 2) m_M_worthOf [.inr 141, .inl p3] hi161 (fun v hi164 => ∃ x165 : Int32, v = some (.inl x165) ∧ (∃ k166 : Nat, k166 < 5 ∧ p1 = nI k166 ∧ (pm_W pm_g (SH L) HR (d + 2) pm_t222 134 [some (.inr 141), some (.inl p1), some (.inl p2), some (.inl p3), some (.inl (hi 160 k156)), some (.inl 0)] [] (pm_u hi164 162 k166 x165) Q))))))) ∧ ((¬ (¬ p2 = 2)) → ∃ k167 : Nat, k167 < 4 ∧ p3 = nI k167 ∧ (∃ k168 : Nat, k168 < 5 ∧ p1 = nI k168 ∧ (∀ hi169 : pm_B, hi169 = pm_u (pm_u hi 160 k157 p2) 161 k168 ((pm_u hi 160 k157 p2) 158 k167) → (((¬ p2 = 1) → ∃ k171 : Nat, k171 < 5 ∧ p1 = nI k171 ∧ (pm_W pm_g (SH L) HR (d + 2) pm_t222 134 [some (.inr 141), some (.inl p1), some (.inl p2), some (.inl p3), some (.inl (hi 160 k156)), some (.inl 0)] [] (pm_u hi169 162 k171 0) Q)) ∧ ((¬ (¬ p2 = 1)) → pm_C pm_g (SH L) HR (d + 2) m_M_worthOf [.inr 141, .inl p3] hi169 (fun v hi172 => ∃ x173 : Int32, v = some (.inl x173) ∧ (∃ k174 : Nat, k174 < 5 ∧ p1 = nI k174 ∧ (pm_W pm_g (SH L) HR (d + 2) pm_t222 134 [some (.inr 141), some (.inl p1), some (.inl p2), some (.inl p3), some (.inl (hi 160 k156)), some (.inl 0)] [] (pm_u hi172 162 k174 x173) Q))))))))) ∧ ((¬ (¬ p2 = 1)) → ∃ k175 : Nat, k175 < 1611 ∧ ((7 + (29 * p3)) + 0) = nI k175 ∧ (∃ k176 : Nat, k176 < 5 ∧ p1 = nI k176 ∧ (∀ hi177 : pm_B, hi177 = pm_u (pm_u hi 160 k157 p2) 161 k176 ((pm_u hi 160 k157 p2) 142 k175) → (((¬ p2 = 1) → ∃ k179 : Nat, k179 < 5 ∧ p1 = nI k179 ∧ (pm_W pm_g (SH L) HR (d + 2) pm_t222 134 [some (.inr 141), some (.inl p1), some (.inl p2), some (.inl p3), some (.inl (hi 160 k156)), some (.inl 0)] [] (pm_u hi177 162 k179 0) Q)) ∧ ((¬ (¬ p2 = 1)) → pm_C pm_g (SH L) HR (d + 2) m_M_worthOf [.inr 141, .inl p3] hi177 (fun v hi180 => ∃ x181 : Int32, v = some (.inl x181) ∧ (∃ k182 : Nat, k182 < 5 ∧ p1 = nI k182 ∧ (pm_W pm_g (SH L) HR (d + 2) pm_t222 134 [some (.inr 141), some (.inl p1), some (.inl p2), some (.inl p3), some (.inl (hi 160 k156)), some (.inl 0)] [] (pm_u hi180 162 k182 x181) Q))))))))))) ∧ ((¬ (0 ≤ (hi 157 k154))) → Q (some (.inl (-1000000011))) hi)))) ∧ ((¬ (¬ p2 = 2)) → ((p3 < 0) → Q (some (.inl (-1000000001))) hi) ∧ ((¬ (p3 < 0)) → ((3 < p3) → Q (some (.inl (-1000000001))) hi) ∧ ((¬ (3 < p3)) → ((¬ p2 = 2) → ∃ k186 : Nat, k186 < 5 ∧ p1 = nI k186 ∧ (∃ k187 : Nat, k187 < 5 ∧ p1 = nI k187 ∧ (((¬ p2 = 1) → ((¬ p2 = 2) → ∃ k190 : Nat, k190 < 5 ∧ p1 = nI k190 ∧ (∀ hi191 : pm_B, hi191 = pm_u (pm_u hi 160 k187 p2) 161 k190 p3 → (((¬ p2 = 1) → ∃ k193 : Nat, k193 < 5 ∧ p1 = nI k193 ∧ (pm_W pm_g (SH L) HR (d + 2) pm_t222 134 [some (.inr 141), some (.inl p1), some (.inl p2), some (.inl p3), some (.inl (hi 160 k186)), some (.inl 0)] [] (pm_u hi191 162 k193 0) Q)) ∧ ((¬ (¬ p2 = 1)) → pm_C pm_g (SH L) HR (d + 2) m_M_worthOf [.inr 141, .inl p3] hi191 (fun v hi194 => ∃ x195 : Int32, v = some (.inl x195) ∧ (∃ k196 : Nat, k196 < 5 ∧ p1 = nI k196 ∧ (pm_W pm_g (SH L) HR (d + 2) pm_t222 134 [some (.inr 141), some (.inl p1), some (.inl p2), some (.inl p3), some (.inl (hi 160 k186)), some (.inl 0)] [] (pm_u hi194 162 k196 x195) Q))))))) ∧ ((¬ (¬ p2 = 2)) → ∃ k197 : Nat, k197 < 4 ∧ p3 = nI k197 ∧ (∃ k198 : Nat, k198 < 5 ∧ p1 = nI k198 ∧ (∀ hi199 : pm_B, hi199 = pm_u (pm_u hi 160 k187 p2) 161 k198 ((pm_u hi 160 k187 p2) 158 k197) → (((¬ p2 = 1) → ∃ k201 : Nat, k201 < 5 ∧ p1 = nI k201 ∧ (pm_W pm_g (SH L) HR (d + 2) pm_t222 134 [some (.inr 141), some (.inl p1), some (.inl p2), some (.inl p3), some (.inl (hi 160 k186)), some (.inl 0)] [] (pm_u hi199 162 k201 0) Q)) ∧ ((¬ (¬ p2 = 1)) → pm_C pm_g (SH L) HR (d + 2) m_M_worthOf [.inr 141, .inl p3] hi199 (fun v hi202 => ∃ x203 : Int32, v = some (.inl x203) ∧ (∃ k204 : Nat, k204 < 5 ∧ p1 = nI k204 ∧ (pm_W pm_g (SH L) HR (d + 2) pm_t222 134 [some (.inr 141), some (.inl p1), some (.inl p2), some (.inl p3), some (.inl (hi 160 k186)), some (.inl 0)] [] (pm_u hi202 162 k204 x203) Q))))))))) ∧ ((¬ (¬ p2 = 1)) → ∃ k205 : Nat, k205 < 1611 ∧ ((7 + (29 * p3)) + 0) = nI k205 ∧ (∃ k206 : Nat, k206 < 5 ∧ p1 = nI k206 ∧ (∀ hi207 : pm_B, hi207 = pm_u (pm_u hi 160 k187 p2) 161 k206 ((pm_u hi 160 k187 p2) 142 k205) → (((¬ p2 = 1) → ∃ k209 : Nat, k209 < 5 ∧ p1 = nI k209 ∧ (pm_W pm_g (SH L) HR (d + 2) pm_t222 134 [some (.inr 141), some (.inl p1), some (.inl p2), some (.inl p3), some (.inl (hi 160 k186)), some (.inl 0)] [] (pm_u hi207 162 k209 0) Q)) ∧ ((¬ (¬ p2 = 1)) → pm_C pm_g (SH L) HR (d + 2) m_M_worthOf [.inr 141, .inl p3] hi207 (fun v hi210 => ∃ x211 : Int32, v = some (.inl x211) ∧ (∃ k212 : Nat, k212 < 5 ∧ p1 = nI k212 ∧ (pm_W pm_g (SH L) HR (d + 2) pm_t222 134 [some (.inr 141), some (.inl p1), some (.inl p2), some (.inl p3), some (.inl (hi 160 k186)), some (.inl 0)] [] (pm_u hi210 162 k212 x211) Q))))))))))) ∧ ((¬ (¬ p2 = 2)) → ∃ k213 : Nat, k213 < 4 ∧ p3 = nI k213 ∧ (((0 ≤ (hi 157 k213)) → ∃ k215 : Nat, k215 < 5 ∧ p1 = nI k215 ∧ (∃ k216 : Nat, k216 < 5 ∧ p1 = nI k216 ∧ (((¬ p2 = 1) → ((¬ p2 = 2) → ∃ k219 : Nat, k219 < 5 ∧ p1 = nI k219 ∧ (∀ hi220 : pm_B, hi220 = pm_u (pm_u hi 160 k216 p2) 161 k219 p3 → (((¬ p2 = 1) → ∃ k222 : Nat, k222 < 5 ∧ p1 = nI k222 ∧ (pm_W pm_g (SH L) HR (d + 2) pm_t222 134 [some (.inr 141), some (.inl p1), some (.inl p2), some (.inl p3), some (.inl (hi 160 k215)), some (.inl 0)] [] (pm_u hi220 162 k222 0) Q)) ∧ ((¬ (¬ p2 = 1)) → pm_C pm_g (SH L) HR (d + 2) m_M_worthOf [.inr 141, .inl p3] hi220 (fun v hi223 => ∃ x224 : Int32, v = some (.inl x224) ∧ (∃ k225 : Nat, k225 < 5 ∧ p1 = nI k225 ∧ (pm_W pm_g (SH L) HR (d + 2) pm_t222 134 [some (.inr 141), some (.inl p1), some (.inl p2), some (.inl p3), some (.inl (hi 160 k215)), some (.inl 0)] [] (pm_u hi223 162 k225 x224) Q))))))) ∧ ((¬ (¬ p2 = 2)) → ∃ k226 : Nat, k226 < 4 ∧ p3 = nI k226 ∧ (∃ k227 : Nat, k227 < 5 ∧ p1 = nI k227 ∧ (∀ hi228 : pm_B, hi228 = pm_u (pm_u hi 160 k216 p2) 161 k227 ((pm_u hi 160 k216 p2) 158 k226) → (((¬ p2 = 1) → ∃ k230 : Nat, k230 < 5 ∧ p1 = nI k230 ∧ (pm_W pm_g (SH L) HR (d + 2) pm_t222 134 [some (.inr 141), some (.inl p1), some (.inl p2), some (.inl p3), some (.inl (hi 160 k215)), some (.inl 0)] [] (pm_u hi228 162 k230 0) Q)) ∧ ((¬ (¬ p2 = 1)) → pm_C pm_g (SH L) HR (d + 2) m_M_worthOf [.inr 141, .inl p3] hi228 (fun v hi231 => ∃ x232 : Int32, v = some (.inl x232) ∧ (∃ k233 : Nat, k233 < 5 ∧ p1 = nI k233 ∧ (pm_W pm_g (SH L) HR (d + 2) pm_t222 134 [some (.inr 141), some (.inl p1), some (.inl p2), some (.inl p3), some (.inl (hi 160 k215)), some (.inl 0)] [] (pm_u hi231 162 k233 x232) Q))))))))) ∧ ((¬ (¬ p2 = 1)) → ∃ k234 : Nat, k234 < 1611 ∧ ((7 + (29 * p3)) + 0) = nI k234 ∧ (∃ k235 : Nat, k235 < 5 ∧ p1 = nI k235 ∧ (∀ hi236 : pm_B, hi236 = pm_u (pm_u hi 160 k216 p2) 161 k235 ((pm_u hi 160 k216 p2) 142 k234) → (((¬ p2 = 1) → ∃ k238 : Nat, k238 < 5 ∧ p1 = nI k238 ∧ (pm_W pm_g (SH L) HR (d + 2) pm_t222 134 [some (.inr 141), some (.inl p1), some (.inl p2), some (.inl p3), some (.inl (hi 160 k215)), some (.inl 0)] [] (pm_u hi236 162 k238 0) Q)) ∧ ((¬ (¬ p2 = 1)) → pm_C pm_g (SH L) HR (d + 2) m_M_worthOf [.inr 141, .inl p3] hi236 (fun v hi239 => ∃ x240 : Int32, v = some (.inl x240) ∧ (∃ k241 : Nat, k241 < 5 ∧ p1 = nI k241 ∧ (pm_W pm_g (SH L) HR (d + 2) pm_t222 134 [some (.inr 141), some (.inl p1), some (.inl p2), some (.inl p3), some (.inl (hi 160 k215)), some (.inl 0)] [] (pm_u hi239 162 k241 x240) Q))))))))))) ∧ ((¬ (0 ≤ (hi 157 k213))) → Q (some (.inl (-1000000011))) hi)))))))))))))) : pm_C pm_g (SH L) HR (d + 3) m_M_lay [.inr 141, .inl p1, .inl p2, .inl p3] hi Q := by
  refine pm_C_of (maxL := 6) (t := pm_t222) rfl (Nat.le_of_ble_eq_true rfl) ?_
  refine pm_W_of 69 [134] rfl ?_
  refine And.intro trivial ?_
  refine v_M_isSlot (d := d)  ?_
  refine And.intro (fun c1 => ?_) (fun c1 => ?_)
  · replace h := h.1 c1
    refine ⟨_, rfl, ?_⟩
    refine And.intro (fun _ => ?_) (fun hc => absurd (pm_cd_t (by decide)) hc)
    refine And.intro trivial ?_
    exact h
  · replace h := h.2 c1
    refine And.intro (fun c2 => ?_) (fun c2 => ?_)
    · replace h := h.1 c2
      refine ⟨_, rfl, ?_⟩
      refine And.intro (fun _ => ?_) (fun hc => absurd (pm_cd_t (by decide)) hc)
      refine And.intro trivial ?_
      exact h
    · replace h := h.2 c2
      refine ⟨_, rfl, ?_⟩
      refine And.intro (fun hc => absurd hc (pm_cd_f (by decide))) (fun _ => ?_)
      refine And.intro trivial ?_
      refine v_M_in (d := d + 1)  ?_
      refine And.intro (fun c3 => ?_) (fun c3 => ?_)
      · replace h := h.1 c3
        refine ⟨_, rfl, ?_⟩
        refine And.intro (fun _ => ?_) (fun hc => absurd (pm_cd_t (by decide)) hc)
        refine And.intro trivial ?_
        exact h
      · replace h := h.2 c3
        refine And.intro (fun c4 => ?_) (fun c4 => ?_)
        · replace h := h.1 c4
          refine ⟨_, rfl, ?_⟩
          refine And.intro (fun _ => ?_) (fun hc => absurd (pm_cd_t (by decide)) hc)
          refine And.intro trivial ?_
          exact h
        · replace h := h.2 c4
          refine ⟨_, rfl, ?_⟩
          refine And.intro (fun hc => absurd hc (pm_cd_f (by decide))) (fun _ => ?_)
          refine And.intro (fun c5 => ?_) (fun c5 => ?_)
          · replace h := h.1 c5
            refine And.intro (fun c6 => ?_) (fun c6 => ?_)
            · replace h := h.1 c6
              refine And.intro (fun c7 => ?_) (fun c7 => ?_)
              · replace h := h.1 c7
                refine And.intro sh_l141 ?_
                rw [hr_141_31]
                obtain ⟨k8, hkk8, hek8, h⟩ := h
                refine And.intro (pm_ao_of (t := 0) sh_l160 hkk8 hek8 (by decide)) ?_
                rw [pm_tn hek8 hkk8 (by decide)]
                refine And.intro sh_l141 ?_
                rw [hr_141_31]
                obtain ⟨k9, hkk9, hek9, h⟩ := h
                refine And.intro ⟨pm_aw_of sh_l160 hkk9 hek9 (by decide), trivial⟩ ?_
                rw [pm_tn hek9 hkk9 (by decide)]
                refine And.intro sh_l141 ?_
                rw [hr_141_32]
                refine And.intro (fun c10 => ?_) (fun c10 => ?_)
                · replace h := h.1 c10
                  refine And.intro (fun c11 => ?_) (fun c11 => ?_)
                  · replace h := h.1 c11
                    obtain ⟨k12, hkk12, hek12, h⟩ := h
                    refine And.intro ⟨pm_aw_of sh_l161 hkk12 hek12 (by decide), trivial⟩ ?_
                    rw [pm_tn hek12 hkk12 (by decide)]
                    obtain ⟨hi13, ehi13⟩ : ∃ m : pm_B, m = pm_u (pm_u hi 160 k9 p2) 161 k12 p3 := ⟨_, rfl⟩
                    replace h := h hi13 ehi13
                    rw [← ehi13]
                    refine And.intro sh_l141 ?_
                    rw [hr_141_33]
                    refine And.intro (fun c14 => ?_) (fun c14 => ?_)
                    · replace h := h.1 c14
                      obtain ⟨k15, hkk15, hek15, h⟩ := h
                      refine And.intro ⟨pm_aw_of sh_l162 hkk15 hek15 (by decide), trivial⟩ ?_
                      rw [pm_tn hek15 hkk15 (by decide)]
                      exact h
                    · replace h := h.2 c14
                      refine And.intro sh_l141 ?_
                      refine pm_C_imp h (fun v hi16 h => ?_)
                      obtain ⟨x17, rfl, h⟩ := h
                      refine ⟨_, rfl, ?_⟩
                      obtain ⟨k18, hkk18, hek18, h⟩ := h
                      refine And.intro ⟨pm_aw_of sh_l162 hkk18 hek18 (by decide), trivial⟩ ?_
                      rw [pm_tn hek18 hkk18 (by decide)]
                      exact h
                  · replace h := h.2 c11
                    refine And.intro sh_l141 ?_
                    rw [hr_141_29]
                    obtain ⟨k19, hkk19, hek19, h⟩ := h
                    refine And.intro (pm_ao_of (t := 0) sh_l158 hkk19 hek19 (by decide)) ?_
                    rw [pm_tn hek19 hkk19 (by decide)]
                    obtain ⟨k20, hkk20, hek20, h⟩ := h
                    refine And.intro ⟨pm_aw_of sh_l161 hkk20 hek20 (by decide), trivial⟩ ?_
                    rw [pm_tn hek20 hkk20 (by decide)]
                    obtain ⟨hi21, ehi21⟩ : ∃ m : pm_B, m = pm_u (pm_u hi 160 k9 p2) 161 k20 ((pm_u hi 160 k9 p2) 158 k19) := ⟨_, rfl⟩
                    replace h := h hi21 ehi21
                    rw [← ehi21]
                    refine And.intro sh_l141 ?_
                    rw [hr_141_33]
                    refine And.intro (fun c22 => ?_) (fun c22 => ?_)
                    · replace h := h.1 c22
                      obtain ⟨k23, hkk23, hek23, h⟩ := h
                      refine And.intro ⟨pm_aw_of sh_l162 hkk23 hek23 (by decide), trivial⟩ ?_
                      rw [pm_tn hek23 hkk23 (by decide)]
                      exact h
                    · replace h := h.2 c22
                      refine And.intro sh_l141 ?_
                      refine pm_C_imp h (fun v hi24 h => ?_)
                      obtain ⟨x25, rfl, h⟩ := h
                      refine ⟨_, rfl, ?_⟩
                      obtain ⟨k26, hkk26, hek26, h⟩ := h
                      refine And.intro ⟨pm_aw_of sh_l162 hkk26 hek26 (by decide), trivial⟩ ?_
                      rw [pm_tn hek26 hkk26 (by decide)]
                      exact h
                · replace h := h.2 c10
                  refine And.intro sh_l141 ?_
                  refine v_M_of (d := d + 1)  ?_
                  obtain ⟨k27, hkk27, hek27, h⟩ := h
                  refine ⟨k27, hkk27, hek27, ?_⟩
                  refine ⟨_, rfl, ?_⟩
                  obtain ⟨k28, hkk28, hek28, h⟩ := h
                  refine And.intro ⟨pm_aw_of sh_l161 hkk28 hek28 (by decide), trivial⟩ ?_
                  rw [pm_tn hek28 hkk28 (by decide)]
                  obtain ⟨hi29, ehi29⟩ : ∃ m : pm_B, m = pm_u (pm_u hi 160 k9 p2) 161 k28 ((pm_u hi 160 k9 p2) 142 k27) := ⟨_, rfl⟩
                  replace h := h hi29 ehi29
                  rw [← ehi29]
                  refine And.intro sh_l141 ?_
                  rw [hr_141_33]
                  refine And.intro (fun c30 => ?_) (fun c30 => ?_)
                  · replace h := h.1 c30
                    obtain ⟨k31, hkk31, hek31, h⟩ := h
                    refine And.intro ⟨pm_aw_of sh_l162 hkk31 hek31 (by decide), trivial⟩ ?_
                    rw [pm_tn hek31 hkk31 (by decide)]
                    exact h
                  · replace h := h.2 c30
                    refine And.intro sh_l141 ?_
                    refine pm_C_imp h (fun v hi32 h => ?_)
                    obtain ⟨x33, rfl, h⟩ := h
                    refine ⟨_, rfl, ?_⟩
                    obtain ⟨k34, hkk34, hek34, h⟩ := h
                    refine And.intro ⟨pm_aw_of sh_l162 hkk34 hek34 (by decide), trivial⟩ ?_
                    rw [pm_tn hek34 hkk34 (by decide)]
                    exact h
              · replace h := h.2 c7
                refine And.intro sh_l141 ?_
                rw [hr_141_28]
                obtain ⟨k35, hkk35, hek35, h⟩ := h
                refine And.intro (pm_ao_of (t := 0) sh_l157 hkk35 hek35 (by decide)) ?_
                rw [pm_tn hek35 hkk35 (by decide)]
                refine And.intro (fun c36 => ?_) (fun c36 => ?_)
                · replace h := h.1 c36
                  refine And.intro sh_l141 ?_
                  rw [hr_141_31]
                  obtain ⟨k37, hkk37, hek37, h⟩ := h
                  refine And.intro (pm_ao_of (t := 0) sh_l160 hkk37 hek37 (by decide)) ?_
                  rw [pm_tn hek37 hkk37 (by decide)]
                  refine And.intro sh_l141 ?_
                  rw [hr_141_31]
                  obtain ⟨k38, hkk38, hek38, h⟩ := h
                  refine And.intro ⟨pm_aw_of sh_l160 hkk38 hek38 (by decide), trivial⟩ ?_
                  rw [pm_tn hek38 hkk38 (by decide)]
                  refine And.intro sh_l141 ?_
                  rw [hr_141_32]
                  refine And.intro (fun c39 => ?_) (fun c39 => ?_)
                  · replace h := h.1 c39
                    refine And.intro (fun c40 => ?_) (fun c40 => ?_)
                    · replace h := h.1 c40
                      obtain ⟨k41, hkk41, hek41, h⟩ := h
                      refine And.intro ⟨pm_aw_of sh_l161 hkk41 hek41 (by decide), trivial⟩ ?_
                      rw [pm_tn hek41 hkk41 (by decide)]
                      obtain ⟨hi42, ehi42⟩ : ∃ m : pm_B, m = pm_u (pm_u hi 160 k38 p2) 161 k41 p3 := ⟨_, rfl⟩
                      replace h := h hi42 ehi42
                      rw [← ehi42]
                      refine And.intro sh_l141 ?_
                      rw [hr_141_33]
                      refine And.intro (fun c43 => ?_) (fun c43 => ?_)
                      · replace h := h.1 c43
                        obtain ⟨k44, hkk44, hek44, h⟩ := h
                        refine And.intro ⟨pm_aw_of sh_l162 hkk44 hek44 (by decide), trivial⟩ ?_
                        rw [pm_tn hek44 hkk44 (by decide)]
                        exact h
                      · replace h := h.2 c43
                        refine And.intro sh_l141 ?_
                        refine pm_C_imp h (fun v hi45 h => ?_)
                        obtain ⟨x46, rfl, h⟩ := h
                        refine ⟨_, rfl, ?_⟩
                        obtain ⟨k47, hkk47, hek47, h⟩ := h
                        refine And.intro ⟨pm_aw_of sh_l162 hkk47 hek47 (by decide), trivial⟩ ?_
                        rw [pm_tn hek47 hkk47 (by decide)]
                        exact h
                    · replace h := h.2 c40
                      refine And.intro sh_l141 ?_
                      rw [hr_141_29]
                      obtain ⟨k48, hkk48, hek48, h⟩ := h
                      refine And.intro (pm_ao_of (t := 0) sh_l158 hkk48 hek48 (by decide)) ?_
                      rw [pm_tn hek48 hkk48 (by decide)]
                      obtain ⟨k49, hkk49, hek49, h⟩ := h
                      refine And.intro ⟨pm_aw_of sh_l161 hkk49 hek49 (by decide), trivial⟩ ?_
                      rw [pm_tn hek49 hkk49 (by decide)]
                      obtain ⟨hi50, ehi50⟩ : ∃ m : pm_B, m = pm_u (pm_u hi 160 k38 p2) 161 k49 ((pm_u hi 160 k38 p2) 158 k48) := ⟨_, rfl⟩
                      replace h := h hi50 ehi50
                      rw [← ehi50]
                      refine And.intro sh_l141 ?_
                      rw [hr_141_33]
                      refine And.intro (fun c51 => ?_) (fun c51 => ?_)
                      · replace h := h.1 c51
                        obtain ⟨k52, hkk52, hek52, h⟩ := h
                        refine And.intro ⟨pm_aw_of sh_l162 hkk52 hek52 (by decide), trivial⟩ ?_
                        rw [pm_tn hek52 hkk52 (by decide)]
                        exact h
                      · replace h := h.2 c51
                        refine And.intro sh_l141 ?_
                        refine pm_C_imp h (fun v hi53 h => ?_)
                        obtain ⟨x54, rfl, h⟩ := h
                        refine ⟨_, rfl, ?_⟩
                        obtain ⟨k55, hkk55, hek55, h⟩ := h
                        refine And.intro ⟨pm_aw_of sh_l162 hkk55 hek55 (by decide), trivial⟩ ?_
                        rw [pm_tn hek55 hkk55 (by decide)]
                        exact h
                  · replace h := h.2 c39
                    refine And.intro sh_l141 ?_
                    refine v_M_of (d := d + 1)  ?_
                    obtain ⟨k56, hkk56, hek56, h⟩ := h
                    refine ⟨k56, hkk56, hek56, ?_⟩
                    refine ⟨_, rfl, ?_⟩
                    obtain ⟨k57, hkk57, hek57, h⟩ := h
                    refine And.intro ⟨pm_aw_of sh_l161 hkk57 hek57 (by decide), trivial⟩ ?_
                    rw [pm_tn hek57 hkk57 (by decide)]
                    obtain ⟨hi58, ehi58⟩ : ∃ m : pm_B, m = pm_u (pm_u hi 160 k38 p2) 161 k57 ((pm_u hi 160 k38 p2) 142 k56) := ⟨_, rfl⟩
                    replace h := h hi58 ehi58
                    rw [← ehi58]
                    refine And.intro sh_l141 ?_
                    rw [hr_141_33]
                    refine And.intro (fun c59 => ?_) (fun c59 => ?_)
                    · replace h := h.1 c59
                      obtain ⟨k60, hkk60, hek60, h⟩ := h
                      refine And.intro ⟨pm_aw_of sh_l162 hkk60 hek60 (by decide), trivial⟩ ?_
                      rw [pm_tn hek60 hkk60 (by decide)]
                      exact h
                    · replace h := h.2 c59
                      refine And.intro sh_l141 ?_
                      refine pm_C_imp h (fun v hi61 h => ?_)
                      obtain ⟨x62, rfl, h⟩ := h
                      refine ⟨_, rfl, ?_⟩
                      obtain ⟨k63, hkk63, hek63, h⟩ := h
                      refine And.intro ⟨pm_aw_of sh_l162 hkk63 hek63 (by decide), trivial⟩ ?_
                      rw [pm_tn hek63 hkk63 (by decide)]
                      exact h
                · replace h := h.2 c36
                  refine And.intro trivial ?_
                  exact h
            · replace h := h.2 c6
              refine And.intro trivial ?_
              refine v_M_isSheet (d := d)  ?_
              refine And.intro (fun c64 => ?_) (fun c64 => ?_)
              · replace h := h.1 c64
                refine ⟨_, rfl, ?_⟩
                refine And.intro (fun hc => absurd hc (pm_cd_f (by decide))) (fun _ => ?_)
                refine And.intro trivial ?_
                exact h
              · replace h := h.2 c64
                refine And.intro (fun c65 => ?_) (fun c65 => ?_)
                · replace h := h.1 c65
                  refine ⟨_, rfl, ?_⟩
                  refine And.intro (fun hc => absurd hc (pm_cd_f (by decide))) (fun _ => ?_)
                  refine And.intro trivial ?_
                  exact h
                · replace h := h.2 c65
                  refine ⟨_, rfl, ?_⟩
                  refine And.intro (fun _ => ?_) (fun hc => absurd (pm_cd_t (by decide)) hc)
                  refine And.intro (fun c66 => ?_) (fun c66 => ?_)
                  · replace h := h.1 c66
                    refine And.intro sh_l141 ?_
                    rw [hr_141_31]
                    obtain ⟨k67, hkk67, hek67, h⟩ := h
                    refine And.intro (pm_ao_of (t := 0) sh_l160 hkk67 hek67 (by decide)) ?_
                    rw [pm_tn hek67 hkk67 (by decide)]
                    refine And.intro sh_l141 ?_
                    rw [hr_141_31]
                    obtain ⟨k68, hkk68, hek68, h⟩ := h
                    refine And.intro ⟨pm_aw_of sh_l160 hkk68 hek68 (by decide), trivial⟩ ?_
                    rw [pm_tn hek68 hkk68 (by decide)]
                    refine And.intro sh_l141 ?_
                    rw [hr_141_32]
                    refine And.intro (fun c69 => ?_) (fun c69 => ?_)
                    · replace h := h.1 c69
                      refine And.intro (fun c70 => ?_) (fun c70 => ?_)
                      · replace h := h.1 c70
                        obtain ⟨k71, hkk71, hek71, h⟩ := h
                        refine And.intro ⟨pm_aw_of sh_l161 hkk71 hek71 (by decide), trivial⟩ ?_
                        rw [pm_tn hek71 hkk71 (by decide)]
                        obtain ⟨hi72, ehi72⟩ : ∃ m : pm_B, m = pm_u (pm_u hi 160 k68 p2) 161 k71 p3 := ⟨_, rfl⟩
                        replace h := h hi72 ehi72
                        rw [← ehi72]
                        refine And.intro sh_l141 ?_
                        rw [hr_141_33]
                        refine And.intro (fun c73 => ?_) (fun c73 => ?_)
                        · replace h := h.1 c73
                          obtain ⟨k74, hkk74, hek74, h⟩ := h
                          refine And.intro ⟨pm_aw_of sh_l162 hkk74 hek74 (by decide), trivial⟩ ?_
                          rw [pm_tn hek74 hkk74 (by decide)]
                          exact h
                        · replace h := h.2 c73
                          refine And.intro sh_l141 ?_
                          refine pm_C_imp h (fun v hi75 h => ?_)
                          obtain ⟨x76, rfl, h⟩ := h
                          refine ⟨_, rfl, ?_⟩
                          obtain ⟨k77, hkk77, hek77, h⟩ := h
                          refine And.intro ⟨pm_aw_of sh_l162 hkk77 hek77 (by decide), trivial⟩ ?_
                          rw [pm_tn hek77 hkk77 (by decide)]
                          exact h
                      · replace h := h.2 c70
                        refine And.intro sh_l141 ?_
                        rw [hr_141_29]
                        obtain ⟨k78, hkk78, hek78, h⟩ := h
                        refine And.intro (pm_ao_of (t := 0) sh_l158 hkk78 hek78 (by decide)) ?_
                        rw [pm_tn hek78 hkk78 (by decide)]
                        obtain ⟨k79, hkk79, hek79, h⟩ := h
                        refine And.intro ⟨pm_aw_of sh_l161 hkk79 hek79 (by decide), trivial⟩ ?_
                        rw [pm_tn hek79 hkk79 (by decide)]
                        obtain ⟨hi80, ehi80⟩ : ∃ m : pm_B, m = pm_u (pm_u hi 160 k68 p2) 161 k79 ((pm_u hi 160 k68 p2) 158 k78) := ⟨_, rfl⟩
                        replace h := h hi80 ehi80
                        rw [← ehi80]
                        refine And.intro sh_l141 ?_
                        rw [hr_141_33]
                        refine And.intro (fun c81 => ?_) (fun c81 => ?_)
                        · replace h := h.1 c81
                          obtain ⟨k82, hkk82, hek82, h⟩ := h
                          refine And.intro ⟨pm_aw_of sh_l162 hkk82 hek82 (by decide), trivial⟩ ?_
                          rw [pm_tn hek82 hkk82 (by decide)]
                          exact h
                        · replace h := h.2 c81
                          refine And.intro sh_l141 ?_
                          refine pm_C_imp h (fun v hi83 h => ?_)
                          obtain ⟨x84, rfl, h⟩ := h
                          refine ⟨_, rfl, ?_⟩
                          obtain ⟨k85, hkk85, hek85, h⟩ := h
                          refine And.intro ⟨pm_aw_of sh_l162 hkk85 hek85 (by decide), trivial⟩ ?_
                          rw [pm_tn hek85 hkk85 (by decide)]
                          exact h
                    · replace h := h.2 c69
                      refine And.intro sh_l141 ?_
                      refine v_M_of (d := d + 1)  ?_
                      obtain ⟨k86, hkk86, hek86, h⟩ := h
                      refine ⟨k86, hkk86, hek86, ?_⟩
                      refine ⟨_, rfl, ?_⟩
                      obtain ⟨k87, hkk87, hek87, h⟩ := h
                      refine And.intro ⟨pm_aw_of sh_l161 hkk87 hek87 (by decide), trivial⟩ ?_
                      rw [pm_tn hek87 hkk87 (by decide)]
                      obtain ⟨hi88, ehi88⟩ : ∃ m : pm_B, m = pm_u (pm_u hi 160 k68 p2) 161 k87 ((pm_u hi 160 k68 p2) 142 k86) := ⟨_, rfl⟩
                      replace h := h hi88 ehi88
                      rw [← ehi88]
                      refine And.intro sh_l141 ?_
                      rw [hr_141_33]
                      refine And.intro (fun c89 => ?_) (fun c89 => ?_)
                      · replace h := h.1 c89
                        obtain ⟨k90, hkk90, hek90, h⟩ := h
                        refine And.intro ⟨pm_aw_of sh_l162 hkk90 hek90 (by decide), trivial⟩ ?_
                        rw [pm_tn hek90 hkk90 (by decide)]
                        exact h
                      · replace h := h.2 c89
                        refine And.intro sh_l141 ?_
                        refine pm_C_imp h (fun v hi91 h => ?_)
                        obtain ⟨x92, rfl, h⟩ := h
                        refine ⟨_, rfl, ?_⟩
                        obtain ⟨k93, hkk93, hek93, h⟩ := h
                        refine And.intro ⟨pm_aw_of sh_l162 hkk93 hek93 (by decide), trivial⟩ ?_
                        rw [pm_tn hek93 hkk93 (by decide)]
                        exact h
                  · replace h := h.2 c66
                    refine And.intro sh_l141 ?_
                    rw [hr_141_28]
                    obtain ⟨k94, hkk94, hek94, h⟩ := h
                    refine And.intro (pm_ao_of (t := 0) sh_l157 hkk94 hek94 (by decide)) ?_
                    rw [pm_tn hek94 hkk94 (by decide)]
                    refine And.intro (fun c95 => ?_) (fun c95 => ?_)
                    · replace h := h.1 c95
                      refine And.intro sh_l141 ?_
                      rw [hr_141_31]
                      obtain ⟨k96, hkk96, hek96, h⟩ := h
                      refine And.intro (pm_ao_of (t := 0) sh_l160 hkk96 hek96 (by decide)) ?_
                      rw [pm_tn hek96 hkk96 (by decide)]
                      refine And.intro sh_l141 ?_
                      rw [hr_141_31]
                      obtain ⟨k97, hkk97, hek97, h⟩ := h
                      refine And.intro ⟨pm_aw_of sh_l160 hkk97 hek97 (by decide), trivial⟩ ?_
                      rw [pm_tn hek97 hkk97 (by decide)]
                      refine And.intro sh_l141 ?_
                      rw [hr_141_32]
                      refine And.intro (fun c98 => ?_) (fun c98 => ?_)
                      · replace h := h.1 c98
                        refine And.intro (fun c99 => ?_) (fun c99 => ?_)
                        · replace h := h.1 c99
                          obtain ⟨k100, hkk100, hek100, h⟩ := h
                          refine And.intro ⟨pm_aw_of sh_l161 hkk100 hek100 (by decide), trivial⟩ ?_
                          rw [pm_tn hek100 hkk100 (by decide)]
                          obtain ⟨hi101, ehi101⟩ : ∃ m : pm_B, m = pm_u (pm_u hi 160 k97 p2) 161 k100 p3 := ⟨_, rfl⟩
                          replace h := h hi101 ehi101
                          rw [← ehi101]
                          refine And.intro sh_l141 ?_
                          rw [hr_141_33]
                          refine And.intro (fun c102 => ?_) (fun c102 => ?_)
                          · replace h := h.1 c102
                            obtain ⟨k103, hkk103, hek103, h⟩ := h
                            refine And.intro ⟨pm_aw_of sh_l162 hkk103 hek103 (by decide), trivial⟩ ?_
                            rw [pm_tn hek103 hkk103 (by decide)]
                            exact h
                          · replace h := h.2 c102
                            refine And.intro sh_l141 ?_
                            refine pm_C_imp h (fun v hi104 h => ?_)
                            obtain ⟨x105, rfl, h⟩ := h
                            refine ⟨_, rfl, ?_⟩
                            obtain ⟨k106, hkk106, hek106, h⟩ := h
                            refine And.intro ⟨pm_aw_of sh_l162 hkk106 hek106 (by decide), trivial⟩ ?_
                            rw [pm_tn hek106 hkk106 (by decide)]
                            exact h
                        · replace h := h.2 c99
                          refine And.intro sh_l141 ?_
                          rw [hr_141_29]
                          obtain ⟨k107, hkk107, hek107, h⟩ := h
                          refine And.intro (pm_ao_of (t := 0) sh_l158 hkk107 hek107 (by decide)) ?_
                          rw [pm_tn hek107 hkk107 (by decide)]
                          obtain ⟨k108, hkk108, hek108, h⟩ := h
                          refine And.intro ⟨pm_aw_of sh_l161 hkk108 hek108 (by decide), trivial⟩ ?_
                          rw [pm_tn hek108 hkk108 (by decide)]
                          obtain ⟨hi109, ehi109⟩ : ∃ m : pm_B, m = pm_u (pm_u hi 160 k97 p2) 161 k108 ((pm_u hi 160 k97 p2) 158 k107) := ⟨_, rfl⟩
                          replace h := h hi109 ehi109
                          rw [← ehi109]
                          refine And.intro sh_l141 ?_
                          rw [hr_141_33]
                          refine And.intro (fun c110 => ?_) (fun c110 => ?_)
                          · replace h := h.1 c110
                            obtain ⟨k111, hkk111, hek111, h⟩ := h
                            refine And.intro ⟨pm_aw_of sh_l162 hkk111 hek111 (by decide), trivial⟩ ?_
                            rw [pm_tn hek111 hkk111 (by decide)]
                            exact h
                          · replace h := h.2 c110
                            refine And.intro sh_l141 ?_
                            refine pm_C_imp h (fun v hi112 h => ?_)
                            obtain ⟨x113, rfl, h⟩ := h
                            refine ⟨_, rfl, ?_⟩
                            obtain ⟨k114, hkk114, hek114, h⟩ := h
                            refine And.intro ⟨pm_aw_of sh_l162 hkk114 hek114 (by decide), trivial⟩ ?_
                            rw [pm_tn hek114 hkk114 (by decide)]
                            exact h
                      · replace h := h.2 c98
                        refine And.intro sh_l141 ?_
                        refine v_M_of (d := d + 1)  ?_
                        obtain ⟨k115, hkk115, hek115, h⟩ := h
                        refine ⟨k115, hkk115, hek115, ?_⟩
                        refine ⟨_, rfl, ?_⟩
                        obtain ⟨k116, hkk116, hek116, h⟩ := h
                        refine And.intro ⟨pm_aw_of sh_l161 hkk116 hek116 (by decide), trivial⟩ ?_
                        rw [pm_tn hek116 hkk116 (by decide)]
                        obtain ⟨hi117, ehi117⟩ : ∃ m : pm_B, m = pm_u (pm_u hi 160 k97 p2) 161 k116 ((pm_u hi 160 k97 p2) 142 k115) := ⟨_, rfl⟩
                        replace h := h hi117 ehi117
                        rw [← ehi117]
                        refine And.intro sh_l141 ?_
                        rw [hr_141_33]
                        refine And.intro (fun c118 => ?_) (fun c118 => ?_)
                        · replace h := h.1 c118
                          obtain ⟨k119, hkk119, hek119, h⟩ := h
                          refine And.intro ⟨pm_aw_of sh_l162 hkk119 hek119 (by decide), trivial⟩ ?_
                          rw [pm_tn hek119 hkk119 (by decide)]
                          exact h
                        · replace h := h.2 c118
                          refine And.intro sh_l141 ?_
                          refine pm_C_imp h (fun v hi120 h => ?_)
                          obtain ⟨x121, rfl, h⟩ := h
                          refine ⟨_, rfl, ?_⟩
                          obtain ⟨k122, hkk122, hek122, h⟩ := h
                          refine And.intro ⟨pm_aw_of sh_l162 hkk122 hek122 (by decide), trivial⟩ ?_
                          rw [pm_tn hek122 hkk122 (by decide)]
                          exact h
                    · replace h := h.2 c95
                      refine And.intro trivial ?_
                      exact h
          · replace h := h.2 c5
            refine And.intro sh_l141 ?_
            refine v_M_isSpeaker (d := d)  ?_
            refine And.intro (fun c123 => ?_) (fun c123 => ?_)
            · replace h := h.1 c123
              refine ⟨_, rfl, ?_⟩
              refine And.intro (fun _ => ?_) (fun hc => absurd (pm_cd_t (by decide)) hc)
              refine And.intro trivial ?_
              exact h
            · replace h := h.2 c123
              refine And.intro (fun c124 => ?_) (fun c124 => ?_)
              · replace h := h.1 c124
                refine ⟨_, rfl, ?_⟩
                refine And.intro (fun _ => ?_) (fun hc => absurd (pm_cd_t (by decide)) hc)
                refine And.intro trivial ?_
                exact h
              · replace h := h.2 c124
                refine ⟨_, rfl, ?_⟩
                refine And.intro (fun hc => absurd hc (pm_cd_f (by decide))) (fun _ => ?_)
                refine And.intro (fun c125 => ?_) (fun c125 => ?_)
                · replace h := h.1 c125
                  refine And.intro (fun c126 => ?_) (fun c126 => ?_)
                  · replace h := h.1 c126
                    refine And.intro sh_l141 ?_
                    rw [hr_141_31]
                    obtain ⟨k127, hkk127, hek127, h⟩ := h
                    refine And.intro (pm_ao_of (t := 0) sh_l160 hkk127 hek127 (by decide)) ?_
                    rw [pm_tn hek127 hkk127 (by decide)]
                    refine And.intro sh_l141 ?_
                    rw [hr_141_31]
                    obtain ⟨k128, hkk128, hek128, h⟩ := h
                    refine And.intro ⟨pm_aw_of sh_l160 hkk128 hek128 (by decide), trivial⟩ ?_
                    rw [pm_tn hek128 hkk128 (by decide)]
                    refine And.intro sh_l141 ?_
                    rw [hr_141_32]
                    refine And.intro (fun c129 => ?_) (fun c129 => ?_)
                    · replace h := h.1 c129
                      refine And.intro (fun c130 => ?_) (fun c130 => ?_)
                      · replace h := h.1 c130
                        obtain ⟨k131, hkk131, hek131, h⟩ := h
                        refine And.intro ⟨pm_aw_of sh_l161 hkk131 hek131 (by decide), trivial⟩ ?_
                        rw [pm_tn hek131 hkk131 (by decide)]
                        obtain ⟨hi132, ehi132⟩ : ∃ m : pm_B, m = pm_u (pm_u hi 160 k128 p2) 161 k131 p3 := ⟨_, rfl⟩
                        replace h := h hi132 ehi132
                        rw [← ehi132]
                        refine And.intro sh_l141 ?_
                        rw [hr_141_33]
                        refine And.intro (fun c133 => ?_) (fun c133 => ?_)
                        · replace h := h.1 c133
                          obtain ⟨k134, hkk134, hek134, h⟩ := h
                          refine And.intro ⟨pm_aw_of sh_l162 hkk134 hek134 (by decide), trivial⟩ ?_
                          rw [pm_tn hek134 hkk134 (by decide)]
                          exact h
                        · replace h := h.2 c133
                          refine And.intro sh_l141 ?_
                          refine pm_C_imp h (fun v hi135 h => ?_)
                          obtain ⟨x136, rfl, h⟩ := h
                          refine ⟨_, rfl, ?_⟩
                          obtain ⟨k137, hkk137, hek137, h⟩ := h
                          refine And.intro ⟨pm_aw_of sh_l162 hkk137 hek137 (by decide), trivial⟩ ?_
                          rw [pm_tn hek137 hkk137 (by decide)]
                          exact h
                      · replace h := h.2 c130
                        refine And.intro sh_l141 ?_
                        rw [hr_141_29]
                        obtain ⟨k138, hkk138, hek138, h⟩ := h
                        refine And.intro (pm_ao_of (t := 0) sh_l158 hkk138 hek138 (by decide)) ?_
                        rw [pm_tn hek138 hkk138 (by decide)]
                        obtain ⟨k139, hkk139, hek139, h⟩ := h
                        refine And.intro ⟨pm_aw_of sh_l161 hkk139 hek139 (by decide), trivial⟩ ?_
                        rw [pm_tn hek139 hkk139 (by decide)]
                        obtain ⟨hi140, ehi140⟩ : ∃ m : pm_B, m = pm_u (pm_u hi 160 k128 p2) 161 k139 ((pm_u hi 160 k128 p2) 158 k138) := ⟨_, rfl⟩
                        replace h := h hi140 ehi140
                        rw [← ehi140]
                        refine And.intro sh_l141 ?_
                        rw [hr_141_33]
                        refine And.intro (fun c141 => ?_) (fun c141 => ?_)
                        · replace h := h.1 c141
                          obtain ⟨k142, hkk142, hek142, h⟩ := h
                          refine And.intro ⟨pm_aw_of sh_l162 hkk142 hek142 (by decide), trivial⟩ ?_
                          rw [pm_tn hek142 hkk142 (by decide)]
                          exact h
                        · replace h := h.2 c141
                          refine And.intro sh_l141 ?_
                          refine pm_C_imp h (fun v hi143 h => ?_)
                          obtain ⟨x144, rfl, h⟩ := h
                          refine ⟨_, rfl, ?_⟩
                          obtain ⟨k145, hkk145, hek145, h⟩ := h
                          refine And.intro ⟨pm_aw_of sh_l162 hkk145 hek145 (by decide), trivial⟩ ?_
                          rw [pm_tn hek145 hkk145 (by decide)]
                          exact h
                    · replace h := h.2 c129
                      refine And.intro sh_l141 ?_
                      refine v_M_of (d := d + 1)  ?_
                      obtain ⟨k146, hkk146, hek146, h⟩ := h
                      refine ⟨k146, hkk146, hek146, ?_⟩
                      refine ⟨_, rfl, ?_⟩
                      obtain ⟨k147, hkk147, hek147, h⟩ := h
                      refine And.intro ⟨pm_aw_of sh_l161 hkk147 hek147 (by decide), trivial⟩ ?_
                      rw [pm_tn hek147 hkk147 (by decide)]
                      obtain ⟨hi148, ehi148⟩ : ∃ m : pm_B, m = pm_u (pm_u hi 160 k128 p2) 161 k147 ((pm_u hi 160 k128 p2) 142 k146) := ⟨_, rfl⟩
                      replace h := h hi148 ehi148
                      rw [← ehi148]
                      refine And.intro sh_l141 ?_
                      rw [hr_141_33]
                      refine And.intro (fun c149 => ?_) (fun c149 => ?_)
                      · replace h := h.1 c149
                        obtain ⟨k150, hkk150, hek150, h⟩ := h
                        refine And.intro ⟨pm_aw_of sh_l162 hkk150 hek150 (by decide), trivial⟩ ?_
                        rw [pm_tn hek150 hkk150 (by decide)]
                        exact h
                      · replace h := h.2 c149
                        refine And.intro sh_l141 ?_
                        refine pm_C_imp h (fun v hi151 h => ?_)
                        obtain ⟨x152, rfl, h⟩ := h
                        refine ⟨_, rfl, ?_⟩
                        obtain ⟨k153, hkk153, hek153, h⟩ := h
                        refine And.intro ⟨pm_aw_of sh_l162 hkk153 hek153 (by decide), trivial⟩ ?_
                        rw [pm_tn hek153 hkk153 (by decide)]
                        exact h
                  · replace h := h.2 c126
                    refine And.intro sh_l141 ?_
                    rw [hr_141_28]
                    obtain ⟨k154, hkk154, hek154, h⟩ := h
                    refine And.intro (pm_ao_of (t := 0) sh_l157 hkk154 hek154 (by decide)) ?_
                    rw [pm_tn hek154 hkk154 (by decide)]
                    refine And.intro (fun c155 => ?_) (fun c155 => ?_)
                    · replace h := h.1 c155
                      refine And.intro sh_l141 ?_
                      rw [hr_141_31]
                      obtain ⟨k156, hkk156, hek156, h⟩ := h
                      refine And.intro (pm_ao_of (t := 0) sh_l160 hkk156 hek156 (by decide)) ?_
                      rw [pm_tn hek156 hkk156 (by decide)]
                      refine And.intro sh_l141 ?_
                      rw [hr_141_31]
                      obtain ⟨k157, hkk157, hek157, h⟩ := h
                      refine And.intro ⟨pm_aw_of sh_l160 hkk157 hek157 (by decide), trivial⟩ ?_
                      rw [pm_tn hek157 hkk157 (by decide)]
                      refine And.intro sh_l141 ?_
                      rw [hr_141_32]
                      refine And.intro (fun c158 => ?_) (fun c158 => ?_)
                      · replace h := h.1 c158
                        refine And.intro (fun c159 => ?_) (fun c159 => ?_)
                        · replace h := h.1 c159
                          obtain ⟨k160, hkk160, hek160, h⟩ := h
                          refine And.intro ⟨pm_aw_of sh_l161 hkk160 hek160 (by decide), trivial⟩ ?_
                          rw [pm_tn hek160 hkk160 (by decide)]
                          obtain ⟨hi161, ehi161⟩ : ∃ m : pm_B, m = pm_u (pm_u hi 160 k157 p2) 161 k160 p3 := ⟨_, rfl⟩
                          replace h := h hi161 ehi161
                          rw [← ehi161]
                          refine And.intro sh_l141 ?_
                          rw [hr_141_33]
                          refine And.intro (fun c162 => ?_) (fun c162 => ?_)
                          · replace h := h.1 c162
                            obtain ⟨k163, hkk163, hek163, h⟩ := h
                            refine And.intro ⟨pm_aw_of sh_l162 hkk163 hek163 (by decide), trivial⟩ ?_
                            rw [pm_tn hek163 hkk163 (by decide)]
                            exact h
                          · replace h := h.2 c162
                            refine And.intro sh_l141 ?_
                            refine pm_C_imp h (fun v hi164 h => ?_)
                            obtain ⟨x165, rfl, h⟩ := h
                            refine ⟨_, rfl, ?_⟩
                            obtain ⟨k166, hkk166, hek166, h⟩ := h
                            refine And.intro ⟨pm_aw_of sh_l162 hkk166 hek166 (by decide), trivial⟩ ?_
                            rw [pm_tn hek166 hkk166 (by decide)]
                            exact h
                        · replace h := h.2 c159
                          refine And.intro sh_l141 ?_
                          rw [hr_141_29]
                          obtain ⟨k167, hkk167, hek167, h⟩ := h
                          refine And.intro (pm_ao_of (t := 0) sh_l158 hkk167 hek167 (by decide)) ?_
                          rw [pm_tn hek167 hkk167 (by decide)]
                          obtain ⟨k168, hkk168, hek168, h⟩ := h
                          refine And.intro ⟨pm_aw_of sh_l161 hkk168 hek168 (by decide), trivial⟩ ?_
                          rw [pm_tn hek168 hkk168 (by decide)]
                          obtain ⟨hi169, ehi169⟩ : ∃ m : pm_B, m = pm_u (pm_u hi 160 k157 p2) 161 k168 ((pm_u hi 160 k157 p2) 158 k167) := ⟨_, rfl⟩
                          replace h := h hi169 ehi169
                          rw [← ehi169]
                          refine And.intro sh_l141 ?_
                          rw [hr_141_33]
                          refine And.intro (fun c170 => ?_) (fun c170 => ?_)
                          · replace h := h.1 c170
                            obtain ⟨k171, hkk171, hek171, h⟩ := h
                            refine And.intro ⟨pm_aw_of sh_l162 hkk171 hek171 (by decide), trivial⟩ ?_
                            rw [pm_tn hek171 hkk171 (by decide)]
                            exact h
                          · replace h := h.2 c170
                            refine And.intro sh_l141 ?_
                            refine pm_C_imp h (fun v hi172 h => ?_)
                            obtain ⟨x173, rfl, h⟩ := h
                            refine ⟨_, rfl, ?_⟩
                            obtain ⟨k174, hkk174, hek174, h⟩ := h
                            refine And.intro ⟨pm_aw_of sh_l162 hkk174 hek174 (by decide), trivial⟩ ?_
                            rw [pm_tn hek174 hkk174 (by decide)]
                            exact h
                      · replace h := h.2 c158
                        refine And.intro sh_l141 ?_
                        refine v_M_of (d := d + 1)  ?_
                        obtain ⟨k175, hkk175, hek175, h⟩ := h
                        refine ⟨k175, hkk175, hek175, ?_⟩
                        refine ⟨_, rfl, ?_⟩
                        obtain ⟨k176, hkk176, hek176, h⟩ := h
                        refine And.intro ⟨pm_aw_of sh_l161 hkk176 hek176 (by decide), trivial⟩ ?_
                        rw [pm_tn hek176 hkk176 (by decide)]
                        obtain ⟨hi177, ehi177⟩ : ∃ m : pm_B, m = pm_u (pm_u hi 160 k157 p2) 161 k176 ((pm_u hi 160 k157 p2) 142 k175) := ⟨_, rfl⟩
                        replace h := h hi177 ehi177
                        rw [← ehi177]
                        refine And.intro sh_l141 ?_
                        rw [hr_141_33]
                        refine And.intro (fun c178 => ?_) (fun c178 => ?_)
                        · replace h := h.1 c178
                          obtain ⟨k179, hkk179, hek179, h⟩ := h
                          refine And.intro ⟨pm_aw_of sh_l162 hkk179 hek179 (by decide), trivial⟩ ?_
                          rw [pm_tn hek179 hkk179 (by decide)]
                          exact h
                        · replace h := h.2 c178
                          refine And.intro sh_l141 ?_
                          refine pm_C_imp h (fun v hi180 h => ?_)
                          obtain ⟨x181, rfl, h⟩ := h
                          refine ⟨_, rfl, ?_⟩
                          obtain ⟨k182, hkk182, hek182, h⟩ := h
                          refine And.intro ⟨pm_aw_of sh_l162 hkk182 hek182 (by decide), trivial⟩ ?_
                          rw [pm_tn hek182 hkk182 (by decide)]
                          exact h
                    · replace h := h.2 c155
                      refine And.intro trivial ?_
                      exact h
                · replace h := h.2 c125
                  refine And.intro trivial ?_
                  refine v_M_isSheet (d := d)  ?_
                  refine And.intro (fun c183 => ?_) (fun c183 => ?_)
                  · replace h := h.1 c183
                    refine ⟨_, rfl, ?_⟩
                    refine And.intro (fun hc => absurd hc (pm_cd_f (by decide))) (fun _ => ?_)
                    refine And.intro trivial ?_
                    exact h
                  · replace h := h.2 c183
                    refine And.intro (fun c184 => ?_) (fun c184 => ?_)
                    · replace h := h.1 c184
                      refine ⟨_, rfl, ?_⟩
                      refine And.intro (fun hc => absurd hc (pm_cd_f (by decide))) (fun _ => ?_)
                      refine And.intro trivial ?_
                      exact h
                    · replace h := h.2 c184
                      refine ⟨_, rfl, ?_⟩
                      refine And.intro (fun _ => ?_) (fun hc => absurd (pm_cd_t (by decide)) hc)
                      refine And.intro (fun c185 => ?_) (fun c185 => ?_)
                      · replace h := h.1 c185
                        refine And.intro sh_l141 ?_
                        rw [hr_141_31]
                        obtain ⟨k186, hkk186, hek186, h⟩ := h
                        refine And.intro (pm_ao_of (t := 0) sh_l160 hkk186 hek186 (by decide)) ?_
                        rw [pm_tn hek186 hkk186 (by decide)]
                        refine And.intro sh_l141 ?_
                        rw [hr_141_31]
                        obtain ⟨k187, hkk187, hek187, h⟩ := h
                        refine And.intro ⟨pm_aw_of sh_l160 hkk187 hek187 (by decide), trivial⟩ ?_
                        rw [pm_tn hek187 hkk187 (by decide)]
                        refine And.intro sh_l141 ?_
                        rw [hr_141_32]
                        refine And.intro (fun c188 => ?_) (fun c188 => ?_)
                        · replace h := h.1 c188
                          refine And.intro (fun c189 => ?_) (fun c189 => ?_)
                          · replace h := h.1 c189
                            obtain ⟨k190, hkk190, hek190, h⟩ := h
                            refine And.intro ⟨pm_aw_of sh_l161 hkk190 hek190 (by decide), trivial⟩ ?_
                            rw [pm_tn hek190 hkk190 (by decide)]
                            obtain ⟨hi191, ehi191⟩ : ∃ m : pm_B, m = pm_u (pm_u hi 160 k187 p2) 161 k190 p3 := ⟨_, rfl⟩
                            replace h := h hi191 ehi191
                            rw [← ehi191]
                            refine And.intro sh_l141 ?_
                            rw [hr_141_33]
                            refine And.intro (fun c192 => ?_) (fun c192 => ?_)
                            · replace h := h.1 c192
                              obtain ⟨k193, hkk193, hek193, h⟩ := h
                              refine And.intro ⟨pm_aw_of sh_l162 hkk193 hek193 (by decide), trivial⟩ ?_
                              rw [pm_tn hek193 hkk193 (by decide)]
                              exact h
                            · replace h := h.2 c192
                              refine And.intro sh_l141 ?_
                              refine pm_C_imp h (fun v hi194 h => ?_)
                              obtain ⟨x195, rfl, h⟩ := h
                              refine ⟨_, rfl, ?_⟩
                              obtain ⟨k196, hkk196, hek196, h⟩ := h
                              refine And.intro ⟨pm_aw_of sh_l162 hkk196 hek196 (by decide), trivial⟩ ?_
                              rw [pm_tn hek196 hkk196 (by decide)]
                              exact h
                          · replace h := h.2 c189
                            refine And.intro sh_l141 ?_
                            rw [hr_141_29]
                            obtain ⟨k197, hkk197, hek197, h⟩ := h
                            refine And.intro (pm_ao_of (t := 0) sh_l158 hkk197 hek197 (by decide)) ?_
                            rw [pm_tn hek197 hkk197 (by decide)]
                            obtain ⟨k198, hkk198, hek198, h⟩ := h
                            refine And.intro ⟨pm_aw_of sh_l161 hkk198 hek198 (by decide), trivial⟩ ?_
                            rw [pm_tn hek198 hkk198 (by decide)]
                            obtain ⟨hi199, ehi199⟩ : ∃ m : pm_B, m = pm_u (pm_u hi 160 k187 p2) 161 k198 ((pm_u hi 160 k187 p2) 158 k197) := ⟨_, rfl⟩
                            replace h := h hi199 ehi199
                            rw [← ehi199]
                            refine And.intro sh_l141 ?_
                            rw [hr_141_33]
                            refine And.intro (fun c200 => ?_) (fun c200 => ?_)
                            · replace h := h.1 c200
                              obtain ⟨k201, hkk201, hek201, h⟩ := h
                              refine And.intro ⟨pm_aw_of sh_l162 hkk201 hek201 (by decide), trivial⟩ ?_
                              rw [pm_tn hek201 hkk201 (by decide)]
                              exact h
                            · replace h := h.2 c200
                              refine And.intro sh_l141 ?_
                              refine pm_C_imp h (fun v hi202 h => ?_)
                              obtain ⟨x203, rfl, h⟩ := h
                              refine ⟨_, rfl, ?_⟩
                              obtain ⟨k204, hkk204, hek204, h⟩ := h
                              refine And.intro ⟨pm_aw_of sh_l162 hkk204 hek204 (by decide), trivial⟩ ?_
                              rw [pm_tn hek204 hkk204 (by decide)]
                              exact h
                        · replace h := h.2 c188
                          refine And.intro sh_l141 ?_
                          refine v_M_of (d := d + 1)  ?_
                          obtain ⟨k205, hkk205, hek205, h⟩ := h
                          refine ⟨k205, hkk205, hek205, ?_⟩
                          refine ⟨_, rfl, ?_⟩
                          obtain ⟨k206, hkk206, hek206, h⟩ := h
                          refine And.intro ⟨pm_aw_of sh_l161 hkk206 hek206 (by decide), trivial⟩ ?_
                          rw [pm_tn hek206 hkk206 (by decide)]
                          obtain ⟨hi207, ehi207⟩ : ∃ m : pm_B, m = pm_u (pm_u hi 160 k187 p2) 161 k206 ((pm_u hi 160 k187 p2) 142 k205) := ⟨_, rfl⟩
                          replace h := h hi207 ehi207
                          rw [← ehi207]
                          refine And.intro sh_l141 ?_
                          rw [hr_141_33]
                          refine And.intro (fun c208 => ?_) (fun c208 => ?_)
                          · replace h := h.1 c208
                            obtain ⟨k209, hkk209, hek209, h⟩ := h
                            refine And.intro ⟨pm_aw_of sh_l162 hkk209 hek209 (by decide), trivial⟩ ?_
                            rw [pm_tn hek209 hkk209 (by decide)]
                            exact h
                          · replace h := h.2 c208
                            refine And.intro sh_l141 ?_
                            refine pm_C_imp h (fun v hi210 h => ?_)
                            obtain ⟨x211, rfl, h⟩ := h
                            refine ⟨_, rfl, ?_⟩
                            obtain ⟨k212, hkk212, hek212, h⟩ := h
                            refine And.intro ⟨pm_aw_of sh_l162 hkk212 hek212 (by decide), trivial⟩ ?_
                            rw [pm_tn hek212 hkk212 (by decide)]
                            exact h
                      · replace h := h.2 c185
                        refine And.intro sh_l141 ?_
                        rw [hr_141_28]
                        obtain ⟨k213, hkk213, hek213, h⟩ := h
                        refine And.intro (pm_ao_of (t := 0) sh_l157 hkk213 hek213 (by decide)) ?_
                        rw [pm_tn hek213 hkk213 (by decide)]
                        refine And.intro (fun c214 => ?_) (fun c214 => ?_)
                        · replace h := h.1 c214
                          refine And.intro sh_l141 ?_
                          rw [hr_141_31]
                          obtain ⟨k215, hkk215, hek215, h⟩ := h
                          refine And.intro (pm_ao_of (t := 0) sh_l160 hkk215 hek215 (by decide)) ?_
                          rw [pm_tn hek215 hkk215 (by decide)]
                          refine And.intro sh_l141 ?_
                          rw [hr_141_31]
                          obtain ⟨k216, hkk216, hek216, h⟩ := h
                          refine And.intro ⟨pm_aw_of sh_l160 hkk216 hek216 (by decide), trivial⟩ ?_
                          rw [pm_tn hek216 hkk216 (by decide)]
                          refine And.intro sh_l141 ?_
                          rw [hr_141_32]
                          refine And.intro (fun c217 => ?_) (fun c217 => ?_)
                          · replace h := h.1 c217
                            refine And.intro (fun c218 => ?_) (fun c218 => ?_)
                            · replace h := h.1 c218
                              obtain ⟨k219, hkk219, hek219, h⟩ := h
                              refine And.intro ⟨pm_aw_of sh_l161 hkk219 hek219 (by decide), trivial⟩ ?_
                              rw [pm_tn hek219 hkk219 (by decide)]
                              obtain ⟨hi220, ehi220⟩ : ∃ m : pm_B, m = pm_u (pm_u hi 160 k216 p2) 161 k219 p3 := ⟨_, rfl⟩
                              replace h := h hi220 ehi220
                              rw [← ehi220]
                              refine And.intro sh_l141 ?_
                              rw [hr_141_33]
                              refine And.intro (fun c221 => ?_) (fun c221 => ?_)
                              · replace h := h.1 c221
                                obtain ⟨k222, hkk222, hek222, h⟩ := h
                                refine And.intro ⟨pm_aw_of sh_l162 hkk222 hek222 (by decide), trivial⟩ ?_
                                rw [pm_tn hek222 hkk222 (by decide)]
                                exact h
                              · replace h := h.2 c221
                                refine And.intro sh_l141 ?_
                                refine pm_C_imp h (fun v hi223 h => ?_)
                                obtain ⟨x224, rfl, h⟩ := h
                                refine ⟨_, rfl, ?_⟩
                                obtain ⟨k225, hkk225, hek225, h⟩ := h
                                refine And.intro ⟨pm_aw_of sh_l162 hkk225 hek225 (by decide), trivial⟩ ?_
                                rw [pm_tn hek225 hkk225 (by decide)]
                                exact h
                            · replace h := h.2 c218
                              refine And.intro sh_l141 ?_
                              rw [hr_141_29]
                              obtain ⟨k226, hkk226, hek226, h⟩ := h
                              refine And.intro (pm_ao_of (t := 0) sh_l158 hkk226 hek226 (by decide)) ?_
                              rw [pm_tn hek226 hkk226 (by decide)]
                              obtain ⟨k227, hkk227, hek227, h⟩ := h
                              refine And.intro ⟨pm_aw_of sh_l161 hkk227 hek227 (by decide), trivial⟩ ?_
                              rw [pm_tn hek227 hkk227 (by decide)]
                              obtain ⟨hi228, ehi228⟩ : ∃ m : pm_B, m = pm_u (pm_u hi 160 k216 p2) 161 k227 ((pm_u hi 160 k216 p2) 158 k226) := ⟨_, rfl⟩
                              replace h := h hi228 ehi228
                              rw [← ehi228]
                              refine And.intro sh_l141 ?_
                              rw [hr_141_33]
                              refine And.intro (fun c229 => ?_) (fun c229 => ?_)
                              · replace h := h.1 c229
                                obtain ⟨k230, hkk230, hek230, h⟩ := h
                                refine And.intro ⟨pm_aw_of sh_l162 hkk230 hek230 (by decide), trivial⟩ ?_
                                rw [pm_tn hek230 hkk230 (by decide)]
                                exact h
                              · replace h := h.2 c229
                                refine And.intro sh_l141 ?_
                                refine pm_C_imp h (fun v hi231 h => ?_)
                                obtain ⟨x232, rfl, h⟩ := h
                                refine ⟨_, rfl, ?_⟩
                                obtain ⟨k233, hkk233, hek233, h⟩ := h
                                refine And.intro ⟨pm_aw_of sh_l162 hkk233 hek233 (by decide), trivial⟩ ?_
                                rw [pm_tn hek233 hkk233 (by decide)]
                                exact h
                          · replace h := h.2 c217
                            refine And.intro sh_l141 ?_
                            refine v_M_of (d := d + 1)  ?_
                            obtain ⟨k234, hkk234, hek234, h⟩ := h
                            refine ⟨k234, hkk234, hek234, ?_⟩
                            refine ⟨_, rfl, ?_⟩
                            obtain ⟨k235, hkk235, hek235, h⟩ := h
                            refine And.intro ⟨pm_aw_of sh_l161 hkk235 hek235 (by decide), trivial⟩ ?_
                            rw [pm_tn hek235 hkk235 (by decide)]
                            obtain ⟨hi236, ehi236⟩ : ∃ m : pm_B, m = pm_u (pm_u hi 160 k216 p2) 161 k235 ((pm_u hi 160 k216 p2) 142 k234) := ⟨_, rfl⟩
                            replace h := h hi236 ehi236
                            rw [← ehi236]
                            refine And.intro sh_l141 ?_
                            rw [hr_141_33]
                            refine And.intro (fun c237 => ?_) (fun c237 => ?_)
                            · replace h := h.1 c237
                              obtain ⟨k238, hkk238, hek238, h⟩ := h
                              refine And.intro ⟨pm_aw_of sh_l162 hkk238 hek238 (by decide), trivial⟩ ?_
                              rw [pm_tn hek238 hkk238 (by decide)]
                              exact h
                            · replace h := h.2 c237
                              refine And.intro sh_l141 ?_
                              refine pm_C_imp h (fun v hi239 h => ?_)
                              obtain ⟨x240, rfl, h⟩ := h
                              refine ⟨_, rfl, ?_⟩
                              obtain ⟨k241, hkk241, hek241, h⟩ := h
                              refine And.intro ⟨pm_aw_of sh_l162 hkk241 hek241 (by decide), trivial⟩ ?_
                              rw [pm_tn hek241 hkk241 (by decide)]
                              exact h
                        · replace h := h.2 c214
                          refine And.intro trivial ?_
                          exact h
theorem v_M_lay_134 {L d : Nat}  {p1 : Int32} {p2 : Int32} {p3 : Int32} {y4 : Int32} {y5 : Int32} {hi : pm_B} {Q : pm_Q} (h : ((24 ≤ y5) → Q (some (.inl y4)) hi) ∧ ((¬ (24 ≤ y5)) → ((¬ p2 = 2) → Q (some (.inl y4)) hi) ∧ ((¬ (¬ p2 = 2)) → ∃ k3 : Nat, k3 < 96 ∧ ((24 * p3) + y5) = nI k3 ∧ (∃ k4 : Nat, k4 < 120 ∧ ((24 * p1) + y5) = nI k4 ∧ (pm_W pm_g (SH L) HR (d + 2) pm_t222 134 [some (.inr 141), some (.inl p1), some (.inl p2), some (.inl p3), some (.inl y4), some (.inl (y5 + 1))] [] (pm_u hi 163 k4 (hi 159 k3)) Q))))) : pm_W pm_g (SH L) HR (d + 2) pm_t222 134 [some (.inr 141), some (.inl p1), some (.inl p2), some (.inl p3), some (.inl y4), some (.inl y5)] [] hi Q := by
  refine pm_W_of 26 [134] rfl ?_
  refine And.intro (fun c1 => ?_) (fun c1 => ?_)
  · replace h := h.1 c1
    refine And.intro trivial ?_
    exact h
  · replace h := h.2 c1
    refine And.intro (fun c2 => ?_) (fun c2 => ?_)
    · replace h := h.1 c2
      refine And.intro trivial ?_
      exact h
    · replace h := h.2 c2
      refine And.intro sh_l141 ?_
      rw [hr_141_34]
      refine And.intro sh_l141 ?_
      rw [hr_141_30]
      obtain ⟨k3, hkk3, hek3, h⟩ := h
      refine And.intro (pm_ao_of (t := 0) sh_l159 hkk3 hek3 (by decide)) ?_
      rw [pm_tn hek3 hkk3 (by decide)]
      obtain ⟨k4, hkk4, hek4, h⟩ := h
      refine And.intro ⟨pm_aw_of sh_l163 hkk4 hek4 (by decide), trivial⟩ ?_
      rw [pm_tn hek4 hkk4 (by decide)]
      exact h
theorem v_M_ask {L d : Nat} {p1 : Int32} {p2 : Int32} {hi : pm_B} {Q : pm_Q} (h : ((p1 < 0) → Q (some (.inl (-1000000001))) hi) ∧ ((¬ (p1 < 0)) → ((4 < p1) → Q (some (.inl (-1000000001))) hi) ∧ ((¬ (4 < p1)) → ((p2 < 0) → Q (some (.inl (-1000000001))) hi) ∧ ((¬ (p2 < 0)) → ((5 < p2) → Q (some (.inl (-1000000001))) hi) ∧ ((¬ (5 < p2)) → ∃ k5 : Nat, k5 < 5 ∧ p1 = nI k5 ∧ (((¬ (hi 160 k5) = 0) → ∃ k7 : Nat, k7 < 5 ∧ p1 = nI k7 ∧ (((¬ (hi 160 k7) = 1) → Q (some (.inl (-1000000012))) hi) ∧ ((¬ (¬ (hi 160 k7) = 1)) → ∃ k9 : Nat, k9 < 5 ∧ p1 = nI k9 ∧ ((((f_M_isUnder (hi 161 k9) p2) = 0) → Q (some (.inl (-1000000012))) hi) ∧ ((¬ ((f_M_isUnder (hi 161 k9) p2) = 0)) → ∃ k11 : Nat, k11 < 5 ∧ p1 = nI k11 ∧ (Q (some (.inl (hi 162 k11))) hi)))))) ∧ ((¬ (¬ (hi 160 k5) = 0)) → Q (some (.inl (-1000000011))) hi))))))) : pm_C pm_g (SH L) HR (d + 3) m_M_ask [.inr 141, .inl p1, .inl p2] hi Q := by
  refine pm_C_of (maxL := 3) (t := pm_t223) rfl (Nat.le_of_ble_eq_true rfl) ?_
  refine pm_W_of 34 [] rfl ?_
  refine And.intro trivial ?_
  refine v_M_isSlot (d := d)  ?_
  refine And.intro (fun c1 => ?_) (fun c1 => ?_)
  · replace h := h.1 c1
    refine ⟨_, rfl, ?_⟩
    refine And.intro (fun _ => ?_) (fun hc => absurd (pm_cd_t (by decide)) hc)
    refine And.intro trivial ?_
    exact h
  · replace h := h.2 c1
    refine And.intro (fun c2 => ?_) (fun c2 => ?_)
    · replace h := h.1 c2
      refine ⟨_, rfl, ?_⟩
      refine And.intro (fun _ => ?_) (fun hc => absurd (pm_cd_t (by decide)) hc)
      refine And.intro trivial ?_
      exact h
    · replace h := h.2 c2
      refine ⟨_, rfl, ?_⟩
      refine And.intro (fun hc => absurd hc (pm_cd_f (by decide))) (fun _ => ?_)
      refine And.intro trivial ?_
      refine v_M_in (d := d + 1)  ?_
      refine And.intro (fun c3 => ?_) (fun c3 => ?_)
      · replace h := h.1 c3
        refine ⟨_, rfl, ?_⟩
        refine And.intro (fun hc => absurd hc (pm_cd_f (by decide))) (fun _ => ?_)
        refine And.intro trivial ?_
        exact h
      · replace h := h.2 c3
        refine And.intro (fun c4 => ?_) (fun c4 => ?_)
        · replace h := h.1 c4
          refine ⟨_, rfl, ?_⟩
          refine And.intro (fun hc => absurd hc (pm_cd_f (by decide))) (fun _ => ?_)
          refine And.intro trivial ?_
          exact h
        · replace h := h.2 c4
          refine ⟨_, rfl, ?_⟩
          refine And.intro (fun _ => ?_) (fun hc => absurd (pm_cd_t (by decide)) hc)
          refine And.intro sh_l141 ?_
          rw [hr_141_31]
          obtain ⟨k5, hkk5, hek5, h⟩ := h
          refine And.intro (pm_ao_of (t := 0) sh_l160 hkk5 hek5 (by decide)) ?_
          rw [pm_tn hek5 hkk5 (by decide)]
          refine And.intro (fun c6 => ?_) (fun c6 => ?_)
          · replace h := h.1 c6
            refine And.intro sh_l141 ?_
            rw [hr_141_31]
            obtain ⟨k7, hkk7, hek7, h⟩ := h
            refine And.intro (pm_ao_of (t := 0) sh_l160 hkk7 hek7 (by decide)) ?_
            rw [pm_tn hek7 hkk7 (by decide)]
            refine And.intro (fun c8 => ?_) (fun c8 => ?_)
            · replace h := h.1 c8
              refine And.intro trivial ?_
              exact h
            · replace h := h.2 c8
              refine And.intro sh_l141 ?_
              rw [hr_141_32]
              obtain ⟨k9, hkk9, hek9, h⟩ := h
              refine And.intro (pm_ao_of (t := 0) sh_l161 hkk9 hek9 (by decide)) ?_
              rw [pm_tn hek9 hkk9 (by decide)]
              refine And.intro trivial ?_
              refine f_M_isUnder_c (d := d + 1)  ?_
              refine ⟨_, rfl, ?_⟩
              refine And.intro (fun c10 => ?_) (fun c10 => ?_)
              · replace h := h.1 c10
                refine And.intro trivial ?_
                exact h
              · replace h := h.2 c10
                refine And.intro sh_l141 ?_
                rw [hr_141_33]
                obtain ⟨k11, hkk11, hek11, h⟩ := h
                refine And.intro (pm_ao_of (t := 0) sh_l162 hkk11 hek11 (by decide)) ?_
                rw [pm_tn hek11 hkk11 (by decide)]
                refine And.intro trivial ?_
                exact h
          · replace h := h.2 c6
            refine And.intro trivial ?_
            exact h
theorem v_M_item {L d : Nat} {p1 : Int32} {p2 : Int32} {hi : pm_B} {Q : pm_Q} (h : ((p1 < 0) → Q (some (.inl (-1000000001))) hi) ∧ ((¬ (p1 < 0)) → ((4 < p1) → Q (some (.inl (-1000000001))) hi) ∧ ((¬ (4 < p1)) → ∃ k3 : Nat, k3 < 5 ∧ p1 = nI k3 ∧ (((¬ (hi 160 k3) = 0) → ∃ k5 : Nat, k5 < 5 ∧ p1 = nI k5 ∧ ((((hi 160 k5) = 2) → ∃ k7 : Nat, k7 < 5 ∧ p1 = nI k7 ∧ (((p2 < 0) → Q (some (.inl (-1000000013))) hi) ∧ ((¬ (p2 < 0)) → ((((hi 161 k7) - 1) < p2) → Q (some (.inl (-1000000013))) hi) ∧ ((¬ (((hi 161 k7) - 1) < p2)) → ∃ k10 : Nat, k10 < 120 ∧ ((24 * p1) + p2) = nI k10 ∧ (((¬ (hi 163 k10) = (-1000000005)) → Q (some (.inl (hi 163 k10))) hi) ∧ ((¬ (¬ (hi 163 k10) = (-1000000005))) → Q (some (.inl (-1000000012))) hi)))))) ∧ ((¬ ((hi 160 k5) = 2)) → Q (some (.inl (-1000000012))) hi))) ∧ ((¬ (¬ (hi 160 k3) = 0)) → Q (some (.inl (-1000000011))) hi))))) : pm_C pm_g (SH L) HR (d + 3) m_M_item [.inr 141, .inl p1, .inl p2] hi Q := by
  refine pm_C_of (maxL := 4) (t := pm_t224) rfl (Nat.le_of_ble_eq_true rfl) ?_
  refine pm_W_of 41 [] rfl ?_
  refine And.intro trivial ?_
  refine v_M_isSlot (d := d)  ?_
  refine And.intro (fun c1 => ?_) (fun c1 => ?_)
  · replace h := h.1 c1
    refine ⟨_, rfl, ?_⟩
    refine And.intro (fun hc => absurd hc (pm_cd_f (by decide))) (fun _ => ?_)
    refine And.intro trivial ?_
    exact h
  · replace h := h.2 c1
    refine And.intro (fun c2 => ?_) (fun c2 => ?_)
    · replace h := h.1 c2
      refine ⟨_, rfl, ?_⟩
      refine And.intro (fun hc => absurd hc (pm_cd_f (by decide))) (fun _ => ?_)
      refine And.intro trivial ?_
      exact h
    · replace h := h.2 c2
      refine ⟨_, rfl, ?_⟩
      refine And.intro (fun _ => ?_) (fun hc => absurd (pm_cd_t (by decide)) hc)
      refine And.intro sh_l141 ?_
      rw [hr_141_31]
      obtain ⟨k3, hkk3, hek3, h⟩ := h
      refine And.intro (pm_ao_of (t := 0) sh_l160 hkk3 hek3 (by decide)) ?_
      rw [pm_tn hek3 hkk3 (by decide)]
      refine And.intro (fun c4 => ?_) (fun c4 => ?_)
      · replace h := h.1 c4
        refine And.intro sh_l141 ?_
        rw [hr_141_31]
        obtain ⟨k5, hkk5, hek5, h⟩ := h
        refine And.intro (pm_ao_of (t := 0) sh_l160 hkk5 hek5 (by decide)) ?_
        rw [pm_tn hek5 hkk5 (by decide)]
        refine And.intro (fun c6 => ?_) (fun c6 => ?_)
        · replace h := h.1 c6
          refine And.intro sh_l141 ?_
          rw [hr_141_32]
          obtain ⟨k7, hkk7, hek7, h⟩ := h
          refine And.intro (pm_ao_of (t := 0) sh_l161 hkk7 hek7 (by decide)) ?_
          rw [pm_tn hek7 hkk7 (by decide)]
          refine And.intro trivial ?_
          refine v_M_in (d := d + 1)  ?_
          refine And.intro (fun c8 => ?_) (fun c8 => ?_)
          · replace h := h.1 c8
            refine ⟨_, rfl, ?_⟩
            refine And.intro (fun hc => absurd hc (pm_cd_f (by decide))) (fun _ => ?_)
            refine And.intro trivial ?_
            exact h
          · replace h := h.2 c8
            refine And.intro (fun c9 => ?_) (fun c9 => ?_)
            · replace h := h.1 c9
              refine ⟨_, rfl, ?_⟩
              refine And.intro (fun hc => absurd hc (pm_cd_f (by decide))) (fun _ => ?_)
              refine And.intro trivial ?_
              exact h
            · replace h := h.2 c9
              refine ⟨_, rfl, ?_⟩
              refine And.intro (fun _ => ?_) (fun hc => absurd (pm_cd_t (by decide)) hc)
              refine And.intro sh_l141 ?_
              rw [hr_141_34]
              obtain ⟨k10, hkk10, hek10, h⟩ := h
              refine And.intro (pm_ao_of (t := 0) sh_l163 hkk10 hek10 (by decide)) ?_
              rw [pm_tn hek10 hkk10 (by decide)]
              refine And.intro (fun c11 => ?_) (fun c11 => ?_)
              · replace h := h.1 c11
                refine And.intro trivial ?_
                exact h
              · replace h := h.2 c11
                refine And.intro trivial ?_
                exact h
        · replace h := h.2 c6
          refine And.intro trivial ?_
          exact h
      · replace h := h.2 c4
        refine And.intro trivial ?_
        exact h
theorem v_M_rest {L d : Nat} {p1 : Int32} {p2 : Int32} {hi : pm_B} {Q : pm_Q} (h : ((p1 < 0) → Q (some (.inl (-1000000001))) hi) ∧ ((¬ (p1 < 0)) → ((4 < p1) → Q (some (.inl (-1000000001))) hi) ∧ ((¬ (4 < p1)) → ∃ k3 : Nat, k3 < 5 ∧ p1 = nI k3 ∧ (((¬ (hi 160 k3) = 0) → ∃ k5 : Nat, k5 < 5 ∧ p1 = nI k5 ∧ ((((hi 160 k5) = 3) → ((¬ p2 = 0) → ((¬ p2 = (-1)) → ∃ k9 : Nat, k9 < 5 ∧ p1 = nI k9 ∧ ((¬ p2 = 0) ∧ (Q (some (.inl ((hi 161 k9) - (hi 161 k9) / p2 * p2))) hi))) ∧ ((¬ (¬ p2 = (-1))) → Q (some (.inl 0)) hi)) ∧ ((¬ (¬ p2 = 0)) → Q (some (.inl (-1000000002))) hi)) ∧ ((¬ ((hi 160 k5) = 3)) → Q (some (.inl (-1000000012))) hi))) ∧ ((¬ (¬ (hi 160 k3) = 0)) → Q (some (.inl (-1000000011))) hi))))) : pm_C pm_g (SH L) HR (d + 3) m_M_rest [.inr 141, .inl p1, .inl p2] hi Q := by
  refine pm_C_of (maxL := 3) (t := pm_t225) rfl (Nat.le_of_ble_eq_true rfl) ?_
  refine pm_W_of 28 [] rfl ?_
  refine And.intro trivial ?_
  refine v_M_isSlot (d := d)  ?_
  refine And.intro (fun c1 => ?_) (fun c1 => ?_)
  · replace h := h.1 c1
    refine ⟨_, rfl, ?_⟩
    refine And.intro (fun hc => absurd hc (pm_cd_f (by decide))) (fun _ => ?_)
    refine And.intro trivial ?_
    exact h
  · replace h := h.2 c1
    refine And.intro (fun c2 => ?_) (fun c2 => ?_)
    · replace h := h.1 c2
      refine ⟨_, rfl, ?_⟩
      refine And.intro (fun hc => absurd hc (pm_cd_f (by decide))) (fun _ => ?_)
      refine And.intro trivial ?_
      exact h
    · replace h := h.2 c2
      refine ⟨_, rfl, ?_⟩
      refine And.intro (fun _ => ?_) (fun hc => absurd (pm_cd_t (by decide)) hc)
      refine And.intro sh_l141 ?_
      rw [hr_141_31]
      obtain ⟨k3, hkk3, hek3, h⟩ := h
      refine And.intro (pm_ao_of (t := 0) sh_l160 hkk3 hek3 (by decide)) ?_
      rw [pm_tn hek3 hkk3 (by decide)]
      refine And.intro (fun c4 => ?_) (fun c4 => ?_)
      · replace h := h.1 c4
        refine And.intro sh_l141 ?_
        rw [hr_141_31]
        obtain ⟨k5, hkk5, hek5, h⟩ := h
        refine And.intro (pm_ao_of (t := 0) sh_l160 hkk5 hek5 (by decide)) ?_
        rw [pm_tn hek5 hkk5 (by decide)]
        refine And.intro (fun c6 => ?_) (fun c6 => ?_)
        · replace h := h.1 c6
          refine And.intro (fun c7 => ?_) (fun c7 => ?_)
          · replace h := h.1 c7
            refine And.intro (fun c8 => ?_) (fun c8 => ?_)
            · replace h := h.1 c8
              refine And.intro sh_l141 ?_
              rw [hr_141_32]
              obtain ⟨k9, hkk9, hek9, h⟩ := h
              refine And.intro (pm_ao_of (t := 0) sh_l161 hkk9 hek9 (by decide)) ?_
              rw [pm_tn hek9 hkk9 (by decide)]
              refine And.intro h.1 ?_
              replace h := h.2
              refine And.intro trivial ?_
              exact h
            · replace h := h.2 c8
              refine And.intro trivial ?_
              exact h
          · replace h := h.2 c7
            refine And.intro trivial ?_
            exact h
        · replace h := h.2 c6
          refine And.intro trivial ?_
          exact h
      · replace h := h.2 c4
        refine And.intro trivial ?_
        exact h
theorem v_M_tell {L d : Nat} {p1 : Int32} {hi : pm_B} {Q : pm_Q} (h : ((¬ (hi 141 37) = 60) → ∃ k2 : Nat, k2 < 60 ∧ (hi 141 37) = nI k2 ∧ (∀ hi3 : pm_B, hi3 = pm_u (pm_u hi 165 k2 p1) 141 37 (((pm_u hi 165 k2 p1) 141 37) + 1) → (Q (some (.inl (hi3 141 37))) hi3))) ∧ ((¬ (¬ (hi 141 37) = 60)) → Q (some (.inl (-1000000003))) hi)) : pm_C pm_g (SH L) HR (d + 1) m_M_tell [.inr 141, .inl p1] hi Q := by
  refine pm_C_of (maxL := 2) (t := pm_t226) rfl (Nat.le_of_ble_eq_true rfl) ?_
  refine pm_W_of 21 [] rfl ?_
  refine And.intro sh_l141 ?_
  refine And.intro (fun c1 => ?_) (fun c1 => ?_)
  · replace h := h.1 c1
    refine And.intro sh_l141 ?_
    rw [hr_141_36]
    refine And.intro sh_l141 ?_
    obtain ⟨k2, hkk2, hek2, h⟩ := h
    refine And.intro ⟨pm_aw_of sh_l165 hkk2 hek2 (by decide), trivial⟩ ?_
    rw [pm_tn hek2 hkk2 (by decide)]
    refine And.intro sh_l141 ?_
    refine And.intro ⟨sh_l141, trivial⟩ ?_
    obtain ⟨hi3, ehi3⟩ : ∃ m : pm_B, m = pm_u (pm_u hi 165 k2 p1) 141 37 (((pm_u hi 165 k2 p1) 141 37) + 1) := ⟨_, rfl⟩
    replace h := h hi3 ehi3
    rw [← ehi3]
    refine And.intro sh_l141 ?_
    refine And.intro trivial ?_
    exact h
  · replace h := h.2 c1
    refine And.intro trivial ?_
    exact h
theorem v_M_check {L d : Nat} {p1 : Int32} {hi : pm_B} {Q : pm_Q} (h : ((p1 < 1) → Q (some (.inl (-1000000001))) (pm_u hi 141 37 0)) ∧ ((¬ (p1 < 1)) → ((30 < p1) → Q (some (.inl (-1000000001))) (pm_u hi 141 37 0)) ∧ ((¬ (30 < p1)) → ((¬ ((pm_u hi 141 37 0) 141 3) = 0) → pm_C pm_g (SH L) HR (d + 1) m_M_copyAll [.inr 142, .inr 144] (pm_u hi 141 37 0) (fun v hi4 => v = none ∧ (pm_C pm_g (SH L) HR (d + 1) m_M_copyAll [.inr 143, .inr 142] hi4 (fun v hi5 => v = none ∧ (pm_W pm_g (SH L) HR (d + 1) pm_t227 80 [some (.inr 141), some (.inl p1), some (.inl (hi 141 37)), some (.inl (2 * (f_M_within (9999 - (hi5 142 2)) 0 p1))), some (.inl 0), some (.inl 0)] [] hi5 Q))))) ∧ ((¬ (¬ ((pm_u hi 141 37 0) 141 3) = 0)) → Q (some (.inl (-1000000002))) (pm_u hi 141 37 0))))) : pm_C pm_g (SH L) HR (d + 2) m_M_check [.inr 141, .inl p1] hi Q := by
  refine pm_C_of (maxL := 6) (t := pm_t227) rfl (Nat.le_of_ble_eq_true rfl) ?_
  refine pm_W_of 42 [80] rfl ?_
  refine And.intro sh_l141 ?_
  refine And.intro ⟨sh_l141, trivial⟩ ?_
  refine And.intro trivial ?_
  refine v_M_in (d := d)  ?_
  refine And.intro (fun c1 => ?_) (fun c1 => ?_)
  · replace h := h.1 c1
    refine ⟨_, rfl, ?_⟩
    refine And.intro (fun hc => absurd hc (pm_cd_f (by decide))) (fun _ => ?_)
    refine And.intro trivial ?_
    exact h
  · replace h := h.2 c1
    refine And.intro (fun c2 => ?_) (fun c2 => ?_)
    · replace h := h.1 c2
      refine ⟨_, rfl, ?_⟩
      refine And.intro (fun hc => absurd hc (pm_cd_f (by decide))) (fun _ => ?_)
      refine And.intro trivial ?_
      exact h
    · replace h := h.2 c2
      refine ⟨_, rfl, ?_⟩
      refine And.intro (fun _ => ?_) (fun hc => absurd (pm_cd_t (by decide)) hc)
      refine And.intro sh_l141 ?_
      refine And.intro (fun c3 => ?_) (fun c3 => ?_)
      · replace h := h.1 c3
        refine And.intro sh_l141 ?_
        rw [hr_141_0]
        refine And.intro sh_l141 ?_
        rw [hr_141_2]
        refine And.intro trivial ?_
        refine pm_C_imp h (fun v hi4 h => ?_)
        obtain ⟨rfl, h⟩ := h
        refine ⟨rfl, ?_⟩
        refine And.intro sh_l141 ?_
        rw [hr_141_1]
        refine And.intro sh_l141 ?_
        rw [hr_141_0]
        refine And.intro trivial ?_
        refine pm_C_imp h (fun v hi5 h => ?_)
        obtain ⟨rfl, h⟩ := h
        refine ⟨rfl, ?_⟩
        refine And.intro sh_l141 ?_
        rw [hr_141_0]
        refine And.intro (pm_ao_of (t := 0) sh_l142 (by decide : 2 < 1611) (rfl : (2 : Int32) = nI 2) (by decide)) ?_
        rw [pm_tn (rfl : (2 : Int32) = nI 2) (by decide : 2 < 1611) (by decide)]
        refine And.intro trivial ?_
        refine f_M_within_c (d := d)  ?_
        refine ⟨_, rfl, ?_⟩
        exact h
      · replace h := h.2 c3
        refine And.intro trivial ?_
        exact h
theorem v_M_check_80 {L d : Nat}  {p1 : Int32} {y2 : Int32} {y3 : Int32} {y4 : Int32} {y5 : Int32} {hi : pm_B} {Q : pm_Q} (h : ((y3 ≤ (2 * y5)) → pm_C pm_g (SH L) HR (d + 1) m_M_copyAll [.inr 144, .inr 142] hi (fun v hi2 => v = none ∧ (((¬ y4 = y2) → Q (some (.inl (1 + y4))) hi2) ∧ ((¬ (¬ y4 = y2)) → ((¬ y4 = y3) → Q (some (.inl (1 + y4))) hi2) ∧ ((¬ (¬ y4 = y3)) → Q (some (.inl 0)) hi2))))) ∧ ((¬ (y3 ≤ (2 * y5))) → ((¬ y4 = (2 * y5)) → pm_C pm_g (SH L) HR (d + 1) m_M_copyAll [.inr 144, .inr 142] hi (fun v hi6 => v = none ∧ (((¬ y4 = y2) → Q (some (.inl (1 + y4))) hi6) ∧ ((¬ (¬ y4 = y2)) → ((¬ y4 = y3) → Q (some (.inl (1 + y4))) hi6) ∧ ((¬ (¬ y4 = y3)) → Q (some (.inl 0)) hi6))))) ∧ ((¬ (¬ y4 = (2 * y5))) → pm_C pm_g (SH L) HR (d + 1) m_M_day [.inr 141] hi (fun v hi9 => v = none ∧ (((y2 ≤ y4) → ((¬ (y4 + 0) = ((2 * y5) + 1)) → pm_W pm_g (SH L) HR (d + 1) pm_t227 80 [some (.inr 141), some (.inl p1), some (.inl y2), some (.inl y3), some (.inl ((y4 + 0) + 0)), some (.inl (y5 + 1))] [] hi9 Q) ∧ ((¬ (¬ (y4 + 0) = ((2 * y5) + 1))) → ((y2 ≤ (y4 + 0)) → pm_W pm_g (SH L) HR (d + 1) pm_t227 80 [some (.inr 141), some (.inl p1), some (.inl y2), some (.inl y3), some (.inl ((y4 + 0) + 0)), some (.inl (y5 + 1))] [] hi9 Q) ∧ ((¬ (y2 ≤ (y4 + 0))) → ∃ k13 : Nat, k13 < 60 ∧ (y4 + 0) = nI k13 ∧ (pm_C pm_g (SH L) HR (d + 1) m_M_wordsOfAll [.inr 141] hi9 (fun v hi14 => ∃ x15 : Int32, v = some (.inl x15) ∧ (((¬ (hi9 165 k13) = x15) → pm_W pm_g (SH L) HR (d + 1) pm_t227 80 [some (.inr 141), some (.inl p1), some (.inl y2), some (.inl y3), some (.inl ((y4 + 0) + 0)), some (.inl (y5 + 1))] [] hi14 Q) ∧ ((¬ (¬ (hi9 165 k13) = x15)) → pm_W pm_g (SH L) HR (d + 1) pm_t227 80 [some (.inr 141), some (.inl p1), some (.inl y2), some (.inl y3), some (.inl ((y4 + 0) + 1)), some (.inl (y5 + 1))] [] hi14 Q))))))) ∧ ((¬ (y2 ≤ y4)) → ∃ k17 : Nat, k17 < 60 ∧ y4 = nI k17 ∧ (((¬ (hi9 165 k17) = (hi9 142 4)) → ((¬ (y4 + 0) = ((2 * y5) + 1)) → pm_W pm_g (SH L) HR (d + 1) pm_t227 80 [some (.inr 141), some (.inl p1), some (.inl y2), some (.inl y3), some (.inl ((y4 + 0) + 0)), some (.inl (y5 + 1))] [] hi9 Q) ∧ ((¬ (¬ (y4 + 0) = ((2 * y5) + 1))) → ((y2 ≤ (y4 + 0)) → pm_W pm_g (SH L) HR (d + 1) pm_t227 80 [some (.inr 141), some (.inl p1), some (.inl y2), some (.inl y3), some (.inl ((y4 + 0) + 0)), some (.inl (y5 + 1))] [] hi9 Q) ∧ ((¬ (y2 ≤ (y4 + 0))) → ∃ k21 : Nat, k21 < 60 ∧ (y4 + 0) = nI k21 ∧ (pm_C pm_g (SH L) HR (d + 1) m_M_wordsOfAll [.inr 141] hi9 (fun v hi22 => ∃ x23 : Int32, v = some (.inl x23) ∧ (((¬ (hi9 165 k21) = x23) → pm_W pm_g (SH L) HR (d + 1) pm_t227 80 [some (.inr 141), some (.inl p1), some (.inl y2), some (.inl y3), some (.inl ((y4 + 0) + 0)), some (.inl (y5 + 1))] [] hi22 Q) ∧ ((¬ (¬ (hi9 165 k21) = x23)) → pm_W pm_g (SH L) HR (d + 1) pm_t227 80 [some (.inr 141), some (.inl p1), some (.inl y2), some (.inl y3), some (.inl ((y4 + 0) + 1)), some (.inl (y5 + 1))] [] hi22 Q))))))) ∧ ((¬ (¬ (hi9 165 k17) = (hi9 142 4))) → ((¬ (y4 + 1) = ((2 * y5) + 1)) → pm_W pm_g (SH L) HR (d + 1) pm_t227 80 [some (.inr 141), some (.inl p1), some (.inl y2), some (.inl y3), some (.inl ((y4 + 1) + 0)), some (.inl (y5 + 1))] [] hi9 Q) ∧ ((¬ (¬ (y4 + 1) = ((2 * y5) + 1))) → ((y2 ≤ (y4 + 1)) → pm_W pm_g (SH L) HR (d + 1) pm_t227 80 [some (.inr 141), some (.inl p1), some (.inl y2), some (.inl y3), some (.inl ((y4 + 1) + 0)), some (.inl (y5 + 1))] [] hi9 Q) ∧ ((¬ (y2 ≤ (y4 + 1))) → ∃ k27 : Nat, k27 < 60 ∧ (y4 + 1) = nI k27 ∧ (pm_C pm_g (SH L) HR (d + 1) m_M_wordsOfAll [.inr 141] hi9 (fun v hi28 => ∃ x29 : Int32, v = some (.inl x29) ∧ (((¬ (hi9 165 k27) = x29) → pm_W pm_g (SH L) HR (d + 1) pm_t227 80 [some (.inr 141), some (.inl p1), some (.inl y2), some (.inl y3), some (.inl ((y4 + 1) + 0)), some (.inl (y5 + 1))] [] hi28 Q) ∧ ((¬ (¬ (hi9 165 k27) = x29)) → pm_W pm_g (SH L) HR (d + 1) pm_t227 80 [some (.inr 141), some (.inl p1), some (.inl y2), some (.inl y3), some (.inl ((y4 + 1) + 1)), some (.inl (y5 + 1))] [] hi28 Q)))))))))))))) : pm_W pm_g (SH L) HR (d + 1) pm_t227 80 [some (.inr 141), some (.inl p1), some (.inl y2), some (.inl y3), some (.inl y4), some (.inl y5)] [] hi Q := by
  refine pm_W_of 55 [80] rfl ?_
  refine And.intro (fun c1 => ?_) (fun c1 => ?_)
  · replace h := h.1 c1
    refine And.intro sh_l141 ?_
    rw [hr_141_2]
    refine And.intro sh_l141 ?_
    rw [hr_141_0]
    refine And.intro trivial ?_
    refine pm_C_imp h (fun v hi2 h => ?_)
    obtain ⟨rfl, h⟩ := h
    refine ⟨rfl, ?_⟩
    refine And.intro (fun c3 => ?_) (fun c3 => ?_)
    · replace h := h.1 c3
      refine And.intro trivial ?_
      exact h
    · replace h := h.2 c3
      refine And.intro (fun c4 => ?_) (fun c4 => ?_)
      · replace h := h.1 c4
        refine And.intro trivial ?_
        exact h
      · replace h := h.2 c4
        refine And.intro trivial ?_
        exact h
  · replace h := h.2 c1
    refine And.intro (fun c5 => ?_) (fun c5 => ?_)
    · replace h := h.1 c5
      refine And.intro sh_l141 ?_
      rw [hr_141_2]
      refine And.intro sh_l141 ?_
      rw [hr_141_0]
      refine And.intro trivial ?_
      refine pm_C_imp h (fun v hi6 h => ?_)
      obtain ⟨rfl, h⟩ := h
      refine ⟨rfl, ?_⟩
      refine And.intro (fun c7 => ?_) (fun c7 => ?_)
      · replace h := h.1 c7
        refine And.intro trivial ?_
        exact h
      · replace h := h.2 c7
        refine And.intro (fun c8 => ?_) (fun c8 => ?_)
        · replace h := h.1 c8
          refine And.intro trivial ?_
          exact h
        · replace h := h.2 c8
          refine And.intro trivial ?_
          exact h
    · replace h := h.2 c5
      refine And.intro sh_l141 ?_
      refine pm_C_imp h (fun v hi9 h => ?_)
      obtain ⟨rfl, h⟩ := h
      refine ⟨rfl, ?_⟩
      refine And.intro (fun c10 => ?_) (fun c10 => ?_)
      · replace h := h.1 c10
        refine And.intro (fun c11 => ?_) (fun c11 => ?_)
        · replace h := h.1 c11
          exact h
        · replace h := h.2 c11
          refine And.intro (fun c12 => ?_) (fun c12 => ?_)
          · replace h := h.1 c12
            exact h
          · replace h := h.2 c12
            refine And.intro sh_l141 ?_
            rw [hr_141_36]
            obtain ⟨k13, hkk13, hek13, h⟩ := h
            refine And.intro (pm_ao_of (t := 0) sh_l165 hkk13 hek13 (by decide)) ?_
            rw [pm_tn hek13 hkk13 (by decide)]
            refine And.intro sh_l141 ?_
            refine pm_C_imp h (fun v hi14 h => ?_)
            obtain ⟨x15, rfl, h⟩ := h
            refine ⟨_, rfl, ?_⟩
            refine And.intro (fun c16 => ?_) (fun c16 => ?_)
            · replace h := h.1 c16
              exact h
            · replace h := h.2 c16
              exact h
      · replace h := h.2 c10
        refine And.intro sh_l141 ?_
        rw [hr_141_36]
        obtain ⟨k17, hkk17, hek17, h⟩ := h
        refine And.intro (pm_ao_of (t := 0) sh_l165 hkk17 hek17 (by decide)) ?_
        rw [pm_tn hek17 hkk17 (by decide)]
        refine And.intro sh_l141 ?_
        rw [hr_141_0]
        refine And.intro (pm_ao_of (t := 0) sh_l142 (by decide : 4 < 1611) (rfl : (4 : Int32) = nI 4) (by decide)) ?_
        rw [pm_tn (rfl : (4 : Int32) = nI 4) (by decide : 4 < 1611) (by decide)]
        refine And.intro (fun c18 => ?_) (fun c18 => ?_)
        · replace h := h.1 c18
          refine And.intro (fun c19 => ?_) (fun c19 => ?_)
          · replace h := h.1 c19
            exact h
          · replace h := h.2 c19
            refine And.intro (fun c20 => ?_) (fun c20 => ?_)
            · replace h := h.1 c20
              exact h
            · replace h := h.2 c20
              refine And.intro sh_l141 ?_
              rw [hr_141_36]
              obtain ⟨k21, hkk21, hek21, h⟩ := h
              refine And.intro (pm_ao_of (t := 0) sh_l165 hkk21 hek21 (by decide)) ?_
              rw [pm_tn hek21 hkk21 (by decide)]
              refine And.intro sh_l141 ?_
              refine pm_C_imp h (fun v hi22 h => ?_)
              obtain ⟨x23, rfl, h⟩ := h
              refine ⟨_, rfl, ?_⟩
              refine And.intro (fun c24 => ?_) (fun c24 => ?_)
              · replace h := h.1 c24
                exact h
              · replace h := h.2 c24
                exact h
        · replace h := h.2 c18
          refine And.intro (fun c25 => ?_) (fun c25 => ?_)
          · replace h := h.1 c25
            exact h
          · replace h := h.2 c25
            refine And.intro (fun c26 => ?_) (fun c26 => ?_)
            · replace h := h.1 c26
              exact h
            · replace h := h.2 c26
              refine And.intro sh_l141 ?_
              rw [hr_141_36]
              obtain ⟨k27, hkk27, hek27, h⟩ := h
              refine And.intro (pm_ao_of (t := 0) sh_l165 hkk27 hek27 (by decide)) ?_
              rw [pm_tn hek27 hkk27 (by decide)]
              refine And.intro sh_l141 ?_
              refine pm_C_imp h (fun v hi28 h => ?_)
              obtain ⟨x29, rfl, h⟩ := h
              refine ⟨_, rfl, ?_⟩
              refine And.intro (fun c30 => ?_) (fun c30 => ?_)
              · replace h := h.1 c30
                exact h
              · replace h := h.2 c30
                exact h
theorem v_M_keep {L d : Nat}  {hi : pm_B} {Q : pm_Q} (h : pm_C pm_g (SH L) HR (d) m_M_copyAll [.inr 142, .inr 143] hi (fun v hi1 => v = none ∧ (Q (some (.inl ((pm_u hi1 141 3 1) 142 1))) (pm_u hi1 141 3 1)))) : pm_C pm_g (SH L) HR (d + 1) m_M_keep [.inr 141] hi Q := by
  refine pm_C_of (maxL := 1) (t := pm_t228) rfl (Nat.le_of_ble_eq_true rfl) ?_
  refine pm_W_of 15 [] rfl ?_
  refine And.intro sh_l141 ?_
  rw [hr_141_0]
  refine And.intro sh_l141 ?_
  rw [hr_141_1]
  refine And.intro trivial ?_
  refine pm_C_imp h (fun v hi1 h => ?_)
  obtain ⟨rfl, h⟩ := h
  refine ⟨rfl, ?_⟩
  refine And.intro ⟨sh_l141, (Or.inr rfl)⟩ ?_
  refine And.intro sh_l141 ?_
  rw [hr_141_0]
  refine And.intro (pm_ao_of (t := 0) sh_l142 (by decide : 1 < 1611) (rfl : (1 : Int32) = nI 1) (by decide)) ?_
  rw [pm_tn (rfl : (1 : Int32) = nI 1) (by decide : 1 < 1611) (by decide)]
  refine And.intro trivial ?_
  exact h
theorem v_M_back {L d : Nat}  {hi : pm_B} {Q : pm_Q} (h : ((¬ (hi 141 3) = 0) → pm_C pm_g (SH L) HR (d) m_M_copyAll [.inr 143, .inr 142] hi (fun v hi2 => v = none ∧ (Q (some (.inl (hi2 142 1))) hi2))) ∧ ((¬ (¬ (hi 141 3) = 0)) → Q (some (.inl (-1000000002))) hi)) : pm_C pm_g (SH L) HR (d + 1) m_M_back [.inr 141] hi Q := by
  refine pm_C_of (maxL := 1) (t := pm_t229) rfl (Nat.le_of_ble_eq_true rfl) ?_
  refine pm_W_of 15 [] rfl ?_
  refine And.intro sh_l141 ?_
  refine And.intro (fun c1 => ?_) (fun c1 => ?_)
  · replace h := h.1 c1
    refine And.intro sh_l141 ?_
    rw [hr_141_1]
    refine And.intro sh_l141 ?_
    rw [hr_141_0]
    refine And.intro trivial ?_
    refine pm_C_imp h (fun v hi2 h => ?_)
    obtain ⟨rfl, h⟩ := h
    refine ⟨rfl, ?_⟩
    refine And.intro sh_l141 ?_
    rw [hr_141_0]
    refine And.intro (pm_ao_of (t := 0) sh_l142 (by decide : 1 < 1611) (rfl : (1 : Int32) = nI 1) (by decide)) ?_
    rw [pm_tn (rfl : (1 : Int32) = nI 1) (by decide : 1 < 1611) (by decide)]
    refine And.intro trivial ?_
    exact h
  · replace h := h.2 c1
    refine And.intro trivial ?_
    exact h
theorem v_M_count {L d : Nat} {p1 : Int32} {hi : pm_B} {Q : pm_Q} (h : ((p1 = 0) → Q (some (.inl (hi 142 1))) hi) ∧ ((¬ p1 = 0) → ((p1 = 1) → Q (some (.inl (hi 142 2))) hi) ∧ ((¬ p1 = 1) → ((p1 = 2) → Q (some (.inl (hi 142 3))) hi) ∧ ((¬ p1 = 2) → ((p1 = 3) → Q (some (.inl (hi 142 6))) hi) ∧ ((¬ p1 = 3) → ((p1 = 4) → Q (some (.inl (hi 141 37))) hi) ∧ ((¬ p1 = 4) → ((p1 = 5) → Q (some (.inl (hi 141 11))) hi) ∧ ((¬ p1 = 5) → ((p1 = 6) → Q (some (.inl (hi 142 0))) hi) ∧ ((¬ p1 = 6) → Q (some (.inl (-1000000001))) hi)))))))) : pm_C pm_g (SH L) HR (d + 1) m_M_count [.inr 141, .inl p1] hi Q := by
  refine pm_C_of (maxL := 2) (t := pm_t230) rfl (Nat.le_of_ble_eq_true rfl) ?_
  refine pm_W_of 9 [] rfl ?_
  intro pc1 hsw
  by_cases c1 : p1 = 0
  · rw [pm_sw_t c1] at hsw
    subst hsw
    replace h := h.1 c1
    refine And.intro sh_l141 ?_
    rw [hr_141_0]
    refine And.intro (pm_ao_of (t := 0) sh_l142 (by decide : 1 < 1611) (rfl : (1 : Int32) = nI 1) (by decide)) ?_
    rw [pm_tn (rfl : (1 : Int32) = nI 1) (by decide : 1 < 1611) (by decide)]
    refine And.intro trivial ?_
    exact h
  · rw [pm_sw_f c1] at hsw
    replace h := h.2 c1
    by_cases c2 : p1 = 1
    · rw [pm_sw_t c2] at hsw
      subst hsw
      replace h := h.1 c2
      refine And.intro sh_l141 ?_
      rw [hr_141_0]
      refine And.intro (pm_ao_of (t := 0) sh_l142 (by decide : 2 < 1611) (rfl : (2 : Int32) = nI 2) (by decide)) ?_
      rw [pm_tn (rfl : (2 : Int32) = nI 2) (by decide : 2 < 1611) (by decide)]
      refine And.intro trivial ?_
      exact h
    · rw [pm_sw_f c2] at hsw
      replace h := h.2 c2
      by_cases c3 : p1 = 2
      · rw [pm_sw_t c3] at hsw
        subst hsw
        replace h := h.1 c3
        refine And.intro sh_l141 ?_
        rw [hr_141_0]
        refine And.intro (pm_ao_of (t := 0) sh_l142 (by decide : 3 < 1611) (rfl : (3 : Int32) = nI 3) (by decide)) ?_
        rw [pm_tn (rfl : (3 : Int32) = nI 3) (by decide : 3 < 1611) (by decide)]
        refine And.intro trivial ?_
        exact h
      · rw [pm_sw_f c3] at hsw
        replace h := h.2 c3
        by_cases c4 : p1 = 3
        · rw [pm_sw_t c4] at hsw
          subst hsw
          replace h := h.1 c4
          refine And.intro sh_l141 ?_
          rw [hr_141_0]
          refine And.intro (pm_ao_of (t := 0) sh_l142 (by decide : 6 < 1611) (rfl : (6 : Int32) = nI 6) (by decide)) ?_
          rw [pm_tn (rfl : (6 : Int32) = nI 6) (by decide : 6 < 1611) (by decide)]
          refine And.intro trivial ?_
          exact h
        · rw [pm_sw_f c4] at hsw
          replace h := h.2 c4
          by_cases c5 : p1 = 4
          · rw [pm_sw_t c5] at hsw
            subst hsw
            replace h := h.1 c5
            refine And.intro sh_l141 ?_
            refine And.intro trivial ?_
            exact h
          · rw [pm_sw_f c5] at hsw
            replace h := h.2 c5
            by_cases c6 : p1 = 5
            · rw [pm_sw_t c6] at hsw
              subst hsw
              replace h := h.1 c6
              refine And.intro sh_l141 ?_
              refine And.intro trivial ?_
              exact h
            · rw [pm_sw_f c6] at hsw
              replace h := h.2 c6
              by_cases c7 : p1 = 6
              · rw [pm_sw_t c7] at hsw
                subst hsw
                replace h := h.1 c7
                refine And.intro sh_l141 ?_
                rw [hr_141_0]
                refine And.intro (pm_ao_of (t := 0) sh_l142 (by decide : 0 < 1611) (rfl : (0 : Int32) = nI 0) (by decide)) ?_
                rw [pm_tn (rfl : (0 : Int32) = nI 0) (by decide : 0 < 1611) (by decide)]
                refine And.intro trivial ?_
                exact h
              · rw [pm_sw_f c7] at hsw
                replace h := h.2 c7
                replace hsw : 90 = pc1 := hsw
                subst hsw
                refine And.intro trivial ?_
                exact h
