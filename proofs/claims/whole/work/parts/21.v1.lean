/-! printed by program (wip/whole/vcg.py): what each method needs -/
theorem v_E_speaker {L d : Nat} {p1 : Int32} {p2 : Int32} {p3 : Int32} {hi : pm_B} {Q : pm_Q} (h : ((p1 < 0) → Q (some (.inl (-1000000001))) hi) ∧ ((¬ (p1 < 0)) → ((6 ≤ p1) → Q (some (.inl (-1000000001))) hi) ∧ ((¬ (6 ≤ p1)) → ((p2 < 1) → Q (some (.inl (-1000000001))) hi) ∧ ((¬ (p2 < 1)) → ((9 < p2) → Q (some (.inl (-1000000001))) hi) ∧ ((¬ (9 < p2)) → ((p3 < 0) → Q (some (.inl (-1000000001))) hi) ∧ ((¬ (p3 < 0)) → ((99 < p3) → Q (some (.inl (-1000000001))) hi) ∧ ((¬ (99 < p3)) → (((hi 50 2) < 0) → Q (some (.inl (-1000000003))) hi) ∧ ((¬ ((hi 50 2) < 0)) → ((8 ≤ (hi 50 2)) → Q (some (.inl (-1000000003))) hi) ∧ ((¬ (8 ≤ (hi 50 2))) → pm_C pm_g (SH L) HR (d + 1) m_Folk_enter [.inr 50, .inl p1, .inl p2, .inl p3] hi (fun v hi9 => v = none ∧ (Q (some (.inl ((hi9 50 2) - 1))) hi9))))))))))) : pm_C pm_g (SH L) HR (d + 2) m_E_speaker [.inr 16, .inl p1, .inl p2, .inl p3] hi Q := by
  refine pm_C_of (maxL := 4) (t := pm_t74) rfl (Nat.le_of_ble_eq_true rfl) ?_
  refine pm_W_of 27 [] rfl ?_
  refine And.intro trivial ?_
  refine v_E_isKind (d := d)  ?_
  refine And.intro (fun c1 => ?_) (fun c1 => ?_)
  · replace h := h.1 c1
    refine ⟨_, rfl, ?_⟩
    refine And.intro (fun _ => ?_) (fun hc => absurd (pm_cd_t (by decide)) hc)
    refine And.intro trivial ?_
    exact h
  · replace h := h.2 c1
    refine And.intro (fun c2 => ?_) (fun c2 => ?_)
    · replace h := h.1 c2
      refine ⟨_, rfl, ?_⟩
      refine And.intro (fun _ => ?_) (fun hc => absurd (pm_cd_t (by decide)) hc)
      refine And.intro trivial ?_
      exact h
    · replace h := h.2 c2
      refine ⟨_, rfl, ?_⟩
      refine And.intro (fun hc => absurd hc (pm_cd_f (by decide))) (fun _ => ?_)
      refine And.intro trivial ?_
      refine v_E_isEar (d := d)  ?_
      refine And.intro (fun c3 => ?_) (fun c3 => ?_)
      · replace h := h.1 c3
        refine ⟨_, rfl, ?_⟩
        refine And.intro (fun _ => ?_) (fun hc => absurd (pm_cd_t (by decide)) hc)
        refine And.intro trivial ?_
        exact h
      · replace h := h.2 c3
        refine And.intro (fun c4 => ?_) (fun c4 => ?_)
        · replace h := h.1 c4
          refine ⟨_, rfl, ?_⟩
          refine And.intro (fun _ => ?_) (fun hc => absurd (pm_cd_t (by decide)) hc)
          refine And.intro trivial ?_
          exact h
        · replace h := h.2 c4
          refine ⟨_, rfl, ?_⟩
          refine And.intro (fun hc => absurd hc (pm_cd_f (by decide))) (fun _ => ?_)
          refine And.intro trivial ?_
          refine v_E_isFame (d := d)  ?_
          refine And.intro (fun c5 => ?_) (fun c5 => ?_)
          · replace h := h.1 c5
            refine ⟨_, rfl, ?_⟩
            refine And.intro (fun hc => absurd hc (pm_cd_f (by decide))) (fun _ => ?_)
            refine And.intro trivial ?_
            exact h
          · replace h := h.2 c5
            refine And.intro (fun c6 => ?_) (fun c6 => ?_)
            · replace h := h.1 c6
              refine ⟨_, rfl, ?_⟩
              refine And.intro (fun hc => absurd hc (pm_cd_f (by decide))) (fun _ => ?_)
              refine And.intro trivial ?_
              exact h
            · replace h := h.2 c6
              refine ⟨_, rfl, ?_⟩
              refine And.intro (fun _ => ?_) (fun hc => absurd (pm_cd_t (by decide)) hc)
              refine And.intro sh_l16 ?_
              rw [hr_16_1]
              refine And.intro sh_l50 ?_
              refine v_Folk_hasRoom (d := d) (fo_lit 50 (by decide)) ?_
              refine And.intro (fun c7 => ?_) (fun c7 => ?_)
              · replace h := h.1 c7
                refine ⟨_, rfl, ?_⟩
                refine And.intro (fun hc => absurd hc (pm_cd_f (by decide))) (fun _ => ?_)
                refine And.intro trivial ?_
                exact h
              · replace h := h.2 c7
                refine And.intro (fun c8 => ?_) (fun c8 => ?_)
                · replace h := h.1 c8
                  refine ⟨_, rfl, ?_⟩
                  refine And.intro (fun hc => absurd hc (pm_cd_f (by decide))) (fun _ => ?_)
                  refine And.intro trivial ?_
                  exact h
                · replace h := h.2 c8
                  refine ⟨_, rfl, ?_⟩
                  refine And.intro (fun _ => ?_) (fun hc => absurd (pm_cd_t (by decide)) hc)
                  refine And.intro sh_l16 ?_
                  rw [hr_16_1]
                  refine And.intro sh_l50 ?_
                  refine pm_C_imp h (fun v hi9 h => ?_)
                  obtain ⟨rfl, h⟩ := h
                  refine ⟨rfl, ?_⟩
                  refine And.intro sh_l16 ?_
                  rw [hr_16_1]
                  refine And.intro sh_l50 ?_
                  refine And.intro trivial ?_
                  exact h
theorem v_E_told {L d : Nat} {p1 : Int32} {p2 : Int32} {hi : pm_B} {Q : pm_Q} (h : ((p1 < 0) → Q (some (.inl (-1000000001))) hi) ∧ ((¬ (p1 < 0)) → (((hi 50 2) ≤ p1) → Q (some (.inl (-1000000001))) hi) ∧ ((¬ ((hi 50 2) ≤ p1)) → ((8 ≤ p1) → Q (some (.inl (-1000000001))) hi) ∧ ((¬ (8 ≤ p1)) → ∃ k4 : Nat, k4 < 8 ∧ p1 = nI k4 ∧ (((p2 = 0) → Q (some (.inl (hi (50 + 2 + 2 * k4) 0))) hi) ∧ ((¬ p2 = 0) → ((p2 = 1) → Q (some (.inl (hi (50 + 2 + 2 * k4) 1))) hi) ∧ ((¬ p2 = 1) → ((p2 = 2) → Q (some (.inl (hi (50 + 2 + 2 * k4) 2))) hi) ∧ ((¬ p2 = 2) → ((p2 = 3) → Q (some (.inl (hi (50 + 2 + 2 * k4) 3))) hi) ∧ ((¬ p2 = 3) → ((p2 = 4) → Q (some (.inl (hi (50 + 2 + 2 * k4) 4))) hi) ∧ ((¬ p2 = 4) → ((p2 = 5) → pm_C pm_g (SH L) HR (d + 1) m_Speaker_wordSet [.inr (50 + 2 + 2 * k4)] hi (fun v hi11 => ∃ x12 : Int32, v = some (.inl x12) ∧ (Q (some (.inl x12)) hi11))) ∧ ((¬ p2 = 5) → ((p2 = 6) → pm_C pm_g (SH L) HR (d + 1) m_Folk_keepsOf [.inr 50, .inr (50 + 2 + 2 * k4), .inl (hi (50 + 2 + 2 * k4) 4)] hi (fun v hi14 => ∃ x15 : Int32, v = some (.inl x15) ∧ (Q (some (.inl x15)) hi14))) ∧ ((¬ p2 = 6) → ((p2 = 7) → Q (some (.inl (f_Kinds_takesOf (hi (50 + 2 + 2 * k4) 0) (hi (50 + 2 + 2 * k4) 1)))) hi) ∧ ((¬ p2 = 7) → ((p2 = 8) → Q (some (.inl (f_Kinds_goesOf (hi (50 + 2 + 2 * k4) 0)))) hi) ∧ ((¬ p2 = 8) → ((p2 = 9) → Q (some (.inl (f_Kinds_worthOf (hi (50 + 2 + 2 * k4) 0) (hi (50 + 2 + 2 * k4) 2)))) hi) ∧ ((¬ p2 = 9) → Q (some (.inl (-1000000001))) hi))))))))))))))) : pm_C pm_g (SH L) HR (d + 2) m_E_told [.inr 16, .inl p1, .inl p2] hi Q := by
  refine pm_C_of (maxL := 4) (t := pm_t75) rfl (Nat.le_of_ble_eq_true rfl) ?_
  refine pm_W_of 22 [] rfl ?_
  refine And.intro sh_l16 ?_
  rw [hr_16_1]
  refine And.intro sh_l50 ?_
  refine v_Folk_hasSpeaker (d := d) (fo_lit 50 (by decide)) ?_
  refine And.intro (fun c1 => ?_) (fun c1 => ?_)
  · replace h := h.1 c1
    refine ⟨_, rfl, ?_⟩
    refine And.intro (fun hc => absurd hc (pm_cd_f (by decide))) (fun _ => ?_)
    refine And.intro trivial ?_
    exact h
  · replace h := h.2 c1
    refine And.intro (fun c2 => ?_) (fun c2 => ?_)
    · replace h := h.1 c2
      refine ⟨_, rfl, ?_⟩
      refine And.intro (fun hc => absurd hc (pm_cd_f (by decide))) (fun _ => ?_)
      refine And.intro trivial ?_
      exact h
    · replace h := h.2 c2
      refine And.intro (fun c3 => ?_) (fun c3 => ?_)
      · replace h := h.1 c3
        refine ⟨_, rfl, ?_⟩
        refine And.intro (fun hc => absurd hc (pm_cd_f (by decide))) (fun _ => ?_)
        refine And.intro trivial ?_
        exact h
      · replace h := h.2 c3
        refine ⟨_, rfl, ?_⟩
        refine And.intro (fun _ => ?_) (fun hc => absurd (pm_cd_t (by decide)) hc)
        refine And.intro sh_l16 ?_
        rw [hr_16_1]
        refine And.intro sh_l50 ?_
        rw [hr_50_1]
        obtain ⟨k4, hkk4, hek4, h⟩ := h
        refine And.intro (pm_ao_of (t := 0) sh_l51 hkk4 hek4 (by decide)) ?_
        rw [pm_tn hek4 hkk4 (by decide)]
        rw [(hr_sp (fo_lit 50 (by decide)) hkk4)]
        intro pc1 hsw
        by_cases c5 : p2 = 0
        · rw [pm_sw_t c5] at hsw
          subst hsw
          replace h := h.1 c5
          refine And.intro (sh_sk (sk_of (fo_lit 50 (by decide)) hkk4)) ?_
          refine And.intro trivial ?_
          exact h
        · rw [pm_sw_f c5] at hsw
          replace h := h.2 c5
          by_cases c6 : p2 = 1
          · rw [pm_sw_t c6] at hsw
            subst hsw
            replace h := h.1 c6
            refine And.intro (sh_sk (sk_of (fo_lit 50 (by decide)) hkk4)) ?_
            refine And.intro trivial ?_
            exact h
          · rw [pm_sw_f c6] at hsw
            replace h := h.2 c6
            by_cases c7 : p2 = 2
            · rw [pm_sw_t c7] at hsw
              subst hsw
              replace h := h.1 c7
              refine And.intro (sh_sk (sk_of (fo_lit 50 (by decide)) hkk4)) ?_
              refine And.intro trivial ?_
              exact h
            · rw [pm_sw_f c7] at hsw
              replace h := h.2 c7
              by_cases c8 : p2 = 3
              · rw [pm_sw_t c8] at hsw
                subst hsw
                replace h := h.1 c8
                refine And.intro (sh_sk (sk_of (fo_lit 50 (by decide)) hkk4)) ?_
                refine And.intro trivial ?_
                exact h
              · rw [pm_sw_f c8] at hsw
                replace h := h.2 c8
                by_cases c9 : p2 = 4
                · rw [pm_sw_t c9] at hsw
                  subst hsw
                  replace h := h.1 c9
                  refine And.intro (sh_sk (sk_of (fo_lit 50 (by decide)) hkk4)) ?_
                  refine And.intro trivial ?_
                  exact h
                · rw [pm_sw_f c9] at hsw
                  replace h := h.2 c9
                  by_cases c10 : p2 = 5
                  · rw [pm_sw_t c10] at hsw
                    subst hsw
                    replace h := h.1 c10
                    refine And.intro (sh_sk (sk_of (fo_lit 50 (by decide)) hkk4)) ?_
                    refine pm_C_imp h (fun v hi11 h => ?_)
                    obtain ⟨x12, rfl, h⟩ := h
                    refine ⟨_, rfl, ?_⟩
                    refine And.intro trivial ?_
                    exact h
                  · rw [pm_sw_f c10] at hsw
                    replace h := h.2 c10
                    by_cases c13 : p2 = 6
                    · rw [pm_sw_t c13] at hsw
                      subst hsw
                      replace h := h.1 c13
                      refine And.intro sh_l16 ?_
                      rw [hr_16_1]
                      refine And.intro (sh_sk (sk_of (fo_lit 50 (by decide)) hkk4)) ?_
                      refine And.intro sh_l50 ?_
                      refine pm_C_imp h (fun v hi14 h => ?_)
                      obtain ⟨x15, rfl, h⟩ := h
                      refine ⟨_, rfl, ?_⟩
                      refine And.intro trivial ?_
                      exact h
                    · rw [pm_sw_f c13] at hsw
                      replace h := h.2 c13
                      by_cases c16 : p2 = 7
                      · rw [pm_sw_t c16] at hsw
                        subst hsw
                        replace h := h.1 c16
                        refine And.intro (sh_sk (sk_of (fo_lit 50 (by decide)) hkk4)) ?_
                        refine And.intro (sh_sk (sk_of (fo_lit 50 (by decide)) hkk4)) ?_
                        refine And.intro trivial ?_
                        refine f_Kinds_takesOf_c (d := d)  ?_
                        refine ⟨_, rfl, ?_⟩
                        refine And.intro trivial ?_
                        exact h
                      · rw [pm_sw_f c16] at hsw
                        replace h := h.2 c16
                        by_cases c17 : p2 = 8
                        · rw [pm_sw_t c17] at hsw
                          subst hsw
                          replace h := h.1 c17
                          refine And.intro (sh_sk (sk_of (fo_lit 50 (by decide)) hkk4)) ?_
                          refine And.intro trivial ?_
                          refine f_Kinds_goesOf_c (d := d)  ?_
                          refine ⟨_, rfl, ?_⟩
                          refine And.intro trivial ?_
                          exact h
                        · rw [pm_sw_f c17] at hsw
                          replace h := h.2 c17
                          by_cases c18 : p2 = 9
                          · rw [pm_sw_t c18] at hsw
                            subst hsw
                            replace h := h.1 c18
                            refine And.intro (sh_sk (sk_of (fo_lit 50 (by decide)) hkk4)) ?_
                            refine And.intro (sh_sk (sk_of (fo_lit 50 (by decide)) hkk4)) ?_
                            refine And.intro trivial ?_
                            refine f_Kinds_worthOf_c (d := d)  ?_
                            refine ⟨_, rfl, ?_⟩
                            refine And.intro trivial ?_
                            exact h
                          · rw [pm_sw_f c18] at hsw
                            replace h := h.2 c18
                            replace hsw : 155 = pc1 := hsw
                            subst hsw
                            refine And.intro trivial ?_
                            exact h
theorem v_E_heard {L d : Nat} {p1 : Int32} {p2 : Int32} {hi : pm_B} {Q : pm_Q} (h : ((p1 < 0) → Q (some (.inl (-1000000001))) hi) ∧ ((¬ (p1 < 0)) → (((hi 50 2) ≤ p1) → Q (some (.inl (-1000000001))) hi) ∧ ((¬ ((hi 50 2) ≤ p1)) → ((8 ≤ p1) → Q (some (.inl (-1000000001))) hi) ∧ ((¬ (8 ≤ p1)) → ((p2 < 0) → Q (some (.inl (-1000000001))) hi) ∧ ((¬ (p2 < 0)) → ((12 ≤ p2) → Q (some (.inl (-1000000001))) hi) ∧ ((¬ (12 ≤ p2)) → ∃ k6 : Nat, k6 < 8 ∧ p1 = nI k6 ∧ (((p2 < 0) → Q (some (.inl (-1000000005))) hi) ∧ ((¬ (p2 < 0)) → (((hi (50 + 2 + 2 * k6) 4) ≤ p2) → Q (some (.inl (-1000000005))) hi) ∧ ((¬ ((hi (50 + 2 + 2 * k6) 4) ≤ p2)) → ((24 ≤ p2) → Q (some (.inl (-1000000005))) hi) ∧ ((¬ (24 ≤ p2)) → ∃ k10 : Nat, k10 < 24 ∧ p2 = nI k10 ∧ (Q (some (.inl (hi ((50 + 2 + 2 * k6) + 1) k10))) hi))))))))))) : pm_C pm_g (SH L) HR (d + 2) m_E_heard [.inr 16, .inl p1, .inl p2] hi Q := by
  refine pm_C_of (maxL := 3) (t := pm_t76) rfl (Nat.le_of_ble_eq_true rfl) ?_
  refine pm_W_of 19 [] rfl ?_
  refine And.intro sh_l16 ?_
  rw [hr_16_1]
  refine And.intro sh_l50 ?_
  refine v_Folk_hasSpeaker (d := d) (fo_lit 50 (by decide)) ?_
  refine And.intro (fun c1 => ?_) (fun c1 => ?_)
  · replace h := h.1 c1
    refine ⟨_, rfl, ?_⟩
    refine And.intro (fun _ => ?_) (fun hc => absurd (pm_cd_t (by decide)) hc)
    refine And.intro trivial ?_
    exact h
  · replace h := h.2 c1
    refine And.intro (fun c2 => ?_) (fun c2 => ?_)
    · replace h := h.1 c2
      refine ⟨_, rfl, ?_⟩
      refine And.intro (fun _ => ?_) (fun hc => absurd (pm_cd_t (by decide)) hc)
      refine And.intro trivial ?_
      exact h
    · replace h := h.2 c2
      refine And.intro (fun c3 => ?_) (fun c3 => ?_)
      · replace h := h.1 c3
        refine ⟨_, rfl, ?_⟩
        refine And.intro (fun _ => ?_) (fun hc => absurd (pm_cd_t (by decide)) hc)
        refine And.intro trivial ?_
        exact h
      · replace h := h.2 c3
        refine ⟨_, rfl, ?_⟩
        refine And.intro (fun hc => absurd hc (pm_cd_f (by decide))) (fun _ => ?_)
        refine And.intro trivial ?_
        refine v_E_isHeardPlace (d := d)  ?_
        refine And.intro (fun c4 => ?_) (fun c4 => ?_)
        · replace h := h.1 c4
          refine ⟨_, rfl, ?_⟩
          refine And.intro (fun hc => absurd hc (pm_cd_f (by decide))) (fun _ => ?_)
          refine And.intro trivial ?_
          exact h
        · replace h := h.2 c4
          refine And.intro (fun c5 => ?_) (fun c5 => ?_)
          · replace h := h.1 c5
            refine ⟨_, rfl, ?_⟩
            refine And.intro (fun hc => absurd hc (pm_cd_f (by decide))) (fun _ => ?_)
            refine And.intro trivial ?_
            exact h
          · replace h := h.2 c5
            refine ⟨_, rfl, ?_⟩
            refine And.intro (fun _ => ?_) (fun hc => absurd (pm_cd_t (by decide)) hc)
            refine And.intro sh_l16 ?_
            rw [hr_16_1]
            refine And.intro sh_l50 ?_
            rw [hr_50_1]
            obtain ⟨k6, hkk6, hek6, h⟩ := h
            refine And.intro (pm_ao_of (t := 0) sh_l51 hkk6 hek6 (by decide)) ?_
            rw [pm_tn hek6 hkk6 (by decide)]
            rw [(hr_sp (fo_lit 50 (by decide)) hkk6)]
            refine And.intro (sh_sk (sk_of (fo_lit 50 (by decide)) hkk6)) ?_
            refine v_Speaker_wordAt (d := d) (sk_of (fo_lit 50 (by decide)) hkk6) ?_
            refine And.intro (fun c7 => ?_) (fun c7 => ?_)
            · replace h := h.1 c7
              refine ⟨_, rfl, ?_⟩
              refine And.intro trivial ?_
              exact h
            · replace h := h.2 c7
              refine And.intro (fun c8 => ?_) (fun c8 => ?_)
              · replace h := h.1 c8
                refine ⟨_, rfl, ?_⟩
                refine And.intro trivial ?_
                exact h
              · replace h := h.2 c8
                refine And.intro (fun c9 => ?_) (fun c9 => ?_)
                · replace h := h.1 c9
                  refine ⟨_, rfl, ?_⟩
                  refine And.intro trivial ?_
                  exact h
                · replace h := h.2 c9
                  obtain ⟨k10, hkk10, hek10, h⟩ := h
                  refine ⟨k10, hkk10, hek10, ?_⟩
                  refine ⟨_, rfl, ?_⟩
                  refine And.intro trivial ?_
                  exact h
theorem v_E_as {L d : Nat} {p1 : Int32} {p2 : Int32} {hi : pm_B} {Q : pm_Q} (h : ((p1 < 0) → Q (some (.inl (-1000000001))) hi) ∧ ((¬ (p1 < 0)) → (((hi 50 2) ≤ p1) → Q (some (.inl (-1000000001))) hi) ∧ ((¬ ((hi 50 2) ≤ p1)) → ((8 ≤ p1) → Q (some (.inl (-1000000001))) hi) ∧ ((¬ (8 ≤ p1)) → ((p2 < 0) → Q (some (.inl (-1000000001))) hi) ∧ ((¬ (p2 < 0)) → ((6 ≤ p2) → Q (some (.inl (-1000000001))) hi) ∧ ((¬ (6 ≤ p2)) → ∃ k6 : Nat, k6 < 8 ∧ p1 = nI k6 ∧ (pm_C pm_g (SH L) HR (d + 1) m_Kinds_isOf [.inl (hi (50 + 2 + 2 * k6) 0), .inl p2] hi (fun v hi7 => ∃ x8 : Int32, v = some (.inl x8) ∧ (((x8 = 0) → Q (some (.inl (-1000000012))) hi7) ∧ ((¬ (x8 = 0)) → Q (some (.inl (hi7 (50 + 2 + 2 * k6) 2))) hi7)))))))))) : pm_C pm_g (SH L) HR (d + 2) m_E_as [.inr 16, .inl p1, .inl p2] hi Q := by
  refine pm_C_of (maxL := 4) (t := pm_t77) rfl (Nat.le_of_ble_eq_true rfl) ?_
  refine pm_W_of 25 [] rfl ?_
  refine And.intro sh_l16 ?_
  rw [hr_16_1]
  refine And.intro sh_l50 ?_
  refine v_Folk_hasSpeaker (d := d) (fo_lit 50 (by decide)) ?_
  refine And.intro (fun c1 => ?_) (fun c1 => ?_)
  · replace h := h.1 c1
    refine ⟨_, rfl, ?_⟩
    refine And.intro (fun _ => ?_) (fun hc => absurd (pm_cd_t (by decide)) hc)
    refine And.intro trivial ?_
    exact h
  · replace h := h.2 c1
    refine And.intro (fun c2 => ?_) (fun c2 => ?_)
    · replace h := h.1 c2
      refine ⟨_, rfl, ?_⟩
      refine And.intro (fun _ => ?_) (fun hc => absurd (pm_cd_t (by decide)) hc)
      refine And.intro trivial ?_
      exact h
    · replace h := h.2 c2
      refine And.intro (fun c3 => ?_) (fun c3 => ?_)
      · replace h := h.1 c3
        refine ⟨_, rfl, ?_⟩
        refine And.intro (fun _ => ?_) (fun hc => absurd (pm_cd_t (by decide)) hc)
        refine And.intro trivial ?_
        exact h
      · replace h := h.2 c3
        refine ⟨_, rfl, ?_⟩
        refine And.intro (fun hc => absurd hc (pm_cd_f (by decide))) (fun _ => ?_)
        refine And.intro trivial ?_
        refine v_E_isKind (d := d)  ?_
        refine And.intro (fun c4 => ?_) (fun c4 => ?_)
        · replace h := h.1 c4
          refine ⟨_, rfl, ?_⟩
          refine And.intro (fun hc => absurd hc (pm_cd_f (by decide))) (fun _ => ?_)
          refine And.intro trivial ?_
          exact h
        · replace h := h.2 c4
          refine And.intro (fun c5 => ?_) (fun c5 => ?_)
          · replace h := h.1 c5
            refine ⟨_, rfl, ?_⟩
            refine And.intro (fun hc => absurd hc (pm_cd_f (by decide))) (fun _ => ?_)
            refine And.intro trivial ?_
            exact h
          · replace h := h.2 c5
            refine ⟨_, rfl, ?_⟩
            refine And.intro (fun _ => ?_) (fun hc => absurd (pm_cd_t (by decide)) hc)
            refine And.intro sh_l16 ?_
            rw [hr_16_1]
            refine And.intro sh_l50 ?_
            rw [hr_50_1]
            obtain ⟨k6, hkk6, hek6, h⟩ := h
            refine And.intro (pm_ao_of (t := 0) sh_l51 hkk6 hek6 (by decide)) ?_
            rw [pm_tn hek6 hkk6 (by decide)]
            rw [(hr_sp (fo_lit 50 (by decide)) hkk6)]
            refine And.intro (sh_sk (sk_of (fo_lit 50 (by decide)) hkk6)) ?_
            refine And.intro trivial ?_
            refine pm_C_imp h (fun v hi7 h => ?_)
            obtain ⟨x8, rfl, h⟩ := h
            refine ⟨_, rfl, ?_⟩
            refine And.intro (fun c9 => ?_) (fun c9 => ?_)
            · replace h := h.1 c9
              refine And.intro trivial ?_
              exact h
            · replace h := h.2 c9
              refine And.intro (sh_sk (sk_of (fo_lit 50 (by decide)) hkk6)) ?_
              refine And.intro trivial ?_
              exact h
theorem v_E_turns {L d : Nat} {p1 : Int32} {p2 : Int32} {hi : pm_B} {Q : pm_Q} (h : ((p1 < 0) → Q (some (.inl (-1000000001))) hi) ∧ ((¬ (p1 < 0)) → (((hi 50 2) ≤ p1) → Q (some (.inl (-1000000001))) hi) ∧ ((¬ ((hi 50 2) ≤ p1)) → ((8 ≤ p1) → Q (some (.inl (-1000000001))) hi) ∧ ((¬ (8 ≤ p1)) → ((p2 < 0) → Q (some (.inl (-1000000001))) hi) ∧ ((¬ (p2 < 0)) → ((6 ≤ p2) → Q (some (.inl (-1000000001))) hi) ∧ ((¬ (6 ≤ p2)) → ∃ k6 : Nat, k6 < 8 ∧ p1 = nI k6 ∧ (Q (some (.inl (hi (50 + 2 + 2 * k6) 0))) (pm_u hi (50 + 2 + 2 * k6) 0 p2)))))))) : pm_C pm_g (SH L) HR (d + 2) m_E_turns [.inr 16, .inl p1, .inl p2] hi Q := by
  refine pm_C_of (maxL := 5) (t := pm_t78) rfl (Nat.le_of_ble_eq_true rfl) ?_
  refine pm_W_of 24 [] rfl ?_
  refine And.intro sh_l16 ?_
  rw [hr_16_1]
  refine And.intro sh_l50 ?_
  refine v_Folk_hasSpeaker (d := d) (fo_lit 50 (by decide)) ?_
  refine And.intro (fun c1 => ?_) (fun c1 => ?_)
  · replace h := h.1 c1
    refine ⟨_, rfl, ?_⟩
    refine And.intro (fun _ => ?_) (fun hc => absurd (pm_cd_t (by decide)) hc)
    refine And.intro trivial ?_
    exact h
  · replace h := h.2 c1
    refine And.intro (fun c2 => ?_) (fun c2 => ?_)
    · replace h := h.1 c2
      refine ⟨_, rfl, ?_⟩
      refine And.intro (fun _ => ?_) (fun hc => absurd (pm_cd_t (by decide)) hc)
      refine And.intro trivial ?_
      exact h
    · replace h := h.2 c2
      refine And.intro (fun c3 => ?_) (fun c3 => ?_)
      · replace h := h.1 c3
        refine ⟨_, rfl, ?_⟩
        refine And.intro (fun _ => ?_) (fun hc => absurd (pm_cd_t (by decide)) hc)
        refine And.intro trivial ?_
        exact h
      · replace h := h.2 c3
        refine ⟨_, rfl, ?_⟩
        refine And.intro (fun hc => absurd hc (pm_cd_f (by decide))) (fun _ => ?_)
        refine And.intro trivial ?_
        refine v_E_isKind (d := d)  ?_
        refine And.intro (fun c4 => ?_) (fun c4 => ?_)
        · replace h := h.1 c4
          refine ⟨_, rfl, ?_⟩
          refine And.intro (fun hc => absurd hc (pm_cd_f (by decide))) (fun _ => ?_)
          refine And.intro trivial ?_
          exact h
        · replace h := h.2 c4
          refine And.intro (fun c5 => ?_) (fun c5 => ?_)
          · replace h := h.1 c5
            refine ⟨_, rfl, ?_⟩
            refine And.intro (fun hc => absurd hc (pm_cd_f (by decide))) (fun _ => ?_)
            refine And.intro trivial ?_
            exact h
          · replace h := h.2 c5
            refine ⟨_, rfl, ?_⟩
            refine And.intro (fun _ => ?_) (fun hc => absurd (pm_cd_t (by decide)) hc)
            refine And.intro sh_l16 ?_
            rw [hr_16_1]
            refine And.intro sh_l50 ?_
            rw [hr_50_1]
            obtain ⟨k6, hkk6, hek6, h⟩ := h
            refine And.intro (pm_ao_of (t := 0) sh_l51 hkk6 hek6 (by decide)) ?_
            rw [pm_tn hek6 hkk6 (by decide)]
            rw [(hr_sp (fo_lit 50 (by decide)) hkk6)]
            refine And.intro (sh_sk (sk_of (fo_lit 50 (by decide)) hkk6)) ?_
            refine And.intro ⟨(sh_sk (sk_of (fo_lit 50 (by decide)) hkk6)), trivial⟩ ?_
            refine And.intro trivial ?_
            exact h
theorem v_E_set {L d : Nat} {p1 : Int32} {p2 : Int32} {p3 : Int32} {hi : pm_B} {Q : pm_Q} (h : ((p1 < 0) → Q (some (.inl (-1000000001))) hi) ∧ ((¬ (p1 < 0)) → (((hi 50 2) ≤ p1) → Q (some (.inl (-1000000001))) hi) ∧ ((¬ ((hi 50 2) ≤ p1)) → ((8 ≤ p1) → Q (some (.inl (-1000000001))) hi) ∧ ((¬ (8 ≤ p1)) → ∃ k4 : Nat, k4 < 8 ∧ p1 = nI k4 ∧ (((¬ p2 = 1) → ((¬ p2 = 2) → Q (some (.inl (-1000000001))) hi) ∧ ((¬ (¬ p2 = 2)) → ((p3 < 0) → Q (some (.inl (-1000000001))) hi) ∧ ((¬ (p3 < 0)) → ((99 < p3) → Q (some (.inl (-1000000001))) hi) ∧ ((¬ (99 < p3)) → Q (some (.inl (hi (50 + 2 + 2 * k4) 2))) (pm_u hi (50 + 2 + 2 * k4) 2 p3))))) ∧ ((¬ (¬ p2 = 1)) → ((p3 < 1) → ((¬ p2 = 2) → Q (some (.inl (-1000000001))) hi) ∧ ((¬ (¬ p2 = 2)) → ((p3 < 0) → Q (some (.inl (-1000000001))) hi) ∧ ((¬ (p3 < 0)) → ((99 < p3) → Q (some (.inl (-1000000001))) hi) ∧ ((¬ (99 < p3)) → Q (some (.inl (hi (50 + 2 + 2 * k4) 2))) (pm_u hi (50 + 2 + 2 * k4) 2 p3))))) ∧ ((¬ (p3 < 1)) → ((9 < p3) → ((¬ p2 = 2) → Q (some (.inl (-1000000001))) hi) ∧ ((¬ (¬ p2 = 2)) → ((p3 < 0) → Q (some (.inl (-1000000001))) hi) ∧ ((¬ (p3 < 0)) → ((99 < p3) → Q (some (.inl (-1000000001))) hi) ∧ ((¬ (99 < p3)) → Q (some (.inl (hi (50 + 2 + 2 * k4) 2))) (pm_u hi (50 + 2 + 2 * k4) 2 p3))))) ∧ ((¬ (9 < p3)) → Q (some (.inl (hi (50 + 2 + 2 * k4) 1))) (pm_u hi (50 + 2 + 2 * k4) 1 p3))))))))) : pm_C pm_g (SH L) HR (d + 2) m_E_set [.inr 16, .inl p1, .inl p2, .inl p3] hi Q := by
  refine pm_C_of (maxL := 6) (t := pm_t79) rfl (Nat.le_of_ble_eq_true rfl) ?_
  refine pm_W_of 33 [] rfl ?_
  refine And.intro sh_l16 ?_
  rw [hr_16_1]
  refine And.intro sh_l50 ?_
  refine v_Folk_hasSpeaker (d := d) (fo_lit 50 (by decide)) ?_
  refine And.intro (fun c1 => ?_) (fun c1 => ?_)
  · replace h := h.1 c1
    refine ⟨_, rfl, ?_⟩
    refine And.intro (fun hc => absurd hc (pm_cd_f (by decide))) (fun _ => ?_)
    refine And.intro trivial ?_
    exact h
  · replace h := h.2 c1
    refine And.intro (fun c2 => ?_) (fun c2 => ?_)
    · replace h := h.1 c2
      refine ⟨_, rfl, ?_⟩
      refine And.intro (fun hc => absurd hc (pm_cd_f (by decide))) (fun _ => ?_)
      refine And.intro trivial ?_
      exact h
    · replace h := h.2 c2
      refine And.intro (fun c3 => ?_) (fun c3 => ?_)
      · replace h := h.1 c3
        refine ⟨_, rfl, ?_⟩
        refine And.intro (fun hc => absurd hc (pm_cd_f (by decide))) (fun _ => ?_)
        refine And.intro trivial ?_
        exact h
      · replace h := h.2 c3
        refine ⟨_, rfl, ?_⟩
        refine And.intro (fun _ => ?_) (fun hc => absurd (pm_cd_t (by decide)) hc)
        refine And.intro sh_l16 ?_
        rw [hr_16_1]
        refine And.intro sh_l50 ?_
        rw [hr_50_1]
        obtain ⟨k4, hkk4, hek4, h⟩ := h
        refine And.intro (pm_ao_of (t := 0) sh_l51 hkk4 hek4 (by decide)) ?_
        rw [pm_tn hek4 hkk4 (by decide)]
        rw [(hr_sp (fo_lit 50 (by decide)) hkk4)]
        refine And.intro (fun c5 => ?_) (fun c5 => ?_)
        · replace h := h.1 c5
          refine And.intro (fun c6 => ?_) (fun c6 => ?_)
          · replace h := h.1 c6
            refine And.intro trivial ?_
            exact h
          · replace h := h.2 c6
            refine And.intro trivial ?_
            refine v_E_isFame (d := d)  ?_
            refine And.intro (fun c7 => ?_) (fun c7 => ?_)
            · replace h := h.1 c7
              refine ⟨_, rfl, ?_⟩
              refine And.intro (fun _ => ?_) (fun hc => absurd (pm_cd_t (by decide)) hc)
              refine And.intro trivial ?_
              exact h
            · replace h := h.2 c7
              refine And.intro (fun c8 => ?_) (fun c8 => ?_)
              · replace h := h.1 c8
                refine ⟨_, rfl, ?_⟩
                refine And.intro (fun _ => ?_) (fun hc => absurd (pm_cd_t (by decide)) hc)
                refine And.intro trivial ?_
                exact h
              · replace h := h.2 c8
                refine ⟨_, rfl, ?_⟩
                refine And.intro (fun hc => absurd hc (pm_cd_f (by decide))) (fun _ => ?_)
                refine And.intro (sh_sk (sk_of (fo_lit 50 (by decide)) hkk4)) ?_
                refine And.intro ⟨(sh_sk (sk_of (fo_lit 50 (by decide)) hkk4)), trivial⟩ ?_
                refine And.intro trivial ?_
                exact h
        · replace h := h.2 c5
          refine And.intro trivial ?_
          refine v_E_isEar (d := d)  ?_
          refine And.intro (fun c9 => ?_) (fun c9 => ?_)
          · replace h := h.1 c9
            refine ⟨_, rfl, ?_⟩
            refine And.intro (fun _ => ?_) (fun hc => absurd (pm_cd_t (by decide)) hc)
            refine And.intro (fun c10 => ?_) (fun c10 => ?_)
            · replace h := h.1 c10
              refine And.intro trivial ?_
              exact h
            · replace h := h.2 c10
              refine And.intro trivial ?_
              refine v_E_isFame (d := d)  ?_
              refine And.intro (fun c11 => ?_) (fun c11 => ?_)
              · replace h := h.1 c11
                refine ⟨_, rfl, ?_⟩
                refine And.intro (fun _ => ?_) (fun hc => absurd (pm_cd_t (by decide)) hc)
                refine And.intro trivial ?_
                exact h
              · replace h := h.2 c11
                refine And.intro (fun c12 => ?_) (fun c12 => ?_)
                · replace h := h.1 c12
                  refine ⟨_, rfl, ?_⟩
                  refine And.intro (fun _ => ?_) (fun hc => absurd (pm_cd_t (by decide)) hc)
                  refine And.intro trivial ?_
                  exact h
                · replace h := h.2 c12
                  refine ⟨_, rfl, ?_⟩
                  refine And.intro (fun hc => absurd hc (pm_cd_f (by decide))) (fun _ => ?_)
                  refine And.intro (sh_sk (sk_of (fo_lit 50 (by decide)) hkk4)) ?_
                  refine And.intro ⟨(sh_sk (sk_of (fo_lit 50 (by decide)) hkk4)), trivial⟩ ?_
                  refine And.intro trivial ?_
                  exact h
          · replace h := h.2 c9
            refine And.intro (fun c13 => ?_) (fun c13 => ?_)
            · replace h := h.1 c13
              refine ⟨_, rfl, ?_⟩
              refine And.intro (fun _ => ?_) (fun hc => absurd (pm_cd_t (by decide)) hc)
              refine And.intro (fun c14 => ?_) (fun c14 => ?_)
              · replace h := h.1 c14
                refine And.intro trivial ?_
                exact h
              · replace h := h.2 c14
                refine And.intro trivial ?_
                refine v_E_isFame (d := d)  ?_
                refine And.intro (fun c15 => ?_) (fun c15 => ?_)
                · replace h := h.1 c15
                  refine ⟨_, rfl, ?_⟩
                  refine And.intro (fun _ => ?_) (fun hc => absurd (pm_cd_t (by decide)) hc)
                  refine And.intro trivial ?_
                  exact h
                · replace h := h.2 c15
                  refine And.intro (fun c16 => ?_) (fun c16 => ?_)
                  · replace h := h.1 c16
                    refine ⟨_, rfl, ?_⟩
                    refine And.intro (fun _ => ?_) (fun hc => absurd (pm_cd_t (by decide)) hc)
                    refine And.intro trivial ?_
                    exact h
                  · replace h := h.2 c16
                    refine ⟨_, rfl, ?_⟩
                    refine And.intro (fun hc => absurd hc (pm_cd_f (by decide))) (fun _ => ?_)
                    refine And.intro (sh_sk (sk_of (fo_lit 50 (by decide)) hkk4)) ?_
                    refine And.intro ⟨(sh_sk (sk_of (fo_lit 50 (by decide)) hkk4)), trivial⟩ ?_
                    refine And.intro trivial ?_
                    exact h
            · replace h := h.2 c13
              refine ⟨_, rfl, ?_⟩
              refine And.intro (fun hc => absurd hc (pm_cd_f (by decide))) (fun _ => ?_)
              refine And.intro (sh_sk (sk_of (fo_lit 50 (by decide)) hkk4)) ?_
              refine And.intro ⟨(sh_sk (sk_of (fo_lit 50 (by decide)) hkk4)), trivial⟩ ?_
              refine And.intro trivial ?_
              exact h
theorem v_E_speaks {L d : Nat} {p1 : Int32} {p2 : Int32} {p3 : Int32} {p4 : Int32} {hi : pm_B} {Q : pm_Q} (h : ((p1 < 0) → Q (some (.inl (-1000000001))) hi) ∧ ((¬ (p1 < 0)) → (((hi 50 2) ≤ p1) → Q (some (.inl (-1000000001))) hi) ∧ ((¬ ((hi 50 2) ≤ p1)) → ((8 ≤ p1) → Q (some (.inl (-1000000001))) hi) ∧ ((¬ (8 ≤ p1)) → ((p2 = (-1)) → ((p3 = (-1)) → ((p4 = (-1)) → pm_C pm_g (SH L) HR (d + 2) m_E_putFromWithout [.inr 16, .inl 0, .inl p2] hi (fun v hi7 => ∃ x8 : Int32, v = some (.inl x8) ∧ (pm_C pm_g (SH L) HR (d + 2) m_E_putFromWithout [.inr 16, .inl x8, .inl p3] hi7 (fun v hi9 => ∃ x10 : Int32, v = some (.inl x10) ∧ (pm_C pm_g (SH L) HR (d + 2) m_E_putFromWithout [.inr 16, .inl x10, .inl p4] hi9 (fun v hi11 => ∃ x12 : Int32, v = some (.inl x12) ∧ (∃ k13 : Nat, k13 < 8 ∧ p1 = nI k13 ∧ (pm_C pm_g (SH L) HR (d + 2) m_Folk_hears [.inr 50, .inr (50 + 2 + 2 * k13), .inr 139, .inl 0, .inl x12] hi11 (fun v hi14 => v = none ∧ (Q (some (.inl (hi14 (50 + 2 + 2 * k13) 4))) hi14)))))))))) ∧ ((¬ (p4 = (-1))) → ((p4 < 0) → Q (some (.inl (-1000000001))) hi) ∧ ((¬ (p4 < 0)) → ((20 ≤ p4) → Q (some (.inl (-1000000001))) hi) ∧ ((¬ (20 ≤ p4)) → pm_C pm_g (SH L) HR (d + 2) m_E_putFromWithout [.inr 16, .inl 0, .inl p2] hi (fun v hi17 => ∃ x18 : Int32, v = some (.inl x18) ∧ (pm_C pm_g (SH L) HR (d + 2) m_E_putFromWithout [.inr 16, .inl x18, .inl p3] hi17 (fun v hi19 => ∃ x20 : Int32, v = some (.inl x20) ∧ (pm_C pm_g (SH L) HR (d + 2) m_E_putFromWithout [.inr 16, .inl x20, .inl p4] hi19 (fun v hi21 => ∃ x22 : Int32, v = some (.inl x22) ∧ (∃ k23 : Nat, k23 < 8 ∧ p1 = nI k23 ∧ (pm_C pm_g (SH L) HR (d + 2) m_Folk_hears [.inr 50, .inr (50 + 2 + 2 * k23), .inr 139, .inl 0, .inl x22] hi21 (fun v hi24 => v = none ∧ (Q (some (.inl (hi24 (50 + 2 + 2 * k23) 4))) hi24))))))))))))) ∧ ((¬ (p3 = (-1))) → ((p3 < 0) → Q (some (.inl (-1000000001))) hi) ∧ ((¬ (p3 < 0)) → ((20 ≤ p3) → Q (some (.inl (-1000000001))) hi) ∧ ((¬ (20 ≤ p3)) → ((p4 = (-1)) → pm_C pm_g (SH L) HR (d + 2) m_E_putFromWithout [.inr 16, .inl 0, .inl p2] hi (fun v hi28 => ∃ x29 : Int32, v = some (.inl x29) ∧ (pm_C pm_g (SH L) HR (d + 2) m_E_putFromWithout [.inr 16, .inl x29, .inl p3] hi28 (fun v hi30 => ∃ x31 : Int32, v = some (.inl x31) ∧ (pm_C pm_g (SH L) HR (d + 2) m_E_putFromWithout [.inr 16, .inl x31, .inl p4] hi30 (fun v hi32 => ∃ x33 : Int32, v = some (.inl x33) ∧ (∃ k34 : Nat, k34 < 8 ∧ p1 = nI k34 ∧ (pm_C pm_g (SH L) HR (d + 2) m_Folk_hears [.inr 50, .inr (50 + 2 + 2 * k34), .inr 139, .inl 0, .inl x33] hi32 (fun v hi35 => v = none ∧ (Q (some (.inl (hi35 (50 + 2 + 2 * k34) 4))) hi35)))))))))) ∧ ((¬ (p4 = (-1))) → ((p4 < 0) → Q (some (.inl (-1000000001))) hi) ∧ ((¬ (p4 < 0)) → ((20 ≤ p4) → Q (some (.inl (-1000000001))) hi) ∧ ((¬ (20 ≤ p4)) → pm_C pm_g (SH L) HR (d + 2) m_E_putFromWithout [.inr 16, .inl 0, .inl p2] hi (fun v hi38 => ∃ x39 : Int32, v = some (.inl x39) ∧ (pm_C pm_g (SH L) HR (d + 2) m_E_putFromWithout [.inr 16, .inl x39, .inl p3] hi38 (fun v hi40 => ∃ x41 : Int32, v = some (.inl x41) ∧ (pm_C pm_g (SH L) HR (d + 2) m_E_putFromWithout [.inr 16, .inl x41, .inl p4] hi40 (fun v hi42 => ∃ x43 : Int32, v = some (.inl x43) ∧ (∃ k44 : Nat, k44 < 8 ∧ p1 = nI k44 ∧ (pm_C pm_g (SH L) HR (d + 2) m_Folk_hears [.inr 50, .inr (50 + 2 + 2 * k44), .inr 139, .inl 0, .inl x43] hi42 (fun v hi45 => v = none ∧ (Q (some (.inl (hi45 (50 + 2 + 2 * k44) 4))) hi45)))))))))))))))) ∧ ((¬ (p2 = (-1))) → ((p2 < 0) → Q (some (.inl (-1000000001))) hi) ∧ ((¬ (p2 < 0)) → ((20 ≤ p2) → Q (some (.inl (-1000000001))) hi) ∧ ((¬ (20 ≤ p2)) → ((p3 = (-1)) → ((p4 = (-1)) → pm_C pm_g (SH L) HR (d + 2) m_E_putFromWithout [.inr 16, .inl 0, .inl p2] hi (fun v hi50 => ∃ x51 : Int32, v = some (.inl x51) ∧ (pm_C pm_g (SH L) HR (d + 2) m_E_putFromWithout [.inr 16, .inl x51, .inl p3] hi50 (fun v hi52 => ∃ x53 : Int32, v = some (.inl x53) ∧ (pm_C pm_g (SH L) HR (d + 2) m_E_putFromWithout [.inr 16, .inl x53, .inl p4] hi52 (fun v hi54 => ∃ x55 : Int32, v = some (.inl x55) ∧ (∃ k56 : Nat, k56 < 8 ∧ p1 = nI k56 ∧ (pm_C pm_g (SH L) HR (d + 2) m_Folk_hears [.inr 50, .inr (50 + 2 + 2 * k56), .inr 139, .inl 0, .inl x55] hi54 (fun v hi57 => v = none ∧ (Q (some (.inl (hi57 (50 + 2 + 2 * k56) 4))) hi57)))))))))) ∧ ((¬ (p4 = (-1))) → ((p4 < 0) → Q (some (.inl (-1000000001))) hi) ∧ ((¬ (p4 < 0)) → ((20 ≤ p4) → Q (some (.inl (-1000000001))) hi) ∧ ((¬ (20 ≤ p4)) → pm_C pm_g (SH L) HR (d + 2) m_E_putFromWithout [.inr 16, .inl 0, .inl p2] hi (fun v hi60 => ∃ x61 : Int32, v = some (.inl x61) ∧ (pm_C pm_g (SH L) HR (d + 2) m_E_putFromWithout [.inr 16, .inl x61, .inl p3] hi60 (fun v hi62 => ∃ x63 : Int32, v = some (.inl x63) ∧ (pm_C pm_g (SH L) HR (d + 2) m_E_putFromWithout [.inr 16, .inl x63, .inl p4] hi62 (fun v hi64 => ∃ x65 : Int32, v = some (.inl x65) ∧ (∃ k66 : Nat, k66 < 8 ∧ p1 = nI k66 ∧ (pm_C pm_g (SH L) HR (d + 2) m_Folk_hears [.inr 50, .inr (50 + 2 + 2 * k66), .inr 139, .inl 0, .inl x65] hi64 (fun v hi67 => v = none ∧ (Q (some (.inl (hi67 (50 + 2 + 2 * k66) 4))) hi67))))))))))))) ∧ ((¬ (p3 = (-1))) → ((p3 < 0) → Q (some (.inl (-1000000001))) hi) ∧ ((¬ (p3 < 0)) → ((20 ≤ p3) → Q (some (.inl (-1000000001))) hi) ∧ ((¬ (20 ≤ p3)) → ((p4 = (-1)) → pm_C pm_g (SH L) HR (d + 2) m_E_putFromWithout [.inr 16, .inl 0, .inl p2] hi (fun v hi71 => ∃ x72 : Int32, v = some (.inl x72) ∧ (pm_C pm_g (SH L) HR (d + 2) m_E_putFromWithout [.inr 16, .inl x72, .inl p3] hi71 (fun v hi73 => ∃ x74 : Int32, v = some (.inl x74) ∧ (pm_C pm_g (SH L) HR (d + 2) m_E_putFromWithout [.inr 16, .inl x74, .inl p4] hi73 (fun v hi75 => ∃ x76 : Int32, v = some (.inl x76) ∧ (∃ k77 : Nat, k77 < 8 ∧ p1 = nI k77 ∧ (pm_C pm_g (SH L) HR (d + 2) m_Folk_hears [.inr 50, .inr (50 + 2 + 2 * k77), .inr 139, .inl 0, .inl x76] hi75 (fun v hi78 => v = none ∧ (Q (some (.inl (hi78 (50 + 2 + 2 * k77) 4))) hi78)))))))))) ∧ ((¬ (p4 = (-1))) → ((p4 < 0) → Q (some (.inl (-1000000001))) hi) ∧ ((¬ (p4 < 0)) → ((20 ≤ p4) → Q (some (.inl (-1000000001))) hi) ∧ ((¬ (20 ≤ p4)) → pm_C pm_g (SH L) HR (d + 2) m_E_putFromWithout [.inr 16, .inl 0, .inl p2] hi (fun v hi81 => ∃ x82 : Int32, v = some (.inl x82) ∧ (pm_C pm_g (SH L) HR (d + 2) m_E_putFromWithout [.inr 16, .inl x82, .inl p3] hi81 (fun v hi83 => ∃ x84 : Int32, v = some (.inl x84) ∧ (pm_C pm_g (SH L) HR (d + 2) m_E_putFromWithout [.inr 16, .inl x84, .inl p4] hi83 (fun v hi85 => ∃ x86 : Int32, v = some (.inl x86) ∧ (∃ k87 : Nat, k87 < 8 ∧ p1 = nI k87 ∧ (pm_C pm_g (SH L) HR (d + 2) m_Folk_hears [.inr 50, .inr (50 + 2 + 2 * k87), .inr 139, .inl 0, .inl x86] hi85 (fun v hi88 => v = none ∧ (Q (some (.inl (hi88 (50 + 2 + 2 * k87) 4))) hi88)))))))))))))))))))))) : pm_C pm_g (SH L) HR (d + 3) m_E_speaks [.inr 16, .inl p1, .inl p2, .inl p3, .inl p4] hi Q := by
  refine pm_C_of (maxL := 7) (t := pm_t80) rfl (Nat.le_of_ble_eq_true rfl) ?_
  refine pm_W_of 48 [] rfl ?_
  refine And.intro sh_l16 ?_
  rw [hr_16_1]
  refine And.intro sh_l50 ?_
  refine v_Folk_hasSpeaker (d := d + 1) (fo_lit 50 (by decide)) ?_
  refine And.intro (fun c1 => ?_) (fun c1 => ?_)
  · replace h := h.1 c1
    refine ⟨_, rfl, ?_⟩
    refine And.intro (fun hc => absurd hc (pm_cd_f (by decide))) (fun _ => ?_)
    refine And.intro trivial ?_
    exact h
  · replace h := h.2 c1
    refine And.intro (fun c2 => ?_) (fun c2 => ?_)
    · replace h := h.1 c2
      refine ⟨_, rfl, ?_⟩
      refine And.intro (fun hc => absurd hc (pm_cd_f (by decide))) (fun _ => ?_)
      refine And.intro trivial ?_
      exact h
    · replace h := h.2 c2
      refine And.intro (fun c3 => ?_) (fun c3 => ?_)
      · replace h := h.1 c3
        refine ⟨_, rfl, ?_⟩
        refine And.intro (fun hc => absurd hc (pm_cd_f (by decide))) (fun _ => ?_)
        refine And.intro trivial ?_
        exact h
      · replace h := h.2 c3
        refine ⟨_, rfl, ?_⟩
        refine And.intro (fun _ => ?_) (fun hc => absurd (pm_cd_t (by decide)) hc)
        refine And.intro trivial ?_
        refine v_E_isWordOrNone (d := d)  ?_
        refine And.intro (fun c4 => ?_) (fun c4 => ?_)
        · replace h := h.1 c4
          refine ⟨_, rfl, ?_⟩
          refine And.intro (fun hc => absurd hc (pm_cd_f (by decide))) (fun _ => ?_)
          refine And.intro trivial ?_
          refine v_E_isWordOrNone (d := d)  ?_
          refine And.intro (fun c5 => ?_) (fun c5 => ?_)
          · replace h := h.1 c5
            refine ⟨_, rfl, ?_⟩
            refine And.intro (fun hc => absurd hc (pm_cd_f (by decide))) (fun _ => ?_)
            refine And.intro trivial ?_
            refine v_E_isWordOrNone (d := d)  ?_
            refine And.intro (fun c6 => ?_) (fun c6 => ?_)
            · replace h := h.1 c6
              refine ⟨_, rfl, ?_⟩
              refine And.intro (fun _ => ?_) (fun hc => absurd (pm_cd_t (by decide)) hc)
              refine And.intro sh_l16 ?_
              refine pm_C_imp h (fun v hi7 h => ?_)
              obtain ⟨x8, rfl, h⟩ := h
              refine ⟨_, rfl, ?_⟩
              refine And.intro sh_l16 ?_
              refine pm_C_imp h (fun v hi9 h => ?_)
              obtain ⟨x10, rfl, h⟩ := h
              refine ⟨_, rfl, ?_⟩
              refine And.intro sh_l16 ?_
              refine pm_C_imp h (fun v hi11 h => ?_)
              obtain ⟨x12, rfl, h⟩ := h
              refine ⟨_, rfl, ?_⟩
              refine And.intro sh_l16 ?_
              rw [hr_16_1]
              refine And.intro sh_l50 ?_
              rw [hr_50_1]
              obtain ⟨k13, hkk13, hek13, h⟩ := h
              refine And.intro (pm_ao_of (t := 0) sh_l51 hkk13 hek13 (by decide)) ?_
              rw [pm_tn hek13 hkk13 (by decide)]
              rw [(hr_sp (fo_lit 50 (by decide)) hkk13)]
              refine And.intro sh_l16 ?_
              rw [hr_16_1]
              refine And.intro sh_l16 ?_
              rw [hr_16_10]
              refine And.intro sh_l50 ?_
              refine pm_C_imp h (fun v hi14 h => ?_)
              obtain ⟨rfl, h⟩ := h
              refine ⟨rfl, ?_⟩
              refine And.intro (sh_sk (sk_of (fo_lit 50 (by decide)) hkk13)) ?_
              refine And.intro trivial ?_
              exact h
            · replace h := h.2 c6
              refine And.intro (fun c15 => ?_) (fun c15 => ?_)
              · replace h := h.1 c15
                refine ⟨_, rfl, ?_⟩
                refine And.intro (fun hc => absurd hc (pm_cd_f (by decide))) (fun _ => ?_)
                refine And.intro trivial ?_
                exact h
              · replace h := h.2 c15
                refine And.intro (fun c16 => ?_) (fun c16 => ?_)
                · replace h := h.1 c16
                  refine ⟨_, rfl, ?_⟩
                  refine And.intro (fun hc => absurd hc (pm_cd_f (by decide))) (fun _ => ?_)
                  refine And.intro trivial ?_
                  exact h
                · replace h := h.2 c16
                  refine ⟨_, rfl, ?_⟩
                  refine And.intro (fun _ => ?_) (fun hc => absurd (pm_cd_t (by decide)) hc)
                  refine And.intro sh_l16 ?_
                  refine pm_C_imp h (fun v hi17 h => ?_)
                  obtain ⟨x18, rfl, h⟩ := h
                  refine ⟨_, rfl, ?_⟩
                  refine And.intro sh_l16 ?_
                  refine pm_C_imp h (fun v hi19 h => ?_)
                  obtain ⟨x20, rfl, h⟩ := h
                  refine ⟨_, rfl, ?_⟩
                  refine And.intro sh_l16 ?_
                  refine pm_C_imp h (fun v hi21 h => ?_)
                  obtain ⟨x22, rfl, h⟩ := h
                  refine ⟨_, rfl, ?_⟩
                  refine And.intro sh_l16 ?_
                  rw [hr_16_1]
                  refine And.intro sh_l50 ?_
                  rw [hr_50_1]
                  obtain ⟨k23, hkk23, hek23, h⟩ := h
                  refine And.intro (pm_ao_of (t := 0) sh_l51 hkk23 hek23 (by decide)) ?_
                  rw [pm_tn hek23 hkk23 (by decide)]
                  rw [(hr_sp (fo_lit 50 (by decide)) hkk23)]
                  refine And.intro sh_l16 ?_
                  rw [hr_16_1]
                  refine And.intro sh_l16 ?_
                  rw [hr_16_10]
                  refine And.intro sh_l50 ?_
                  refine pm_C_imp h (fun v hi24 h => ?_)
                  obtain ⟨rfl, h⟩ := h
                  refine ⟨rfl, ?_⟩
                  refine And.intro (sh_sk (sk_of (fo_lit 50 (by decide)) hkk23)) ?_
                  refine And.intro trivial ?_
                  exact h
          · replace h := h.2 c5
            refine And.intro (fun c25 => ?_) (fun c25 => ?_)
            · replace h := h.1 c25
              refine ⟨_, rfl, ?_⟩
              refine And.intro (fun _ => ?_) (fun hc => absurd (pm_cd_t (by decide)) hc)
              refine And.intro trivial ?_
              exact h
            · replace h := h.2 c25
              refine And.intro (fun c26 => ?_) (fun c26 => ?_)
              · replace h := h.1 c26
                refine ⟨_, rfl, ?_⟩
                refine And.intro (fun _ => ?_) (fun hc => absurd (pm_cd_t (by decide)) hc)
                refine And.intro trivial ?_
                exact h
              · replace h := h.2 c26
                refine ⟨_, rfl, ?_⟩
                refine And.intro (fun hc => absurd hc (pm_cd_f (by decide))) (fun _ => ?_)
                refine And.intro trivial ?_
                refine v_E_isWordOrNone (d := d)  ?_
                refine And.intro (fun c27 => ?_) (fun c27 => ?_)
                · replace h := h.1 c27
                  refine ⟨_, rfl, ?_⟩
                  refine And.intro (fun _ => ?_) (fun hc => absurd (pm_cd_t (by decide)) hc)
                  refine And.intro sh_l16 ?_
                  refine pm_C_imp h (fun v hi28 h => ?_)
                  obtain ⟨x29, rfl, h⟩ := h
                  refine ⟨_, rfl, ?_⟩
                  refine And.intro sh_l16 ?_
                  refine pm_C_imp h (fun v hi30 h => ?_)
                  obtain ⟨x31, rfl, h⟩ := h
                  refine ⟨_, rfl, ?_⟩
                  refine And.intro sh_l16 ?_
                  refine pm_C_imp h (fun v hi32 h => ?_)
                  obtain ⟨x33, rfl, h⟩ := h
                  refine ⟨_, rfl, ?_⟩
                  refine And.intro sh_l16 ?_
                  rw [hr_16_1]
                  refine And.intro sh_l50 ?_
                  rw [hr_50_1]
                  obtain ⟨k34, hkk34, hek34, h⟩ := h
                  refine And.intro (pm_ao_of (t := 0) sh_l51 hkk34 hek34 (by decide)) ?_
                  rw [pm_tn hek34 hkk34 (by decide)]
                  rw [(hr_sp (fo_lit 50 (by decide)) hkk34)]
                  refine And.intro sh_l16 ?_
                  rw [hr_16_1]
                  refine And.intro sh_l16 ?_
                  rw [hr_16_10]
                  refine And.intro sh_l50 ?_
                  refine pm_C_imp h (fun v hi35 h => ?_)
                  obtain ⟨rfl, h⟩ := h
                  refine ⟨rfl, ?_⟩
                  refine And.intro (sh_sk (sk_of (fo_lit 50 (by decide)) hkk34)) ?_
                  refine And.intro trivial ?_
                  exact h
                · replace h := h.2 c27
                  refine And.intro (fun c36 => ?_) (fun c36 => ?_)
                  · replace h := h.1 c36
                    refine ⟨_, rfl, ?_⟩
                    refine And.intro (fun hc => absurd hc (pm_cd_f (by decide))) (fun _ => ?_)
                    refine And.intro trivial ?_
                    exact h
                  · replace h := h.2 c36
                    refine And.intro (fun c37 => ?_) (fun c37 => ?_)
                    · replace h := h.1 c37
                      refine ⟨_, rfl, ?_⟩
                      refine And.intro (fun hc => absurd hc (pm_cd_f (by decide))) (fun _ => ?_)
                      refine And.intro trivial ?_
                      exact h
                    · replace h := h.2 c37
                      refine ⟨_, rfl, ?_⟩
                      refine And.intro (fun _ => ?_) (fun hc => absurd (pm_cd_t (by decide)) hc)
                      refine And.intro sh_l16 ?_
                      refine pm_C_imp h (fun v hi38 h => ?_)
                      obtain ⟨x39, rfl, h⟩ := h
                      refine ⟨_, rfl, ?_⟩
                      refine And.intro sh_l16 ?_
                      refine pm_C_imp h (fun v hi40 h => ?_)
                      obtain ⟨x41, rfl, h⟩ := h
                      refine ⟨_, rfl, ?_⟩
                      refine And.intro sh_l16 ?_
                      refine pm_C_imp h (fun v hi42 h => ?_)
                      obtain ⟨x43, rfl, h⟩ := h
                      refine ⟨_, rfl, ?_⟩
                      refine And.intro sh_l16 ?_
                      rw [hr_16_1]
                      refine And.intro sh_l50 ?_
                      rw [hr_50_1]
                      obtain ⟨k44, hkk44, hek44, h⟩ := h
                      refine And.intro (pm_ao_of (t := 0) sh_l51 hkk44 hek44 (by decide)) ?_
                      rw [pm_tn hek44 hkk44 (by decide)]
                      rw [(hr_sp (fo_lit 50 (by decide)) hkk44)]
                      refine And.intro sh_l16 ?_
                      rw [hr_16_1]
                      refine And.intro sh_l16 ?_
                      rw [hr_16_10]
                      refine And.intro sh_l50 ?_
                      refine pm_C_imp h (fun v hi45 h => ?_)
                      obtain ⟨rfl, h⟩ := h
                      refine ⟨rfl, ?_⟩
                      refine And.intro (sh_sk (sk_of (fo_lit 50 (by decide)) hkk44)) ?_
                      refine And.intro trivial ?_
                      exact h
        · replace h := h.2 c4
          refine And.intro (fun c46 => ?_) (fun c46 => ?_)
          · replace h := h.1 c46
            refine ⟨_, rfl, ?_⟩
            refine And.intro (fun _ => ?_) (fun hc => absurd (pm_cd_t (by decide)) hc)
            refine And.intro trivial ?_
            exact h
          · replace h := h.2 c46
            refine And.intro (fun c47 => ?_) (fun c47 => ?_)
            · replace h := h.1 c47
              refine ⟨_, rfl, ?_⟩
              refine And.intro (fun _ => ?_) (fun hc => absurd (pm_cd_t (by decide)) hc)
              refine And.intro trivial ?_
              exact h
            · replace h := h.2 c47
              refine ⟨_, rfl, ?_⟩
              refine And.intro (fun hc => absurd hc (pm_cd_f (by decide))) (fun _ => ?_)
              refine And.intro trivial ?_
              refine v_E_isWordOrNone (d := d)  ?_
              refine And.intro (fun c48 => ?_) (fun c48 => ?_)
              · replace h := h.1 c48
                refine ⟨_, rfl, ?_⟩
                refine And.intro (fun hc => absurd hc (pm_cd_f (by decide))) (fun _ => ?_)
                refine And.intro trivial ?_
                refine v_E_isWordOrNone (d := d)  ?_
                refine And.intro (fun c49 => ?_) (fun c49 => ?_)
                · replace h := h.1 c49
                  refine ⟨_, rfl, ?_⟩
                  refine And.intro (fun _ => ?_) (fun hc => absurd (pm_cd_t (by decide)) hc)
                  refine And.intro sh_l16 ?_
                  refine pm_C_imp h (fun v hi50 h => ?_)
                  obtain ⟨x51, rfl, h⟩ := h
                  refine ⟨_, rfl, ?_⟩
                  refine And.intro sh_l16 ?_
                  refine pm_C_imp h (fun v hi52 h => ?_)
                  obtain ⟨x53, rfl, h⟩ := h
                  refine ⟨_, rfl, ?_⟩
                  refine And.intro sh_l16 ?_
                  refine pm_C_imp h (fun v hi54 h => ?_)
                  obtain ⟨x55, rfl, h⟩ := h
                  refine ⟨_, rfl, ?_⟩
                  refine And.intro sh_l16 ?_
                  rw [hr_16_1]
                  refine And.intro sh_l50 ?_
                  rw [hr_50_1]
                  obtain ⟨k56, hkk56, hek56, h⟩ := h
                  refine And.intro (pm_ao_of (t := 0) sh_l51 hkk56 hek56 (by decide)) ?_
                  rw [pm_tn hek56 hkk56 (by decide)]
                  rw [(hr_sp (fo_lit 50 (by decide)) hkk56)]
                  refine And.intro sh_l16 ?_
                  rw [hr_16_1]
                  refine And.intro sh_l16 ?_
                  rw [hr_16_10]
                  refine And.intro sh_l50 ?_
                  refine pm_C_imp h (fun v hi57 h => ?_)
                  obtain ⟨rfl, h⟩ := h
                  refine ⟨rfl, ?_⟩
                  refine And.intro (sh_sk (sk_of (fo_lit 50 (by decide)) hkk56)) ?_
                  refine And.intro trivial ?_
                  exact h
                · replace h := h.2 c49
                  refine And.intro (fun c58 => ?_) (fun c58 => ?_)
                  · replace h := h.1 c58
                    refine ⟨_, rfl, ?_⟩
                    refine And.intro (fun hc => absurd hc (pm_cd_f (by decide))) (fun _ => ?_)
                    refine And.intro trivial ?_
                    exact h
                  · replace h := h.2 c58
                    refine And.intro (fun c59 => ?_) (fun c59 => ?_)
                    · replace h := h.1 c59
                      refine ⟨_, rfl, ?_⟩
                      refine And.intro (fun hc => absurd hc (pm_cd_f (by decide))) (fun _ => ?_)
                      refine And.intro trivial ?_
                      exact h
                    · replace h := h.2 c59
                      refine ⟨_, rfl, ?_⟩
                      refine And.intro (fun _ => ?_) (fun hc => absurd (pm_cd_t (by decide)) hc)
                      refine And.intro sh_l16 ?_
                      refine pm_C_imp h (fun v hi60 h => ?_)
                      obtain ⟨x61, rfl, h⟩ := h
                      refine ⟨_, rfl, ?_⟩
                      refine And.intro sh_l16 ?_
                      refine pm_C_imp h (fun v hi62 h => ?_)
                      obtain ⟨x63, rfl, h⟩ := h
                      refine ⟨_, rfl, ?_⟩
                      refine And.intro sh_l16 ?_
                      refine pm_C_imp h (fun v hi64 h => ?_)
                      obtain ⟨x65, rfl, h⟩ := h
                      refine ⟨_, rfl, ?_⟩
                      refine And.intro sh_l16 ?_
                      rw [hr_16_1]
                      refine And.intro sh_l50 ?_
                      rw [hr_50_1]
                      obtain ⟨k66, hkk66, hek66, h⟩ := h
                      refine And.intro (pm_ao_of (t := 0) sh_l51 hkk66 hek66 (by decide)) ?_
                      rw [pm_tn hek66 hkk66 (by decide)]
                      rw [(hr_sp (fo_lit 50 (by decide)) hkk66)]
                      refine And.intro sh_l16 ?_
                      rw [hr_16_1]
                      refine And.intro sh_l16 ?_
                      rw [hr_16_10]
                      refine And.intro sh_l50 ?_
                      refine pm_C_imp h (fun v hi67 h => ?_)
                      obtain ⟨rfl, h⟩ := h
                      refine ⟨rfl, ?_⟩
                      refine And.intro (sh_sk (sk_of (fo_lit 50 (by decide)) hkk66)) ?_
                      refine And.intro trivial ?_
                      exact h
              · replace h := h.2 c48
                refine And.intro (fun c68 => ?_) (fun c68 => ?_)
                · replace h := h.1 c68
                  refine ⟨_, rfl, ?_⟩
                  refine And.intro (fun _ => ?_) (fun hc => absurd (pm_cd_t (by decide)) hc)
                  refine And.intro trivial ?_
                  exact h
                · replace h := h.2 c68
                  refine And.intro (fun c69 => ?_) (fun c69 => ?_)
                  · replace h := h.1 c69
                    refine ⟨_, rfl, ?_⟩
                    refine And.intro (fun _ => ?_) (fun hc => absurd (pm_cd_t (by decide)) hc)
                    refine And.intro trivial ?_
                    exact h
                  · replace h := h.2 c69
                    refine ⟨_, rfl, ?_⟩
                    refine And.intro (fun hc => absurd hc (pm_cd_f (by decide))) (fun _ => ?_)
                    refine And.intro trivial ?_
                    refine v_E_isWordOrNone (d := d)  ?_
                    refine And.intro (fun c70 => ?_) (fun c70 => ?_)
                    · replace h := h.1 c70
                      refine ⟨_, rfl, ?_⟩
                      refine And.intro (fun _ => ?_) (fun hc => absurd (pm_cd_t (by decide)) hc)
                      refine And.intro sh_l16 ?_
                      refine pm_C_imp h (fun v hi71 h => ?_)
                      obtain ⟨x72, rfl, h⟩ := h
                      refine ⟨_, rfl, ?_⟩
                      refine And.intro sh_l16 ?_
                      refine pm_C_imp h (fun v hi73 h => ?_)
                      obtain ⟨x74, rfl, h⟩ := h
                      refine ⟨_, rfl, ?_⟩
                      refine And.intro sh_l16 ?_
                      refine pm_C_imp h (fun v hi75 h => ?_)
                      obtain ⟨x76, rfl, h⟩ := h
                      refine ⟨_, rfl, ?_⟩
                      refine And.intro sh_l16 ?_
                      rw [hr_16_1]
                      refine And.intro sh_l50 ?_
                      rw [hr_50_1]
                      obtain ⟨k77, hkk77, hek77, h⟩ := h
                      refine And.intro (pm_ao_of (t := 0) sh_l51 hkk77 hek77 (by decide)) ?_
                      rw [pm_tn hek77 hkk77 (by decide)]
                      rw [(hr_sp (fo_lit 50 (by decide)) hkk77)]
                      refine And.intro sh_l16 ?_
                      rw [hr_16_1]
                      refine And.intro sh_l16 ?_
                      rw [hr_16_10]
                      refine And.intro sh_l50 ?_
                      refine pm_C_imp h (fun v hi78 h => ?_)
                      obtain ⟨rfl, h⟩ := h
                      refine ⟨rfl, ?_⟩
                      refine And.intro (sh_sk (sk_of (fo_lit 50 (by decide)) hkk77)) ?_
                      refine And.intro trivial ?_
                      exact h
                    · replace h := h.2 c70
                      refine And.intro (fun c79 => ?_) (fun c79 => ?_)
                      · replace h := h.1 c79
                        refine ⟨_, rfl, ?_⟩
                        refine And.intro (fun hc => absurd hc (pm_cd_f (by decide))) (fun _ => ?_)
                        refine And.intro trivial ?_
                        exact h
                      · replace h := h.2 c79
                        refine And.intro (fun c80 => ?_) (fun c80 => ?_)
                        · replace h := h.1 c80
                          refine ⟨_, rfl, ?_⟩
                          refine And.intro (fun hc => absurd hc (pm_cd_f (by decide))) (fun _ => ?_)
                          refine And.intro trivial ?_
                          exact h
                        · replace h := h.2 c80
                          refine ⟨_, rfl, ?_⟩
                          refine And.intro (fun _ => ?_) (fun hc => absurd (pm_cd_t (by decide)) hc)
                          refine And.intro sh_l16 ?_
                          refine pm_C_imp h (fun v hi81 h => ?_)
                          obtain ⟨x82, rfl, h⟩ := h
                          refine ⟨_, rfl, ?_⟩
                          refine And.intro sh_l16 ?_
                          refine pm_C_imp h (fun v hi83 h => ?_)
                          obtain ⟨x84, rfl, h⟩ := h
                          refine ⟨_, rfl, ?_⟩
                          refine And.intro sh_l16 ?_
                          refine pm_C_imp h (fun v hi85 h => ?_)
                          obtain ⟨x86, rfl, h⟩ := h
                          refine ⟨_, rfl, ?_⟩
                          refine And.intro sh_l16 ?_
                          rw [hr_16_1]
                          refine And.intro sh_l50 ?_
                          rw [hr_50_1]
                          obtain ⟨k87, hkk87, hek87, h⟩ := h
                          refine And.intro (pm_ao_of (t := 0) sh_l51 hkk87 hek87 (by decide)) ?_
                          rw [pm_tn hek87 hkk87 (by decide)]
                          rw [(hr_sp (fo_lit 50 (by decide)) hkk87)]
                          refine And.intro sh_l16 ?_
                          rw [hr_16_1]
                          refine And.intro sh_l16 ?_
                          rw [hr_16_10]
                          refine And.intro sh_l50 ?_
                          refine pm_C_imp h (fun v hi88 h => ?_)
                          obtain ⟨rfl, h⟩ := h
                          refine ⟨rfl, ?_⟩
                          refine And.intro (sh_sk (sk_of (fo_lit 50 (by decide)) hkk87)) ?_
                          refine And.intro trivial ?_
                          exact h
theorem v_E_says {L d : Nat} {p1 : Int32} {p2 : Int32} {p3 : Int32} {hi : pm_B} {Q : pm_Q} (h : ((p1 < 0) → Q (some (.inl (-1000000001))) hi) ∧ ((¬ (p1 < 0)) → (((hi 50 2) ≤ p1) → Q (some (.inl (-1000000001))) hi) ∧ ((¬ ((hi 50 2) ≤ p1)) → ((8 ≤ p1) → Q (some (.inl (-1000000001))) hi) ∧ ((¬ (8 ≤ p1)) → ((p2 < 0) → Q (some (.inl (-1000000001))) hi) ∧ ((¬ (p2 < 0)) → (((hi 50 2) ≤ p2) → Q (some (.inl (-1000000001))) hi) ∧ ((¬ ((hi 50 2) ≤ p2)) → ((8 ≤ p2) → Q (some (.inl (-1000000001))) hi) ∧ ((¬ (8 ≤ p2)) → ((p1 = p2) → Q (some (.inl (-1000000001))) hi) ∧ ((¬ (p1 = p2)) → ((p3 < 0) → Q (some (.inl (-1000000001))) hi) ∧ ((¬ (p3 < 0)) → ((12 ≤ p3) → Q (some (.inl (-1000000001))) hi) ∧ ((¬ (12 ≤ p3)) → ∃ k10 : Nat, k10 < 8 ∧ p1 = nI k10 ∧ (((p3 < (hi (50 + 2 + 2 * k10) 4)) → ∃ k12 : Nat, k12 < 8 ∧ p2 = nI k12 ∧ (pm_C pm_g (SH L) HR (d + 1) m_Folk_speakTo [.inr 50, .inr (50 + 2 + 2 * k10), .inr (50 + 2 + 2 * k12), .inl p3] hi (fun v hi13 => ∃ x14 : Int32, v = some (.inl x14) ∧ (Q (some (.inl x14)) hi13)))) ∧ ((¬ (p3 < (hi (50 + 2 + 2 * k10) 4))) → Q (some (.inl (-1000000005))) hi)))))))))))) : pm_C pm_g (SH L) HR (d + 2) m_E_says [.inr 16, .inl p1, .inl p2, .inl p3] hi Q := by
  refine pm_C_of (maxL := 5) (t := pm_t81) rfl (Nat.le_of_ble_eq_true rfl) ?_
  refine pm_W_of 39 [] rfl ?_
  refine And.intro sh_l16 ?_
  rw [hr_16_1]
  refine And.intro sh_l50 ?_
  refine v_Folk_hasSpeaker (d := d) (fo_lit 50 (by decide)) ?_
  refine And.intro (fun c1 => ?_) (fun c1 => ?_)
  · replace h := h.1 c1
    refine ⟨_, rfl, ?_⟩
    refine And.intro (fun _ => ?_) (fun hc => absurd (pm_cd_t (by decide)) hc)
    refine And.intro trivial ?_
    exact h
  · replace h := h.2 c1
    refine And.intro (fun c2 => ?_) (fun c2 => ?_)
    · replace h := h.1 c2
      refine ⟨_, rfl, ?_⟩
      refine And.intro (fun _ => ?_) (fun hc => absurd (pm_cd_t (by decide)) hc)
      refine And.intro trivial ?_
      exact h
    · replace h := h.2 c2
      refine And.intro (fun c3 => ?_) (fun c3 => ?_)
      · replace h := h.1 c3
        refine ⟨_, rfl, ?_⟩
        refine And.intro (fun _ => ?_) (fun hc => absurd (pm_cd_t (by decide)) hc)
        refine And.intro trivial ?_
        exact h
      · replace h := h.2 c3
        refine ⟨_, rfl, ?_⟩
        refine And.intro (fun hc => absurd hc (pm_cd_f (by decide))) (fun _ => ?_)
        refine And.intro sh_l16 ?_
        rw [hr_16_1]
        refine And.intro sh_l50 ?_
        refine v_Folk_hasSpeaker (d := d) (fo_lit 50 (by decide)) ?_
        refine And.intro (fun c4 => ?_) (fun c4 => ?_)
        · replace h := h.1 c4
          refine ⟨_, rfl, ?_⟩
          refine And.intro (fun _ => ?_) (fun hc => absurd (pm_cd_t (by decide)) hc)
          refine And.intro trivial ?_
          exact h
        · replace h := h.2 c4
          refine And.intro (fun c5 => ?_) (fun c5 => ?_)
          · replace h := h.1 c5
            refine ⟨_, rfl, ?_⟩
            refine And.intro (fun _ => ?_) (fun hc => absurd (pm_cd_t (by decide)) hc)
            refine And.intro trivial ?_
            exact h
          · replace h := h.2 c5
            refine And.intro (fun c6 => ?_) (fun c6 => ?_)
            · replace h := h.1 c6
              refine ⟨_, rfl, ?_⟩
              refine And.intro (fun _ => ?_) (fun hc => absurd (pm_cd_t (by decide)) hc)
              refine And.intro trivial ?_
              exact h
            · replace h := h.2 c6
              refine ⟨_, rfl, ?_⟩
              refine And.intro (fun hc => absurd hc (pm_cd_f (by decide))) (fun _ => ?_)
              refine And.intro (fun c7 => ?_) (fun c7 => ?_)
              · replace h := h.1 c7
                refine And.intro trivial ?_
                exact h
              · replace h := h.2 c7
                refine And.intro trivial ?_
                refine v_E_isHeardPlace (d := d)  ?_
                refine And.intro (fun c8 => ?_) (fun c8 => ?_)
                · replace h := h.1 c8
                  refine ⟨_, rfl, ?_⟩
                  refine And.intro (fun hc => absurd hc (pm_cd_f (by decide))) (fun _ => ?_)
                  refine And.intro trivial ?_
                  exact h
                · replace h := h.2 c8
                  refine And.intro (fun c9 => ?_) (fun c9 => ?_)
                  · replace h := h.1 c9
                    refine ⟨_, rfl, ?_⟩
                    refine And.intro (fun hc => absurd hc (pm_cd_f (by decide))) (fun _ => ?_)
                    refine And.intro trivial ?_
                    exact h
                  · replace h := h.2 c9
                    refine ⟨_, rfl, ?_⟩
                    refine And.intro (fun _ => ?_) (fun hc => absurd (pm_cd_t (by decide)) hc)
                    refine And.intro sh_l16 ?_
                    rw [hr_16_1]
                    refine And.intro sh_l50 ?_
                    rw [hr_50_1]
                    obtain ⟨k10, hkk10, hek10, h⟩ := h
                    refine And.intro (pm_ao_of (t := 0) sh_l51 hkk10 hek10 (by decide)) ?_
                    rw [pm_tn hek10 hkk10 (by decide)]
                    rw [(hr_sp (fo_lit 50 (by decide)) hkk10)]
                    refine And.intro (sh_sk (sk_of (fo_lit 50 (by decide)) hkk10)) ?_
                    refine And.intro (fun c11 => ?_) (fun c11 => ?_)
                    · replace h := h.1 c11
                      refine And.intro sh_l16 ?_
                      rw [hr_16_1]
                      refine And.intro sh_l16 ?_
                      rw [hr_16_1]
                      refine And.intro sh_l50 ?_
                      rw [hr_50_1]
                      obtain ⟨k12, hkk12, hek12, h⟩ := h
                      refine And.intro (pm_ao_of (t := 0) sh_l51 hkk12 hek12 (by decide)) ?_
                      rw [pm_tn hek12 hkk12 (by decide)]
                      rw [(hr_sp (fo_lit 50 (by decide)) hkk12)]
                      refine And.intro sh_l50 ?_
                      refine pm_C_imp h (fun v hi13 h => ?_)
                      obtain ⟨x14, rfl, h⟩ := h
                      refine ⟨_, rfl, ?_⟩
                      refine And.intro trivial ?_
                      exact h
                    · replace h := h.2 c11
                      refine And.intro trivial ?_
                      exact h
theorem v_E_forgets {L d : Nat} {p1 : Int32} {hi : pm_B} {Q : pm_Q} (h : ((p1 < 0) → Q (some (.inl (-1000000001))) hi) ∧ ((¬ (p1 < 0)) → (((hi 50 2) ≤ p1) → Q (some (.inl (-1000000001))) hi) ∧ ((¬ ((hi 50 2) ≤ p1)) → ((8 ≤ p1) → Q (some (.inl (-1000000001))) hi) ∧ ((¬ (8 ≤ p1)) → ∃ k4 : Nat, k4 < 8 ∧ p1 = nI k4 ∧ (pm_C pm_g (SH L) HR (d + 1) m_Speaker_forgetOldest [.inr (50 + 2 + 2 * k4), .inl (hi (50 + 2 + 2 * k4) 4)] hi (fun v hi5 => v = none ∧ (Q (some (.inl (hi (50 + 2 + 2 * k4) 4))) (pm_u hi5 50 5 ((hi5 50 5) + (hi (50 + 2 + 2 * k4) 4)))))))))) : pm_C pm_g (SH L) HR (d + 2) m_E_forgets [.inr 16, .inl p1] hi Q := by
  refine pm_C_of (maxL := 4) (t := pm_t82) rfl (Nat.le_of_ble_eq_true rfl) ?_
  refine pm_W_of 28 [] rfl ?_
  refine And.intro sh_l16 ?_
  rw [hr_16_1]
  refine And.intro sh_l50 ?_
  refine v_Folk_hasSpeaker (d := d) (fo_lit 50 (by decide)) ?_
  refine And.intro (fun c1 => ?_) (fun c1 => ?_)
  · replace h := h.1 c1
    refine ⟨_, rfl, ?_⟩
    refine And.intro (fun hc => absurd hc (pm_cd_f (by decide))) (fun _ => ?_)
    refine And.intro trivial ?_
    exact h
  · replace h := h.2 c1
    refine And.intro (fun c2 => ?_) (fun c2 => ?_)
    · replace h := h.1 c2
      refine ⟨_, rfl, ?_⟩
      refine And.intro (fun hc => absurd hc (pm_cd_f (by decide))) (fun _ => ?_)
      refine And.intro trivial ?_
      exact h
    · replace h := h.2 c2
      refine And.intro (fun c3 => ?_) (fun c3 => ?_)
      · replace h := h.1 c3
        refine ⟨_, rfl, ?_⟩
        refine And.intro (fun hc => absurd hc (pm_cd_f (by decide))) (fun _ => ?_)
        refine And.intro trivial ?_
        exact h
      · replace h := h.2 c3
        refine ⟨_, rfl, ?_⟩
        refine And.intro (fun _ => ?_) (fun hc => absurd (pm_cd_t (by decide)) hc)
        refine And.intro sh_l16 ?_
        rw [hr_16_1]
        refine And.intro sh_l50 ?_
        rw [hr_50_1]
        obtain ⟨k4, hkk4, hek4, h⟩ := h
        refine And.intro (pm_ao_of (t := 0) sh_l51 hkk4 hek4 (by decide)) ?_
        rw [pm_tn hek4 hkk4 (by decide)]
        rw [(hr_sp (fo_lit 50 (by decide)) hkk4)]
        refine And.intro (sh_sk (sk_of (fo_lit 50 (by decide)) hkk4)) ?_
        refine And.intro (sh_sk (sk_of (fo_lit 50 (by decide)) hkk4)) ?_
        refine pm_C_imp h (fun v hi5 h => ?_)
        obtain ⟨rfl, h⟩ := h
        refine ⟨rfl, ?_⟩
        refine And.intro sh_l16 ?_
        rw [hr_16_1]
        refine And.intro sh_l50 ?_
        refine And.intro ⟨sh_l50, trivial⟩ ?_
        refine And.intro trivial ?_
        exact h
theorem v_E_talk {L d : Nat} {p1 : Int32} {hi : pm_B} {Q : pm_Q} (h : ((p1 < 0) → Q (some (.inl (-1000000001))) hi) ∧ ((¬ (p1 < 0)) → ((p1 ≤ 100) → Q (some (.inl (hi 50 3))) (pm_u hi 50 3 p1)) ∧ ((¬ (p1 ≤ 100)) → Q (some (.inl (-1000000001))) hi))) : pm_C pm_g (SH L) HR (d + 1) m_E_talk [.inr 16, .inl p1] hi Q := by
  refine pm_C_of (maxL := 3) (t := pm_t83) rfl (Nat.le_of_ble_eq_true rfl) ?_
  refine pm_W_of 17 [] rfl ?_
  refine And.intro (fun c1 => ?_) (fun c1 => ?_)
  · replace h := h.1 c1
    refine And.intro trivial ?_
    exact h
  · replace h := h.2 c1
    refine And.intro (fun c2 => ?_) (fun c2 => ?_)
    · replace h := h.1 c2
      refine And.intro sh_l16 ?_
      rw [hr_16_1]
      refine And.intro sh_l50 ?_
      refine And.intro sh_l16 ?_
      rw [hr_16_1]
      refine And.intro ⟨sh_l50, trivial⟩ ?_
      refine And.intro trivial ?_
      exact h
    · replace h := h.2 c2
      refine And.intro trivial ?_
      exact h
theorem v_E_deal {L d : Nat} {p1 : Int32} {hi : pm_B} {Q : pm_Q} (h : ((p1 < 1) → Q (some (.inl (-1000000001))) hi) ∧ ((¬ (p1 < 1)) → ((p1 ≤ 8) → pm_W pm_g (SH L) HR (d + 1) pm_t84 18 [some (.inr 16), some (.inl p1), some (.inl 0), some (.inl 0)] [] hi Q) ∧ ((¬ (p1 ≤ 8)) → Q (some (.inl (-1000000001))) hi))) : pm_C pm_g (SH L) HR (d + 2) m_E_deal [.inr 16, .inl p1] hi Q := by
  refine pm_C_of (maxL := 4) (t := pm_t84) rfl (Nat.le_of_ble_eq_true rfl) ?_
  refine pm_W_of 12 [18] rfl ?_
  refine And.intro (fun c1 => ?_) (fun c1 => ?_)
  · replace h := h.1 c1
    refine And.intro trivial ?_
    exact h
  · replace h := h.2 c1
    refine And.intro (fun c2 => ?_) (fun c2 => ?_)
    · replace h := h.1 c2
      exact h
    · replace h := h.2 c2
      refine And.intro trivial ?_
      exact h
theorem v_E_deal_18 {L d : Nat}  {p1 : Int32} {y2 : Int32} {y3 : Int32} {hi : pm_B} {Q : pm_Q} (h : ((p1 ≤ y3) → Q (some (.inl y2)) hi) ∧ ((¬ (p1 ≤ y3)) → (((hi 50 2) < 0) → Q (some (.inl y2)) hi) ∧ ((¬ ((hi 50 2) < 0)) → ((8 ≤ (hi 50 2)) → Q (some (.inl y2)) hi) ∧ ((¬ (8 ≤ (hi 50 2))) → pm_C pm_g (SH L) HR (d + 1) m_Folk_enterByLot [.inr 50] hi (fun v hi4 => v = none ∧ (pm_W pm_g (SH L) HR (d + 1) pm_t84 18 [some (.inr 16), some (.inl p1), some (.inl (y2 + 1)), some (.inl (y3 + 1))] [] hi4 Q)))))) : pm_W pm_g (SH L) HR (d + 1) pm_t84 18 [some (.inr 16), some (.inl p1), some (.inl y2), some (.inl y3)] [] hi Q := by
  refine pm_W_of 15 [18] rfl ?_
  refine And.intro (fun c1 => ?_) (fun c1 => ?_)
  · replace h := h.1 c1
    refine And.intro trivial ?_
    exact h
  · replace h := h.2 c1
    refine And.intro sh_l16 ?_
    rw [hr_16_1]
    refine And.intro sh_l50 ?_
    refine v_Folk_hasRoom (d := d) (fo_lit 50 (by decide)) ?_
    refine And.intro (fun c2 => ?_) (fun c2 => ?_)
    · replace h := h.1 c2
      refine ⟨_, rfl, ?_⟩
      refine And.intro (fun _ => ?_) (fun hc => absurd (pm_cd_t (by decide)) hc)
      refine And.intro trivial ?_
      exact h
    · replace h := h.2 c2
      refine And.intro (fun c3 => ?_) (fun c3 => ?_)
      · replace h := h.1 c3
        refine ⟨_, rfl, ?_⟩
        refine And.intro (fun _ => ?_) (fun hc => absurd (pm_cd_t (by decide)) hc)
        refine And.intro trivial ?_
        exact h
      · replace h := h.2 c3
        refine ⟨_, rfl, ?_⟩
        refine And.intro (fun hc => absurd hc (pm_cd_f (by decide))) (fun _ => ?_)
        refine And.intro sh_l16 ?_
        rw [hr_16_1]
        refine And.intro sh_l50 ?_
        refine pm_C_imp h (fun v hi4 h => ?_)
        obtain ⟨rfl, h⟩ := h
        refine ⟨rfl, ?_⟩
        exact h
theorem v_E_seed {L d : Nat} {p1 : Int32} {hi : pm_B} {Q : pm_Q} (h : Q (some (.inl (hi 50 7))) (pm_u hi 50 7 p1)) : pm_C pm_g (SH L) HR (d + 1) m_E_seed [.inr 16, .inl p1] hi Q := by
  refine pm_C_of (maxL := 3) (t := pm_t85) rfl (Nat.le_of_ble_eq_true rfl) ?_
  refine pm_W_of 12 [] rfl ?_
  refine And.intro sh_l16 ?_
  rw [hr_16_1]
  refine And.intro sh_l50 ?_
  refine And.intro sh_l16 ?_
  rw [hr_16_1]
  refine And.intro ⟨sh_l50, trivial⟩ ?_
  refine And.intro trivial ?_
  exact h
theorem v_E_days {L d : Nat} {p1 : Int32} {hi : pm_B} {Q : pm_Q} (h : ((p1 < 1) → Q (some (.inl (-1000000001))) hi) ∧ ((¬ (p1 < 1)) → ((100 < p1) → Q (some (.inl (-1000000001))) hi) ∧ ((¬ (100 < p1)) → pm_W pm_g (SH L) HR (d + 1) pm_t86 23 [some (.inr 16), some (.inl p1), some (.inl (hi 50 4)), some (.inl 0)] [] hi Q))) : pm_C pm_g (SH L) HR (d + 2) m_E_days [.inr 16, .inl p1] hi Q := by
  refine pm_C_of (maxL := 4) (t := pm_t86) rfl (Nat.le_of_ble_eq_true rfl) ?_
  refine pm_W_of 13 [23] rfl ?_
  refine And.intro trivial ?_
  refine v_E_isDays (d := d)  ?_
  refine And.intro (fun c1 => ?_) (fun c1 => ?_)
  · replace h := h.1 c1
    refine ⟨_, rfl, ?_⟩
    refine And.intro (fun hc => absurd hc (pm_cd_f (by decide))) (fun _ => ?_)
    refine And.intro trivial ?_
    exact h
  · replace h := h.2 c1
    refine And.intro (fun c2 => ?_) (fun c2 => ?_)
    · replace h := h.1 c2
      refine ⟨_, rfl, ?_⟩
      refine And.intro (fun hc => absurd hc (pm_cd_f (by decide))) (fun _ => ?_)
      refine And.intro trivial ?_
      exact h
    · replace h := h.2 c2
      refine ⟨_, rfl, ?_⟩
      refine And.intro (fun _ => ?_) (fun hc => absurd (pm_cd_t (by decide)) hc)
      refine And.intro sh_l16 ?_
      rw [hr_16_1]
      refine And.intro sh_l50 ?_
      exact h
theorem v_E_days_23 {L d : Nat}  {p1 : Int32} {y2 : Int32} {y3 : Int32} {hi : pm_B} {Q : pm_Q} (h : ((p1 ≤ y3) → Q (some (.inl ((hi 50 4) - y2))) hi) ∧ ((¬ (p1 ≤ y3)) → ((9999 ≤ (hi 50 6)) → Q (some (.inl ((hi 50 4) - y2))) hi) ∧ ((¬ (9999 ≤ (hi 50 6))) → pm_C pm_g (SH L) HR (d + 1) m_Folk_passDay [.inr 50] hi (fun v hi3 => v = none ∧ (pm_W pm_g (SH L) HR (d + 1) pm_t86 23 [some (.inr 16), some (.inl p1), some (.inl y2), some (.inl (y3 + 1))] [] hi3 Q))))) : pm_W pm_g (SH L) HR (d + 1) pm_t86 23 [some (.inr 16), some (.inl p1), some (.inl y2), some (.inl y3)] [] hi Q := by
  refine pm_W_of 16 [23] rfl ?_
  refine And.intro (fun c1 => ?_) (fun c1 => ?_)
  · replace h := h.1 c1
    refine And.intro sh_l16 ?_
    rw [hr_16_1]
    refine And.intro sh_l50 ?_
    refine And.intro trivial ?_
    exact h
  · replace h := h.2 c1
    refine And.intro sh_l16 ?_
    rw [hr_16_1]
    refine And.intro sh_l50 ?_
    refine And.intro (fun c2 => ?_) (fun c2 => ?_)
    · replace h := h.1 c2
      refine And.intro sh_l16 ?_
      rw [hr_16_1]
      refine And.intro sh_l50 ?_
      refine And.intro trivial ?_
      exact h
    · replace h := h.2 c2
      refine And.intro sh_l16 ?_
      rw [hr_16_1]
      refine And.intro sh_l50 ?_
      refine pm_C_imp h (fun v hi3 h => ?_)
      obtain ⟨rfl, h⟩ := h
      refine ⟨rfl, ?_⟩
      exact h
theorem v_E_folk {L d : Nat} {p1 : Int32} {hi : pm_B} {Q : pm_Q} (h : ((p1 = 0) → Q (some (.inl (hi 50 4))) hi) ∧ ((¬ p1 = 0) → ((p1 = 1) → Q (some (.inl (hi 50 5))) hi) ∧ ((¬ p1 = 1) → ((p1 = 2) → pm_C pm_g (SH L) HR (d) m_Folk_wordsTogether [.inr 50] hi (fun v hi4 => ∃ x5 : Int32, v = some (.inl x5) ∧ (Q (some (.inl x5)) hi4))) ∧ ((¬ p1 = 2) → ((p1 = 3) → pm_C pm_g (SH L) HR (d) m_Folk_wordsOfSomebody [.inr 50] hi (fun v hi7 => ∃ x8 : Int32, v = some (.inl x8) ∧ (Q (some (.inl x8)) hi7))) ∧ ((¬ p1 = 3) → ((p1 = 4) → pm_C pm_g (SH L) HR (d) m_Folk_wordsOfAll [.inr 50] hi (fun v hi10 => ∃ x11 : Int32, v = some (.inl x11) ∧ (Q (some (.inl x11)) hi10))) ∧ ((¬ p1 = 4) → Q (some (.inl (-1000000001))) hi)))))) : pm_C pm_g (SH L) HR (d + 1) m_E_folk [.inr 16, .inl p1] hi Q := by
  refine pm_C_of (maxL := 2) (t := pm_t87) rfl (Nat.le_of_ble_eq_true rfl) ?_
  refine pm_W_of 8 [] rfl ?_
  intro pc1 hsw
  by_cases c1 : p1 = 0
  · rw [pm_sw_t c1] at hsw
    subst hsw
    replace h := h.1 c1
    refine And.intro sh_l16 ?_
    rw [hr_16_1]
    refine And.intro sh_l50 ?_
    refine And.intro trivial ?_
    exact h
  · rw [pm_sw_f c1] at hsw
    replace h := h.2 c1
    by_cases c2 : p1 = 1
    · rw [pm_sw_t c2] at hsw
      subst hsw
      replace h := h.1 c2
      refine And.intro sh_l16 ?_
      rw [hr_16_1]
      refine And.intro sh_l50 ?_
      refine And.intro trivial ?_
      exact h
    · rw [pm_sw_f c2] at hsw
      replace h := h.2 c2
      by_cases c3 : p1 = 2
      · rw [pm_sw_t c3] at hsw
        subst hsw
        replace h := h.1 c3
        refine And.intro sh_l16 ?_
        rw [hr_16_1]
        refine And.intro sh_l50 ?_
        refine pm_C_imp h (fun v hi4 h => ?_)
        obtain ⟨x5, rfl, h⟩ := h
        refine ⟨_, rfl, ?_⟩
        refine And.intro trivial ?_
        exact h
      · rw [pm_sw_f c3] at hsw
        replace h := h.2 c3
        by_cases c6 : p1 = 3
        · rw [pm_sw_t c6] at hsw
          subst hsw
          replace h := h.1 c6
          refine And.intro sh_l16 ?_
          rw [hr_16_1]
          refine And.intro sh_l50 ?_
          refine pm_C_imp h (fun v hi7 h => ?_)
          obtain ⟨x8, rfl, h⟩ := h
          refine ⟨_, rfl, ?_⟩
          refine And.intro trivial ?_
          exact h
        · rw [pm_sw_f c6] at hsw
          replace h := h.2 c6
          by_cases c9 : p1 = 4
          · rw [pm_sw_t c9] at hsw
            subst hsw
            replace h := h.1 c9
            refine And.intro sh_l16 ?_
            rw [hr_16_1]
            refine And.intro sh_l50 ?_
            refine pm_C_imp h (fun v hi10 h => ?_)
            obtain ⟨x11, rfl, h⟩ := h
            refine ⟨_, rfl, ?_⟩
            refine And.intro trivial ?_
            exact h
          · rw [pm_sw_f c9] at hsw
            replace h := h.2 c9
            replace hsw : 76 = pc1 := hsw
            subst hsw
            refine And.intro trivial ?_
            exact h
theorem v_E_breaths {L d : Nat} {p1 : Int32} {p2 : Int32} {hi : pm_B} {Q : pm_Q} (h : ((p1 < 0) → Q (some (.inl (-1000000001))) hi) ∧ ((¬ (p1 < 0)) → ((4 ≤ p1) → Q (some (.inl (-1000000001))) hi) ∧ ((¬ (4 ≤ p1)) → ((p2 < 0) → Q (some (.inl (-1000000001))) hi) ∧ ((¬ (p2 < 0)) → (((hi 50 2) ≤ p2) → Q (some (.inl (-1000000001))) hi) ∧ ((¬ ((hi 50 2) ≤ p2)) → ((8 ≤ p2) → Q (some (.inl (-1000000001))) hi) ∧ ((¬ (8 ≤ p2)) → pm_C pm_g (SH L) HR (d + 1) m_E_readSaying [.inr 16, .inl p1] hi (fun v hi6 => ∃ x7 : Int32, v = some (.inl x7) ∧ (((x7 = 0) → ∃ k9 : Nat, k9 < 8 ∧ p2 = nI k9 ∧ (pm_C pm_g (SH L) HR (d + 1) m_Saying_breathsOf [.inr 137, .inr (50 + 2 + 2 * k9)] hi6 (fun v hi10 => ∃ x11 : Int32, v = some (.inl x11) ∧ (Q (some (.inl x11)) hi10)))) ∧ ((¬ (x7 = 0)) → Q (some (.inl x7)) hi6))))))))) : pm_C pm_g (SH L) HR (d + 2) m_E_breaths [.inr 16, .inl p1, .inl p2] hi Q := by
  refine pm_C_of (maxL := 4) (t := pm_t88) rfl (Nat.le_of_ble_eq_true rfl) ?_
  refine pm_W_of 25 [] rfl ?_
  refine And.intro trivial ?_
  refine v_E_isSheet (d := d)  ?_
  refine And.intro (fun c1 => ?_) (fun c1 => ?_)
  · replace h := h.1 c1
    refine ⟨_, rfl, ?_⟩
    refine And.intro (fun _ => ?_) (fun hc => absurd (pm_cd_t (by decide)) hc)
    refine And.intro trivial ?_
    exact h
  · replace h := h.2 c1
    refine And.intro (fun c2 => ?_) (fun c2 => ?_)
    · replace h := h.1 c2
      refine ⟨_, rfl, ?_⟩
      refine And.intro (fun _ => ?_) (fun hc => absurd (pm_cd_t (by decide)) hc)
      refine And.intro trivial ?_
      exact h
    · replace h := h.2 c2
      refine ⟨_, rfl, ?_⟩
      refine And.intro (fun hc => absurd hc (pm_cd_f (by decide))) (fun _ => ?_)
      refine And.intro sh_l16 ?_
      rw [hr_16_1]
      refine And.intro sh_l50 ?_
      refine v_Folk_hasSpeaker (d := d) (fo_lit 50 (by decide)) ?_
      refine And.intro (fun c3 => ?_) (fun c3 => ?_)
      · replace h := h.1 c3
        refine ⟨_, rfl, ?_⟩
        refine And.intro (fun hc => absurd hc (pm_cd_f (by decide))) (fun _ => ?_)
        refine And.intro trivial ?_
        exact h
      · replace h := h.2 c3
        refine And.intro (fun c4 => ?_) (fun c4 => ?_)
        · replace h := h.1 c4
          refine ⟨_, rfl, ?_⟩
          refine And.intro (fun hc => absurd hc (pm_cd_f (by decide))) (fun _ => ?_)
          refine And.intro trivial ?_
          exact h
        · replace h := h.2 c4
          refine And.intro (fun c5 => ?_) (fun c5 => ?_)
          · replace h := h.1 c5
            refine ⟨_, rfl, ?_⟩
            refine And.intro (fun hc => absurd hc (pm_cd_f (by decide))) (fun _ => ?_)
            refine And.intro trivial ?_
            exact h
          · replace h := h.2 c5
            refine ⟨_, rfl, ?_⟩
            refine And.intro (fun _ => ?_) (fun hc => absurd (pm_cd_t (by decide)) hc)
            refine And.intro sh_l16 ?_
            refine pm_C_imp h (fun v hi6 h => ?_)
            obtain ⟨x7, rfl, h⟩ := h
            refine ⟨_, rfl, ?_⟩
            refine And.intro (fun c8 => ?_) (fun c8 => ?_)
            · replace h := h.1 c8
              refine And.intro sh_l16 ?_
              rw [hr_16_9]
              refine And.intro sh_l16 ?_
              rw [hr_16_1]
              refine And.intro sh_l50 ?_
              rw [hr_50_1]
              obtain ⟨k9, hkk9, hek9, h⟩ := h
              refine And.intro (pm_ao_of (t := 0) sh_l51 hkk9 hek9 (by decide)) ?_
              rw [pm_tn hek9 hkk9 (by decide)]
              rw [(hr_sp (fo_lit 50 (by decide)) hkk9)]
              refine And.intro sh_l137 ?_
              refine pm_C_imp h (fun v hi10 h => ?_)
              obtain ⟨x11, rfl, h⟩ := h
              refine ⟨_, rfl, ?_⟩
              refine And.intro trivial ?_
              exact h
            · replace h := h.2 c8
              refine And.intro trivial ?_
              exact h
theorem v_E_wanting {L d : Nat} {p1 : Int32} {hi : pm_B} {Q : pm_Q} (h : ((p1 < 0) → Q (some (.inl (-1000000001))) hi) ∧ ((¬ (p1 < 0)) → ((4 ≤ p1) → Q (some (.inl (-1000000001))) hi) ∧ ((¬ (4 ≤ p1)) → pm_C pm_g (SH L) HR (d + 1) m_E_readSaying [.inr 16, .inl p1] hi (fun v hi3 => ∃ x4 : Int32, v = some (.inl x4) ∧ (((¬ x4 = (-1000000011)) → pm_C pm_g (SH L) HR (d + 1) m_Folk_wordsOfSomebody [.inr 50] hi3 (fun v hi6 => ∃ x7 : Int32, v = some (.inl x7) ∧ (pm_C pm_g (SH L) HR (d + 1) m_Saying_firstOutside [.inr 137, .inl x7] hi6 (fun v hi8 => ∃ x9 : Int32, v = some (.inl x9) ∧ (Q (some (.inl x9)) hi8))))) ∧ ((¬ (¬ x4 = (-1000000011))) → Q (some (.inl (-1000000011))) hi3)))))) : pm_C pm_g (SH L) HR (d + 2) m_E_wanting [.inr 16, .inl p1] hi Q := by
  refine pm_C_of (maxL := 2) (t := pm_t89) rfl (Nat.le_of_ble_eq_true rfl) ?_
  refine pm_W_of 17 [] rfl ?_
  refine And.intro trivial ?_
  refine v_E_isSheet (d := d)  ?_
  refine And.intro (fun c1 => ?_) (fun c1 => ?_)
  · replace h := h.1 c1
    refine ⟨_, rfl, ?_⟩
    refine And.intro (fun hc => absurd hc (pm_cd_f (by decide))) (fun _ => ?_)
    refine And.intro trivial ?_
    exact h
  · replace h := h.2 c1
    refine And.intro (fun c2 => ?_) (fun c2 => ?_)
    · replace h := h.1 c2
      refine ⟨_, rfl, ?_⟩
      refine And.intro (fun hc => absurd hc (pm_cd_f (by decide))) (fun _ => ?_)
      refine And.intro trivial ?_
      exact h
    · replace h := h.2 c2
      refine ⟨_, rfl, ?_⟩
      refine And.intro (fun _ => ?_) (fun hc => absurd (pm_cd_t (by decide)) hc)
      refine And.intro sh_l16 ?_
      refine pm_C_imp h (fun v hi3 h => ?_)
      obtain ⟨x4, rfl, h⟩ := h
      refine ⟨_, rfl, ?_⟩
      refine And.intro (fun c5 => ?_) (fun c5 => ?_)
      · replace h := h.1 c5
        refine And.intro sh_l16 ?_
        rw [hr_16_9]
        refine And.intro sh_l16 ?_
        rw [hr_16_1]
        refine And.intro sh_l50 ?_
        refine pm_C_imp h (fun v hi6 h => ?_)
        obtain ⟨x7, rfl, h⟩ := h
        refine ⟨_, rfl, ?_⟩
        refine And.intro sh_l137 ?_
        refine pm_C_imp h (fun v hi8 h => ?_)
        obtain ⟨x9, rfl, h⟩ := h
        refine ⟨_, rfl, ?_⟩
        refine And.intro trivial ?_
        exact h
      · replace h := h.2 c5
        refine And.intro trivial ?_
        exact h
theorem v_E_who {L d : Nat} {p1 : Int32} {hi : pm_B} {Q : pm_Q} (h : ((p1 < 0) → Q (some (.inl (-1000000001))) hi) ∧ ((¬ (p1 < 0)) → ((4 ≤ p1) → Q (some (.inl (-1000000001))) hi) ∧ ((¬ (4 ≤ p1)) → pm_C pm_g (SH L) HR (d + 1) m_E_readSaying [.inr 16, .inl p1] hi (fun v hi3 => ∃ x4 : Int32, v = some (.inl x4) ∧ (((x4 = 0) → pm_W pm_g (SH L) HR (d + 1) pm_t90 27 [some (.inr 16), some (.inl p1), some (.inl x4), some (.inl 0), some (.inl 0)] [] hi3 Q) ∧ ((¬ (x4 = 0)) → Q (some (.inl x4)) hi3)))))) : pm_C pm_g (SH L) HR (d + 2) m_E_who [.inr 16, .inl p1] hi Q := by
  refine pm_C_of (maxL := 5) (t := pm_t90) rfl (Nat.le_of_ble_eq_true rfl) ?_
  refine pm_W_of 15 [27] rfl ?_
  refine And.intro trivial ?_
  refine v_E_isSheet (d := d)  ?_
  refine And.intro (fun c1 => ?_) (fun c1 => ?_)
  · replace h := h.1 c1
    refine ⟨_, rfl, ?_⟩
    refine And.intro (fun hc => absurd hc (pm_cd_f (by decide))) (fun _ => ?_)
    refine And.intro trivial ?_
    exact h
  · replace h := h.2 c1
    refine And.intro (fun c2 => ?_) (fun c2 => ?_)
    · replace h := h.1 c2
      refine ⟨_, rfl, ?_⟩
      refine And.intro (fun hc => absurd hc (pm_cd_f (by decide))) (fun _ => ?_)
      refine And.intro trivial ?_
      exact h
    · replace h := h.2 c2
      refine ⟨_, rfl, ?_⟩
      refine And.intro (fun _ => ?_) (fun hc => absurd (pm_cd_t (by decide)) hc)
      refine And.intro sh_l16 ?_
      refine pm_C_imp h (fun v hi3 h => ?_)
      obtain ⟨x4, rfl, h⟩ := h
      refine ⟨_, rfl, ?_⟩
      refine And.intro (fun c5 => ?_) (fun c5 => ?_)
      · replace h := h.1 c5
        exact h
      · replace h := h.2 c5
        refine And.intro trivial ?_
        exact h
theorem v_E_who_27 {L d : Nat}  {p1 : Int32} {y2 : Int32} {y3 : Int32} {y4 : Int32} {hi : pm_B} {Q : pm_Q} (h : (((hi 50 2) ≤ y4) → Q (some (.inl y3)) hi) ∧ ((¬ ((hi 50 2) ≤ y4)) → ∃ k2 : Nat, k2 < 8 ∧ y4 = nI k2 ∧ (pm_C pm_g (SH L) HR (d + 1) m_Saying_breathsOf [.inr 137, .inr (50 + 2 + 2 * k2)] hi (fun v hi3 => ∃ x4 : Int32, v = some (.inl x4) ∧ (((x4 = (-1000000005)) → pm_W pm_g (SH L) HR (d + 1) pm_t90 27 [some (.inr 16), some (.inl p1), some (.inl y2), some (.inl y3), some (.inl (y4 + 1))] [] hi3 Q) ∧ ((¬ (x4 = (-1000000005))) → pm_W pm_g (SH L) HR (d + 1) pm_t90 27 [some (.inr 16), some (.inl p1), some (.inl y2), some (.inl (y3 ||| (1 <<< (y4 &&& 31)))), some (.inl (y4 + 1))] [] hi3 Q)))))) : pm_W pm_g (SH L) HR (d + 1) pm_t90 27 [some (.inr 16), some (.inl p1), some (.inl y2), some (.inl y3), some (.inl y4)] [] hi Q := by
  refine pm_W_of 25 [27] rfl ?_
  refine And.intro sh_l16 ?_
  rw [hr_16_1]
  refine And.intro sh_l50 ?_
  refine And.intro (fun c1 => ?_) (fun c1 => ?_)
  · replace h := h.1 c1
    refine And.intro trivial ?_
    exact h
  · replace h := h.2 c1
    refine And.intro sh_l16 ?_
    rw [hr_16_9]
    refine And.intro sh_l16 ?_
    rw [hr_16_1]
    refine And.intro sh_l50 ?_
    rw [hr_50_1]
    obtain ⟨k2, hkk2, hek2, h⟩ := h
    refine And.intro (pm_ao_of (t := 0) sh_l51 hkk2 hek2 (by decide)) ?_
    rw [pm_tn hek2 hkk2 (by decide)]
    rw [(hr_sp (fo_lit 50 (by decide)) hkk2)]
    refine And.intro sh_l137 ?_
    refine pm_C_imp h (fun v hi3 h => ?_)
    obtain ⟨x4, rfl, h⟩ := h
    refine ⟨_, rfl, ?_⟩
    refine And.intro (fun c5 => ?_) (fun c5 => ?_)
    · replace h := h.1 c5
      exact h
    · replace h := h.2 c5
      exact h
theorem v_E_teacher {L d : Nat} {p1 : Int32} {p2 : Int32} {p3 : Int32} {hi : pm_B} {Q : pm_Q} (h : ((p1 < 0) → Q (some (.inl (-1000000001))) hi) ∧ ((¬ (p1 < 0)) → ((4 ≤ p1) → Q (some (.inl (-1000000001))) hi) ∧ ((¬ (4 ≤ p1)) → ((p2 < 0) → Q (some (.inl (-1000000001))) hi) ∧ ((¬ (p2 < 0)) → (((hi 50 2) ≤ p2) → Q (some (.inl (-1000000001))) hi) ∧ ((¬ ((hi 50 2) ≤ p2)) → ((8 ≤ p2) → Q (some (.inl (-1000000001))) hi) ∧ ((¬ (8 ≤ p2)) → ((p3 = 0) → pm_C pm_g (SH L) HR (d + 1) m_E_readSaying [.inr 16, .inl p1] hi (fun v hi7 => ∃ x8 : Int32, v = some (.inl x8) ∧ (((x8 = 0) → pm_C pm_g (SH L) HR (d + 1) m_Folk_become [.inr 88, .inr 50] hi7 (fun v hi10 => v = none ∧ (pm_W pm_g (SH L) HR (d + 1) pm_t91 65 [some (.inr 16), some (.inl p1), some (.inl p2), some (.inl p3), some (.inl x8), some (.inl (-1000000005)), some (.inl (-1000000005)), some (.inl 0), none] [] hi10 Q))) ∧ ((¬ (x8 = 0)) → Q (some (.inl x8)) hi7)))) ∧ ((¬ (p3 = 0)) → ((¬ p3 = 1) → Q (some (.inl (-1000000001))) hi) ∧ ((¬ (¬ p3 = 1)) → pm_C pm_g (SH L) HR (d + 1) m_E_readSaying [.inr 16, .inl p1] hi (fun v hi12 => ∃ x13 : Int32, v = some (.inl x13) ∧ (((x13 = 0) → pm_C pm_g (SH L) HR (d + 1) m_Folk_become [.inr 88, .inr 50] hi12 (fun v hi15 => v = none ∧ (pm_W pm_g (SH L) HR (d + 1) pm_t91 65 [some (.inr 16), some (.inl p1), some (.inl p2), some (.inl p3), some (.inl x13), some (.inl (-1000000005)), some (.inl (-1000000005)), some (.inl 0), none] [] hi15 Q))) ∧ ((¬ (x13 = 0)) → Q (some (.inl x13)) hi12))))))))))) : pm_C pm_g (SH L) HR (d + 2) m_E_teacher [.inr 16, .inl p1, .inl p2, .inl p3] hi Q := by
  refine pm_C_of (maxL := 9) (t := pm_t91) rfl (Nat.le_of_ble_eq_true rfl) ?_
  refine pm_W_of 30 [65] rfl ?_
  refine And.intro trivial ?_
  refine v_E_isSheet (d := d)  ?_
  refine And.intro (fun c1 => ?_) (fun c1 => ?_)
  · replace h := h.1 c1
    refine ⟨_, rfl, ?_⟩
    refine And.intro (fun _ => ?_) (fun hc => absurd (pm_cd_t (by decide)) hc)
    refine And.intro trivial ?_
    exact h
  · replace h := h.2 c1
    refine And.intro (fun c2 => ?_) (fun c2 => ?_)
    · replace h := h.1 c2
      refine ⟨_, rfl, ?_⟩
      refine And.intro (fun _ => ?_) (fun hc => absurd (pm_cd_t (by decide)) hc)
      refine And.intro trivial ?_
      exact h
    · replace h := h.2 c2
      refine ⟨_, rfl, ?_⟩
      refine And.intro (fun hc => absurd hc (pm_cd_f (by decide))) (fun _ => ?_)
      refine And.intro sh_l16 ?_
      rw [hr_16_1]
      refine And.intro sh_l50 ?_
      refine v_Folk_hasSpeaker (d := d) (fo_lit 50 (by decide)) ?_
      refine And.intro (fun c3 => ?_) (fun c3 => ?_)
      · replace h := h.1 c3
        refine ⟨_, rfl, ?_⟩
        refine And.intro (fun _ => ?_) (fun hc => absurd (pm_cd_t (by decide)) hc)
        refine And.intro trivial ?_
        exact h
      · replace h := h.2 c3
        refine And.intro (fun c4 => ?_) (fun c4 => ?_)
        · replace h := h.1 c4
          refine ⟨_, rfl, ?_⟩
          refine And.intro (fun _ => ?_) (fun hc => absurd (pm_cd_t (by decide)) hc)
          refine And.intro trivial ?_
          exact h
        · replace h := h.2 c4
          refine And.intro (fun c5 => ?_) (fun c5 => ?_)
          · replace h := h.1 c5
            refine ⟨_, rfl, ?_⟩
            refine And.intro (fun _ => ?_) (fun hc => absurd (pm_cd_t (by decide)) hc)
            refine And.intro trivial ?_
            exact h
          · replace h := h.2 c5
            refine ⟨_, rfl, ?_⟩
            refine And.intro (fun hc => absurd hc (pm_cd_f (by decide))) (fun _ => ?_)
            refine And.intro trivial ?_
            refine v_E_isZeroOrOne (d := d)  ?_
            refine And.intro (fun c6 => ?_) (fun c6 => ?_)
            · replace h := h.1 c6
              refine ⟨_, rfl, ?_⟩
              refine And.intro (fun _ => ?_) (fun hc => absurd (pm_cd_t (by decide)) hc)
              refine And.intro sh_l16 ?_
              refine pm_C_imp h (fun v hi7 h => ?_)
              obtain ⟨x8, rfl, h⟩ := h
              refine ⟨_, rfl, ?_⟩
              refine And.intro (fun c9 => ?_) (fun c9 => ?_)
              · replace h := h.1 c9
                refine And.intro sh_l16 ?_
                rw [hr_16_3]
                refine And.intro sh_l16 ?_
                rw [hr_16_1]
                refine And.intro sh_l88 ?_
                refine pm_C_imp h (fun v hi10 h => ?_)
                obtain ⟨rfl, h⟩ := h
                refine ⟨rfl, ?_⟩
                exact h
              · replace h := h.2 c9
                refine And.intro trivial ?_
                exact h
            · replace h := h.2 c6
              refine And.intro (fun c11 => ?_) (fun c11 => ?_)
              · replace h := h.1 c11
                refine ⟨_, rfl, ?_⟩
                refine And.intro (fun hc => absurd hc (pm_cd_f (by decide))) (fun _ => ?_)
                refine And.intro trivial ?_
                exact h
              · replace h := h.2 c11
                refine ⟨_, rfl, ?_⟩
                refine And.intro (fun _ => ?_) (fun hc => absurd (pm_cd_t (by decide)) hc)
                refine And.intro sh_l16 ?_
                refine pm_C_imp h (fun v hi12 h => ?_)
                obtain ⟨x13, rfl, h⟩ := h
                refine ⟨_, rfl, ?_⟩
                refine And.intro (fun c14 => ?_) (fun c14 => ?_)
                · replace h := h.1 c14
                  refine And.intro sh_l16 ?_
                  rw [hr_16_3]
                  refine And.intro sh_l16 ?_
                  rw [hr_16_1]
                  refine And.intro sh_l88 ?_
                  refine pm_C_imp h (fun v hi15 h => ?_)
                  obtain ⟨rfl, h⟩ := h
                  refine ⟨rfl, ?_⟩
                  exact h
                · replace h := h.2 c14
                  refine And.intro trivial ?_
                  exact h
theorem v_E_teacher_65 {L d : Nat} {o8 : Option pm_V} {p1 : Int32} {p2 : Int32} {p3 : Int32} {y4 : Int32} {y5 : Int32} {y6 : Int32} {y7 : Int32} {hi : pm_B} {Q : pm_Q} (h : (((hi 50 2) ≤ y7) → ((¬ p3 = 0) → Q (some (.inl y6)) hi) ∧ ((¬ (¬ p3 = 0)) → Q (some (.inl y5)) hi)) ∧ ((¬ ((hi 50 2) ≤ y7)) → ((¬ y7 = p2) → pm_C pm_g (SH L) HR (d + 1) m_E_breathsTaught [.inr 16, .inl p2, .inl y7] hi (fun v hi4 => ∃ x5 : Int32, v = some (.inl x5) ∧ (((x5 = (-1000000005)) → pm_W pm_g (SH L) HR (d + 1) pm_t91 65 [some (.inr 16), some (.inl p1), some (.inl p2), some (.inl p3), some (.inl y4), some (.inl y5), some (.inl y6), some (.inl (y7 + 1)), some (.inl x5)] [] hi4 Q) ∧ ((¬ (x5 = (-1000000005))) → ((y5 = (-1000000005)) → pm_W pm_g (SH L) HR (d + 1) pm_t91 65 [some (.inr 16), some (.inl p1), some (.inl p2), some (.inl p3), some (.inl y4), some (.inl y7), some (.inl x5), some (.inl (y7 + 1)), some (.inl x5)] [] hi4 Q) ∧ ((¬ (y5 = (-1000000005))) → ((y6 ≤ x5) → pm_W pm_g (SH L) HR (d + 1) pm_t91 65 [some (.inr 16), some (.inl p1), some (.inl p2), some (.inl p3), some (.inl y4), some (.inl y5), some (.inl y6), some (.inl (y7 + 1)), some (.inl x5)] [] hi4 Q) ∧ ((¬ (y6 ≤ x5)) → pm_W pm_g (SH L) HR (d + 1) pm_t91 65 [some (.inr 16), some (.inl p1), some (.inl p2), some (.inl p3), some (.inl y4), some (.inl y7), some (.inl x5), some (.inl (y7 + 1)), some (.inl x5)] [] hi4 Q)))))) ∧ ((¬ (¬ y7 = p2)) → pm_W pm_g (SH L) HR (d + 1) pm_t91 65 [some (.inr 16), some (.inl p1), some (.inl p2), some (.inl p3), some (.inl y4), some (.inl y5), some (.inl y6), some (.inl (y7 + 1)), some (.inl (-1000000005))] [] hi Q))) : pm_W pm_g (SH L) HR (d + 1) pm_t91 65 [some (.inr 16), some (.inl p1), some (.inl p2), some (.inl p3), some (.inl y4), some (.inl y5), some (.inl y6), some (.inl y7), o8] [] hi Q := by
  refine pm_W_of 30 [65] rfl ?_
  refine And.intro sh_l16 ?_
  rw [hr_16_1]
  refine And.intro sh_l50 ?_
  refine And.intro (fun c1 => ?_) (fun c1 => ?_)
  · replace h := h.1 c1
    refine And.intro (fun c2 => ?_) (fun c2 => ?_)
    · replace h := h.1 c2
      refine And.intro trivial ?_
      exact h
    · replace h := h.2 c2
      refine And.intro trivial ?_
      exact h
  · replace h := h.2 c1
    refine And.intro (fun c3 => ?_) (fun c3 => ?_)
    · replace h := h.1 c3
      refine And.intro sh_l16 ?_
      refine pm_C_imp h (fun v hi4 h => ?_)
      obtain ⟨x5, rfl, h⟩ := h
      refine ⟨_, rfl, ?_⟩
      refine And.intro (fun c6 => ?_) (fun c6 => ?_)
      · replace h := h.1 c6
        exact h
      · replace h := h.2 c6
        refine And.intro (fun c7 => ?_) (fun c7 => ?_)
        · replace h := h.1 c7
          exact h
        · replace h := h.2 c7
          refine And.intro (fun c8 => ?_) (fun c8 => ?_)
          · replace h := h.1 c8
            exact h
          · replace h := h.2 c8
            exact h
    · replace h := h.2 c3
      refine And.intro (fun _ => ?_) (fun hc => absurd (pm_cd_t (by decide)) hc)
      exact h
theorem v_E_behind {L d : Nat} {p1 : Int32} {p2 : Int32} {hi : pm_B} {Q : pm_Q} (h : ((p1 < 0) → Q (some (.inl (-1000000001))) hi) ∧ ((¬ (p1 < 0)) → ((100 < p1) → Q (some (.inl (-1000000001))) hi) ∧ ((¬ (100 < p1)) → ((0 ≤ p2) → ((p2 ≤ 2) → pm_C pm_g (SH L) HR (d + 1) m_Folk_become [.inr 88, .inr 50] hi (fun v hi5 => v = none ∧ (pm_W pm_g (SH L) HR (d + 1) pm_t92 51 [some (.inr 16), some (.inl p1), some (.inl p2), some (.inl 0)] [] hi5 Q))) ∧ ((¬ (p2 ≤ 2)) → (((p2 - 3) < 0) → Q (some (.inl (-1000000001))) hi) ∧ ((¬ ((p2 - 3) < 0)) → (((hi 50 2) ≤ (p2 - 3)) → Q (some (.inl (-1000000001))) hi) ∧ ((¬ ((hi 50 2) ≤ (p2 - 3))) → ((8 ≤ (p2 - 3)) → Q (some (.inl (-1000000001))) hi) ∧ ((¬ (8 ≤ (p2 - 3))) → pm_C pm_g (SH L) HR (d + 1) m_Folk_become [.inr 88, .inr 50] hi (fun v hi9 => v = none ∧ (pm_W pm_g (SH L) HR (d + 1) pm_t92 51 [some (.inr 16), some (.inl p1), some (.inl p2), some (.inl 0)] [] hi9 Q))))))) ∧ ((¬ (0 ≤ p2)) → Q (some (.inl (-1000000001))) hi)))) : pm_C pm_g (SH L) HR (d + 2) m_E_behind [.inr 16, .inl p1, .inl p2] hi Q := by
  refine pm_C_of (maxL := 4) (t := pm_t92) rfl (Nat.le_of_ble_eq_true rfl) ?_
  refine pm_W_of 26 [51] rfl ?_
  refine And.intro trivial ?_
  refine v_E_isDays (d := d)  ?_
  refine And.intro (fun c1 => ?_) (fun c1 => ?_)
  · replace h := h.1 c1
    refine ⟨_, rfl, ?_⟩
    refine And.intro (fun _ => ?_) (fun hc => absurd (pm_cd_t (by decide)) hc)
    refine And.intro trivial ?_
    exact h
  · replace h := h.2 c1
    refine And.intro (fun c2 => ?_) (fun c2 => ?_)
    · replace h := h.1 c2
      refine ⟨_, rfl, ?_⟩
      refine And.intro (fun _ => ?_) (fun hc => absurd (pm_cd_t (by decide)) hc)
      refine And.intro trivial ?_
      exact h
    · replace h := h.2 c2
      refine ⟨_, rfl, ?_⟩
      refine And.intro (fun hc => absurd hc (pm_cd_f (by decide))) (fun _ => ?_)
      refine And.intro (fun c3 => ?_) (fun c3 => ?_)
      · replace h := h.1 c3
        refine And.intro (fun c4 => ?_) (fun c4 => ?_)
        · replace h := h.1 c4
          refine And.intro sh_l16 ?_
          rw [hr_16_3]
          refine And.intro sh_l16 ?_
          rw [hr_16_1]
          refine And.intro sh_l88 ?_
          refine pm_C_imp h (fun v hi5 h => ?_)
          obtain ⟨rfl, h⟩ := h
          refine ⟨rfl, ?_⟩
          exact h
        · replace h := h.2 c4
          refine And.intro sh_l16 ?_
          rw [hr_16_1]
          refine And.intro sh_l50 ?_
          refine v_Folk_hasSpeaker (d := d) (fo_lit 50 (by decide)) ?_
          refine And.intro (fun c6 => ?_) (fun c6 => ?_)
          · replace h := h.1 c6
            refine ⟨_, rfl, ?_⟩
            refine And.intro (fun hc => absurd hc (pm_cd_f (by decide))) (fun _ => ?_)
            refine And.intro trivial ?_
            exact h
          · replace h := h.2 c6
            refine And.intro (fun c7 => ?_) (fun c7 => ?_)
            · replace h := h.1 c7
              refine ⟨_, rfl, ?_⟩
              refine And.intro (fun hc => absurd hc (pm_cd_f (by decide))) (fun _ => ?_)
              refine And.intro trivial ?_
              exact h
            · replace h := h.2 c7
              refine And.intro (fun c8 => ?_) (fun c8 => ?_)
              · replace h := h.1 c8
                refine ⟨_, rfl, ?_⟩
                refine And.intro (fun hc => absurd hc (pm_cd_f (by decide))) (fun _ => ?_)
                refine And.intro trivial ?_
                exact h
              · replace h := h.2 c8
                refine ⟨_, rfl, ?_⟩
                refine And.intro (fun _ => ?_) (fun hc => absurd (pm_cd_t (by decide)) hc)
                refine And.intro sh_l16 ?_
                rw [hr_16_3]
                refine And.intro sh_l16 ?_
                rw [hr_16_1]
                refine And.intro sh_l88 ?_
                refine pm_C_imp h (fun v hi9 h => ?_)
                obtain ⟨rfl, h⟩ := h
                refine ⟨rfl, ?_⟩
                exact h
      · replace h := h.2 c3
        refine And.intro trivial ?_
        exact h
theorem v_E_behind_51 {L d : Nat}  {p1 : Int32} {p2 : Int32} {y3 : Int32} {hi : pm_B} {Q : pm_Q} (h : ((p1 ≤ y3) → ((p2 = 0) → Q (some (.inl (hi 88 4))) hi) ∧ ((¬ p2 = 0) → ((p2 = 1) → Q (some (.inl (hi 88 5))) hi) ∧ ((¬ p2 = 1) → ((p2 = 2) → pm_C pm_g (SH L) HR (d + 1) m_Folk_wordsTogether [.inr 88] hi (fun v hi5 => ∃ x6 : Int32, v = some (.inl x6) ∧ (Q (some (.inl x6)) hi5))) ∧ ((¬ p2 = 2) → ∃ k7 : Nat, k7 < 8 ∧ (p2 - 3) = nI k7 ∧ (pm_C pm_g (SH L) HR (d + 1) m_Speaker_wordSet [.inr (88 + 2 + 2 * k7)] hi (fun v hi8 => ∃ x9 : Int32, v = some (.inl x9) ∧ (Q (some (.inl x9)) hi8))))))) ∧ ((¬ (p1 ≤ y3)) → pm_C pm_g (SH L) HR (d + 1) m_Folk_passDay [.inr 88] hi (fun v hi10 => v = none ∧ (pm_W pm_g (SH L) HR (d + 1) pm_t92 51 [some (.inr 16), some (.inl p1), some (.inl p2), some (.inl (y3 + 1))] [] hi10 Q)))) : pm_W pm_g (SH L) HR (d + 1) pm_t92 51 [some (.inr 16), some (.inl p1), some (.inl p2), some (.inl y3)] [] hi Q := by
  refine pm_W_of 16 [51] rfl ?_
  refine And.intro (fun c1 => ?_) (fun c1 => ?_)
  · replace h := h.1 c1
    intro pc1 hsw
    by_cases c2 : p2 = 0
    · rw [pm_sw_t c2] at hsw
      subst hsw
      replace h := h.1 c2
      refine And.intro sh_l16 ?_
      rw [hr_16_3]
      refine And.intro sh_l88 ?_
      refine And.intro trivial ?_
      exact h
    · rw [pm_sw_f c2] at hsw
      replace h := h.2 c2
      by_cases c3 : p2 = 1
      · rw [pm_sw_t c3] at hsw
        subst hsw
        replace h := h.1 c3
        refine And.intro sh_l16 ?_
        rw [hr_16_3]
        refine And.intro sh_l88 ?_
        refine And.intro trivial ?_
        exact h
      · rw [pm_sw_f c3] at hsw
        replace h := h.2 c3
        by_cases c4 : p2 = 2
        · rw [pm_sw_t c4] at hsw
          subst hsw
          replace h := h.1 c4
          refine And.intro sh_l16 ?_
          rw [hr_16_3]
          refine And.intro sh_l88 ?_
          refine pm_C_imp h (fun v hi5 h => ?_)
          obtain ⟨x6, rfl, h⟩ := h
          refine ⟨_, rfl, ?_⟩
          refine And.intro trivial ?_
          exact h
        · rw [pm_sw_f c4] at hsw
          replace h := h.2 c4
          replace hsw : 120 = pc1 := hsw
          subst hsw
          refine And.intro sh_l16 ?_
          rw [hr_16_3]
          refine And.intro sh_l88 ?_
          rw [hr_88_1]
          obtain ⟨k7, hkk7, hek7, h⟩ := h
          refine And.intro (pm_ao_of (t := 0) sh_l89 hkk7 hek7 (by decide)) ?_
          rw [pm_tn hek7 hkk7 (by decide)]
          rw [(hr_sp (fo_lit 88 (by decide)) hkk7)]
          refine And.intro (sh_sk (sk_of (fo_lit 88 (by decide)) hkk7)) ?_
          refine pm_C_imp h (fun v hi8 h => ?_)
          obtain ⟨x9, rfl, h⟩ := h
          refine ⟨_, rfl, ?_⟩
          refine And.intro trivial ?_
          exact h
  · replace h := h.2 c1
    refine And.intro sh_l16 ?_
    rw [hr_16_3]
    refine And.intro sh_l88 ?_
    refine pm_C_imp h (fun v hi10 h => ?_)
    obtain ⟨rfl, h⟩ := h
    refine ⟨rfl, ?_⟩
    exact h
theorem v_E_spreads {L d : Nat} {p1 : Int32} {hi : pm_B} {Q : pm_Q} (h : ((p1 < 0) → Q (some (.inl (-1000000001))) hi) ∧ ((¬ (p1 < 0)) → ((20 ≤ p1) → Q (some (.inl (-1000000001))) hi) ∧ ((¬ (20 ≤ p1)) → pm_C pm_g (SH L) HR (d + 1) m_Folk_become [.inr 88, .inr 50] hi (fun v hi3 => v = none ∧ (pm_W pm_g (SH L) HR (d + 1) pm_t93 23 [some (.inr 16), some (.inl p1), some (.inl 0)] [] hi3 Q))))) : pm_C pm_g (SH L) HR (d + 2) m_E_spreads [.inr 16, .inl p1] hi Q := by
  refine pm_C_of (maxL := 3) (t := pm_t93) rfl (Nat.le_of_ble_eq_true rfl) ?_
  refine pm_W_of 12 [23] rfl ?_
  refine And.intro trivial ?_
  refine v_E_isWord (d := d)  ?_
  refine And.intro (fun c1 => ?_) (fun c1 => ?_)
  · replace h := h.1 c1
    refine ⟨_, rfl, ?_⟩
    refine And.intro (fun hc => absurd hc (pm_cd_f (by decide))) (fun _ => ?_)
    refine And.intro trivial ?_
    exact h
  · replace h := h.2 c1
    refine And.intro (fun c2 => ?_) (fun c2 => ?_)
    · replace h := h.1 c2
      refine ⟨_, rfl, ?_⟩
      refine And.intro (fun hc => absurd hc (pm_cd_f (by decide))) (fun _ => ?_)
      refine And.intro trivial ?_
      exact h
    · replace h := h.2 c2
      refine ⟨_, rfl, ?_⟩
      refine And.intro (fun _ => ?_) (fun hc => absurd (pm_cd_t (by decide)) hc)
      refine And.intro sh_l16 ?_
      rw [hr_16_3]
      refine And.intro sh_l16 ?_
      rw [hr_16_1]
      refine And.intro sh_l88 ?_
      refine pm_C_imp h (fun v hi3 h => ?_)
      obtain ⟨rfl, h⟩ := h
      refine ⟨rfl, ?_⟩
      exact h
theorem v_E_spreads_23 {L d : Nat}  {p1 : Int32} {y2 : Int32} {hi : pm_B} {Q : pm_Q} (h : ((200 ≤ y2) → pm_C pm_g (SH L) HR (d + 1) m_Folk_allButDeafHave [.inr 88, .inl p1] hi (fun v hi2 => ∃ x3 : Int32, v = some (.inl x3) ∧ (((x3 = 0) → Q (some (.inl (-1000000005))) hi2) ∧ ((¬ (x3 = 0)) → Q (some (.inl 200)) hi2)))) ∧ ((¬ (200 ≤ y2)) → pm_C pm_g (SH L) HR (d + 1) m_Folk_allButDeafHave [.inr 88, .inl p1] hi (fun v hi5 => ∃ x6 : Int32, v = some (.inl x6) ∧ (((x6 = 0) → pm_C pm_g (SH L) HR (d + 1) m_Folk_passDay [.inr 88] hi5 (fun v hi8 => v = none ∧ (pm_W pm_g (SH L) HR (d + 1) pm_t93 23 [some (.inr 16), some (.inl p1), some (.inl (y2 + 1))] [] hi8 Q))) ∧ ((¬ (x6 = 0)) → Q (some (.inl y2)) hi5))))) : pm_W pm_g (SH L) HR (d + 1) pm_t93 23 [some (.inr 16), some (.inl p1), some (.inl y2)] [] hi Q := by
  refine pm_W_of 15 [23] rfl ?_
  refine And.intro (fun c1 => ?_) (fun c1 => ?_)
  · replace h := h.1 c1
    refine And.intro sh_l16 ?_
    rw [hr_16_3]
    refine And.intro sh_l88 ?_
    refine pm_C_imp h (fun v hi2 h => ?_)
    obtain ⟨x3, rfl, h⟩ := h
    refine ⟨_, rfl, ?_⟩
    refine And.intro (fun c4 => ?_) (fun c4 => ?_)
    · replace h := h.1 c4
      refine And.intro trivial ?_
      exact h
    · replace h := h.2 c4
      refine And.intro trivial ?_
      exact h
  · replace h := h.2 c1
    refine And.intro sh_l16 ?_
    rw [hr_16_3]
    refine And.intro sh_l88 ?_
    refine pm_C_imp h (fun v hi5 h => ?_)
    obtain ⟨x6, rfl, h⟩ := h
    refine ⟨_, rfl, ?_⟩
    refine And.intro (fun c7 => ?_) (fun c7 => ?_)
    · replace h := h.1 c7
      refine And.intro sh_l16 ?_
      rw [hr_16_3]
      refine And.intro sh_l88 ?_
      refine pm_C_imp h (fun v hi8 h => ?_)
      obtain ⟨rfl, h⟩ := h
      refine ⟨rfl, ?_⟩
      exact h
    · replace h := h.2 c7
      refine And.intro trivial ?_
      exact h
theorem v_E_learns {L d : Nat} {p1 : Int32} {p2 : Int32} {hi : pm_B} {Q : pm_Q} (h : ((p1 < 0) → Q (some (.inl (-1000000001))) hi) ∧ ((¬ (p1 < 0)) → (((hi 50 2) ≤ p1) → Q (some (.inl (-1000000001))) hi) ∧ ((¬ ((hi 50 2) ≤ p1)) → ((8 ≤ p1) → Q (some (.inl (-1000000001))) hi) ∧ ((¬ (8 ≤ p1)) → ((p2 < 1) → Q (some (.inl (-1000000001))) hi) ∧ ((¬ (p2 < 1)) → ((100 < p2) → Q (some (.inl (-1000000001))) hi) ∧ ((¬ (100 < p2)) → pm_C pm_g (SH L) HR (d + 1) m_Folk_become [.inr 88, .inr 50] hi (fun v hi6 => v = none ∧ (pm_W pm_g (SH L) HR (d + 1) pm_t94 37 [some (.inr 16), some (.inl p1), some (.inl p2), some (.inl 0), none] [] hi6 Q)))))))) : pm_C pm_g (SH L) HR (d + 2) m_E_learns [.inr 16, .inl p1, .inl p2] hi Q := by
  refine pm_C_of (maxL := 5) (t := pm_t94) rfl (Nat.le_of_ble_eq_true rfl) ?_
  refine pm_W_of 19 [37, 86] rfl ?_
  refine And.intro sh_l16 ?_
  rw [hr_16_1]
  refine And.intro sh_l50 ?_
  refine v_Folk_hasSpeaker (d := d) (fo_lit 50 (by decide)) ?_
  refine And.intro (fun c1 => ?_) (fun c1 => ?_)
  · replace h := h.1 c1
    refine ⟨_, rfl, ?_⟩
    refine And.intro (fun _ => ?_) (fun hc => absurd (pm_cd_t (by decide)) hc)
    refine And.intro trivial ?_
    exact h
  · replace h := h.2 c1
    refine And.intro (fun c2 => ?_) (fun c2 => ?_)
    · replace h := h.1 c2
      refine ⟨_, rfl, ?_⟩
      refine And.intro (fun _ => ?_) (fun hc => absurd (pm_cd_t (by decide)) hc)
      refine And.intro trivial ?_
      exact h
    · replace h := h.2 c2
      refine And.intro (fun c3 => ?_) (fun c3 => ?_)
      · replace h := h.1 c3
        refine ⟨_, rfl, ?_⟩
        refine And.intro (fun _ => ?_) (fun hc => absurd (pm_cd_t (by decide)) hc)
        refine And.intro trivial ?_
        exact h
      · replace h := h.2 c3
        refine ⟨_, rfl, ?_⟩
        refine And.intro (fun hc => absurd hc (pm_cd_f (by decide))) (fun _ => ?_)
        refine And.intro trivial ?_
        refine v_E_isDays (d := d)  ?_
        refine And.intro (fun c4 => ?_) (fun c4 => ?_)
        · replace h := h.1 c4
          refine ⟨_, rfl, ?_⟩
          refine And.intro (fun hc => absurd hc (pm_cd_f (by decide))) (fun _ => ?_)
          refine And.intro trivial ?_
          exact h
        · replace h := h.2 c4
          refine And.intro (fun c5 => ?_) (fun c5 => ?_)
          · replace h := h.1 c5
            refine ⟨_, rfl, ?_⟩
            refine And.intro (fun hc => absurd hc (pm_cd_f (by decide))) (fun _ => ?_)
            refine And.intro trivial ?_
            exact h
          · replace h := h.2 c5
            refine ⟨_, rfl, ?_⟩
            refine And.intro (fun _ => ?_) (fun hc => absurd (pm_cd_t (by decide)) hc)
            refine And.intro sh_l16 ?_
            rw [hr_16_3]
            refine And.intro sh_l16 ?_
            rw [hr_16_1]
            refine And.intro sh_l88 ?_
            refine pm_C_imp h (fun v hi6 h => ?_)
            obtain ⟨rfl, h⟩ := h
            refine ⟨rfl, ?_⟩
            exact h
theorem v_E_learns_37 {L d : Nat} {o4 : Option pm_V} {p1 : Int32} {p2 : Int32} {y3 : Int32} {hi : pm_B} {Q : pm_Q} (h : ((p2 ≤ y3) → ∃ k2 : Nat, k2 < 8 ∧ p1 = nI k2 ∧ (pm_C pm_g (SH L) HR (d + 1) m_Speaker_wordSet [.inr (88 + 2 + 2 * k2)] hi (fun v hi3 => ∃ x4 : Int32, v = some (.inl x4) ∧ (∃ k5 : Nat, k5 < 8 ∧ p1 = nI k5 ∧ (pm_C pm_g (SH L) HR (d + 1) m_Speaker_wordSet [.inr (50 + 2 + 2 * k5)] hi3 (fun v hi6 => ∃ x7 : Int32, v = some (.inl x7) ∧ (pm_W pm_g (SH L) HR (d + 1) pm_t94 86 [some (.inr 16), some (.inl p1), some (.inl p2), some (.inl (x4 &&& (x7 ^^^ (-1)))), some (.inl 0)] [] hi6 Q))))))) ∧ ((¬ (p2 ≤ y3)) → pm_C pm_g (SH L) HR (d + 1) m_Folk_passDay [.inr 88] hi (fun v hi8 => v = none ∧ (pm_W pm_g (SH L) HR (d + 1) pm_t94 37 [some (.inr 16), some (.inl p1), some (.inl p2), some (.inl (y3 + 1)), o4] [] hi8 Q)))) : pm_W pm_g (SH L) HR (d + 1) pm_t94 37 [some (.inr 16), some (.inl p1), some (.inl p2), some (.inl y3), o4] [] hi Q := by
  refine pm_W_of 23 [37, 86] rfl ?_
  refine And.intro (fun c1 => ?_) (fun c1 => ?_)
  · replace h := h.1 c1
    refine And.intro sh_l16 ?_
    rw [hr_16_3]
    refine And.intro sh_l88 ?_
    rw [hr_88_1]
    obtain ⟨k2, hkk2, hek2, h⟩ := h
    refine And.intro (pm_ao_of (t := 0) sh_l89 hkk2 hek2 (by decide)) ?_
    rw [pm_tn hek2 hkk2 (by decide)]
    rw [(hr_sp (fo_lit 88 (by decide)) hkk2)]
    refine And.intro (sh_sk (sk_of (fo_lit 88 (by decide)) hkk2)) ?_
    refine pm_C_imp h (fun v hi3 h => ?_)
    obtain ⟨x4, rfl, h⟩ := h
    refine ⟨_, rfl, ?_⟩
    refine And.intro sh_l16 ?_
    rw [hr_16_1]
    refine And.intro sh_l50 ?_
    rw [hr_50_1]
    obtain ⟨k5, hkk5, hek5, h⟩ := h
    refine And.intro (pm_ao_of (t := 0) sh_l51 hkk5 hek5 (by decide)) ?_
    rw [pm_tn hek5 hkk5 (by decide)]
    rw [(hr_sp (fo_lit 50 (by decide)) hkk5)]
    refine And.intro (sh_sk (sk_of (fo_lit 50 (by decide)) hkk5)) ?_
    refine pm_C_imp h (fun v hi6 h => ?_)
    obtain ⟨x7, rfl, h⟩ := h
    refine ⟨_, rfl, ?_⟩
    exact h
  · replace h := h.2 c1
    refine And.intro sh_l16 ?_
    rw [hr_16_3]
    refine And.intro sh_l88 ?_
    refine pm_C_imp h (fun v hi8 h => ?_)
    obtain ⟨rfl, h⟩ := h
    refine ⟨rfl, ?_⟩
    exact h
theorem v_E_learns_86 {L d : Nat}  {p1 : Int32} {p2 : Int32} {y3 : Int32} {y4 : Int32} {hi : pm_B} {Q : pm_Q} (h : ((20 ≤ y4) → Q (some (.inl (-1000000005))) hi) ∧ ((¬ (20 ≤ y4)) → ((¬ (((Int32.toUInt32 y3 >>> (Int32.toUInt32 y4 &&& Int32.toUInt32 31)).toInt32) &&& 1) = 1) → pm_W pm_g (SH L) HR (d + 1) pm_t94 86 [some (.inr 16), some (.inl p1), some (.inl p2), some (.inl y3), some (.inl (y4 + 1))] [] hi Q) ∧ ((¬ (¬ (((Int32.toUInt32 y3 >>> (Int32.toUInt32 y4 &&& Int32.toUInt32 31)).toInt32) &&& 1) = 1)) → Q (some (.inl y4)) hi))) : pm_W pm_g (SH L) HR (d + 1) pm_t94 86 [some (.inr 16), some (.inl p1), some (.inl p2), some (.inl y3), some (.inl y4)] [] hi Q := by
  refine pm_W_of 14 [37, 86] rfl ?_
  refine And.intro (fun c1 => ?_) (fun c1 => ?_)
  · replace h := h.1 c1
    refine And.intro trivial ?_
    exact h
  · replace h := h.2 c1
    refine And.intro (fun c2 => ?_) (fun c2 => ?_)
    · replace h := h.1 c2
      exact h
    · replace h := h.2 c2
      refine And.intro trivial ?_
      exact h
theorem v_E_quiet {L d : Nat} {p1 : Int32} {p2 : Int32} {hi : pm_B} {Q : pm_Q} (h : ((p1 < 1) → Q (some (.inl (-1000000001))) hi) ∧ ((¬ (p1 < 1)) → ((100 < p1) → Q (some (.inl (-1000000001))) hi) ∧ ((¬ (100 < p1)) → ((p2 = 0) → pm_W pm_g (SH L) HR (d + 1) pm_t95 30 [some (.inr 16), some (.inl p1), some (.inl p2), some (.inl (-1000000005)), some (.inl (-1000000005)), some (.inl 0), none] [] hi Q) ∧ ((¬ (p2 = 0)) → ((¬ p2 = 1) → Q (some (.inl (-1000000001))) hi) ∧ ((¬ (¬ p2 = 1)) → pm_W pm_g (SH L) HR (d + 1) pm_t95 30 [some (.inr 16), some (.inl p1), some (.inl p2), some (.inl (-1000000005)), some (.inl (-1000000005)), some (.inl 0), none] [] hi Q))))) : pm_C pm_g (SH L) HR (d + 2) m_E_quiet [.inr 16, .inl p1, .inl p2] hi Q := by
  refine pm_C_of (maxL := 7) (t := pm_t95) rfl (Nat.le_of_ble_eq_true rfl) ?_
  refine pm_W_of 16 [30] rfl ?_
  refine And.intro trivial ?_
  refine v_E_isDays (d := d)  ?_
  refine And.intro (fun c1 => ?_) (fun c1 => ?_)
  · replace h := h.1 c1
    refine ⟨_, rfl, ?_⟩
    refine And.intro (fun _ => ?_) (fun hc => absurd (pm_cd_t (by decide)) hc)
    refine And.intro trivial ?_
    exact h
  · replace h := h.2 c1
    refine And.intro (fun c2 => ?_) (fun c2 => ?_)
    · replace h := h.1 c2
      refine ⟨_, rfl, ?_⟩
      refine And.intro (fun _ => ?_) (fun hc => absurd (pm_cd_t (by decide)) hc)
      refine And.intro trivial ?_
      exact h
    · replace h := h.2 c2
      refine ⟨_, rfl, ?_⟩
      refine And.intro (fun hc => absurd hc (pm_cd_f (by decide))) (fun _ => ?_)
      refine And.intro trivial ?_
      refine v_E_isZeroOrOne (d := d)  ?_
      refine And.intro (fun c3 => ?_) (fun c3 => ?_)
      · replace h := h.1 c3
        refine ⟨_, rfl, ?_⟩
        refine And.intro (fun _ => ?_) (fun hc => absurd (pm_cd_t (by decide)) hc)
        exact h
      · replace h := h.2 c3
        refine And.intro (fun c4 => ?_) (fun c4 => ?_)
        · replace h := h.1 c4
          refine ⟨_, rfl, ?_⟩
          refine And.intro (fun hc => absurd hc (pm_cd_f (by decide))) (fun _ => ?_)
          refine And.intro trivial ?_
          exact h
        · replace h := h.2 c4
          refine ⟨_, rfl, ?_⟩
          refine And.intro (fun _ => ?_) (fun hc => absurd (pm_cd_t (by decide)) hc)
          exact h
theorem v_E_quiet_30 {L d : Nat} {o6 : Option pm_V} {p1 : Int32} {p2 : Int32} {y3 : Int32} {y4 : Int32} {y5 : Int32} {hi : pm_B} {Q : pm_Q} (h : (((hi 50 2) ≤ y5) → ((¬ p2 = 0) → Q (some (.inl y4)) hi) ∧ ((¬ (¬ p2 = 0)) → Q (some (.inl y3)) hi)) ∧ ((¬ ((hi 50 2) ≤ y5)) → pm_C pm_g (SH L) HR (d + 1) m_E_spokenWithout [.inr 16, .inl y5, .inl p1] hi (fun v hi3 => ∃ x4 : Int32, v = some (.inl x4) ∧ (((y3 = (-1000000005)) → pm_W pm_g (SH L) HR (d + 1) pm_t95 30 [some (.inr 16), some (.inl p1), some (.inl p2), some (.inl y5), some (.inl x4), some (.inl (y5 + 1)), some (.inl x4)] [] hi3 Q) ∧ ((¬ (y3 = (-1000000005))) → ((y4 ≤ x4) → pm_W pm_g (SH L) HR (d + 1) pm_t95 30 [some (.inr 16), some (.inl p1), some (.inl p2), some (.inl y3), some (.inl y4), some (.inl (y5 + 1)), some (.inl x4)] [] hi3 Q) ∧ ((¬ (y4 ≤ x4)) → pm_W pm_g (SH L) HR (d + 1) pm_t95 30 [some (.inr 16), some (.inl p1), some (.inl p2), some (.inl y5), some (.inl x4), some (.inl (y5 + 1)), some (.inl x4)] [] hi3 Q)))))) : pm_W pm_g (SH L) HR (d + 1) pm_t95 30 [some (.inr 16), some (.inl p1), some (.inl p2), some (.inl y3), some (.inl y4), some (.inl y5), o6] [] hi Q := by
  refine pm_W_of 24 [30] rfl ?_
  refine And.intro sh_l16 ?_
  rw [hr_16_1]
  refine And.intro sh_l50 ?_
  refine And.intro (fun c1 => ?_) (fun c1 => ?_)
  · replace h := h.1 c1
    refine And.intro (fun c2 => ?_) (fun c2 => ?_)
    · replace h := h.1 c2
      refine And.intro trivial ?_
      exact h
    · replace h := h.2 c2
      refine And.intro trivial ?_
      exact h
  · replace h := h.2 c1
    refine And.intro sh_l16 ?_
    refine pm_C_imp h (fun v hi3 h => ?_)
    obtain ⟨x4, rfl, h⟩ := h
    refine ⟨_, rfl, ?_⟩
    refine And.intro (fun c5 => ?_) (fun c5 => ?_)
    · replace h := h.1 c5
      exact h
    · replace h := h.2 c5
      refine And.intro (fun c6 => ?_) (fun c6 => ?_)
      · replace h := h.1 c6
        exact h
      · replace h := h.2 c6
        exact h
theorem v_E_ears {L d : Nat} {p1 : Int32} {p2 : Int32} {p3 : Int32} {hi : pm_B} {Q : pm_Q} (h : ((p1 < 0) → Q (some (.inl (-1000000001))) hi) ∧ ((¬ (p1 < 0)) → (((hi 50 2) ≤ p1) → Q (some (.inl (-1000000001))) hi) ∧ ((¬ ((hi 50 2) ≤ p1)) → ((8 ≤ p1) → Q (some (.inl (-1000000001))) hi) ∧ ((¬ (8 ≤ p1)) → ((p2 < 1) → Q (some (.inl (-1000000001))) hi) ∧ ((¬ (p2 < 1)) → ((60 < p2) → Q (some (.inl (-1000000001))) hi) ∧ ((¬ (60 < p2)) → ((p3 = 0) → pm_W pm_g (SH L) HR (d + 1) pm_t96 40 [some (.inr 16), some (.inl p1), some (.inl p2), some (.inl p3), some (.inl 1), some (.inl (-1)), some (.inl 1), none] [] hi Q) ∧ ((¬ (p3 = 0)) → ((¬ p3 = 1) → Q (some (.inl (-1000000001))) hi) ∧ ((¬ (¬ p3 = 1)) → pm_W pm_g (SH L) HR (d + 1) pm_t96 40 [some (.inr 16), some (.inl p1), some (.inl p2), some (.inl p3), some (.inl 1), some (.inl (-1)), some (.inl 1), none] [] hi Q)))))))) : pm_C pm_g (SH L) HR (d + 2) m_E_ears [.inr 16, .inl p1, .inl p2, .inl p3] hi Q := by
  refine pm_C_of (maxL := 8) (t := pm_t96) rfl (Nat.le_of_ble_eq_true rfl) ?_
  refine pm_W_of 21 [40] rfl ?_
  refine And.intro sh_l16 ?_
  rw [hr_16_1]
  refine And.intro sh_l50 ?_
  refine v_Folk_hasSpeaker (d := d) (fo_lit 50 (by decide)) ?_
  refine And.intro (fun c1 => ?_) (fun c1 => ?_)
  · replace h := h.1 c1
    refine ⟨_, rfl, ?_⟩
    refine And.intro (fun _ => ?_) (fun hc => absurd (pm_cd_t (by decide)) hc)
    refine And.intro trivial ?_
    exact h
  · replace h := h.2 c1
    refine And.intro (fun c2 => ?_) (fun c2 => ?_)
    · replace h := h.1 c2
      refine ⟨_, rfl, ?_⟩
      refine And.intro (fun _ => ?_) (fun hc => absurd (pm_cd_t (by decide)) hc)
      refine And.intro trivial ?_
      exact h
    · replace h := h.2 c2
      refine And.intro (fun c3 => ?_) (fun c3 => ?_)
      · replace h := h.1 c3
        refine ⟨_, rfl, ?_⟩
        refine And.intro (fun _ => ?_) (fun hc => absurd (pm_cd_t (by decide)) hc)
        refine And.intro trivial ?_
        exact h
      · replace h := h.2 c3
        refine ⟨_, rfl, ?_⟩
        refine And.intro (fun hc => absurd hc (pm_cd_f (by decide))) (fun _ => ?_)
        refine And.intro trivial ?_
        refine v_E_isDays (d := d)  ?_
        refine And.intro (fun c4 => ?_) (fun c4 => ?_)
        · replace h := h.1 c4
          refine ⟨_, rfl, ?_⟩
          refine And.intro (fun _ => ?_) (fun hc => absurd (pm_cd_t (by decide)) hc)
          refine And.intro trivial ?_
          exact h
        · replace h := h.2 c4
          refine And.intro (fun c5 => ?_) (fun c5 => ?_)
          · replace h := h.1 c5
            refine ⟨_, rfl, ?_⟩
            refine And.intro (fun _ => ?_) (fun hc => absurd (pm_cd_t (by decide)) hc)
            refine And.intro trivial ?_
            exact h
          · replace h := h.2 c5
            refine ⟨_, rfl, ?_⟩
            refine And.intro (fun hc => absurd hc (pm_cd_f (by decide))) (fun _ => ?_)
            refine And.intro trivial ?_
            refine v_E_isZeroOrOne (d := d)  ?_
            refine And.intro (fun c6 => ?_) (fun c6 => ?_)
            · replace h := h.1 c6
              refine ⟨_, rfl, ?_⟩
              refine And.intro (fun _ => ?_) (fun hc => absurd (pm_cd_t (by decide)) hc)
              exact h
            · replace h := h.2 c6
              refine And.intro (fun c7 => ?_) (fun c7 => ?_)
              · replace h := h.1 c7
                refine ⟨_, rfl, ?_⟩
                refine And.intro (fun hc => absurd hc (pm_cd_f (by decide))) (fun _ => ?_)
                refine And.intro trivial ?_
                exact h
              · replace h := h.2 c7
                refine ⟨_, rfl, ?_⟩
                refine And.intro (fun _ => ?_) (fun hc => absurd (pm_cd_t (by decide)) hc)
                exact h
theorem v_E_ears_40 {L d : Nat} {o7 : Option pm_V} {p1 : Int32} {p2 : Int32} {p3 : Int32} {y4 : Int32} {y5 : Int32} {y6 : Int32} {hi : pm_B} {Q : pm_Q} (h : ((9 < y6) → ((¬ p3 = 0) → Q (some (.inl y5)) hi) ∧ ((¬ (¬ p3 = 0)) → Q (some (.inl y4)) hi)) ∧ ((¬ (9 < y6)) → pm_C pm_g (SH L) HR (d + 1) m_E_unlikeWithEar [.inr 16, .inl p1, .inl y6, .inl p2] hi (fun v hi3 => ∃ x4 : Int32, v = some (.inl x4) ∧ (((x4 ≤ y5) → pm_W pm_g (SH L) HR (d + 1) pm_t96 40 [some (.inr 16), some (.inl p1), some (.inl p2), some (.inl p3), some (.inl y4), some (.inl y5), some (.inl (y6 + 1)), some (.inl x4)] [] hi3 Q) ∧ ((¬ (x4 ≤ y5)) → pm_W pm_g (SH L) HR (d + 1) pm_t96 40 [some (.inr 16), some (.inl p1), some (.inl p2), some (.inl p3), some (.inl y6), some (.inl x4), some (.inl (y6 + 1)), some (.inl x4)] [] hi3 Q))))) : pm_W pm_g (SH L) HR (d + 1) pm_t96 40 [some (.inr 16), some (.inl p1), some (.inl p2), some (.inl p3), some (.inl y4), some (.inl y5), some (.inl y6), o7] [] hi Q := by
  refine pm_W_of 20 [40] rfl ?_
  refine And.intro (fun c1 => ?_) (fun c1 => ?_)
  · replace h := h.1 c1
    refine And.intro (fun c2 => ?_) (fun c2 => ?_)
    · replace h := h.1 c2
      refine And.intro trivial ?_
      exact h
    · replace h := h.2 c2
      refine And.intro trivial ?_
      exact h
  · replace h := h.2 c1
    refine And.intro sh_l16 ?_
    refine pm_C_imp h (fun v hi3 h => ?_)
    obtain ⟨x4, rfl, h⟩ := h
    refine ⟨_, rfl, ?_⟩
    refine And.intro (fun c5 => ?_) (fun c5 => ?_)
    · replace h := h.1 c5
      exact h
    · replace h := h.2 c5
      exact h
theorem v_E_fee {L d : Nat}  {hi : pm_B} {Q : pm_Q} (h : ((¬ (hi 68 1) = (-1000000005)) → pm_C pm_g (SH L) HR (d + 1) m_Laws_valueOf [.inr 17, .inl (hi 68 1), .inl (hi 50 4), .inl (hi 50 5), .inl 0] hi (fun v hi2 => ∃ x3 : Int32, v = some (.inl x3) ∧ (Q (some (.inl x3)) hi2))) ∧ ((¬ (¬ (hi 68 1) = (-1000000005))) → Q (some (.inl (hi 50 4))) hi)) : pm_C pm_g (SH L) HR (d + 2) m_E_fee [.inr 16] hi Q := by
  refine pm_C_of (maxL := 2) (t := pm_t97) rfl (Nat.le_of_ble_eq_true rfl) ?_
  refine pm_W_of 22 [] rfl ?_
  refine And.intro sh_l16 ?_
  rw [hr_16_1]
  refine And.intro sh_l50 ?_
  refine v_Folk_lawOf (d := d) (fo_lit 50 (by decide)) ?_
  refine And.intro (fun hc => absurd hc (by decide)) (fun _ => ?_)
  refine And.intro (fun hc => absurd hc (by decide)) (fun _ => ?_)
  refine ⟨1, by decide, rfl, ?_⟩
  refine ⟨_, rfl, ?_⟩
  refine And.intro (fun c1 => ?_) (fun c1 => ?_)
  · replace h := h.1 c1
    refine And.intro sh_l16 ?_
    rw [hr_16_0]
    refine And.intro sh_l16 ?_
    rw [hr_16_1]
    refine And.intro sh_l50 ?_
    refine And.intro sh_l16 ?_
    rw [hr_16_1]
    refine And.intro sh_l50 ?_
    refine And.intro sh_l17 ?_
    refine pm_C_imp h (fun v hi2 h => ?_)
    obtain ⟨x3, rfl, h⟩ := h
    refine ⟨_, rfl, ?_⟩
    refine And.intro trivial ?_
    exact h
  · replace h := h.2 c1
    refine And.intro sh_l16 ?_
    rw [hr_16_1]
    refine And.intro sh_l50 ?_
    refine And.intro trivial ?_
    exact h
theorem v_E_fine {L d : Nat} {p1 : Int32} {hi : pm_B} {Q : pm_Q} (h : ((p1 < 0) → Q (some (.inl (-1000000001))) hi) ∧ ((¬ (p1 < 0)) → (((hi 50 2) ≤ p1) → Q (some (.inl (-1000000001))) hi) ∧ ((¬ ((hi 50 2) ≤ p1)) → ((8 ≤ p1) → Q (some (.inl (-1000000001))) hi) ∧ ((¬ (8 ≤ p1)) → ∃ k4 : Nat, k4 < 8 ∧ p1 = nI k4 ∧ (((¬ (hi 68 2) = (-1000000005)) → pm_C pm_g (SH L) HR (d + 1) m_Laws_valueOf [.inr 17, .inl (hi 68 2), .inl (hi (50 + 2 + 2 * k4) 3), .inl (hi (50 + 2 + 2 * k4) 2), .inl 0] hi (fun v hi6 => ∃ x7 : Int32, v = some (.inl x7) ∧ (Q (some (.inl x7)) hi6))) ∧ ((¬ (¬ (hi 68 2) = (-1000000005))) → Q (some (.inl (hi (50 + 2 + 2 * k4) 3))) hi)))))) : pm_C pm_g (SH L) HR (d + 2) m_E_fine [.inr 16, .inl p1] hi Q := by
  refine pm_C_of (maxL := 4) (t := pm_t98) rfl (Nat.le_of_ble_eq_true rfl) ?_
  refine pm_W_of 31 [] rfl ?_
  refine And.intro sh_l16 ?_
  rw [hr_16_1]
  refine And.intro sh_l50 ?_
  refine v_Folk_hasSpeaker (d := d) (fo_lit 50 (by decide)) ?_
  refine And.intro (fun c1 => ?_) (fun c1 => ?_)
  · replace h := h.1 c1
    refine ⟨_, rfl, ?_⟩
    refine And.intro (fun hc => absurd hc (pm_cd_f (by decide))) (fun _ => ?_)
    refine And.intro trivial ?_
    exact h
  · replace h := h.2 c1
    refine And.intro (fun c2 => ?_) (fun c2 => ?_)
    · replace h := h.1 c2
      refine ⟨_, rfl, ?_⟩
      refine And.intro (fun hc => absurd hc (pm_cd_f (by decide))) (fun _ => ?_)
      refine And.intro trivial ?_
      exact h
    · replace h := h.2 c2
      refine And.intro (fun c3 => ?_) (fun c3 => ?_)
      · replace h := h.1 c3
        refine ⟨_, rfl, ?_⟩
        refine And.intro (fun hc => absurd hc (pm_cd_f (by decide))) (fun _ => ?_)
        refine And.intro trivial ?_
        exact h
      · replace h := h.2 c3
        refine ⟨_, rfl, ?_⟩
        refine And.intro (fun _ => ?_) (fun hc => absurd (pm_cd_t (by decide)) hc)
        refine And.intro sh_l16 ?_
        rw [hr_16_1]
        refine And.intro sh_l50 ?_
        rw [hr_50_1]
        obtain ⟨k4, hkk4, hek4, h⟩ := h
        refine And.intro (pm_ao_of (t := 0) sh_l51 hkk4 hek4 (by decide)) ?_
        rw [pm_tn hek4 hkk4 (by decide)]
        rw [(hr_sp (fo_lit 50 (by decide)) hkk4)]
        refine And.intro sh_l16 ?_
        rw [hr_16_1]
        refine And.intro sh_l50 ?_
        refine v_Folk_lawOf (d := d) (fo_lit 50 (by decide)) ?_
        refine And.intro (fun hc => absurd hc (by decide)) (fun _ => ?_)
        refine And.intro (fun hc => absurd hc (by decide)) (fun _ => ?_)
        refine ⟨2, by decide, rfl, ?_⟩
        refine ⟨_, rfl, ?_⟩
        refine And.intro (fun c5 => ?_) (fun c5 => ?_)
        · replace h := h.1 c5
          refine And.intro sh_l16 ?_
          rw [hr_16_0]
          refine And.intro (sh_sk (sk_of (fo_lit 50 (by decide)) hkk4)) ?_
          refine And.intro (sh_sk (sk_of (fo_lit 50 (by decide)) hkk4)) ?_
          refine And.intro sh_l17 ?_
          refine pm_C_imp h (fun v hi6 h => ?_)
          obtain ⟨x7, rfl, h⟩ := h
          refine ⟨_, rfl, ?_⟩
          refine And.intro trivial ?_
          exact h
        · replace h := h.2 c5
          refine And.intro (sh_sk (sk_of (fo_lit 50 (by decide)) hkk4)) ?_
          refine And.intro trivial ?_
          exact h
theorem v_E_feed {L d : Nat} {p1 : Int32} {p2 : Int32} {p3 : Int32} {hi : pm_B} {Q : pm_Q} (h : ((((hi 107 1) + 12) ≤ 96) → pm_C pm_g (SH L) HR (d) m_Tape_putNumber [.inr 107, .inl p1] hi (fun v hi2 => v = none ∧ (pm_C pm_g (SH L) HR (d) m_Tape_putNumber [.inr 107, .inl p2] hi2 (fun v hi3 => v = none ∧ (pm_C pm_g (SH L) HR (d) m_Tape_putNumber [.inr 107, .inl p3] hi3 (fun v hi4 => v = none ∧ (Q (some (.inl (hi4 107 1))) hi4))))))) ∧ ((¬ (((hi 107 1) + 12) ≤ 96)) → Q (some (.inl (-1000000003))) hi)) : pm_C pm_g (SH L) HR (d + 1) m_E_feed [.inr 16, .inl p1, .inl p2, .inl p3] hi Q := by
  refine pm_C_of (maxL := 4) (t := pm_t99) rfl (Nat.le_of_ble_eq_true rfl) ?_
  refine pm_W_of 25 [] rfl ?_
  refine And.intro sh_l16 ?_
  rw [hr_16_5]
  refine And.intro sh_l107 ?_
  refine And.intro (fun c1 => ?_) (fun c1 => ?_)
  · replace h := h.1 c1
    refine And.intro sh_l16 ?_
    rw [hr_16_5]
    refine And.intro sh_l107 ?_
    refine pm_C_imp h (fun v hi2 h => ?_)
    obtain ⟨rfl, h⟩ := h
    refine ⟨rfl, ?_⟩
    refine And.intro sh_l16 ?_
    rw [hr_16_5]
    refine And.intro sh_l107 ?_
    refine pm_C_imp h (fun v hi3 h => ?_)
    obtain ⟨rfl, h⟩ := h
    refine ⟨rfl, ?_⟩
    refine And.intro sh_l16 ?_
    rw [hr_16_5]
    refine And.intro sh_l107 ?_
    refine pm_C_imp h (fun v hi4 h => ?_)
    obtain ⟨rfl, h⟩ := h
    refine ⟨rfl, ?_⟩
    refine And.intro sh_l16 ?_
    rw [hr_16_5]
    refine And.intro sh_l107 ?_
    refine And.intro trivial ?_
    exact h
  · replace h := h.2 c1
    refine And.intro trivial ?_
    exact h
theorem v_E_trim {L d : Nat} {p1 : Int32} {hi : pm_B} {Q : pm_Q} (h : ((p1 < 0) → Q (some (.inl (-1000000001))) hi) ∧ ((¬ (p1 < 0)) → ((p1 ≤ (hi 107 1)) → Q (some (.inl p1)) (pm_u hi 107 1 p1)) ∧ ((¬ (p1 ≤ (hi 107 1))) → Q (some (.inl (-1000000001))) hi))) : pm_C pm_g (SH L) HR (d + 1) m_E_trim [.inr 16, .inl p1] hi Q := by
  refine pm_C_of (maxL := 2) (t := pm_t100) rfl (Nat.le_of_ble_eq_true rfl) ?_
  refine pm_W_of 15 [] rfl ?_
  refine And.intro (fun c1 => ?_) (fun c1 => ?_)
  · replace h := h.1 c1
    refine And.intro trivial ?_
    exact h
  · replace h := h.2 c1
    refine And.intro sh_l16 ?_
    rw [hr_16_5]
    refine And.intro sh_l107 ?_
    refine And.intro (fun c2 => ?_) (fun c2 => ?_)
    · replace h := h.1 c2
      refine And.intro sh_l16 ?_
      rw [hr_16_5]
      refine And.intro ⟨sh_l107, trivial⟩ ?_
      refine And.intro trivial ?_
      exact h
    · replace h := h.2 c2
      refine And.intro trivial ?_
      exact h
theorem v_E_text {L d : Nat}  {hi : pm_B} {Q : pm_Q} (h : (((hi 50 8) < 0) → pm_C pm_g (SH L) HR (d + 1) m_Parser_parse [.inr 109, .inr (19 + 2 * 14)] hi (fun v hi2 => ∃ x3 : Int32, v = some (.inl x3) ∧ (((x3 = (-1000000005)) → (((hi 50 8) < 14) → ((((pm_u hi2 107 1 0) (19 + 2 * 14) 0) < 0) → Q (some (.inl (hi 50 8))) (pm_u hi2 107 1 0)) ∧ ((¬ (((pm_u hi2 107 1 0) (19 + 2 * 14) 0) < 0)) → ((((pm_u hi2 107 1 0) (19 + 2 * 14) 0) < 3) → ∃ k8 : Nat, k8 < 3 ∧ ((pm_u hi2 107 1 0) (19 + 2 * 14) 0) = nI k8 ∧ (∀ hi9 : pm_B, hi9 = pm_u (pm_u (pm_u hi2 107 1 0) 68 k8 ((pm_u hi2 107 1 0) 50 8)) 50 8 (((pm_u (pm_u hi2 107 1 0) 68 k8 ((pm_u hi2 107 1 0) 50 8)) 50 8) + 1) → (Q (some (.inl (hi 50 8))) hi9))) ∧ ((¬ (((pm_u hi2 107 1 0) (19 + 2 * 14) 0) < 3)) → Q (some (.inl (hi 50 8))) (pm_u hi2 107 1 0)))) ∧ ((¬ ((hi 50 8) < 14)) → Q (some (.inl (-1000000003))) (pm_u hi2 107 1 0))) ∧ ((¬ (x3 = (-1000000005))) → Q (some (.inl ((-100) - x3))) (pm_u hi2 107 1 0))))) ∧ ((¬ ((hi 50 8) < 0)) → ((14 ≤ (hi 50 8)) → pm_C pm_g (SH L) HR (d + 1) m_Parser_parse [.inr 109, .inr (19 + 2 * 14)] hi (fun v hi11 => ∃ x12 : Int32, v = some (.inl x12) ∧ (((x12 = (-1000000005)) → (((hi 50 8) < 14) → ((((pm_u hi11 107 1 0) (19 + 2 * 14) 0) < 0) → Q (some (.inl (hi 50 8))) (pm_u hi11 107 1 0)) ∧ ((¬ (((pm_u hi11 107 1 0) (19 + 2 * 14) 0) < 0)) → ((((pm_u hi11 107 1 0) (19 + 2 * 14) 0) < 3) → ∃ k17 : Nat, k17 < 3 ∧ ((pm_u hi11 107 1 0) (19 + 2 * 14) 0) = nI k17 ∧ (∀ hi18 : pm_B, hi18 = pm_u (pm_u (pm_u hi11 107 1 0) 68 k17 ((pm_u hi11 107 1 0) 50 8)) 50 8 (((pm_u (pm_u hi11 107 1 0) 68 k17 ((pm_u hi11 107 1 0) 50 8)) 50 8) + 1) → (Q (some (.inl (hi 50 8))) hi18))) ∧ ((¬ (((pm_u hi11 107 1 0) (19 + 2 * 14) 0) < 3)) → Q (some (.inl (hi 50 8))) (pm_u hi11 107 1 0)))) ∧ ((¬ ((hi 50 8) < 14)) → Q (some (.inl (-1000000003))) (pm_u hi11 107 1 0))) ∧ ((¬ (x12 = (-1000000005))) → Q (some (.inl ((-100) - x12))) (pm_u hi11 107 1 0))))) ∧ ((¬ (14 ≤ (hi 50 8))) → ∃ k19 : Nat, k19 < 15 ∧ (hi 50 8) = nI k19 ∧ (pm_C pm_g (SH L) HR (d + 1) m_Parser_parse [.inr 109, .inr (19 + 2 * k19)] hi (fun v hi20 => ∃ x21 : Int32, v = some (.inl x21) ∧ (((x21 = (-1000000005)) → (((hi 50 8) < 14) → ((((pm_u hi20 107 1 0) (19 + 2 * k19) 0) < 0) → Q (some (.inl (hi 50 8))) (pm_u hi20 107 1 0)) ∧ ((¬ (((pm_u hi20 107 1 0) (19 + 2 * k19) 0) < 0)) → ((((pm_u hi20 107 1 0) (19 + 2 * k19) 0) < 3) → ∃ k26 : Nat, k26 < 3 ∧ ((pm_u hi20 107 1 0) (19 + 2 * k19) 0) = nI k26 ∧ (∀ hi27 : pm_B, hi27 = pm_u (pm_u (pm_u hi20 107 1 0) 68 k26 ((pm_u hi20 107 1 0) 50 8)) 50 8 (((pm_u (pm_u hi20 107 1 0) 68 k26 ((pm_u hi20 107 1 0) 50 8)) 50 8) + 1) → (Q (some (.inl (hi 50 8))) hi27))) ∧ ((¬ (((pm_u hi20 107 1 0) (19 + 2 * k19) 0) < 3)) → Q (some (.inl (hi 50 8))) (pm_u hi20 107 1 0)))) ∧ ((¬ ((hi 50 8) < 14)) → Q (some (.inl (-1000000003))) (pm_u hi20 107 1 0))) ∧ ((¬ (x21 = (-1000000005))) → Q (some (.inl ((-100) - x21))) (pm_u hi20 107 1 0)))))))) : pm_C pm_g (SH L) HR (d + 2) m_E_text [.inr 16] hi Q := by
  refine pm_C_of (maxL := 4) (t := pm_t101) rfl (Nat.le_of_ble_eq_true rfl) ?_
  refine pm_W_of 40 [] rfl ?_
  refine And.intro sh_l16 ?_
  rw [hr_16_1]
  refine And.intro sh_l50 ?_
  refine And.intro sh_l16 ?_
  rw [hr_16_0]
  refine And.intro sh_l17 ?_
  rw [hr_17_0]
  refine And.intro (fun c1 => ?_) (fun c1 => ?_)
  · replace h := h.1 c1
    refine And.intro (pm_ao_of (t := 0) sh_l18 (by decide : 14 < 15) (rfl : (14 : Int32) = nI 14) (by decide)) ?_
    rw [pm_tn (rfl : (14 : Int32) = nI 14) (by decide : 14 < 15) (by decide)]
    rw [(hr_te (by decide : 14 < 15))]
    refine And.intro sh_l16 ?_
    rw [hr_16_6]
    refine And.intro sh_l109 ?_
    refine pm_C_imp h (fun v hi2 h => ?_)
    obtain ⟨x3, rfl, h⟩ := h
    refine ⟨_, rfl, ?_⟩
    refine And.intro sh_l16 ?_
    rw [hr_16_5]
    refine And.intro ⟨sh_l107, trivial⟩ ?_
    refine And.intro (fun c4 => ?_) (fun c4 => ?_)
    · replace h := h.1 c4
      refine And.intro (fun c5 => ?_) (fun c5 => ?_)
      · replace h := h.1 c5
        refine And.intro sh_l16 ?_
        rw [hr_16_1]
        refine And.intro (sh_tx (tx_of (by decide : 14 < 15))) ?_
        refine And.intro sh_l50 ?_
        refine v_Folk_takeLaw (d := d) (fo_lit 50 (by decide)) ?_
        refine And.intro (fun c6 => ?_) (fun c6 => ?_)
        · replace h := h.1 c6
          refine ⟨rfl, ?_⟩
          refine And.intro trivial ?_
          exact h
        · replace h := h.2 c6
          refine And.intro (fun c7 => ?_) (fun c7 => ?_)
          · replace h := h.1 c7
            obtain ⟨k8, hkk8, hek8, h⟩ := h
            refine ⟨k8, hkk8, hek8, ?_⟩
            intro hi9 ehi9
            replace h := h hi9 ehi9
            refine ⟨rfl, ?_⟩
            refine And.intro trivial ?_
            exact h
          · replace h := h.2 c7
            refine ⟨rfl, ?_⟩
            refine And.intro trivial ?_
            exact h
      · replace h := h.2 c5
        refine And.intro trivial ?_
        exact h
    · replace h := h.2 c4
      refine And.intro trivial ?_
      exact h
  · replace h := h.2 c1
    refine And.intro (fun c10 => ?_) (fun c10 => ?_)
    · replace h := h.1 c10
      refine And.intro (pm_ao_of (t := 0) sh_l18 (by decide : 14 < 15) (rfl : (14 : Int32) = nI 14) (by decide)) ?_
      rw [pm_tn (rfl : (14 : Int32) = nI 14) (by decide : 14 < 15) (by decide)]
      rw [(hr_te (by decide : 14 < 15))]
      refine And.intro sh_l16 ?_
      rw [hr_16_6]
      refine And.intro sh_l109 ?_
      refine pm_C_imp h (fun v hi11 h => ?_)
      obtain ⟨x12, rfl, h⟩ := h
      refine ⟨_, rfl, ?_⟩
      refine And.intro sh_l16 ?_
      rw [hr_16_5]
      refine And.intro ⟨sh_l107, trivial⟩ ?_
      refine And.intro (fun c13 => ?_) (fun c13 => ?_)
      · replace h := h.1 c13
        refine And.intro (fun c14 => ?_) (fun c14 => ?_)
        · replace h := h.1 c14
          refine And.intro sh_l16 ?_
          rw [hr_16_1]
          refine And.intro (sh_tx (tx_of (by decide : 14 < 15))) ?_
          refine And.intro sh_l50 ?_
          refine v_Folk_takeLaw (d := d) (fo_lit 50 (by decide)) ?_
          refine And.intro (fun c15 => ?_) (fun c15 => ?_)
          · replace h := h.1 c15
            refine ⟨rfl, ?_⟩
            refine And.intro trivial ?_
            exact h
          · replace h := h.2 c15
            refine And.intro (fun c16 => ?_) (fun c16 => ?_)
            · replace h := h.1 c16
              obtain ⟨k17, hkk17, hek17, h⟩ := h
              refine ⟨k17, hkk17, hek17, ?_⟩
              intro hi18 ehi18
              replace h := h hi18 ehi18
              refine ⟨rfl, ?_⟩
              refine And.intro trivial ?_
              exact h
            · replace h := h.2 c16
              refine ⟨rfl, ?_⟩
              refine And.intro trivial ?_
              exact h
        · replace h := h.2 c14
          refine And.intro trivial ?_
          exact h
      · replace h := h.2 c13
        refine And.intro trivial ?_
        exact h
    · replace h := h.2 c10
      obtain ⟨k19, hkk19, hek19, h⟩ := h
      refine And.intro (pm_ao_of (t := 0) sh_l18 hkk19 hek19 (by decide)) ?_
      rw [pm_tn hek19 hkk19 (by decide)]
      rw [(hr_te hkk19)]
      refine And.intro sh_l16 ?_
      rw [hr_16_6]
      refine And.intro sh_l109 ?_
      refine pm_C_imp h (fun v hi20 h => ?_)
      obtain ⟨x21, rfl, h⟩ := h
      refine ⟨_, rfl, ?_⟩
      refine And.intro sh_l16 ?_
      rw [hr_16_5]
      refine And.intro ⟨sh_l107, trivial⟩ ?_
      refine And.intro (fun c22 => ?_) (fun c22 => ?_)
      · replace h := h.1 c22
        refine And.intro (fun c23 => ?_) (fun c23 => ?_)
        · replace h := h.1 c23
          refine And.intro sh_l16 ?_
          rw [hr_16_1]
          refine And.intro (sh_tx (tx_of hkk19)) ?_
          refine And.intro sh_l50 ?_
          refine v_Folk_takeLaw (d := d) (fo_lit 50 (by decide)) ?_
          refine And.intro (fun c24 => ?_) (fun c24 => ?_)
          · replace h := h.1 c24
            refine ⟨rfl, ?_⟩
            refine And.intro trivial ?_
            exact h
          · replace h := h.2 c24
            refine And.intro (fun c25 => ?_) (fun c25 => ?_)
            · replace h := h.1 c25
              obtain ⟨k26, hkk26, hek26, h⟩ := h
              refine ⟨k26, hkk26, hek26, ?_⟩
              intro hi27 ehi27
              replace h := h hi27 ehi27
              refine ⟨rfl, ?_⟩
              refine And.intro trivial ?_
              exact h
            · replace h := h.2 c25
              refine ⟨rfl, ?_⟩
              refine And.intro trivial ?_
              exact h
        · replace h := h.2 c23
          refine And.intro trivial ?_
          exact h
      · replace h := h.2 c22
        refine And.intro trivial ?_
        exact h
theorem v_E_textTold {L d : Nat} {p1 : Int32} {p2 : Int32} {hi : pm_B} {Q : pm_Q} (h : ((p1 < 0) → Q (some (.inl (-1000000001))) hi) ∧ ((¬ (p1 < 0)) → (((hi 50 8) ≤ p1) → Q (some (.inl (-1000000001))) hi) ∧ ((¬ ((hi 50 8) ≤ p1)) → ((15 ≤ p1) → Q (some (.inl (-1000000001))) hi) ∧ ((¬ (15 ≤ p1)) → ((p2 = 0) → ((¬ p2 = 0) → ∃ k6 : Nat, k6 < 15 ∧ p1 = nI k6 ∧ (Q (some (.inl (hi (19 + 2 * k6) 1))) hi)) ∧ ((¬ (¬ p2 = 0)) → ∃ k7 : Nat, k7 < 15 ∧ p1 = nI k7 ∧ (Q (some (.inl (hi (19 + 2 * k7) 0))) hi))) ∧ ((¬ (p2 = 0)) → ((¬ p2 = 1) → Q (some (.inl (-1000000001))) hi) ∧ ((¬ (¬ p2 = 1)) → ((¬ p2 = 0) → ∃ k10 : Nat, k10 < 15 ∧ p1 = nI k10 ∧ (Q (some (.inl (hi (19 + 2 * k10) 1))) hi)) ∧ ((¬ (¬ p2 = 0)) → ∃ k11 : Nat, k11 < 15 ∧ p1 = nI k11 ∧ (Q (some (.inl (hi (19 + 2 * k11) 0))) hi)))))))) : pm_C pm_g (SH L) HR (d + 2) m_E_textTold [.inr 16, .inl p1, .inl p2] hi Q := by
  refine pm_C_of (maxL := 3) (t := pm_t102) rfl (Nat.le_of_ble_eq_true rfl) ?_
  refine pm_W_of 28 [] rfl ?_
  refine And.intro (fun c1 => ?_) (fun c1 => ?_)
  · replace h := h.1 c1
    refine And.intro trivial ?_
    exact h
  · replace h := h.2 c1
    refine And.intro sh_l16 ?_
    rw [hr_16_1]
    refine And.intro sh_l50 ?_
    refine And.intro (fun c2 => ?_) (fun c2 => ?_)
    · replace h := h.1 c2
      refine And.intro trivial ?_
      exact h
    · replace h := h.2 c2
      refine And.intro sh_l16 ?_
      rw [hr_16_0]
      refine And.intro sh_l17 ?_
      rw [hr_17_0]
      refine ⟨15, ⟨0, _, sh_l18⟩, ?_⟩
      rw [show nI 15 = (15 : Int32) from rfl]
      refine And.intro (fun c3 => ?_) (fun c3 => ?_)
      · replace h := h.1 c3
        refine And.intro trivial ?_
        exact h
      · replace h := h.2 c3
        refine And.intro trivial ?_
        refine v_E_isZeroOrOne (d := d)  ?_
        refine And.intro (fun c4 => ?_) (fun c4 => ?_)
        · replace h := h.1 c4
          refine ⟨_, rfl, ?_⟩
          refine And.intro (fun _ => ?_) (fun hc => absurd (pm_cd_t (by decide)) hc)
          refine And.intro (fun c5 => ?_) (fun c5 => ?_)
          · replace h := h.1 c5
            refine And.intro sh_l16 ?_
            rw [hr_16_0]
            refine And.intro sh_l17 ?_
            rw [hr_17_0]
            obtain ⟨k6, hkk6, hek6, h⟩ := h
            refine And.intro (pm_ao_of (t := 0) sh_l18 hkk6 hek6 (by decide)) ?_
            rw [pm_tn hek6 hkk6 (by decide)]
            rw [(hr_te hkk6)]
            refine And.intro (sh_tx (tx_of hkk6)) ?_
            refine And.intro trivial ?_
            exact h
          · replace h := h.2 c5
            refine And.intro sh_l16 ?_
            rw [hr_16_0]
            refine And.intro sh_l17 ?_
            rw [hr_17_0]
            obtain ⟨k7, hkk7, hek7, h⟩ := h
            refine And.intro (pm_ao_of (t := 0) sh_l18 hkk7 hek7 (by decide)) ?_
            rw [pm_tn hek7 hkk7 (by decide)]
            rw [(hr_te hkk7)]
            refine And.intro (sh_tx (tx_of hkk7)) ?_
            refine And.intro trivial ?_
            exact h
        · replace h := h.2 c4
          refine And.intro (fun c8 => ?_) (fun c8 => ?_)
          · replace h := h.1 c8
            refine ⟨_, rfl, ?_⟩
            refine And.intro (fun hc => absurd hc (pm_cd_f (by decide))) (fun _ => ?_)
            refine And.intro trivial ?_
            exact h
          · replace h := h.2 c8
            refine ⟨_, rfl, ?_⟩
            refine And.intro (fun _ => ?_) (fun hc => absurd (pm_cd_t (by decide)) hc)
            refine And.intro (fun c9 => ?_) (fun c9 => ?_)
            · replace h := h.1 c9
              refine And.intro sh_l16 ?_
              rw [hr_16_0]
              refine And.intro sh_l17 ?_
              rw [hr_17_0]
              obtain ⟨k10, hkk10, hek10, h⟩ := h
              refine And.intro (pm_ao_of (t := 0) sh_l18 hkk10 hek10 (by decide)) ?_
              rw [pm_tn hek10 hkk10 (by decide)]
              rw [(hr_te hkk10)]
              refine And.intro (sh_tx (tx_of hkk10)) ?_
              refine And.intro trivial ?_
              exact h
            · replace h := h.2 c9
              refine And.intro sh_l16 ?_
              rw [hr_16_0]
              refine And.intro sh_l17 ?_
              rw [hr_17_0]
              obtain ⟨k11, hkk11, hek11, h⟩ := h
              refine And.intro (pm_ao_of (t := 0) sh_l18 hkk11 hek11 (by decide)) ?_
              rw [pm_tn hek11 hkk11 (by decide)]
              rw [(hr_te hkk11)]
              refine And.intro (sh_tx (tx_of hkk11)) ?_
              refine And.intro trivial ?_
              exact h
theorem v_E_why {L d : Nat} {p1 : Int32} {hi : pm_B} {Q : pm_Q} (h : ((p1 < 0) → Q (some (.inl (-1000000001))) hi) ∧ ((¬ (p1 < 0)) → ((p1 < 3) → ((p1 < 0) → Q (some (.inl (-1000000005))) hi) ∧ ((¬ (p1 < 0)) → ((3 ≤ p1) → Q (some (.inl (-1000000005))) hi) ∧ ((¬ (3 ≤ p1)) → ∃ k5 : Nat, k5 < 3 ∧ p1 = nI k5 ∧ (Q (some (.inl (hi 68 k5))) hi)))) ∧ ((¬ (p1 < 3)) → Q (some (.inl (-1000000001))) hi))) : pm_C pm_g (SH L) HR (d + 2) m_E_why [.inr 16, .inl p1] hi Q := by
  refine pm_C_of (maxL := 2) (t := pm_t103) rfl (Nat.le_of_ble_eq_true rfl) ?_
  refine pm_W_of 15 [] rfl ?_
  refine And.intro (fun c1 => ?_) (fun c1 => ?_)
  · replace h := h.1 c1
    refine And.intro trivial ?_
    exact h
  · replace h := h.2 c1
    refine And.intro (fun c2 => ?_) (fun c2 => ?_)
    · replace h := h.1 c2
      refine And.intro sh_l16 ?_
      rw [hr_16_1]
      refine And.intro sh_l50 ?_
      refine v_Folk_lawOf (d := d) (fo_lit 50 (by decide)) ?_
      refine And.intro (fun c3 => ?_) (fun c3 => ?_)
      · replace h := h.1 c3
        refine ⟨_, rfl, ?_⟩
        refine And.intro trivial ?_
        exact h
      · replace h := h.2 c3
        refine And.intro (fun c4 => ?_) (fun c4 => ?_)
        · replace h := h.1 c4
          refine ⟨_, rfl, ?_⟩
          refine And.intro trivial ?_
          exact h
        · replace h := h.2 c4
          obtain ⟨k5, hkk5, hek5, h⟩ := h
          refine ⟨k5, hkk5, hek5, ?_⟩
          refine ⟨_, rfl, ?_⟩
          refine And.intro trivial ?_
          exact h
    · replace h := h.2 c2
      refine And.intro trivial ?_
      exact h
theorem v_E_sheet {L d : Nat} {p1 : Int32} {p2 : Int32} {p3 : Int32} {hi : pm_B} {Q : pm_Q} (h : ((p1 < 0) → Q (some (.inl (-1000000001))) hi) ∧ ((¬ (p1 < 0)) → ((4 ≤ p1) → Q (some (.inl (-1000000001))) hi) ∧ ((¬ (4 ≤ p1)) → ((p2 < (-1)) → Q (some (.inl (-1000000001))) hi) ∧ ((¬ (p2 < (-1))) → ((p2 ≤ 1) → ((¬ p2 = (-1)) → ((p3 ≤ 24) → ((0 ≤ p3) → ∃ k8 : Nat, k8 < 4 ∧ p1 = nI k8 ∧ (pm_C pm_g (SH L) HR (d + 1) m_Sheet_begin [.inr (113 + 2 * k8), .inl p2, .inl p3] hi (fun v hi9 => v = none ∧ (Q (some (.inl p3)) hi9)))) ∧ ((¬ (0 ≤ p3)) → Q (some (.inl (-1000000014))) hi)) ∧ ((¬ (p3 ≤ 24)) → Q (some (.inl (-1000000001))) hi)) ∧ ((¬ (¬ p2 = (-1))) → ∃ k10 : Nat, k10 < 4 ∧ p1 = nI k10 ∧ (pm_C pm_g (SH L) HR (d + 1) m_Sheet_begin [.inr (113 + 2 * k10), .inl (-1), .inl 0] hi (fun v hi11 => v = none ∧ (Q (some (.inl 0)) hi11))))) ∧ ((¬ (p2 ≤ 1)) → Q (some (.inl (-1000000001))) hi))))) : pm_C pm_g (SH L) HR (d + 2) m_E_sheet [.inr 16, .inl p1, .inl p2, .inl p3] hi Q := by
  refine pm_C_of (maxL := 4) (t := pm_t104) rfl (Nat.le_of_ble_eq_true rfl) ?_
  refine pm_W_of 28 [] rfl ?_
  refine And.intro trivial ?_
  refine v_E_isSheet (d := d)  ?_
  refine And.intro (fun c1 => ?_) (fun c1 => ?_)
  · replace h := h.1 c1
    refine ⟨_, rfl, ?_⟩
    refine And.intro (fun _ => ?_) (fun hc => absurd (pm_cd_t (by decide)) hc)
    refine And.intro trivial ?_
    exact h
  · replace h := h.2 c1
    refine And.intro (fun c2 => ?_) (fun c2 => ?_)
    · replace h := h.1 c2
      refine ⟨_, rfl, ?_⟩
      refine And.intro (fun _ => ?_) (fun hc => absurd (pm_cd_t (by decide)) hc)
      refine And.intro trivial ?_
      exact h
    · replace h := h.2 c2
      refine ⟨_, rfl, ?_⟩
      refine And.intro (fun hc => absurd hc (pm_cd_f (by decide))) (fun _ => ?_)
      refine And.intro (fun c3 => ?_) (fun c3 => ?_)
      · replace h := h.1 c3
        refine And.intro trivial ?_
        exact h
      · replace h := h.2 c3
        refine And.intro (fun c4 => ?_) (fun c4 => ?_)
        · replace h := h.1 c4
          refine And.intro (fun c5 => ?_) (fun c5 => ?_)
          · replace h := h.1 c5
            refine And.intro (fun c6 => ?_) (fun c6 => ?_)
            · replace h := h.1 c6
              refine And.intro (fun c7 => ?_) (fun c7 => ?_)
              · replace h := h.1 c7
                refine And.intro sh_l16 ?_
                rw [hr_16_7]
                obtain ⟨k8, hkk8, hek8, h⟩ := h
                refine And.intro (pm_ao_of (t := 0) sh_l112 hkk8 hek8 (by decide)) ?_
                rw [pm_tn hek8 hkk8 (by decide)]
                rw [(hr_sh hkk8)]
                refine And.intro (sh_st (st_of hkk8)) ?_
                refine pm_C_imp h (fun v hi9 h => ?_)
                obtain ⟨rfl, h⟩ := h
                refine ⟨rfl, ?_⟩
                refine And.intro trivial ?_
                exact h
              · replace h := h.2 c7
                refine And.intro trivial ?_
                exact h
            · replace h := h.2 c6
              refine And.intro trivial ?_
              exact h
          · replace h := h.2 c5
            refine And.intro sh_l16 ?_
            rw [hr_16_7]
            obtain ⟨k10, hkk10, hek10, h⟩ := h
            refine And.intro (pm_ao_of (t := 0) sh_l112 hkk10 hek10 (by decide)) ?_
            rw [pm_tn hek10 hkk10 (by decide)]
            rw [(hr_sh hkk10)]
            refine And.intro (sh_st (st_of hkk10)) ?_
            refine pm_C_imp h (fun v hi11 h => ?_)
            obtain ⟨rfl, h⟩ := h
            refine ⟨rfl, ?_⟩
            refine And.intro trivial ?_
            exact h
        · replace h := h.2 c4
          refine And.intro trivial ?_
          exact h
theorem v_E_mark {L d : Nat} {p1 : Int32} {p2 : Int32} {p3 : Int32} {hi : pm_B} {Q : pm_Q} (h : ((p1 < 0) → Q (some (.inl (-1000000001))) hi) ∧ ((¬ (p1 < 0)) → ((4 ≤ p1) → Q (some (.inl (-1000000001))) hi) ∧ ((¬ (4 ≤ p1)) → ∃ k3 : Nat, k3 < 4 ∧ p1 = nI k3 ∧ (((¬ (hi (113 + 2 * k3) 0) = (-1)) → ((p2 < 0) → Q (some (.inl (-1000000013))) hi) ∧ ((¬ (p2 < 0)) → (((hi (113 + 2 * k3) 1) ≤ p2) → Q (some (.inl (-1000000013))) hi) ∧ ((¬ ((hi (113 + 2 * k3) 1) ≤ p2)) → ((24 ≤ p2) → Q (some (.inl (-1000000013))) hi) ∧ ((¬ (24 ≤ p2)) → ((¬ (hi (113 + 2 * k3) 0) = 0) → ((p3 = (-1000000005)) → ∃ k10 : Nat, k10 < 24 ∧ p2 = nI k10 ∧ (Q (some (.inl 1)) (pm_u hi ((113 + 2 * k3) + 1) k10 p3))) ∧ ((¬ (p3 = (-1000000005))) → ((p3 < (-99999)) → Q (some (.inl (-1000000001))) hi) ∧ ((¬ (p3 < (-99999))) → ((p3 ≤ 99999) → ∃ k13 : Nat, k13 < 24 ∧ p2 = nI k13 ∧ (Q (some (.inl 1)) (pm_u hi ((113 + 2 * k3) + 1) k13 p3))) ∧ ((¬ (p3 ≤ 99999)) → Q (some (.inl (-1000000001))) hi)))) ∧ ((¬ (¬ (hi (113 + 2 * k3) 0) = 0)) → ((¬ p3 = (-1000000005)) → ∃ k15 : Nat, k15 < 24 ∧ p2 = nI k15 ∧ (Q (some (.inl 1)) (pm_u hi ((113 + 2 * k3) + 1) k15 ((Int32.toInt16 p3).toInt32)))) ∧ ((¬ (¬ p3 = (-1000000005))) → Q (some (.inl (-1000000012))) hi)))))) ∧ ((¬ (¬ (hi (113 + 2 * k3) 0) = (-1))) → Q (some (.inl (-1000000011))) hi))))) : pm_C pm_g (SH L) HR (d + 2) m_E_mark [.inr 16, .inl p1, .inl p2, .inl p3] hi Q := by
  refine pm_C_of (maxL := 5) (t := pm_t105) rfl (Nat.le_of_ble_eq_true rfl) ?_
  refine pm_W_of 37 [] rfl ?_
  refine And.intro trivial ?_
  refine v_E_isSheet (d := d)  ?_
  refine And.intro (fun c1 => ?_) (fun c1 => ?_)
  · replace h := h.1 c1
    refine ⟨_, rfl, ?_⟩
    refine And.intro (fun hc => absurd hc (pm_cd_f (by decide))) (fun _ => ?_)
    refine And.intro trivial ?_
    exact h
  · replace h := h.2 c1
    refine And.intro (fun c2 => ?_) (fun c2 => ?_)
    · replace h := h.1 c2
      refine ⟨_, rfl, ?_⟩
      refine And.intro (fun hc => absurd hc (pm_cd_f (by decide))) (fun _ => ?_)
      refine And.intro trivial ?_
      exact h
    · replace h := h.2 c2
      refine ⟨_, rfl, ?_⟩
      refine And.intro (fun _ => ?_) (fun hc => absurd (pm_cd_t (by decide)) hc)
      refine And.intro sh_l16 ?_
      rw [hr_16_7]
      obtain ⟨k3, hkk3, hek3, h⟩ := h
      refine And.intro (pm_ao_of (t := 0) sh_l112 hkk3 hek3 (by decide)) ?_
      rw [pm_tn hek3 hkk3 (by decide)]
      rw [(hr_sh hkk3)]
      refine And.intro (sh_st (st_of hkk3)) ?_
      refine And.intro (fun c4 => ?_) (fun c4 => ?_)
      · replace h := h.1 c4
        refine And.intro (sh_st (st_of hkk3)) ?_
        refine v_Sheet_hasPlace (d := d) (st_of hkk3) ?_
        refine And.intro (fun c5 => ?_) (fun c5 => ?_)
        · replace h := h.1 c5
          refine ⟨_, rfl, ?_⟩
          refine And.intro (fun hc => absurd hc (pm_cd_f (by decide))) (fun _ => ?_)
          refine And.intro trivial ?_
          exact h
        · replace h := h.2 c5
          refine And.intro (fun c6 => ?_) (fun c6 => ?_)
          · replace h := h.1 c6
            refine ⟨_, rfl, ?_⟩
            refine And.intro (fun hc => absurd hc (pm_cd_f (by decide))) (fun _ => ?_)
            refine And.intro trivial ?_
            exact h
          · replace h := h.2 c6
            refine And.intro (fun c7 => ?_) (fun c7 => ?_)
            · replace h := h.1 c7
              refine ⟨_, rfl, ?_⟩
              refine And.intro (fun hc => absurd hc (pm_cd_f (by decide))) (fun _ => ?_)
              refine And.intro trivial ?_
              exact h
            · replace h := h.2 c7
              refine ⟨_, rfl, ?_⟩
              refine And.intro (fun _ => ?_) (fun hc => absurd (pm_cd_t (by decide)) hc)
              refine And.intro (sh_st (st_of hkk3)) ?_
              refine And.intro (fun c8 => ?_) (fun c8 => ?_)
              · replace h := h.1 c8
                refine And.intro (fun c9 => ?_) (fun c9 => ?_)
                · replace h := h.1 c9
                  refine And.intro (sh_st (st_of hkk3)) ?_
                  rw [(hr_st (st_of hkk3))]
                  obtain ⟨k10, hkk10, hek10, h⟩ := h
                  refine And.intro ⟨pm_aw_of (sh_st1 (st_of hkk3)) hkk10 hek10 (by decide), trivial⟩ ?_
                  rw [pm_tn hek10 hkk10 (by decide)]
                  refine And.intro trivial ?_
                  exact h
                · replace h := h.2 c9
                  refine And.intro (fun c11 => ?_) (fun c11 => ?_)
                  · replace h := h.1 c11
                    refine And.intro trivial ?_
                    exact h
                  · replace h := h.2 c11
                    refine And.intro (fun c12 => ?_) (fun c12 => ?_)
                    · replace h := h.1 c12
                      refine And.intro (sh_st (st_of hkk3)) ?_
                      rw [(hr_st (st_of hkk3))]
                      obtain ⟨k13, hkk13, hek13, h⟩ := h
                      refine And.intro ⟨pm_aw_of (sh_st1 (st_of hkk3)) hkk13 hek13 (by decide), trivial⟩ ?_
                      rw [pm_tn hek13 hkk13 (by decide)]
                      refine And.intro trivial ?_
                      exact h
                    · replace h := h.2 c12
                      refine And.intro trivial ?_
                      exact h
              · replace h := h.2 c8
                refine And.intro (fun c14 => ?_) (fun c14 => ?_)
                · replace h := h.1 c14
                  refine And.intro (sh_st (st_of hkk3)) ?_
                  rw [(hr_st (st_of hkk3))]
                  obtain ⟨k15, hkk15, hek15, h⟩ := h
                  refine And.intro ⟨pm_aw_of (sh_st1 (st_of hkk3)) hkk15 hek15 (by decide), trivial⟩ ?_
                  rw [pm_tn hek15 hkk15 (by decide)]
                  refine And.intro trivial ?_
                  exact h
                · replace h := h.2 c14
                  refine And.intro trivial ?_
                  exact h
      · replace h := h.2 c4
        refine And.intro trivial ?_
        exact h
theorem v_E_pour {L d : Nat} {p1 : Int32} {hi : pm_B} {Q : pm_Q} (h : ((p1 < 0) → Q (some (.inl (-1000000001))) hi) ∧ ((¬ (p1 < 0)) → ((4 ≤ p1) → Q (some (.inl (-1000000001))) hi) ∧ ((¬ (4 ≤ p1)) → ∃ k3 : Nat, k3 < 4 ∧ p1 = nI k3 ∧ (((¬ (hi (113 + 2 * k3) 0) = (-1)) → pm_W pm_g (SH L) HR (d + 1) pm_t106 33 [some (.inr 16), some (.inl p1), some (.inr (113 + 2 * k3)), some (.inl 0), some (.inl 0), none] [] hi Q) ∧ ((¬ (¬ (hi (113 + 2 * k3) 0) = (-1))) → Q (some (.inl (-1000000011))) hi))))) : pm_C pm_g (SH L) HR (d + 2) m_E_pour [.inr 16, .inl p1] hi Q := by
  refine pm_C_of (maxL := 6) (t := pm_t106) rfl (Nat.le_of_ble_eq_true rfl) ?_
  refine pm_W_of 18 [33] rfl ?_
  refine And.intro trivial ?_
  refine v_E_isSheet (d := d)  ?_
  refine And.intro (fun c1 => ?_) (fun c1 => ?_)
  · replace h := h.1 c1
    refine ⟨_, rfl, ?_⟩
    refine And.intro (fun hc => absurd hc (pm_cd_f (by decide))) (fun _ => ?_)
    refine And.intro trivial ?_
    exact h
  · replace h := h.2 c1
    refine And.intro (fun c2 => ?_) (fun c2 => ?_)
    · replace h := h.1 c2
      refine ⟨_, rfl, ?_⟩
      refine And.intro (fun hc => absurd hc (pm_cd_f (by decide))) (fun _ => ?_)
      refine And.intro trivial ?_
      exact h
    · replace h := h.2 c2
      refine ⟨_, rfl, ?_⟩
      refine And.intro (fun _ => ?_) (fun hc => absurd (pm_cd_t (by decide)) hc)
      refine And.intro sh_l16 ?_
      rw [hr_16_7]
      obtain ⟨k3, hkk3, hek3, h⟩ := h
      refine And.intro (pm_ao_of (t := 0) sh_l112 hkk3 hek3 (by decide)) ?_
      rw [pm_tn hek3 hkk3 (by decide)]
      rw [(hr_sh hkk3)]
      refine And.intro (sh_st (st_of hkk3)) ?_
      refine And.intro (fun c4 => ?_) (fun c4 => ?_)
      · replace h := h.1 c4
        exact h
      · replace h := h.2 c4
        refine And.intro trivial ?_
        exact h
theorem v_E_pour_33 {L d : Nat} {o5 : Option pm_V} {p1 : Int32} {r2 : Nat} (h_r2 : pm_st r2) {y3 : Int32} {y4 : Int32} {hi : pm_B} {Q : pm_Q} (h : (((hi 50 2) ≤ y4) → Q (some (.inl y3)) hi) ∧ ((¬ ((hi 50 2) ≤ y4)) → ((y4 < 0) → Q (some (.inl y3)) hi) ∧ ((¬ (y4 < 0)) → (((hi r2 1) ≤ y4) → Q (some (.inl y3)) hi) ∧ ((¬ ((hi r2 1) ≤ y4)) → ((24 ≤ y4) → Q (some (.inl y3)) hi) ∧ ((¬ (24 ≤ y4)) → ∃ k5 : Nat, k5 < 24 ∧ y4 = nI k5 ∧ (((¬ (hi (r2 + 1) k5) = (-1000000005)) → ∃ k7 : Nat, k7 < 24 ∧ y4 = nI k7 ∧ (∃ k8 : Nat, k8 < 8 ∧ y4 = nI k8 ∧ ((((f_E_held (hi (r2 + 1) k7) 0 99) = (hi (50 + 2 + 2 * k8) 2)) → ∃ k10 : Nat, k10 < 8 ∧ y4 = nI k10 ∧ (pm_W pm_g (SH L) HR (d + 1) pm_t106 33 [some (.inr 16), some (.inl p1), some (.inr r2), some (.inl y3), some (.inl (y4 + 1)), some (.inl (f_E_held (hi (r2 + 1) k7) 0 99))] [] (pm_u hi (50 + 2 + 2 * k10) 2 (f_E_held (hi (r2 + 1) k7) 0 99)) Q)) ∧ ((¬ ((f_E_held (hi (r2 + 1) k7) 0 99) = (hi (50 + 2 + 2 * k8) 2))) → ∃ k11 : Nat, k11 < 8 ∧ y4 = nI k11 ∧ (pm_W pm_g (SH L) HR (d + 1) pm_t106 33 [some (.inr 16), some (.inl p1), some (.inr r2), some (.inl (y3 + 1)), some (.inl (y4 + 1)), some (.inl (f_E_held (hi (r2 + 1) k7) 0 99))] [] (pm_u hi (50 + 2 + 2 * k11) 2 (f_E_held (hi (r2 + 1) k7) 0 99)) Q))))) ∧ ((¬ (¬ (hi (r2 + 1) k5) = (-1000000005))) → pm_W pm_g (SH L) HR (d + 1) pm_t106 33 [some (.inr 16), some (.inl p1), some (.inr r2), some (.inl y3), some (.inl (y4 + 1)), o5] [] hi Q))))))) : pm_W pm_g (SH L) HR (d + 1) pm_t106 33 [some (.inr 16), some (.inl p1), some (.inr r2), some (.inl y3), some (.inl y4), o5] [] hi Q := by
  refine pm_W_of 43 [33] rfl ?_
  refine And.intro sh_l16 ?_
  rw [hr_16_1]
  refine And.intro sh_l50 ?_
  refine And.intro (fun c1 => ?_) (fun c1 => ?_)
  · replace h := h.1 c1
    refine And.intro trivial ?_
    exact h
  · replace h := h.2 c1
    refine And.intro (sh_st h_r2) ?_
    refine v_Sheet_hasPlace (d := d) h_r2 ?_
    refine And.intro (fun c2 => ?_) (fun c2 => ?_)
    · replace h := h.1 c2
      refine ⟨_, rfl, ?_⟩
      refine And.intro (fun _ => ?_) (fun hc => absurd (pm_cd_t (by decide)) hc)
      refine And.intro trivial ?_
      exact h
    · replace h := h.2 c2
      refine And.intro (fun c3 => ?_) (fun c3 => ?_)
      · replace h := h.1 c3
        refine ⟨_, rfl, ?_⟩
        refine And.intro (fun _ => ?_) (fun hc => absurd (pm_cd_t (by decide)) hc)
        refine And.intro trivial ?_
        exact h
      · replace h := h.2 c3
        refine And.intro (fun c4 => ?_) (fun c4 => ?_)
        · replace h := h.1 c4
          refine ⟨_, rfl, ?_⟩
          refine And.intro (fun _ => ?_) (fun hc => absurd (pm_cd_t (by decide)) hc)
          refine And.intro trivial ?_
          exact h
        · replace h := h.2 c4
          refine ⟨_, rfl, ?_⟩
          refine And.intro (fun hc => absurd hc (pm_cd_f (by decide))) (fun _ => ?_)
          refine And.intro (sh_st h_r2) ?_
          rw [(hr_st h_r2)]
          obtain ⟨k5, hkk5, hek5, h⟩ := h
          refine And.intro (pm_ao_of (t := 0) (sh_st1 h_r2) hkk5 hek5 (by decide)) ?_
          rw [pm_tn hek5 hkk5 (by decide)]
          refine And.intro (fun c6 => ?_) (fun c6 => ?_)
          · replace h := h.1 c6
            refine And.intro (sh_st h_r2) ?_
            rw [(hr_st h_r2)]
            obtain ⟨k7, hkk7, hek7, h⟩ := h
            refine And.intro (pm_ao_of (t := 0) (sh_st1 h_r2) hkk7 hek7 (by decide)) ?_
            rw [pm_tn hek7 hkk7 (by decide)]
            refine And.intro trivial ?_
            refine f_E_held_c (d := d)  ?_
            refine ⟨_, rfl, ?_⟩
            refine And.intro sh_l16 ?_
            rw [hr_16_1]
            refine And.intro sh_l50 ?_
            rw [hr_50_1]
            obtain ⟨k8, hkk8, hek8, h⟩ := h
            refine And.intro (pm_ao_of (t := 0) sh_l51 hkk8 hek8 (by decide)) ?_
            rw [pm_tn hek8 hkk8 (by decide)]
            rw [(hr_sp (fo_lit 50 (by decide)) hkk8)]
            refine And.intro (sh_sk (sk_of (fo_lit 50 (by decide)) hkk8)) ?_
            refine And.intro (fun c9 => ?_) (fun c9 => ?_)
            · replace h := h.1 c9
              refine And.intro sh_l16 ?_
              rw [hr_16_1]
              refine And.intro sh_l50 ?_
              rw [hr_50_1]
              obtain ⟨k10, hkk10, hek10, h⟩ := h
              refine And.intro (pm_ao_of (t := 0) sh_l51 hkk10 hek10 (by decide)) ?_
              rw [pm_tn hek10 hkk10 (by decide)]
              rw [(hr_sp (fo_lit 50 (by decide)) hkk10)]
              refine And.intro ⟨(sh_sk (sk_of (fo_lit 50 (by decide)) hkk10)), trivial⟩ ?_
              exact h
            · replace h := h.2 c9
              refine And.intro sh_l16 ?_
              rw [hr_16_1]
              refine And.intro sh_l50 ?_
              rw [hr_50_1]
              obtain ⟨k11, hkk11, hek11, h⟩ := h
              refine And.intro (pm_ao_of (t := 0) sh_l51 hkk11 hek11 (by decide)) ?_
              rw [pm_tn hek11 hkk11 (by decide)]
              rw [(hr_sp (fo_lit 50 (by decide)) hkk11)]
              refine And.intro ⟨(sh_sk (sk_of (fo_lit 50 (by decide)) hkk11)), trivial⟩ ?_
              exact h
          · replace h := h.2 c6
            exact h
theorem v_E_reads {L d : Nat} {p1 : Int32} {hi : pm_B} {Q : pm_Q} (h : ((p1 < 0) → Q (some (.inl (-1000000001))) hi) ∧ ((¬ (p1 < 0)) → ((4 ≤ p1) → Q (some (.inl (-1000000001))) hi) ∧ ((¬ (4 ≤ p1)) → ∃ k3 : Nat, k3 < 4 ∧ p1 = nI k3 ∧ (((¬ (hi (113 + 2 * k3) 0) = (-1)) → pm_W pm_g (SH L) HR (d + 1) pm_t107 30 [some (.inr 16), some (.inl p1), some (.inr (113 + 2 * k3)), some (.inl 0)] [] hi Q) ∧ ((¬ (¬ (hi (113 + 2 * k3) 0) = (-1))) → Q (some (.inl (-1000000011))) hi))))) : pm_C pm_g (SH L) HR (d + 2) m_E_reads [.inr 16, .inl p1] hi Q := by
  refine pm_C_of (maxL := 4) (t := pm_t107) rfl (Nat.le_of_ble_eq_true rfl) ?_
  refine pm_W_of 16 [30] rfl ?_
  refine And.intro trivial ?_
  refine v_E_isSheet (d := d)  ?_
  refine And.intro (fun c1 => ?_) (fun c1 => ?_)
  · replace h := h.1 c1
    refine ⟨_, rfl, ?_⟩
    refine And.intro (fun hc => absurd hc (pm_cd_f (by decide))) (fun _ => ?_)
    refine And.intro trivial ?_
    exact h
  · replace h := h.2 c1
    refine And.intro (fun c2 => ?_) (fun c2 => ?_)
    · replace h := h.1 c2
      refine ⟨_, rfl, ?_⟩
      refine And.intro (fun hc => absurd hc (pm_cd_f (by decide))) (fun _ => ?_)
      refine And.intro trivial ?_
      exact h
    · replace h := h.2 c2
      refine ⟨_, rfl, ?_⟩
      refine And.intro (fun _ => ?_) (fun hc => absurd (pm_cd_t (by decide)) hc)
      refine And.intro sh_l16 ?_
      rw [hr_16_7]
      obtain ⟨k3, hkk3, hek3, h⟩ := h
      refine And.intro (pm_ao_of (t := 0) sh_l112 hkk3 hek3 (by decide)) ?_
      rw [pm_tn hek3 hkk3 (by decide)]
      rw [(hr_sh hkk3)]
      refine And.intro (sh_st (st_of hkk3)) ?_
      refine And.intro (fun c4 => ?_) (fun c4 => ?_)
      · replace h := h.1 c4
        exact h
      · replace h := h.2 c4
        refine And.intro trivial ?_
        exact h
theorem v_E_reads_30 {L d : Nat}  {p1 : Int32} {r2 : Nat} (h_r2 : pm_st r2) {y3 : Int32} {hi : pm_B} {Q : pm_Q} (h : ((24 ≤ y3) → Q (some (.inl (-1000000005))) hi) ∧ ((¬ (24 ≤ y3)) → ((y3 < 0) → Q (some (.inl (-1000000005))) hi) ∧ ((¬ (y3 < 0)) → (((hi r2 1) ≤ y3) → Q (some (.inl (-1000000005))) hi) ∧ ((¬ ((hi r2 1) ≤ y3)) → ((24 ≤ y3) → Q (some (.inl (-1000000005))) hi) ∧ ((¬ (24 ≤ y3)) → ∃ k5 : Nat, k5 < 24 ∧ y3 = nI k5 ∧ (((¬ (hi (r2 + 1) k5) = (-1000000005)) → ((y3 < 0) → Q (some (.inl y3)) hi) ∧ ((¬ (y3 < 0)) → (((hi 50 2) ≤ y3) → Q (some (.inl y3)) hi) ∧ ((¬ ((hi 50 2) ≤ y3)) → ((8 ≤ y3) → Q (some (.inl y3)) hi) ∧ ((¬ (8 ≤ y3)) → ∃ k10 : Nat, k10 < 24 ∧ y3 = nI k10 ∧ (∃ k11 : Nat, k11 < 8 ∧ y3 = nI k11 ∧ ((((hi (r2 + 1) k10) = (hi (50 + 2 + 2 * k11) 4)) → pm_W pm_g (SH L) HR (d + 1) pm_t107 30 [some (.inr 16), some (.inl p1), some (.inr r2), some (.inl (y3 + 1))] [] hi Q) ∧ ((¬ ((hi (r2 + 1) k10) = (hi (50 + 2 + 2 * k11) 4))) → Q (some (.inl y3)) hi))))))) ∧ ((¬ (¬ (hi (r2 + 1) k5) = (-1000000005))) → pm_W pm_g (SH L) HR (d + 1) pm_t107 30 [some (.inr 16), some (.inl p1), some (.inr r2), some (.inl (y3 + 1))] [] hi Q))))))) : pm_W pm_g (SH L) HR (d + 1) pm_t107 30 [some (.inr 16), some (.inl p1), some (.inr r2), some (.inl y3)] [] hi Q := by
  refine pm_W_of 33 [30] rfl ?_
  refine And.intro (fun c1 => ?_) (fun c1 => ?_)
  · replace h := h.1 c1
    refine And.intro trivial ?_
    exact h
  · replace h := h.2 c1
    refine And.intro (sh_st h_r2) ?_
    refine v_Sheet_hasPlace (d := d) h_r2 ?_
    refine And.intro (fun c2 => ?_) (fun c2 => ?_)
    · replace h := h.1 c2
      refine ⟨_, rfl, ?_⟩
      refine And.intro (fun _ => ?_) (fun hc => absurd (pm_cd_t (by decide)) hc)
      refine And.intro trivial ?_
      exact h
    · replace h := h.2 c2
      refine And.intro (fun c3 => ?_) (fun c3 => ?_)
      · replace h := h.1 c3
        refine ⟨_, rfl, ?_⟩
        refine And.intro (fun _ => ?_) (fun hc => absurd (pm_cd_t (by decide)) hc)
        refine And.intro trivial ?_
        exact h
      · replace h := h.2 c3
        refine And.intro (fun c4 => ?_) (fun c4 => ?_)
        · replace h := h.1 c4
          refine ⟨_, rfl, ?_⟩
          refine And.intro (fun _ => ?_) (fun hc => absurd (pm_cd_t (by decide)) hc)
          refine And.intro trivial ?_
          exact h
        · replace h := h.2 c4
          refine ⟨_, rfl, ?_⟩
          refine And.intro (fun hc => absurd hc (pm_cd_f (by decide))) (fun _ => ?_)
          refine And.intro (sh_st h_r2) ?_
          rw [(hr_st h_r2)]
          obtain ⟨k5, hkk5, hek5, h⟩ := h
          refine And.intro (pm_ao_of (t := 0) (sh_st1 h_r2) hkk5 hek5 (by decide)) ?_
          rw [pm_tn hek5 hkk5 (by decide)]
          refine And.intro (fun c6 => ?_) (fun c6 => ?_)
          · replace h := h.1 c6
            refine And.intro sh_l16 ?_
            rw [hr_16_1]
            refine And.intro sh_l50 ?_
            refine v_Folk_hasSpeaker (d := d) (fo_lit 50 (by decide)) ?_
            refine And.intro (fun c7 => ?_) (fun c7 => ?_)
            · replace h := h.1 c7
              refine ⟨_, rfl, ?_⟩
              refine And.intro (fun _ => ?_) (fun hc => absurd (pm_cd_t (by decide)) hc)
              refine And.intro trivial ?_
              exact h
            · replace h := h.2 c7
              refine And.intro (fun c8 => ?_) (fun c8 => ?_)
              · replace h := h.1 c8
                refine ⟨_, rfl, ?_⟩
                refine And.intro (fun _ => ?_) (fun hc => absurd (pm_cd_t (by decide)) hc)
                refine And.intro trivial ?_
                exact h
              · replace h := h.2 c8
                refine And.intro (fun c9 => ?_) (fun c9 => ?_)
                · replace h := h.1 c9
                  refine ⟨_, rfl, ?_⟩
                  refine And.intro (fun _ => ?_) (fun hc => absurd (pm_cd_t (by decide)) hc)
                  refine And.intro trivial ?_
                  exact h
                · replace h := h.2 c9
                  refine ⟨_, rfl, ?_⟩
                  refine And.intro (fun hc => absurd hc (pm_cd_f (by decide))) (fun _ => ?_)
                  refine And.intro (sh_st h_r2) ?_
                  rw [(hr_st h_r2)]
                  obtain ⟨k10, hkk10, hek10, h⟩ := h
                  refine And.intro (pm_ao_of (t := 0) (sh_st1 h_r2) hkk10 hek10 (by decide)) ?_
                  rw [pm_tn hek10 hkk10 (by decide)]
                  refine And.intro sh_l16 ?_
                  rw [hr_16_1]
                  refine And.intro sh_l50 ?_
                  rw [hr_50_1]
                  obtain ⟨k11, hkk11, hek11, h⟩ := h
                  refine And.intro (pm_ao_of (t := 0) sh_l51 hkk11 hek11 (by decide)) ?_
                  rw [pm_tn hek11 hkk11 (by decide)]
                  rw [(hr_sp (fo_lit 50 (by decide)) hkk11)]
                  refine And.intro (sh_sk (sk_of (fo_lit 50 (by decide)) hkk11)) ?_
                  refine And.intro (fun c12 => ?_) (fun c12 => ?_)
                  · replace h := h.1 c12
                    exact h
                  · replace h := h.2 c12
                    refine And.intro trivial ?_
                    exact h
          · replace h := h.2 c6
            exact h
theorem v_E_copy {L d : Nat} {p1 : Int32} {p2 : Int32} {p3 : Int32} {p4 : Int32} {p5 : Int32} {hi : pm_B} {Q : pm_Q} (h : ((p1 < 0) → Q (some (.inl (-1000000001))) hi) ∧ ((¬ (p1 < 0)) → ((4 ≤ p1) → Q (some (.inl (-1000000001))) hi) ∧ ((¬ (4 ≤ p1)) → ((p3 < 0) → Q (some (.inl (-1000000001))) hi) ∧ ((¬ (p3 < 0)) → ((4 ≤ p3) → Q (some (.inl (-1000000001))) hi) ∧ ((¬ (4 ≤ p3)) → ∃ k5 : Nat, k5 < 4 ∧ p1 = nI k5 ∧ (∃ k6 : Nat, k6 < 4 ∧ p3 = nI k6 ∧ ((((hi (113 + 2 * k5) 0) = (-1)) → Q (some (.inl (-1000000011))) hi) ∧ ((¬ ((hi (113 + 2 * k5) 0) = (-1))) → ((¬ (hi (113 + 2 * k6) 0) = (-1)) → (((hi (113 + 2 * k5) 0) = (hi (113 + 2 * k6) 0)) → ((p2 < 0) → Q (some (.inl (-1000000013))) hi) ∧ ((¬ (p2 < 0)) → ((p5 < 0) → Q (some (.inl (-1000000013))) hi) ∧ ((¬ (p5 < 0)) → (((hi (113 + 2 * k5) 1) < p2) → Q (some (.inl (-1000000013))) hi) ∧ ((¬ ((hi (113 + 2 * k5) 1) < p2)) → ((24 < (hi (113 + 2 * k5) 1)) → Q (some (.inl (-1000000013))) hi) ∧ ((¬ (24 < (hi (113 + 2 * k5) 1))) → ((((hi (113 + 2 * k5) 1) - p2) < p5) → Q (some (.inl (-1000000013))) hi) ∧ ((¬ (((hi (113 + 2 * k5) 1) - p2) < p5)) → ((p4 < 0) → Q (some (.inl (-1000000013))) hi) ∧ ((¬ (p4 < 0)) → ((p5 < 0) → Q (some (.inl (-1000000013))) hi) ∧ ((¬ (p5 < 0)) → (((hi (113 + 2 * k6) 1) < p4) → Q (some (.inl (-1000000013))) hi) ∧ ((¬ ((hi (113 + 2 * k6) 1) < p4)) → ((24 < (hi (113 + 2 * k6) 1)) → Q (some (.inl (-1000000013))) hi) ∧ ((¬ (24 < (hi (113 + 2 * k6) 1))) → ((((hi (113 + 2 * k6) 1) - p4) < p5) → Q (some (.inl (-1000000013))) hi) ∧ ((¬ (((hi (113 + 2 * k6) 1) - p4) < p5)) → ∃ k20 k21 k22 : Nat, p2 = nI k20 ∧ p4 = nI k21 ∧ p5 = nI k22 ∧ k20 + k22 ≤ 24 ∧ k21 + k22 ≤ 24 ∧ (Q (some (.inl p5)) (pm_cp hi ((113 + 2 * k5) + 1) k20 ((113 + 2 * k6) + 1) k21 k22))))))))))))) ∧ ((¬ ((hi (113 + 2 * k5) 0) = (hi (113 + 2 * k6) 0))) → Q (some (.inl (-1000000012))) hi)) ∧ ((¬ (¬ (hi (113 + 2 * k6) 0) = (-1))) → Q (some (.inl (-1000000011))) hi))))))))) : pm_C pm_g (SH L) HR (d + 2) m_E_copy [.inr 16, .inl p1, .inl p2, .inl p3, .inl p4, .inl p5] hi Q := by
  refine pm_C_of (maxL := 8) (t := pm_t108) rfl (Nat.le_of_ble_eq_true rfl) ?_
  refine pm_W_of 51 [] rfl ?_
  refine And.intro trivial ?_
  refine v_E_isSheet (d := d)  ?_
  refine And.intro (fun c1 => ?_) (fun c1 => ?_)
  · replace h := h.1 c1
    refine ⟨_, rfl, ?_⟩
    refine And.intro (fun _ => ?_) (fun hc => absurd (pm_cd_t (by decide)) hc)
    refine And.intro trivial ?_
    exact h
  · replace h := h.2 c1
    refine And.intro (fun c2 => ?_) (fun c2 => ?_)
    · replace h := h.1 c2
      refine ⟨_, rfl, ?_⟩
      refine And.intro (fun _ => ?_) (fun hc => absurd (pm_cd_t (by decide)) hc)
      refine And.intro trivial ?_
      exact h
    · replace h := h.2 c2
      refine ⟨_, rfl, ?_⟩
      refine And.intro (fun hc => absurd hc (pm_cd_f (by decide))) (fun _ => ?_)
      refine And.intro trivial ?_
      refine v_E_isSheet (d := d)  ?_
      refine And.intro (fun c3 => ?_) (fun c3 => ?_)
      · replace h := h.1 c3
        refine ⟨_, rfl, ?_⟩
        refine And.intro (fun hc => absurd hc (pm_cd_f (by decide))) (fun _ => ?_)
        refine And.intro trivial ?_
        exact h
      · replace h := h.2 c3
        refine And.intro (fun c4 => ?_) (fun c4 => ?_)
        · replace h := h.1 c4
          refine ⟨_, rfl, ?_⟩
          refine And.intro (fun hc => absurd hc (pm_cd_f (by decide))) (fun _ => ?_)
          refine And.intro trivial ?_
          exact h
        · replace h := h.2 c4
          refine ⟨_, rfl, ?_⟩
          refine And.intro (fun _ => ?_) (fun hc => absurd (pm_cd_t (by decide)) hc)
          refine And.intro sh_l16 ?_
          rw [hr_16_7]
          obtain ⟨k5, hkk5, hek5, h⟩ := h
          refine And.intro (pm_ao_of (t := 0) sh_l112 hkk5 hek5 (by decide)) ?_
          rw [pm_tn hek5 hkk5 (by decide)]
          rw [(hr_sh hkk5)]
          refine And.intro sh_l16 ?_
          rw [hr_16_7]
          obtain ⟨k6, hkk6, hek6, h⟩ := h
          refine And.intro (pm_ao_of (t := 0) sh_l112 hkk6 hek6 (by decide)) ?_
          rw [pm_tn hek6 hkk6 (by decide)]
          rw [(hr_sh hkk6)]
          refine And.intro (sh_st (st_of hkk5)) ?_
          refine And.intro (fun c7 => ?_) (fun c7 => ?_)
          · replace h := h.1 c7
            refine And.intro trivial ?_
            exact h
          · replace h := h.2 c7
            refine And.intro (sh_st (st_of hkk6)) ?_
            refine And.intro (fun c8 => ?_) (fun c8 => ?_)
            · replace h := h.1 c8
              refine And.intro (sh_st (st_of hkk5)) ?_
              refine And.intro (sh_st (st_of hkk6)) ?_
              refine And.intro (fun c9 => ?_) (fun c9 => ?_)
              · replace h := h.1 c9
                refine And.intro (sh_st (st_of hkk5)) ?_
                refine v_Sheet_hasPlaces (d := d) (st_of hkk5) ?_
                refine And.intro (fun c10 => ?_) (fun c10 => ?_)
                · replace h := h.1 c10
                  refine ⟨_, rfl, ?_⟩
                  refine And.intro (fun _ => ?_) (fun hc => absurd (pm_cd_t (by decide)) hc)
                  refine And.intro trivial ?_
                  exact h
                · replace h := h.2 c10
                  refine And.intro (fun c11 => ?_) (fun c11 => ?_)
                  · replace h := h.1 c11
                    refine ⟨_, rfl, ?_⟩
                    refine And.intro (fun _ => ?_) (fun hc => absurd (pm_cd_t (by decide)) hc)
                    refine And.intro trivial ?_
                    exact h
                  · replace h := h.2 c11
                    refine And.intro (fun c12 => ?_) (fun c12 => ?_)
                    · replace h := h.1 c12
                      refine ⟨_, rfl, ?_⟩
                      refine And.intro (fun _ => ?_) (fun hc => absurd (pm_cd_t (by decide)) hc)
                      refine And.intro trivial ?_
                      exact h
                    · replace h := h.2 c12
                      refine And.intro (fun c13 => ?_) (fun c13 => ?_)
                      · replace h := h.1 c13
                        refine ⟨_, rfl, ?_⟩
                        refine And.intro (fun _ => ?_) (fun hc => absurd (pm_cd_t (by decide)) hc)
                        refine And.intro trivial ?_
                        exact h
                      · replace h := h.2 c13
                        refine And.intro (fun c14 => ?_) (fun c14 => ?_)
                        · replace h := h.1 c14
                          refine ⟨_, rfl, ?_⟩
                          refine And.intro (fun _ => ?_) (fun hc => absurd (pm_cd_t (by decide)) hc)
                          refine And.intro trivial ?_
                          exact h
                        · replace h := h.2 c14
                          refine ⟨_, rfl, ?_⟩
                          refine And.intro (fun hc => absurd hc (pm_cd_f (by decide))) (fun _ => ?_)
                          refine And.intro (sh_st (st_of hkk6)) ?_
                          refine v_Sheet_hasPlaces (d := d) (st_of hkk6) ?_
                          refine And.intro (fun c15 => ?_) (fun c15 => ?_)
                          · replace h := h.1 c15
                            refine ⟨_, rfl, ?_⟩
                            refine And.intro (fun hc => absurd hc (pm_cd_f (by decide))) (fun _ => ?_)
                            refine And.intro trivial ?_
                            exact h
                          · replace h := h.2 c15
                            refine And.intro (fun c16 => ?_) (fun c16 => ?_)
                            · replace h := h.1 c16
                              refine ⟨_, rfl, ?_⟩
                              refine And.intro (fun hc => absurd hc (pm_cd_f (by decide))) (fun _ => ?_)
                              refine And.intro trivial ?_
                              exact h
                            · replace h := h.2 c16
                              refine And.intro (fun c17 => ?_) (fun c17 => ?_)
                              · replace h := h.1 c17
                                refine ⟨_, rfl, ?_⟩
                                refine And.intro (fun hc => absurd hc (pm_cd_f (by decide))) (fun _ => ?_)
                                refine And.intro trivial ?_
                                exact h
                              · replace h := h.2 c17
                                refine And.intro (fun c18 => ?_) (fun c18 => ?_)
                                · replace h := h.1 c18
                                  refine ⟨_, rfl, ?_⟩
                                  refine And.intro (fun hc => absurd hc (pm_cd_f (by decide))) (fun _ => ?_)
                                  refine And.intro trivial ?_
                                  exact h
                                · replace h := h.2 c18
                                  refine And.intro (fun c19 => ?_) (fun c19 => ?_)
                                  · replace h := h.1 c19
                                    refine ⟨_, rfl, ?_⟩
                                    refine And.intro (fun hc => absurd hc (pm_cd_f (by decide))) (fun _ => ?_)
                                    refine And.intro trivial ?_
                                    exact h
                                  · replace h := h.2 c19
                                    refine ⟨_, rfl, ?_⟩
                                    refine And.intro (fun _ => ?_) (fun hc => absurd (pm_cd_t (by decide)) hc)
                                    refine And.intro (sh_st (st_of hkk5)) ?_
                                    rw [(hr_st (st_of hkk5))]
                                    refine And.intro (sh_st (st_of hkk6)) ?_
                                    rw [(hr_st (st_of hkk6))]
                                    obtain ⟨k20, k21, k22, e1, e2, e3, l1, l2, h⟩ := h
                                    refine And.intro (pm_cpy_of (sh_st1 (st_of hkk5)) (sh_st1 (st_of hkk6)) e1 e2 e3 l1 l2 (by decide) (by decide)) ?_
                                    rw [pm_tn_le e1 (show k20 < 2147483648 by omega), pm_tn_le e2 (show k21 < 2147483648 by omega), pm_tn_le e3 (show k22 < 2147483648 by omega)]
                                    refine And.intro trivial ?_
                                    exact h
              · replace h := h.2 c9
                refine And.intro trivial ?_
                exact h
            · replace h := h.2 c8
              refine And.intro trivial ?_
              exact h
theorem v_E_lay {L d : Nat} {p1 : Int32} {p2 : Int32} {p3 : Int32} {hi : pm_B} {Q : pm_Q} (h : ((p1 < 0) → Q (some (.inl (-1000000001))) hi) ∧ ((¬ (p1 < 0)) → ((5 ≤ p1) → Q (some (.inl (-1000000001))) hi) ∧ ((¬ (5 ≤ p1)) → ((p2 < 0) → Q (some (.inl (-1000000001))) hi) ∧ ((¬ (p2 < 0)) → ((p2 ≤ 3) → ((¬ p2 = 1) → ((¬ p2 = 2) → ((¬ p2 = 2) → ∃ k8 : Nat, k8 < 5 ∧ p1 = nI k8 ∧ (((¬ p2 = 1) → ((¬ p2 = 2) → ((¬ p2 = 3) → Q (some (.inl (hi (122 + 3 * k8) 0))) (pm_u hi (122 + 3 * k8) 0 p2)) ∧ ((¬ (¬ p2 = 3)) → ∀ hi12 : pm_B, hi12 = pm_u (pm_u hi (122 + 3 * k8) 0 p2) (122 + 3 * k8) 3 p3 → (Q (some (.inl (hi (122 + 3 * k8) 0))) hi12))) ∧ ((¬ (¬ p2 = 2)) → ∃ k13 : Nat, k13 < 4 ∧ p3 = nI k13 ∧ (pm_C pm_g (SH L) HR (d + 1) m_Sheet_become [.inr ((122 + 3 * k8) + 1), .inr (113 + 2 * k13)] (pm_u hi (122 + 3 * k8) 0 p2) (fun v hi14 => v = none ∧ (((¬ p2 = 3) → Q (some (.inl (hi (122 + 3 * k8) 0))) hi14) ∧ ((¬ (¬ p2 = 3)) → Q (some (.inl (hi (122 + 3 * k8) 0))) (pm_u hi14 (122 + 3 * k8) 3 p3))))))) ∧ ((¬ (¬ p2 = 1)) → ∃ k16 : Nat, k16 < 8 ∧ p3 = nI k16 ∧ (∀ hi17 : pm_B, hi17 = pm_u (pm_u (pm_u hi (122 + 3 * k8) 0 p2) (122 + 3 * k8) 1 ((pm_u hi (122 + 3 * k8) 0 p2) (50 + 2 + 2 * k16) 0)) (122 + 3 * k8) 2 ((pm_u (pm_u hi (122 + 3 * k8) 0 p2) (122 + 3 * k8) 1 ((pm_u hi (122 + 3 * k8) 0 p2) (50 + 2 + 2 * k16) 0)) (50 + 2 + 2 * k16) 2) → (((¬ p2 = 2) → ((¬ p2 = 3) → Q (some (.inl (hi (122 + 3 * k8) 0))) hi17) ∧ ((¬ (¬ p2 = 3)) → ∀ hi20 : pm_B, hi20 = pm_u hi17 (122 + 3 * k8) 3 p3 → (Q (some (.inl (hi (122 + 3 * k8) 0))) hi20))) ∧ ((¬ (¬ p2 = 2)) → ∃ k21 : Nat, k21 < 4 ∧ p3 = nI k21 ∧ (pm_C pm_g (SH L) HR (d + 1) m_Sheet_become [.inr ((122 + 3 * k8) + 1), .inr (113 + 2 * k21)] hi17 (fun v hi22 => v = none ∧ (((¬ p2 = 3) → Q (some (.inl (hi (122 + 3 * k8) 0))) hi22) ∧ ((¬ (¬ p2 = 3)) → Q (some (.inl (hi (122 + 3 * k8) 0))) (pm_u hi22 (122 + 3 * k8) 3 p3))))))))))) ∧ ((¬ (¬ p2 = 2)) → ∃ k24 : Nat, k24 < 4 ∧ p3 = nI k24 ∧ (((¬ (hi (113 + 2 * k24) 0) = (-1)) → ∃ k26 : Nat, k26 < 5 ∧ p1 = nI k26 ∧ (((¬ p2 = 1) → ((¬ p2 = 2) → ((¬ p2 = 3) → Q (some (.inl (hi (122 + 3 * k26) 0))) (pm_u hi (122 + 3 * k26) 0 p2)) ∧ ((¬ (¬ p2 = 3)) → ∀ hi30 : pm_B, hi30 = pm_u (pm_u hi (122 + 3 * k26) 0 p2) (122 + 3 * k26) 3 p3 → (Q (some (.inl (hi (122 + 3 * k26) 0))) hi30))) ∧ ((¬ (¬ p2 = 2)) → ∃ k31 : Nat, k31 < 4 ∧ p3 = nI k31 ∧ (pm_C pm_g (SH L) HR (d + 1) m_Sheet_become [.inr ((122 + 3 * k26) + 1), .inr (113 + 2 * k31)] (pm_u hi (122 + 3 * k26) 0 p2) (fun v hi32 => v = none ∧ (((¬ p2 = 3) → Q (some (.inl (hi (122 + 3 * k26) 0))) hi32) ∧ ((¬ (¬ p2 = 3)) → Q (some (.inl (hi (122 + 3 * k26) 0))) (pm_u hi32 (122 + 3 * k26) 3 p3))))))) ∧ ((¬ (¬ p2 = 1)) → ∃ k34 : Nat, k34 < 8 ∧ p3 = nI k34 ∧ (∀ hi35 : pm_B, hi35 = pm_u (pm_u (pm_u hi (122 + 3 * k26) 0 p2) (122 + 3 * k26) 1 ((pm_u hi (122 + 3 * k26) 0 p2) (50 + 2 + 2 * k34) 0)) (122 + 3 * k26) 2 ((pm_u (pm_u hi (122 + 3 * k26) 0 p2) (122 + 3 * k26) 1 ((pm_u hi (122 + 3 * k26) 0 p2) (50 + 2 + 2 * k34) 0)) (50 + 2 + 2 * k34) 2) → (((¬ p2 = 2) → ((¬ p2 = 3) → Q (some (.inl (hi (122 + 3 * k26) 0))) hi35) ∧ ((¬ (¬ p2 = 3)) → ∀ hi38 : pm_B, hi38 = pm_u hi35 (122 + 3 * k26) 3 p3 → (Q (some (.inl (hi (122 + 3 * k26) 0))) hi38))) ∧ ((¬ (¬ p2 = 2)) → ∃ k39 : Nat, k39 < 4 ∧ p3 = nI k39 ∧ (pm_C pm_g (SH L) HR (d + 1) m_Sheet_become [.inr ((122 + 3 * k26) + 1), .inr (113 + 2 * k39)] hi35 (fun v hi40 => v = none ∧ (((¬ p2 = 3) → Q (some (.inl (hi (122 + 3 * k26) 0))) hi40) ∧ ((¬ (¬ p2 = 3)) → Q (some (.inl (hi (122 + 3 * k26) 0))) (pm_u hi40 (122 + 3 * k26) 3 p3))))))))))) ∧ ((¬ (¬ (hi (113 + 2 * k24) 0) = (-1))) → Q (some (.inl (-1000000011))) hi)))) ∧ ((¬ (¬ p2 = 2)) → ((p3 < 0) → Q (some (.inl (-1000000001))) hi) ∧ ((¬ (p3 < 0)) → ((4 ≤ p3) → Q (some (.inl (-1000000001))) hi) ∧ ((¬ (4 ≤ p3)) → ((¬ p2 = 2) → ∃ k45 : Nat, k45 < 5 ∧ p1 = nI k45 ∧ (((¬ p2 = 1) → ((¬ p2 = 2) → ((¬ p2 = 3) → Q (some (.inl (hi (122 + 3 * k45) 0))) (pm_u hi (122 + 3 * k45) 0 p2)) ∧ ((¬ (¬ p2 = 3)) → ∀ hi49 : pm_B, hi49 = pm_u (pm_u hi (122 + 3 * k45) 0 p2) (122 + 3 * k45) 3 p3 → (Q (some (.inl (hi (122 + 3 * k45) 0))) hi49))) ∧ ((¬ (¬ p2 = 2)) → ∃ k50 : Nat, k50 < 4 ∧ p3 = nI k50 ∧ (pm_C pm_g (SH L) HR (d + 1) m_Sheet_become [.inr ((122 + 3 * k45) + 1), .inr (113 + 2 * k50)] (pm_u hi (122 + 3 * k45) 0 p2) (fun v hi51 => v = none ∧ (((¬ p2 = 3) → Q (some (.inl (hi (122 + 3 * k45) 0))) hi51) ∧ ((¬ (¬ p2 = 3)) → Q (some (.inl (hi (122 + 3 * k45) 0))) (pm_u hi51 (122 + 3 * k45) 3 p3))))))) ∧ ((¬ (¬ p2 = 1)) → ∃ k53 : Nat, k53 < 8 ∧ p3 = nI k53 ∧ (∀ hi54 : pm_B, hi54 = pm_u (pm_u (pm_u hi (122 + 3 * k45) 0 p2) (122 + 3 * k45) 1 ((pm_u hi (122 + 3 * k45) 0 p2) (50 + 2 + 2 * k53) 0)) (122 + 3 * k45) 2 ((pm_u (pm_u hi (122 + 3 * k45) 0 p2) (122 + 3 * k45) 1 ((pm_u hi (122 + 3 * k45) 0 p2) (50 + 2 + 2 * k53) 0)) (50 + 2 + 2 * k53) 2) → (((¬ p2 = 2) → ((¬ p2 = 3) → Q (some (.inl (hi (122 + 3 * k45) 0))) hi54) ∧ ((¬ (¬ p2 = 3)) → ∀ hi57 : pm_B, hi57 = pm_u hi54 (122 + 3 * k45) 3 p3 → (Q (some (.inl (hi (122 + 3 * k45) 0))) hi57))) ∧ ((¬ (¬ p2 = 2)) → ∃ k58 : Nat, k58 < 4 ∧ p3 = nI k58 ∧ (pm_C pm_g (SH L) HR (d + 1) m_Sheet_become [.inr ((122 + 3 * k45) + 1), .inr (113 + 2 * k58)] hi54 (fun v hi59 => v = none ∧ (((¬ p2 = 3) → Q (some (.inl (hi (122 + 3 * k45) 0))) hi59) ∧ ((¬ (¬ p2 = 3)) → Q (some (.inl (hi (122 + 3 * k45) 0))) (pm_u hi59 (122 + 3 * k45) 3 p3))))))))))) ∧ ((¬ (¬ p2 = 2)) → ∃ k61 : Nat, k61 < 4 ∧ p3 = nI k61 ∧ (((¬ (hi (113 + 2 * k61) 0) = (-1)) → ∃ k63 : Nat, k63 < 5 ∧ p1 = nI k63 ∧ (((¬ p2 = 1) → ((¬ p2 = 2) → ((¬ p2 = 3) → Q (some (.inl (hi (122 + 3 * k63) 0))) (pm_u hi (122 + 3 * k63) 0 p2)) ∧ ((¬ (¬ p2 = 3)) → ∀ hi67 : pm_B, hi67 = pm_u (pm_u hi (122 + 3 * k63) 0 p2) (122 + 3 * k63) 3 p3 → (Q (some (.inl (hi (122 + 3 * k63) 0))) hi67))) ∧ ((¬ (¬ p2 = 2)) → ∃ k68 : Nat, k68 < 4 ∧ p3 = nI k68 ∧ (pm_C pm_g (SH L) HR (d + 1) m_Sheet_become [.inr ((122 + 3 * k63) + 1), .inr (113 + 2 * k68)] (pm_u hi (122 + 3 * k63) 0 p2) (fun v hi69 => v = none ∧ (((¬ p2 = 3) → Q (some (.inl (hi (122 + 3 * k63) 0))) hi69) ∧ ((¬ (¬ p2 = 3)) → Q (some (.inl (hi (122 + 3 * k63) 0))) (pm_u hi69 (122 + 3 * k63) 3 p3))))))) ∧ ((¬ (¬ p2 = 1)) → ∃ k71 : Nat, k71 < 8 ∧ p3 = nI k71 ∧ (∀ hi72 : pm_B, hi72 = pm_u (pm_u (pm_u hi (122 + 3 * k63) 0 p2) (122 + 3 * k63) 1 ((pm_u hi (122 + 3 * k63) 0 p2) (50 + 2 + 2 * k71) 0)) (122 + 3 * k63) 2 ((pm_u (pm_u hi (122 + 3 * k63) 0 p2) (122 + 3 * k63) 1 ((pm_u hi (122 + 3 * k63) 0 p2) (50 + 2 + 2 * k71) 0)) (50 + 2 + 2 * k71) 2) → (((¬ p2 = 2) → ((¬ p2 = 3) → Q (some (.inl (hi (122 + 3 * k63) 0))) hi72) ∧ ((¬ (¬ p2 = 3)) → ∀ hi75 : pm_B, hi75 = pm_u hi72 (122 + 3 * k63) 3 p3 → (Q (some (.inl (hi (122 + 3 * k63) 0))) hi75))) ∧ ((¬ (¬ p2 = 2)) → ∃ k76 : Nat, k76 < 4 ∧ p3 = nI k76 ∧ (pm_C pm_g (SH L) HR (d + 1) m_Sheet_become [.inr ((122 + 3 * k63) + 1), .inr (113 + 2 * k76)] hi72 (fun v hi77 => v = none ∧ (((¬ p2 = 3) → Q (some (.inl (hi (122 + 3 * k63) 0))) hi77) ∧ ((¬ (¬ p2 = 3)) → Q (some (.inl (hi (122 + 3 * k63) 0))) (pm_u hi77 (122 + 3 * k63) 3 p3))))))))))) ∧ ((¬ (¬ (hi (113 + 2 * k61) 0) = (-1))) → Q (some (.inl (-1000000011))) hi))))))) ∧ ((¬ (¬ p2 = 1)) → ((p3 < 0) → Q (some (.inl (-1000000001))) hi) ∧ ((¬ (p3 < 0)) → (((hi 50 2) ≤ p3) → Q (some (.inl (-1000000001))) hi) ∧ ((¬ ((hi 50 2) ≤ p3)) → ((8 ≤ p3) → Q (some (.inl (-1000000001))) hi) ∧ ((¬ (8 ≤ p3)) → ((¬ p2 = 2) → ((¬ p2 = 2) → ∃ k84 : Nat, k84 < 5 ∧ p1 = nI k84 ∧ (((¬ p2 = 1) → ((¬ p2 = 2) → ((¬ p2 = 3) → Q (some (.inl (hi (122 + 3 * k84) 0))) (pm_u hi (122 + 3 * k84) 0 p2)) ∧ ((¬ (¬ p2 = 3)) → ∀ hi88 : pm_B, hi88 = pm_u (pm_u hi (122 + 3 * k84) 0 p2) (122 + 3 * k84) 3 p3 → (Q (some (.inl (hi (122 + 3 * k84) 0))) hi88))) ∧ ((¬ (¬ p2 = 2)) → ∃ k89 : Nat, k89 < 4 ∧ p3 = nI k89 ∧ (pm_C pm_g (SH L) HR (d + 1) m_Sheet_become [.inr ((122 + 3 * k84) + 1), .inr (113 + 2 * k89)] (pm_u hi (122 + 3 * k84) 0 p2) (fun v hi90 => v = none ∧ (((¬ p2 = 3) → Q (some (.inl (hi (122 + 3 * k84) 0))) hi90) ∧ ((¬ (¬ p2 = 3)) → Q (some (.inl (hi (122 + 3 * k84) 0))) (pm_u hi90 (122 + 3 * k84) 3 p3))))))) ∧ ((¬ (¬ p2 = 1)) → ∃ k92 : Nat, k92 < 8 ∧ p3 = nI k92 ∧ (∀ hi93 : pm_B, hi93 = pm_u (pm_u (pm_u hi (122 + 3 * k84) 0 p2) (122 + 3 * k84) 1 ((pm_u hi (122 + 3 * k84) 0 p2) (50 + 2 + 2 * k92) 0)) (122 + 3 * k84) 2 ((pm_u (pm_u hi (122 + 3 * k84) 0 p2) (122 + 3 * k84) 1 ((pm_u hi (122 + 3 * k84) 0 p2) (50 + 2 + 2 * k92) 0)) (50 + 2 + 2 * k92) 2) → (((¬ p2 = 2) → ((¬ p2 = 3) → Q (some (.inl (hi (122 + 3 * k84) 0))) hi93) ∧ ((¬ (¬ p2 = 3)) → ∀ hi96 : pm_B, hi96 = pm_u hi93 (122 + 3 * k84) 3 p3 → (Q (some (.inl (hi (122 + 3 * k84) 0))) hi96))) ∧ ((¬ (¬ p2 = 2)) → ∃ k97 : Nat, k97 < 4 ∧ p3 = nI k97 ∧ (pm_C pm_g (SH L) HR (d + 1) m_Sheet_become [.inr ((122 + 3 * k84) + 1), .inr (113 + 2 * k97)] hi93 (fun v hi98 => v = none ∧ (((¬ p2 = 3) → Q (some (.inl (hi (122 + 3 * k84) 0))) hi98) ∧ ((¬ (¬ p2 = 3)) → Q (some (.inl (hi (122 + 3 * k84) 0))) (pm_u hi98 (122 + 3 * k84) 3 p3))))))))))) ∧ ((¬ (¬ p2 = 2)) → ∃ k100 : Nat, k100 < 4 ∧ p3 = nI k100 ∧ (((¬ (hi (113 + 2 * k100) 0) = (-1)) → ∃ k102 : Nat, k102 < 5 ∧ p1 = nI k102 ∧ (((¬ p2 = 1) → ((¬ p2 = 2) → ((¬ p2 = 3) → Q (some (.inl (hi (122 + 3 * k102) 0))) (pm_u hi (122 + 3 * k102) 0 p2)) ∧ ((¬ (¬ p2 = 3)) → ∀ hi106 : pm_B, hi106 = pm_u (pm_u hi (122 + 3 * k102) 0 p2) (122 + 3 * k102) 3 p3 → (Q (some (.inl (hi (122 + 3 * k102) 0))) hi106))) ∧ ((¬ (¬ p2 = 2)) → ∃ k107 : Nat, k107 < 4 ∧ p3 = nI k107 ∧ (pm_C pm_g (SH L) HR (d + 1) m_Sheet_become [.inr ((122 + 3 * k102) + 1), .inr (113 + 2 * k107)] (pm_u hi (122 + 3 * k102) 0 p2) (fun v hi108 => v = none ∧ (((¬ p2 = 3) → Q (some (.inl (hi (122 + 3 * k102) 0))) hi108) ∧ ((¬ (¬ p2 = 3)) → Q (some (.inl (hi (122 + 3 * k102) 0))) (pm_u hi108 (122 + 3 * k102) 3 p3))))))) ∧ ((¬ (¬ p2 = 1)) → ∃ k110 : Nat, k110 < 8 ∧ p3 = nI k110 ∧ (∀ hi111 : pm_B, hi111 = pm_u (pm_u (pm_u hi (122 + 3 * k102) 0 p2) (122 + 3 * k102) 1 ((pm_u hi (122 + 3 * k102) 0 p2) (50 + 2 + 2 * k110) 0)) (122 + 3 * k102) 2 ((pm_u (pm_u hi (122 + 3 * k102) 0 p2) (122 + 3 * k102) 1 ((pm_u hi (122 + 3 * k102) 0 p2) (50 + 2 + 2 * k110) 0)) (50 + 2 + 2 * k110) 2) → (((¬ p2 = 2) → ((¬ p2 = 3) → Q (some (.inl (hi (122 + 3 * k102) 0))) hi111) ∧ ((¬ (¬ p2 = 3)) → ∀ hi114 : pm_B, hi114 = pm_u hi111 (122 + 3 * k102) 3 p3 → (Q (some (.inl (hi (122 + 3 * k102) 0))) hi114))) ∧ ((¬ (¬ p2 = 2)) → ∃ k115 : Nat, k115 < 4 ∧ p3 = nI k115 ∧ (pm_C pm_g (SH L) HR (d + 1) m_Sheet_become [.inr ((122 + 3 * k102) + 1), .inr (113 + 2 * k115)] hi111 (fun v hi116 => v = none ∧ (((¬ p2 = 3) → Q (some (.inl (hi (122 + 3 * k102) 0))) hi116) ∧ ((¬ (¬ p2 = 3)) → Q (some (.inl (hi (122 + 3 * k102) 0))) (pm_u hi116 (122 + 3 * k102) 3 p3))))))))))) ∧ ((¬ (¬ (hi (113 + 2 * k100) 0) = (-1))) → Q (some (.inl (-1000000011))) hi)))) ∧ ((¬ (¬ p2 = 2)) → ((p3 < 0) → Q (some (.inl (-1000000001))) hi) ∧ ((¬ (p3 < 0)) → ((4 ≤ p3) → Q (some (.inl (-1000000001))) hi) ∧ ((¬ (4 ≤ p3)) → ((¬ p2 = 2) → ∃ k121 : Nat, k121 < 5 ∧ p1 = nI k121 ∧ (((¬ p2 = 1) → ((¬ p2 = 2) → ((¬ p2 = 3) → Q (some (.inl (hi (122 + 3 * k121) 0))) (pm_u hi (122 + 3 * k121) 0 p2)) ∧ ((¬ (¬ p2 = 3)) → ∀ hi125 : pm_B, hi125 = pm_u (pm_u hi (122 + 3 * k121) 0 p2) (122 + 3 * k121) 3 p3 → (Q (some (.inl (hi (122 + 3 * k121) 0))) hi125))) ∧ ((¬ (¬ p2 = 2)) → ∃ k126 : Nat, k126 < 4 ∧ p3 = nI k126 ∧ (pm_C pm_g (SH L) HR (d + 1) m_Sheet_become [.inr ((122 + 3 * k121) + 1), .inr (113 + 2 * k126)] (pm_u hi (122 + 3 * k121) 0 p2) (fun v hi127 => v = none ∧ (((¬ p2 = 3) → Q (some (.inl (hi (122 + 3 * k121) 0))) hi127) ∧ ((¬ (¬ p2 = 3)) → Q (some (.inl (hi (122 + 3 * k121) 0))) (pm_u hi127 (122 + 3 * k121) 3 p3))))))) ∧ ((¬ (¬ p2 = 1)) → ∃ k129 : Nat, k129 < 8 ∧ p3 = nI k129 ∧ (∀ hi130 : pm_B, hi130 = pm_u (pm_u (pm_u hi (122 + 3 * k121) 0 p2) (122 + 3 * k121) 1 ((pm_u hi (122 + 3 * k121) 0 p2) (50 + 2 + 2 * k129) 0)) (122 + 3 * k121) 2 ((pm_u (pm_u hi (122 + 3 * k121) 0 p2) (122 + 3 * k121) 1 ((pm_u hi (122 + 3 * k121) 0 p2) (50 + 2 + 2 * k129) 0)) (50 + 2 + 2 * k129) 2) → (((¬ p2 = 2) → ((¬ p2 = 3) → Q (some (.inl (hi (122 + 3 * k121) 0))) hi130) ∧ ((¬ (¬ p2 = 3)) → ∀ hi133 : pm_B, hi133 = pm_u hi130 (122 + 3 * k121) 3 p3 → (Q (some (.inl (hi (122 + 3 * k121) 0))) hi133))) ∧ ((¬ (¬ p2 = 2)) → ∃ k134 : Nat, k134 < 4 ∧ p3 = nI k134 ∧ (pm_C pm_g (SH L) HR (d + 1) m_Sheet_become [.inr ((122 + 3 * k121) + 1), .inr (113 + 2 * k134)] hi130 (fun v hi135 => v = none ∧ (((¬ p2 = 3) → Q (some (.inl (hi (122 + 3 * k121) 0))) hi135) ∧ ((¬ (¬ p2 = 3)) → Q (some (.inl (hi (122 + 3 * k121) 0))) (pm_u hi135 (122 + 3 * k121) 3 p3))))))))))) ∧ ((¬ (¬ p2 = 2)) → ∃ k137 : Nat, k137 < 4 ∧ p3 = nI k137 ∧ (((¬ (hi (113 + 2 * k137) 0) = (-1)) → ∃ k139 : Nat, k139 < 5 ∧ p1 = nI k139 ∧ (((¬ p2 = 1) → ((¬ p2 = 2) → ((¬ p2 = 3) → Q (some (.inl (hi (122 + 3 * k139) 0))) (pm_u hi (122 + 3 * k139) 0 p2)) ∧ ((¬ (¬ p2 = 3)) → ∀ hi143 : pm_B, hi143 = pm_u (pm_u hi (122 + 3 * k139) 0 p2) (122 + 3 * k139) 3 p3 → (Q (some (.inl (hi (122 + 3 * k139) 0))) hi143))) ∧ ((¬ (¬ p2 = 2)) → ∃ k144 : Nat, k144 < 4 ∧ p3 = nI k144 ∧ (pm_C pm_g (SH L) HR (d + 1) m_Sheet_become [.inr ((122 + 3 * k139) + 1), .inr (113 + 2 * k144)] (pm_u hi (122 + 3 * k139) 0 p2) (fun v hi145 => v = none ∧ (((¬ p2 = 3) → Q (some (.inl (hi (122 + 3 * k139) 0))) hi145) ∧ ((¬ (¬ p2 = 3)) → Q (some (.inl (hi (122 + 3 * k139) 0))) (pm_u hi145 (122 + 3 * k139) 3 p3))))))) ∧ ((¬ (¬ p2 = 1)) → ∃ k147 : Nat, k147 < 8 ∧ p3 = nI k147 ∧ (∀ hi148 : pm_B, hi148 = pm_u (pm_u (pm_u hi (122 + 3 * k139) 0 p2) (122 + 3 * k139) 1 ((pm_u hi (122 + 3 * k139) 0 p2) (50 + 2 + 2 * k147) 0)) (122 + 3 * k139) 2 ((pm_u (pm_u hi (122 + 3 * k139) 0 p2) (122 + 3 * k139) 1 ((pm_u hi (122 + 3 * k139) 0 p2) (50 + 2 + 2 * k147) 0)) (50 + 2 + 2 * k147) 2) → (((¬ p2 = 2) → ((¬ p2 = 3) → Q (some (.inl (hi (122 + 3 * k139) 0))) hi148) ∧ ((¬ (¬ p2 = 3)) → ∀ hi151 : pm_B, hi151 = pm_u hi148 (122 + 3 * k139) 3 p3 → (Q (some (.inl (hi (122 + 3 * k139) 0))) hi151))) ∧ ((¬ (¬ p2 = 2)) → ∃ k152 : Nat, k152 < 4 ∧ p3 = nI k152 ∧ (pm_C pm_g (SH L) HR (d + 1) m_Sheet_become [.inr ((122 + 3 * k139) + 1), .inr (113 + 2 * k152)] hi148 (fun v hi153 => v = none ∧ (((¬ p2 = 3) → Q (some (.inl (hi (122 + 3 * k139) 0))) hi153) ∧ ((¬ (¬ p2 = 3)) → Q (some (.inl (hi (122 + 3 * k139) 0))) (pm_u hi153 (122 + 3 * k139) 3 p3))))))))))) ∧ ((¬ (¬ (hi (113 + 2 * k137) 0) = (-1))) → Q (some (.inl (-1000000011))) hi))))))))))) ∧ ((¬ (p2 ≤ 3)) → Q (some (.inl (-1000000001))) hi))))) : pm_C pm_g (SH L) HR (d + 2) m_E_lay [.inr 16, .inl p1, .inl p2, .inl p3] hi Q := by
  refine pm_C_of (maxL := 6) (t := pm_t109) rfl (Nat.le_of_ble_eq_true rfl) ?_
  refine pm_W_of 73 [] rfl ?_
  refine And.intro trivial ?_
  refine v_E_isSlot (d := d)  ?_
  refine And.intro (fun c1 => ?_) (fun c1 => ?_)
  · replace h := h.1 c1
    refine ⟨_, rfl, ?_⟩
    refine And.intro (fun _ => ?_) (fun hc => absurd (pm_cd_t (by decide)) hc)
    refine And.intro trivial ?_
    exact h
  · replace h := h.2 c1
    refine And.intro (fun c2 => ?_) (fun c2 => ?_)
    · replace h := h.1 c2
      refine ⟨_, rfl, ?_⟩
      refine And.intro (fun _ => ?_) (fun hc => absurd (pm_cd_t (by decide)) hc)
      refine And.intro trivial ?_
      exact h
    · replace h := h.2 c2
      refine ⟨_, rfl, ?_⟩
      refine And.intro (fun hc => absurd hc (pm_cd_f (by decide))) (fun _ => ?_)
      refine And.intro (fun c3 => ?_) (fun c3 => ?_)
      · replace h := h.1 c3
        refine And.intro trivial ?_
        exact h
      · replace h := h.2 c3
        refine And.intro (fun c4 => ?_) (fun c4 => ?_)
        · replace h := h.1 c4
          refine And.intro (fun c5 => ?_) (fun c5 => ?_)
          · replace h := h.1 c5
            refine And.intro (fun c6 => ?_) (fun c6 => ?_)
            · replace h := h.1 c6
              refine And.intro (fun c7 => ?_) (fun c7 => ?_)
              · replace h := h.1 c7
                refine And.intro sh_l16 ?_
                rw [hr_16_8]
                obtain ⟨k8, hkk8, hek8, h⟩ := h
                refine And.intro (pm_ao_of (t := 0) sh_l121 hkk8 hek8 (by decide)) ?_
                rw [pm_tn hek8 hkk8 (by decide)]
                rw [(hr_sl hkk8)]
                refine And.intro (sh_su (su_of hkk8)) ?_
                refine And.intro ⟨(sh_su (su_of hkk8)), trivial⟩ ?_
                refine And.intro (fun c9 => ?_) (fun c9 => ?_)
                · replace h := h.1 c9
                  refine And.intro (fun c10 => ?_) (fun c10 => ?_)
                  · replace h := h.1 c10
                    refine And.intro (fun c11 => ?_) (fun c11 => ?_)
                    · replace h := h.1 c11
                      refine And.intro trivial ?_
                      exact h
                    · replace h := h.2 c11
                      refine And.intro ⟨(sh_su (su_of hkk8)), trivial⟩ ?_
                      obtain ⟨hi12, ehi12⟩ : ∃ m : pm_B, m = pm_u (pm_u hi (122 + 3 * k8) 0 p2) (122 + 3 * k8) 3 p3 := ⟨_, rfl⟩
                      replace h := h hi12 ehi12
                      rw [← ehi12]
                      refine And.intro trivial ?_
                      exact h
                  · replace h := h.2 c10
                    refine And.intro (sh_su (su_of hkk8)) ?_
                    rw [(hr_su (su_of hkk8))]
                    refine And.intro sh_l16 ?_
                    rw [hr_16_7]
                    obtain ⟨k13, hkk13, hek13, h⟩ := h
                    refine And.intro (pm_ao_of (t := 0) sh_l112 hkk13 hek13 (by decide)) ?_
                    rw [pm_tn hek13 hkk13 (by decide)]
                    rw [(hr_sh hkk13)]
                    refine And.intro (sh_st (st_su (su_of hkk8))) ?_
                    refine pm_C_imp h (fun v hi14 h => ?_)
                    obtain ⟨rfl, h⟩ := h
                    refine ⟨rfl, ?_⟩
                    refine And.intro (fun c15 => ?_) (fun c15 => ?_)
                    · replace h := h.1 c15
                      refine And.intro trivial ?_
                      exact h
                    · replace h := h.2 c15
                      refine And.intro ⟨(sh_su (su_of hkk8)), trivial⟩ ?_
                      refine And.intro trivial ?_
                      exact h
                · replace h := h.2 c9
                  refine And.intro sh_l16 ?_
                  rw [hr_16_1]
                  refine And.intro sh_l50 ?_
                  rw [hr_50_1]
                  obtain ⟨k16, hkk16, hek16, h⟩ := h
                  refine And.intro (pm_ao_of (t := 0) sh_l51 hkk16 hek16 (by decide)) ?_
                  rw [pm_tn hek16 hkk16 (by decide)]
                  rw [(hr_sp (fo_lit 50 (by decide)) hkk16)]
                  refine And.intro (sh_su (su_of hkk8)) ?_
                  refine v_Slot_holdSpeaker (d := d) (su_of hkk8) (sk_of (fo_lit 50 (by decide)) hkk16) ?_
                  intro hi17 ehi17
                  replace h := h hi17 ehi17
                  refine ⟨rfl, ?_⟩
                  refine And.intro (fun c18 => ?_) (fun c18 => ?_)
                  · replace h := h.1 c18
                    refine And.intro (fun c19 => ?_) (fun c19 => ?_)
                    · replace h := h.1 c19
                      refine And.intro trivial ?_
                      exact h
                    · replace h := h.2 c19
                      refine And.intro ⟨(sh_su (su_of hkk8)), trivial⟩ ?_
                      obtain ⟨hi20, ehi20⟩ : ∃ m : pm_B, m = pm_u hi17 (122 + 3 * k8) 3 p3 := ⟨_, rfl⟩
                      replace h := h hi20 ehi20
                      rw [← ehi20]
                      refine And.intro trivial ?_
                      exact h
                  · replace h := h.2 c18
                    refine And.intro (sh_su (su_of hkk8)) ?_
                    rw [(hr_su (su_of hkk8))]
                    refine And.intro sh_l16 ?_
                    rw [hr_16_7]
                    obtain ⟨k21, hkk21, hek21, h⟩ := h
                    refine And.intro (pm_ao_of (t := 0) sh_l112 hkk21 hek21 (by decide)) ?_
                    rw [pm_tn hek21 hkk21 (by decide)]
                    rw [(hr_sh hkk21)]
                    refine And.intro (sh_st (st_su (su_of hkk8))) ?_
                    refine pm_C_imp h (fun v hi22 h => ?_)
                    obtain ⟨rfl, h⟩ := h
                    refine ⟨rfl, ?_⟩
                    refine And.intro (fun c23 => ?_) (fun c23 => ?_)
                    · replace h := h.1 c23
                      refine And.intro trivial ?_
                      exact h
                    · replace h := h.2 c23
                      refine And.intro ⟨(sh_su (su_of hkk8)), trivial⟩ ?_
                      refine And.intro trivial ?_
                      exact h
              · replace h := h.2 c7
                refine And.intro sh_l16 ?_
                rw [hr_16_7]
                obtain ⟨k24, hkk24, hek24, h⟩ := h
                refine And.intro (pm_ao_of (t := 0) sh_l112 hkk24 hek24 (by decide)) ?_
                rw [pm_tn hek24 hkk24 (by decide)]
                rw [(hr_sh hkk24)]
                refine And.intro (sh_st (st_of hkk24)) ?_
                refine And.intro (fun c25 => ?_) (fun c25 => ?_)
                · replace h := h.1 c25
                  refine And.intro sh_l16 ?_
                  rw [hr_16_8]
                  obtain ⟨k26, hkk26, hek26, h⟩ := h
                  refine And.intro (pm_ao_of (t := 0) sh_l121 hkk26 hek26 (by decide)) ?_
                  rw [pm_tn hek26 hkk26 (by decide)]
                  rw [(hr_sl hkk26)]
                  refine And.intro (sh_su (su_of hkk26)) ?_
                  refine And.intro ⟨(sh_su (su_of hkk26)), trivial⟩ ?_
                  refine And.intro (fun c27 => ?_) (fun c27 => ?_)
                  · replace h := h.1 c27
                    refine And.intro (fun c28 => ?_) (fun c28 => ?_)
                    · replace h := h.1 c28
                      refine And.intro (fun c29 => ?_) (fun c29 => ?_)
                      · replace h := h.1 c29
                        refine And.intro trivial ?_
                        exact h
                      · replace h := h.2 c29
                        refine And.intro ⟨(sh_su (su_of hkk26)), trivial⟩ ?_
                        obtain ⟨hi30, ehi30⟩ : ∃ m : pm_B, m = pm_u (pm_u hi (122 + 3 * k26) 0 p2) (122 + 3 * k26) 3 p3 := ⟨_, rfl⟩
                        replace h := h hi30 ehi30
                        rw [← ehi30]
                        refine And.intro trivial ?_
                        exact h
                    · replace h := h.2 c28
                      refine And.intro (sh_su (su_of hkk26)) ?_
                      rw [(hr_su (su_of hkk26))]
                      refine And.intro sh_l16 ?_
                      rw [hr_16_7]
                      obtain ⟨k31, hkk31, hek31, h⟩ := h
                      refine And.intro (pm_ao_of (t := 0) sh_l112 hkk31 hek31 (by decide)) ?_
                      rw [pm_tn hek31 hkk31 (by decide)]
                      rw [(hr_sh hkk31)]
                      refine And.intro (sh_st (st_su (su_of hkk26))) ?_
                      refine pm_C_imp h (fun v hi32 h => ?_)
                      obtain ⟨rfl, h⟩ := h
                      refine ⟨rfl, ?_⟩
                      refine And.intro (fun c33 => ?_) (fun c33 => ?_)
                      · replace h := h.1 c33
                        refine And.intro trivial ?_
                        exact h
                      · replace h := h.2 c33
                        refine And.intro ⟨(sh_su (su_of hkk26)), trivial⟩ ?_
                        refine And.intro trivial ?_
                        exact h
                  · replace h := h.2 c27
                    refine And.intro sh_l16 ?_
                    rw [hr_16_1]
                    refine And.intro sh_l50 ?_
                    rw [hr_50_1]
                    obtain ⟨k34, hkk34, hek34, h⟩ := h
                    refine And.intro (pm_ao_of (t := 0) sh_l51 hkk34 hek34 (by decide)) ?_
                    rw [pm_tn hek34 hkk34 (by decide)]
                    rw [(hr_sp (fo_lit 50 (by decide)) hkk34)]
                    refine And.intro (sh_su (su_of hkk26)) ?_
                    refine v_Slot_holdSpeaker (d := d) (su_of hkk26) (sk_of (fo_lit 50 (by decide)) hkk34) ?_
                    intro hi35 ehi35
                    replace h := h hi35 ehi35
                    refine ⟨rfl, ?_⟩
                    refine And.intro (fun c36 => ?_) (fun c36 => ?_)
                    · replace h := h.1 c36
                      refine And.intro (fun c37 => ?_) (fun c37 => ?_)
                      · replace h := h.1 c37
                        refine And.intro trivial ?_
                        exact h
                      · replace h := h.2 c37
                        refine And.intro ⟨(sh_su (su_of hkk26)), trivial⟩ ?_
                        obtain ⟨hi38, ehi38⟩ : ∃ m : pm_B, m = pm_u hi35 (122 + 3 * k26) 3 p3 := ⟨_, rfl⟩
                        replace h := h hi38 ehi38
                        rw [← ehi38]
                        refine And.intro trivial ?_
                        exact h
                    · replace h := h.2 c36
                      refine And.intro (sh_su (su_of hkk26)) ?_
                      rw [(hr_su (su_of hkk26))]
                      refine And.intro sh_l16 ?_
                      rw [hr_16_7]
                      obtain ⟨k39, hkk39, hek39, h⟩ := h
                      refine And.intro (pm_ao_of (t := 0) sh_l112 hkk39 hek39 (by decide)) ?_
                      rw [pm_tn hek39 hkk39 (by decide)]
                      rw [(hr_sh hkk39)]
                      refine And.intro (sh_st (st_su (su_of hkk26))) ?_
                      refine pm_C_imp h (fun v hi40 h => ?_)
                      obtain ⟨rfl, h⟩ := h
                      refine ⟨rfl, ?_⟩
                      refine And.intro (fun c41 => ?_) (fun c41 => ?_)
                      · replace h := h.1 c41
                        refine And.intro trivial ?_
                        exact h
                      · replace h := h.2 c41
                        refine And.intro ⟨(sh_su (su_of hkk26)), trivial⟩ ?_
                        refine And.intro trivial ?_
                        exact h
                · replace h := h.2 c25
                  refine And.intro trivial ?_
                  exact h
            · replace h := h.2 c6
              refine And.intro trivial ?_
              refine v_E_isSheet (d := d)  ?_
              refine And.intro (fun c42 => ?_) (fun c42 => ?_)
              · replace h := h.1 c42
                refine ⟨_, rfl, ?_⟩
                refine And.intro (fun hc => absurd hc (pm_cd_f (by decide))) (fun _ => ?_)
                refine And.intro trivial ?_
                exact h
              · replace h := h.2 c42
                refine And.intro (fun c43 => ?_) (fun c43 => ?_)
                · replace h := h.1 c43
                  refine ⟨_, rfl, ?_⟩
                  refine And.intro (fun hc => absurd hc (pm_cd_f (by decide))) (fun _ => ?_)
                  refine And.intro trivial ?_
                  exact h
                · replace h := h.2 c43
                  refine ⟨_, rfl, ?_⟩
                  refine And.intro (fun _ => ?_) (fun hc => absurd (pm_cd_t (by decide)) hc)
                  refine And.intro (fun c44 => ?_) (fun c44 => ?_)
                  · replace h := h.1 c44
                    refine And.intro sh_l16 ?_
                    rw [hr_16_8]
                    obtain ⟨k45, hkk45, hek45, h⟩ := h
                    refine And.intro (pm_ao_of (t := 0) sh_l121 hkk45 hek45 (by decide)) ?_
                    rw [pm_tn hek45 hkk45 (by decide)]
                    rw [(hr_sl hkk45)]
                    refine And.intro (sh_su (su_of hkk45)) ?_
                    refine And.intro ⟨(sh_su (su_of hkk45)), trivial⟩ ?_
                    refine And.intro (fun c46 => ?_) (fun c46 => ?_)
                    · replace h := h.1 c46
                      refine And.intro (fun c47 => ?_) (fun c47 => ?_)
                      · replace h := h.1 c47
                        refine And.intro (fun c48 => ?_) (fun c48 => ?_)
                        · replace h := h.1 c48
                          refine And.intro trivial ?_
                          exact h
                        · replace h := h.2 c48
                          refine And.intro ⟨(sh_su (su_of hkk45)), trivial⟩ ?_
                          obtain ⟨hi49, ehi49⟩ : ∃ m : pm_B, m = pm_u (pm_u hi (122 + 3 * k45) 0 p2) (122 + 3 * k45) 3 p3 := ⟨_, rfl⟩
                          replace h := h hi49 ehi49
                          rw [← ehi49]
                          refine And.intro trivial ?_
                          exact h
                      · replace h := h.2 c47
                        refine And.intro (sh_su (su_of hkk45)) ?_
                        rw [(hr_su (su_of hkk45))]
                        refine And.intro sh_l16 ?_
                        rw [hr_16_7]
                        obtain ⟨k50, hkk50, hek50, h⟩ := h
                        refine And.intro (pm_ao_of (t := 0) sh_l112 hkk50 hek50 (by decide)) ?_
                        rw [pm_tn hek50 hkk50 (by decide)]
                        rw [(hr_sh hkk50)]
                        refine And.intro (sh_st (st_su (su_of hkk45))) ?_
                        refine pm_C_imp h (fun v hi51 h => ?_)
                        obtain ⟨rfl, h⟩ := h
                        refine ⟨rfl, ?_⟩
                        refine And.intro (fun c52 => ?_) (fun c52 => ?_)
                        · replace h := h.1 c52
                          refine And.intro trivial ?_
                          exact h
                        · replace h := h.2 c52
                          refine And.intro ⟨(sh_su (su_of hkk45)), trivial⟩ ?_
                          refine And.intro trivial ?_
                          exact h
                    · replace h := h.2 c46
                      refine And.intro sh_l16 ?_
                      rw [hr_16_1]
                      refine And.intro sh_l50 ?_
                      rw [hr_50_1]
                      obtain ⟨k53, hkk53, hek53, h⟩ := h
                      refine And.intro (pm_ao_of (t := 0) sh_l51 hkk53 hek53 (by decide)) ?_
                      rw [pm_tn hek53 hkk53 (by decide)]
                      rw [(hr_sp (fo_lit 50 (by decide)) hkk53)]
                      refine And.intro (sh_su (su_of hkk45)) ?_
                      refine v_Slot_holdSpeaker (d := d) (su_of hkk45) (sk_of (fo_lit 50 (by decide)) hkk53) ?_
                      intro hi54 ehi54
                      replace h := h hi54 ehi54
                      refine ⟨rfl, ?_⟩
                      refine And.intro (fun c55 => ?_) (fun c55 => ?_)
                      · replace h := h.1 c55
                        refine And.intro (fun c56 => ?_) (fun c56 => ?_)
                        · replace h := h.1 c56
                          refine And.intro trivial ?_
                          exact h
                        · replace h := h.2 c56
                          refine And.intro ⟨(sh_su (su_of hkk45)), trivial⟩ ?_
                          obtain ⟨hi57, ehi57⟩ : ∃ m : pm_B, m = pm_u hi54 (122 + 3 * k45) 3 p3 := ⟨_, rfl⟩
                          replace h := h hi57 ehi57
                          rw [← ehi57]
                          refine And.intro trivial ?_
                          exact h
                      · replace h := h.2 c55
                        refine And.intro (sh_su (su_of hkk45)) ?_
                        rw [(hr_su (su_of hkk45))]
                        refine And.intro sh_l16 ?_
                        rw [hr_16_7]
                        obtain ⟨k58, hkk58, hek58, h⟩ := h
                        refine And.intro (pm_ao_of (t := 0) sh_l112 hkk58 hek58 (by decide)) ?_
                        rw [pm_tn hek58 hkk58 (by decide)]
                        rw [(hr_sh hkk58)]
                        refine And.intro (sh_st (st_su (su_of hkk45))) ?_
                        refine pm_C_imp h (fun v hi59 h => ?_)
                        obtain ⟨rfl, h⟩ := h
                        refine ⟨rfl, ?_⟩
                        refine And.intro (fun c60 => ?_) (fun c60 => ?_)
                        · replace h := h.1 c60
                          refine And.intro trivial ?_
                          exact h
                        · replace h := h.2 c60
                          refine And.intro ⟨(sh_su (su_of hkk45)), trivial⟩ ?_
                          refine And.intro trivial ?_
                          exact h
                  · replace h := h.2 c44
                    refine And.intro sh_l16 ?_
                    rw [hr_16_7]
                    obtain ⟨k61, hkk61, hek61, h⟩ := h
                    refine And.intro (pm_ao_of (t := 0) sh_l112 hkk61 hek61 (by decide)) ?_
                    rw [pm_tn hek61 hkk61 (by decide)]
                    rw [(hr_sh hkk61)]
                    refine And.intro (sh_st (st_of hkk61)) ?_
                    refine And.intro (fun c62 => ?_) (fun c62 => ?_)
                    · replace h := h.1 c62
                      refine And.intro sh_l16 ?_
                      rw [hr_16_8]
                      obtain ⟨k63, hkk63, hek63, h⟩ := h
                      refine And.intro (pm_ao_of (t := 0) sh_l121 hkk63 hek63 (by decide)) ?_
                      rw [pm_tn hek63 hkk63 (by decide)]
                      rw [(hr_sl hkk63)]
                      refine And.intro (sh_su (su_of hkk63)) ?_
                      refine And.intro ⟨(sh_su (su_of hkk63)), trivial⟩ ?_
                      refine And.intro (fun c64 => ?_) (fun c64 => ?_)
                      · replace h := h.1 c64
                        refine And.intro (fun c65 => ?_) (fun c65 => ?_)
                        · replace h := h.1 c65
                          refine And.intro (fun c66 => ?_) (fun c66 => ?_)
                          · replace h := h.1 c66
                            refine And.intro trivial ?_
                            exact h
                          · replace h := h.2 c66
                            refine And.intro ⟨(sh_su (su_of hkk63)), trivial⟩ ?_
                            obtain ⟨hi67, ehi67⟩ : ∃ m : pm_B, m = pm_u (pm_u hi (122 + 3 * k63) 0 p2) (122 + 3 * k63) 3 p3 := ⟨_, rfl⟩
                            replace h := h hi67 ehi67
                            rw [← ehi67]
                            refine And.intro trivial ?_
                            exact h
                        · replace h := h.2 c65
                          refine And.intro (sh_su (su_of hkk63)) ?_
                          rw [(hr_su (su_of hkk63))]
                          refine And.intro sh_l16 ?_
                          rw [hr_16_7]
                          obtain ⟨k68, hkk68, hek68, h⟩ := h
                          refine And.intro (pm_ao_of (t := 0) sh_l112 hkk68 hek68 (by decide)) ?_
                          rw [pm_tn hek68 hkk68 (by decide)]
                          rw [(hr_sh hkk68)]
                          refine And.intro (sh_st (st_su (su_of hkk63))) ?_
                          refine pm_C_imp h (fun v hi69 h => ?_)
                          obtain ⟨rfl, h⟩ := h
                          refine ⟨rfl, ?_⟩
                          refine And.intro (fun c70 => ?_) (fun c70 => ?_)
                          · replace h := h.1 c70
                            refine And.intro trivial ?_
                            exact h
                          · replace h := h.2 c70
                            refine And.intro ⟨(sh_su (su_of hkk63)), trivial⟩ ?_
                            refine And.intro trivial ?_
                            exact h
                      · replace h := h.2 c64
                        refine And.intro sh_l16 ?_
                        rw [hr_16_1]
                        refine And.intro sh_l50 ?_
                        rw [hr_50_1]
                        obtain ⟨k71, hkk71, hek71, h⟩ := h
                        refine And.intro (pm_ao_of (t := 0) sh_l51 hkk71 hek71 (by decide)) ?_
                        rw [pm_tn hek71 hkk71 (by decide)]
                        rw [(hr_sp (fo_lit 50 (by decide)) hkk71)]
                        refine And.intro (sh_su (su_of hkk63)) ?_
                        refine v_Slot_holdSpeaker (d := d) (su_of hkk63) (sk_of (fo_lit 50 (by decide)) hkk71) ?_
                        intro hi72 ehi72
                        replace h := h hi72 ehi72
                        refine ⟨rfl, ?_⟩
                        refine And.intro (fun c73 => ?_) (fun c73 => ?_)
                        · replace h := h.1 c73
                          refine And.intro (fun c74 => ?_) (fun c74 => ?_)
                          · replace h := h.1 c74
                            refine And.intro trivial ?_
                            exact h
                          · replace h := h.2 c74
                            refine And.intro ⟨(sh_su (su_of hkk63)), trivial⟩ ?_
                            obtain ⟨hi75, ehi75⟩ : ∃ m : pm_B, m = pm_u hi72 (122 + 3 * k63) 3 p3 := ⟨_, rfl⟩
                            replace h := h hi75 ehi75
                            rw [← ehi75]
                            refine And.intro trivial ?_
                            exact h
                        · replace h := h.2 c73
                          refine And.intro (sh_su (su_of hkk63)) ?_
                          rw [(hr_su (su_of hkk63))]
                          refine And.intro sh_l16 ?_
                          rw [hr_16_7]
                          obtain ⟨k76, hkk76, hek76, h⟩ := h
                          refine And.intro (pm_ao_of (t := 0) sh_l112 hkk76 hek76 (by decide)) ?_
                          rw [pm_tn hek76 hkk76 (by decide)]
                          rw [(hr_sh hkk76)]
                          refine And.intro (sh_st (st_su (su_of hkk63))) ?_
                          refine pm_C_imp h (fun v hi77 h => ?_)
                          obtain ⟨rfl, h⟩ := h
                          refine ⟨rfl, ?_⟩
                          refine And.intro (fun c78 => ?_) (fun c78 => ?_)
                          · replace h := h.1 c78
                            refine And.intro trivial ?_
                            exact h
                          · replace h := h.2 c78
                            refine And.intro ⟨(sh_su (su_of hkk63)), trivial⟩ ?_
                            refine And.intro trivial ?_
                            exact h
                    · replace h := h.2 c62
                      refine And.intro trivial ?_
                      exact h
          · replace h := h.2 c5
            refine And.intro sh_l16 ?_
            rw [hr_16_1]
            refine And.intro sh_l50 ?_
            refine v_Folk_hasSpeaker (d := d) (fo_lit 50 (by decide)) ?_
            refine And.intro (fun c79 => ?_) (fun c79 => ?_)
            · replace h := h.1 c79
              refine ⟨_, rfl, ?_⟩
              refine And.intro (fun hc => absurd hc (pm_cd_f (by decide))) (fun _ => ?_)
              refine And.intro trivial ?_
              exact h
            · replace h := h.2 c79
              refine And.intro (fun c80 => ?_) (fun c80 => ?_)
              · replace h := h.1 c80
                refine ⟨_, rfl, ?_⟩
                refine And.intro (fun hc => absurd hc (pm_cd_f (by decide))) (fun _ => ?_)
                refine And.intro trivial ?_
                exact h
              · replace h := h.2 c80
                refine And.intro (fun c81 => ?_) (fun c81 => ?_)
                · replace h := h.1 c81
                  refine ⟨_, rfl, ?_⟩
                  refine And.intro (fun hc => absurd hc (pm_cd_f (by decide))) (fun _ => ?_)
                  refine And.intro trivial ?_
                  exact h
                · replace h := h.2 c81
                  refine ⟨_, rfl, ?_⟩
                  refine And.intro (fun _ => ?_) (fun hc => absurd (pm_cd_t (by decide)) hc)
                  refine And.intro (fun c82 => ?_) (fun c82 => ?_)
                  · replace h := h.1 c82
                    refine And.intro (fun c83 => ?_) (fun c83 => ?_)
                    · replace h := h.1 c83
                      refine And.intro sh_l16 ?_
                      rw [hr_16_8]
                      obtain ⟨k84, hkk84, hek84, h⟩ := h
                      refine And.intro (pm_ao_of (t := 0) sh_l121 hkk84 hek84 (by decide)) ?_
                      rw [pm_tn hek84 hkk84 (by decide)]
                      rw [(hr_sl hkk84)]
                      refine And.intro (sh_su (su_of hkk84)) ?_
                      refine And.intro ⟨(sh_su (su_of hkk84)), trivial⟩ ?_
                      refine And.intro (fun c85 => ?_) (fun c85 => ?_)
                      · replace h := h.1 c85
                        refine And.intro (fun c86 => ?_) (fun c86 => ?_)
                        · replace h := h.1 c86
                          refine And.intro (fun c87 => ?_) (fun c87 => ?_)
                          · replace h := h.1 c87
                            refine And.intro trivial ?_
                            exact h
                          · replace h := h.2 c87
                            refine And.intro ⟨(sh_su (su_of hkk84)), trivial⟩ ?_
                            obtain ⟨hi88, ehi88⟩ : ∃ m : pm_B, m = pm_u (pm_u hi (122 + 3 * k84) 0 p2) (122 + 3 * k84) 3 p3 := ⟨_, rfl⟩
                            replace h := h hi88 ehi88
                            rw [← ehi88]
                            refine And.intro trivial ?_
                            exact h
                        · replace h := h.2 c86
                          refine And.intro (sh_su (su_of hkk84)) ?_
                          rw [(hr_su (su_of hkk84))]
                          refine And.intro sh_l16 ?_
                          rw [hr_16_7]
                          obtain ⟨k89, hkk89, hek89, h⟩ := h
                          refine And.intro (pm_ao_of (t := 0) sh_l112 hkk89 hek89 (by decide)) ?_
                          rw [pm_tn hek89 hkk89 (by decide)]
                          rw [(hr_sh hkk89)]
                          refine And.intro (sh_st (st_su (su_of hkk84))) ?_
                          refine pm_C_imp h (fun v hi90 h => ?_)
                          obtain ⟨rfl, h⟩ := h
                          refine ⟨rfl, ?_⟩
                          refine And.intro (fun c91 => ?_) (fun c91 => ?_)
                          · replace h := h.1 c91
                            refine And.intro trivial ?_
                            exact h
                          · replace h := h.2 c91
                            refine And.intro ⟨(sh_su (su_of hkk84)), trivial⟩ ?_
                            refine And.intro trivial ?_
                            exact h
                      · replace h := h.2 c85
                        refine And.intro sh_l16 ?_
                        rw [hr_16_1]
                        refine And.intro sh_l50 ?_
                        rw [hr_50_1]
                        obtain ⟨k92, hkk92, hek92, h⟩ := h
                        refine And.intro (pm_ao_of (t := 0) sh_l51 hkk92 hek92 (by decide)) ?_
                        rw [pm_tn hek92 hkk92 (by decide)]
                        rw [(hr_sp (fo_lit 50 (by decide)) hkk92)]
                        refine And.intro (sh_su (su_of hkk84)) ?_
                        refine v_Slot_holdSpeaker (d := d) (su_of hkk84) (sk_of (fo_lit 50 (by decide)) hkk92) ?_
                        intro hi93 ehi93
                        replace h := h hi93 ehi93
                        refine ⟨rfl, ?_⟩
                        refine And.intro (fun c94 => ?_) (fun c94 => ?_)
                        · replace h := h.1 c94
                          refine And.intro (fun c95 => ?_) (fun c95 => ?_)
                          · replace h := h.1 c95
                            refine And.intro trivial ?_
                            exact h
                          · replace h := h.2 c95
                            refine And.intro ⟨(sh_su (su_of hkk84)), trivial⟩ ?_
                            obtain ⟨hi96, ehi96⟩ : ∃ m : pm_B, m = pm_u hi93 (122 + 3 * k84) 3 p3 := ⟨_, rfl⟩
                            replace h := h hi96 ehi96
                            rw [← ehi96]
                            refine And.intro trivial ?_
                            exact h
                        · replace h := h.2 c94
                          refine And.intro (sh_su (su_of hkk84)) ?_
                          rw [(hr_su (su_of hkk84))]
                          refine And.intro sh_l16 ?_
                          rw [hr_16_7]
                          obtain ⟨k97, hkk97, hek97, h⟩ := h
                          refine And.intro (pm_ao_of (t := 0) sh_l112 hkk97 hek97 (by decide)) ?_
                          rw [pm_tn hek97 hkk97 (by decide)]
                          rw [(hr_sh hkk97)]
                          refine And.intro (sh_st (st_su (su_of hkk84))) ?_
                          refine pm_C_imp h (fun v hi98 h => ?_)
                          obtain ⟨rfl, h⟩ := h
                          refine ⟨rfl, ?_⟩
                          refine And.intro (fun c99 => ?_) (fun c99 => ?_)
                          · replace h := h.1 c99
                            refine And.intro trivial ?_
                            exact h
                          · replace h := h.2 c99
                            refine And.intro ⟨(sh_su (su_of hkk84)), trivial⟩ ?_
                            refine And.intro trivial ?_
                            exact h
                    · replace h := h.2 c83
                      refine And.intro sh_l16 ?_
                      rw [hr_16_7]
                      obtain ⟨k100, hkk100, hek100, h⟩ := h
                      refine And.intro (pm_ao_of (t := 0) sh_l112 hkk100 hek100 (by decide)) ?_
                      rw [pm_tn hek100 hkk100 (by decide)]
                      rw [(hr_sh hkk100)]
                      refine And.intro (sh_st (st_of hkk100)) ?_
                      refine And.intro (fun c101 => ?_) (fun c101 => ?_)
                      · replace h := h.1 c101
                        refine And.intro sh_l16 ?_
                        rw [hr_16_8]
                        obtain ⟨k102, hkk102, hek102, h⟩ := h
                        refine And.intro (pm_ao_of (t := 0) sh_l121 hkk102 hek102 (by decide)) ?_
                        rw [pm_tn hek102 hkk102 (by decide)]
                        rw [(hr_sl hkk102)]
                        refine And.intro (sh_su (su_of hkk102)) ?_
                        refine And.intro ⟨(sh_su (su_of hkk102)), trivial⟩ ?_
                        refine And.intro (fun c103 => ?_) (fun c103 => ?_)
                        · replace h := h.1 c103
                          refine And.intro (fun c104 => ?_) (fun c104 => ?_)
                          · replace h := h.1 c104
                            refine And.intro (fun c105 => ?_) (fun c105 => ?_)
                            · replace h := h.1 c105
                              refine And.intro trivial ?_
                              exact h
                            · replace h := h.2 c105
                              refine And.intro ⟨(sh_su (su_of hkk102)), trivial⟩ ?_
                              obtain ⟨hi106, ehi106⟩ : ∃ m : pm_B, m = pm_u (pm_u hi (122 + 3 * k102) 0 p2) (122 + 3 * k102) 3 p3 := ⟨_, rfl⟩
                              replace h := h hi106 ehi106
                              rw [← ehi106]
                              refine And.intro trivial ?_
                              exact h
                          · replace h := h.2 c104
                            refine And.intro (sh_su (su_of hkk102)) ?_
                            rw [(hr_su (su_of hkk102))]
                            refine And.intro sh_l16 ?_
                            rw [hr_16_7]
                            obtain ⟨k107, hkk107, hek107, h⟩ := h
                            refine And.intro (pm_ao_of (t := 0) sh_l112 hkk107 hek107 (by decide)) ?_
                            rw [pm_tn hek107 hkk107 (by decide)]
                            rw [(hr_sh hkk107)]
                            refine And.intro (sh_st (st_su (su_of hkk102))) ?_
                            refine pm_C_imp h (fun v hi108 h => ?_)
                            obtain ⟨rfl, h⟩ := h
                            refine ⟨rfl, ?_⟩
                            refine And.intro (fun c109 => ?_) (fun c109 => ?_)
                            · replace h := h.1 c109
                              refine And.intro trivial ?_
                              exact h
                            · replace h := h.2 c109
                              refine And.intro ⟨(sh_su (su_of hkk102)), trivial⟩ ?_
                              refine And.intro trivial ?_
                              exact h
                        · replace h := h.2 c103
                          refine And.intro sh_l16 ?_
                          rw [hr_16_1]
                          refine And.intro sh_l50 ?_
                          rw [hr_50_1]
                          obtain ⟨k110, hkk110, hek110, h⟩ := h
                          refine And.intro (pm_ao_of (t := 0) sh_l51 hkk110 hek110 (by decide)) ?_
                          rw [pm_tn hek110 hkk110 (by decide)]
                          rw [(hr_sp (fo_lit 50 (by decide)) hkk110)]
                          refine And.intro (sh_su (su_of hkk102)) ?_
                          refine v_Slot_holdSpeaker (d := d) (su_of hkk102) (sk_of (fo_lit 50 (by decide)) hkk110) ?_
                          intro hi111 ehi111
                          replace h := h hi111 ehi111
                          refine ⟨rfl, ?_⟩
                          refine And.intro (fun c112 => ?_) (fun c112 => ?_)
                          · replace h := h.1 c112
                            refine And.intro (fun c113 => ?_) (fun c113 => ?_)
                            · replace h := h.1 c113
                              refine And.intro trivial ?_
                              exact h
                            · replace h := h.2 c113
                              refine And.intro ⟨(sh_su (su_of hkk102)), trivial⟩ ?_
                              obtain ⟨hi114, ehi114⟩ : ∃ m : pm_B, m = pm_u hi111 (122 + 3 * k102) 3 p3 := ⟨_, rfl⟩
                              replace h := h hi114 ehi114
                              rw [← ehi114]
                              refine And.intro trivial ?_
                              exact h
                          · replace h := h.2 c112
                            refine And.intro (sh_su (su_of hkk102)) ?_
                            rw [(hr_su (su_of hkk102))]
                            refine And.intro sh_l16 ?_
                            rw [hr_16_7]
                            obtain ⟨k115, hkk115, hek115, h⟩ := h
                            refine And.intro (pm_ao_of (t := 0) sh_l112 hkk115 hek115 (by decide)) ?_
                            rw [pm_tn hek115 hkk115 (by decide)]
                            rw [(hr_sh hkk115)]
                            refine And.intro (sh_st (st_su (su_of hkk102))) ?_
                            refine pm_C_imp h (fun v hi116 h => ?_)
                            obtain ⟨rfl, h⟩ := h
                            refine ⟨rfl, ?_⟩
                            refine And.intro (fun c117 => ?_) (fun c117 => ?_)
                            · replace h := h.1 c117
                              refine And.intro trivial ?_
                              exact h
                            · replace h := h.2 c117
                              refine And.intro ⟨(sh_su (su_of hkk102)), trivial⟩ ?_
                              refine And.intro trivial ?_
                              exact h
                      · replace h := h.2 c101
                        refine And.intro trivial ?_
                        exact h
                  · replace h := h.2 c82
                    refine And.intro trivial ?_
                    refine v_E_isSheet (d := d)  ?_
                    refine And.intro (fun c118 => ?_) (fun c118 => ?_)
                    · replace h := h.1 c118
                      refine ⟨_, rfl, ?_⟩
                      refine And.intro (fun hc => absurd hc (pm_cd_f (by decide))) (fun _ => ?_)
                      refine And.intro trivial ?_
                      exact h
                    · replace h := h.2 c118
                      refine And.intro (fun c119 => ?_) (fun c119 => ?_)
                      · replace h := h.1 c119
                        refine ⟨_, rfl, ?_⟩
                        refine And.intro (fun hc => absurd hc (pm_cd_f (by decide))) (fun _ => ?_)
                        refine And.intro trivial ?_
                        exact h
                      · replace h := h.2 c119
                        refine ⟨_, rfl, ?_⟩
                        refine And.intro (fun _ => ?_) (fun hc => absurd (pm_cd_t (by decide)) hc)
                        refine And.intro (fun c120 => ?_) (fun c120 => ?_)
                        · replace h := h.1 c120
                          refine And.intro sh_l16 ?_
                          rw [hr_16_8]
                          obtain ⟨k121, hkk121, hek121, h⟩ := h
                          refine And.intro (pm_ao_of (t := 0) sh_l121 hkk121 hek121 (by decide)) ?_
                          rw [pm_tn hek121 hkk121 (by decide)]
                          rw [(hr_sl hkk121)]
                          refine And.intro (sh_su (su_of hkk121)) ?_
                          refine And.intro ⟨(sh_su (su_of hkk121)), trivial⟩ ?_
                          refine And.intro (fun c122 => ?_) (fun c122 => ?_)
                          · replace h := h.1 c122
                            refine And.intro (fun c123 => ?_) (fun c123 => ?_)
                            · replace h := h.1 c123
                              refine And.intro (fun c124 => ?_) (fun c124 => ?_)
                              · replace h := h.1 c124
                                refine And.intro trivial ?_
                                exact h
                              · replace h := h.2 c124
                                refine And.intro ⟨(sh_su (su_of hkk121)), trivial⟩ ?_
                                obtain ⟨hi125, ehi125⟩ : ∃ m : pm_B, m = pm_u (pm_u hi (122 + 3 * k121) 0 p2) (122 + 3 * k121) 3 p3 := ⟨_, rfl⟩
                                replace h := h hi125 ehi125
                                rw [← ehi125]
                                refine And.intro trivial ?_
                                exact h
                            · replace h := h.2 c123
                              refine And.intro (sh_su (su_of hkk121)) ?_
                              rw [(hr_su (su_of hkk121))]
                              refine And.intro sh_l16 ?_
                              rw [hr_16_7]
                              obtain ⟨k126, hkk126, hek126, h⟩ := h
                              refine And.intro (pm_ao_of (t := 0) sh_l112 hkk126 hek126 (by decide)) ?_
                              rw [pm_tn hek126 hkk126 (by decide)]
                              rw [(hr_sh hkk126)]
                              refine And.intro (sh_st (st_su (su_of hkk121))) ?_
                              refine pm_C_imp h (fun v hi127 h => ?_)
                              obtain ⟨rfl, h⟩ := h
                              refine ⟨rfl, ?_⟩
                              refine And.intro (fun c128 => ?_) (fun c128 => ?_)
                              · replace h := h.1 c128
                                refine And.intro trivial ?_
                                exact h
                              · replace h := h.2 c128
                                refine And.intro ⟨(sh_su (su_of hkk121)), trivial⟩ ?_
                                refine And.intro trivial ?_
                                exact h
                          · replace h := h.2 c122
                            refine And.intro sh_l16 ?_
                            rw [hr_16_1]
                            refine And.intro sh_l50 ?_
                            rw [hr_50_1]
                            obtain ⟨k129, hkk129, hek129, h⟩ := h
                            refine And.intro (pm_ao_of (t := 0) sh_l51 hkk129 hek129 (by decide)) ?_
                            rw [pm_tn hek129 hkk129 (by decide)]
                            rw [(hr_sp (fo_lit 50 (by decide)) hkk129)]
                            refine And.intro (sh_su (su_of hkk121)) ?_
                            refine v_Slot_holdSpeaker (d := d) (su_of hkk121) (sk_of (fo_lit 50 (by decide)) hkk129) ?_
                            intro hi130 ehi130
                            replace h := h hi130 ehi130
                            refine ⟨rfl, ?_⟩
                            refine And.intro (fun c131 => ?_) (fun c131 => ?_)
                            · replace h := h.1 c131
                              refine And.intro (fun c132 => ?_) (fun c132 => ?_)
                              · replace h := h.1 c132
                                refine And.intro trivial ?_
                                exact h
                              · replace h := h.2 c132
                                refine And.intro ⟨(sh_su (su_of hkk121)), trivial⟩ ?_
                                obtain ⟨hi133, ehi133⟩ : ∃ m : pm_B, m = pm_u hi130 (122 + 3 * k121) 3 p3 := ⟨_, rfl⟩
                                replace h := h hi133 ehi133
                                rw [← ehi133]
                                refine And.intro trivial ?_
                                exact h
                            · replace h := h.2 c131
                              refine And.intro (sh_su (su_of hkk121)) ?_
                              rw [(hr_su (su_of hkk121))]
                              refine And.intro sh_l16 ?_
                              rw [hr_16_7]
                              obtain ⟨k134, hkk134, hek134, h⟩ := h
                              refine And.intro (pm_ao_of (t := 0) sh_l112 hkk134 hek134 (by decide)) ?_
                              rw [pm_tn hek134 hkk134 (by decide)]
                              rw [(hr_sh hkk134)]
                              refine And.intro (sh_st (st_su (su_of hkk121))) ?_
                              refine pm_C_imp h (fun v hi135 h => ?_)
                              obtain ⟨rfl, h⟩ := h
                              refine ⟨rfl, ?_⟩
                              refine And.intro (fun c136 => ?_) (fun c136 => ?_)
                              · replace h := h.1 c136
                                refine And.intro trivial ?_
                                exact h
                              · replace h := h.2 c136
                                refine And.intro ⟨(sh_su (su_of hkk121)), trivial⟩ ?_
                                refine And.intro trivial ?_
                                exact h
                        · replace h := h.2 c120
                          refine And.intro sh_l16 ?_
                          rw [hr_16_7]
                          obtain ⟨k137, hkk137, hek137, h⟩ := h
                          refine And.intro (pm_ao_of (t := 0) sh_l112 hkk137 hek137 (by decide)) ?_
                          rw [pm_tn hek137 hkk137 (by decide)]
                          rw [(hr_sh hkk137)]
                          refine And.intro (sh_st (st_of hkk137)) ?_
                          refine And.intro (fun c138 => ?_) (fun c138 => ?_)
                          · replace h := h.1 c138
                            refine And.intro sh_l16 ?_
                            rw [hr_16_8]
                            obtain ⟨k139, hkk139, hek139, h⟩ := h
                            refine And.intro (pm_ao_of (t := 0) sh_l121 hkk139 hek139 (by decide)) ?_
                            rw [pm_tn hek139 hkk139 (by decide)]
                            rw [(hr_sl hkk139)]
                            refine And.intro (sh_su (su_of hkk139)) ?_
                            refine And.intro ⟨(sh_su (su_of hkk139)), trivial⟩ ?_
                            refine And.intro (fun c140 => ?_) (fun c140 => ?_)
                            · replace h := h.1 c140
                              refine And.intro (fun c141 => ?_) (fun c141 => ?_)
                              · replace h := h.1 c141
                                refine And.intro (fun c142 => ?_) (fun c142 => ?_)
                                · replace h := h.1 c142
                                  refine And.intro trivial ?_
                                  exact h
                                · replace h := h.2 c142
                                  refine And.intro ⟨(sh_su (su_of hkk139)), trivial⟩ ?_
                                  obtain ⟨hi143, ehi143⟩ : ∃ m : pm_B, m = pm_u (pm_u hi (122 + 3 * k139) 0 p2) (122 + 3 * k139) 3 p3 := ⟨_, rfl⟩
                                  replace h := h hi143 ehi143
                                  rw [← ehi143]
                                  refine And.intro trivial ?_
                                  exact h
                              · replace h := h.2 c141
                                refine And.intro (sh_su (su_of hkk139)) ?_
                                rw [(hr_su (su_of hkk139))]
                                refine And.intro sh_l16 ?_
                                rw [hr_16_7]
                                obtain ⟨k144, hkk144, hek144, h⟩ := h
                                refine And.intro (pm_ao_of (t := 0) sh_l112 hkk144 hek144 (by decide)) ?_
                                rw [pm_tn hek144 hkk144 (by decide)]
                                rw [(hr_sh hkk144)]
                                refine And.intro (sh_st (st_su (su_of hkk139))) ?_
                                refine pm_C_imp h (fun v hi145 h => ?_)
                                obtain ⟨rfl, h⟩ := h
                                refine ⟨rfl, ?_⟩
                                refine And.intro (fun c146 => ?_) (fun c146 => ?_)
                                · replace h := h.1 c146
                                  refine And.intro trivial ?_
                                  exact h
                                · replace h := h.2 c146
                                  refine And.intro ⟨(sh_su (su_of hkk139)), trivial⟩ ?_
                                  refine And.intro trivial ?_
                                  exact h
                            · replace h := h.2 c140
                              refine And.intro sh_l16 ?_
                              rw [hr_16_1]
                              refine And.intro sh_l50 ?_
                              rw [hr_50_1]
                              obtain ⟨k147, hkk147, hek147, h⟩ := h
                              refine And.intro (pm_ao_of (t := 0) sh_l51 hkk147 hek147 (by decide)) ?_
                              rw [pm_tn hek147 hkk147 (by decide)]
                              rw [(hr_sp (fo_lit 50 (by decide)) hkk147)]
                              refine And.intro (sh_su (su_of hkk139)) ?_
                              refine v_Slot_holdSpeaker (d := d) (su_of hkk139) (sk_of (fo_lit 50 (by decide)) hkk147) ?_
                              intro hi148 ehi148
                              replace h := h hi148 ehi148
                              refine ⟨rfl, ?_⟩
                              refine And.intro (fun c149 => ?_) (fun c149 => ?_)
                              · replace h := h.1 c149
                                refine And.intro (fun c150 => ?_) (fun c150 => ?_)
                                · replace h := h.1 c150
                                  refine And.intro trivial ?_
                                  exact h
                                · replace h := h.2 c150
                                  refine And.intro ⟨(sh_su (su_of hkk139)), trivial⟩ ?_
                                  obtain ⟨hi151, ehi151⟩ : ∃ m : pm_B, m = pm_u hi148 (122 + 3 * k139) 3 p3 := ⟨_, rfl⟩
                                  replace h := h hi151 ehi151
                                  rw [← ehi151]
                                  refine And.intro trivial ?_
                                  exact h
                              · replace h := h.2 c149
                                refine And.intro (sh_su (su_of hkk139)) ?_
                                rw [(hr_su (su_of hkk139))]
                                refine And.intro sh_l16 ?_
                                rw [hr_16_7]
                                obtain ⟨k152, hkk152, hek152, h⟩ := h
                                refine And.intro (pm_ao_of (t := 0) sh_l112 hkk152 hek152 (by decide)) ?_
                                rw [pm_tn hek152 hkk152 (by decide)]
                                rw [(hr_sh hkk152)]
                                refine And.intro (sh_st (st_su (su_of hkk139))) ?_
                                refine pm_C_imp h (fun v hi153 h => ?_)
                                obtain ⟨rfl, h⟩ := h
                                refine ⟨rfl, ?_⟩
                                refine And.intro (fun c154 => ?_) (fun c154 => ?_)
                                · replace h := h.1 c154
                                  refine And.intro trivial ?_
                                  exact h
                                · replace h := h.2 c154
                                  refine And.intro ⟨(sh_su (su_of hkk139)), trivial⟩ ?_
                                  refine And.intro trivial ?_
                                  exact h
                          · replace h := h.2 c138
                            refine And.intro trivial ?_
                            exact h
        · replace h := h.2 c4
          refine And.intro trivial ?_
          exact h
theorem v_E_ask {L d : Nat} {p1 : Int32} {p2 : Int32} {hi : pm_B} {Q : pm_Q} (h : ((p1 < 0) → Q (some (.inl (-1000000001))) hi) ∧ ((¬ (p1 < 0)) → ((5 ≤ p1) → Q (some (.inl (-1000000001))) hi) ∧ ((¬ (5 ≤ p1)) → ((p2 < 0) → Q (some (.inl (-1000000001))) hi) ∧ ((¬ (p2 < 0)) → ((6 ≤ p2) → Q (some (.inl (-1000000001))) hi) ∧ ((¬ (6 ≤ p2)) → ∃ k5 : Nat, k5 < 5 ∧ p1 = nI k5 ∧ (((¬ (hi (122 + 3 * k5) 0) = 0) → ((¬ (hi (122 + 3 * k5) 0) = 1) → Q (some (.inl (-1000000012))) hi) ∧ ((¬ (¬ (hi (122 + 3 * k5) 0) = 1)) → pm_C pm_g (SH L) HR (d + 1) m_Kinds_isOf [.inl (hi (122 + 3 * k5) 1), .inl p2] hi (fun v hi8 => ∃ x9 : Int32, v = some (.inl x9) ∧ (((¬ x9 = 0) → Q (some (.inl (f_Kinds_worthOf (hi8 (122 + 3 * k5) 1) (hi8 (122 + 3 * k5) 2)))) hi8) ∧ ((¬ (¬ x9 = 0)) → Q (some (.inl (-1000000012))) hi8))))) ∧ ((¬ (¬ (hi (122 + 3 * k5) 0) = 0)) → Q (some (.inl (-1000000011))) hi))))))) : pm_C pm_g (SH L) HR (d + 2) m_E_ask [.inr 16, .inl p1, .inl p2] hi Q := by
  refine pm_C_of (maxL := 4) (t := pm_t110) rfl (Nat.le_of_ble_eq_true rfl) ?_
  refine pm_W_of 31 [] rfl ?_
  refine And.intro trivial ?_
  refine v_E_isSlot (d := d)  ?_
  refine And.intro (fun c1 => ?_) (fun c1 => ?_)
  · replace h := h.1 c1
    refine ⟨_, rfl, ?_⟩
    refine And.intro (fun _ => ?_) (fun hc => absurd (pm_cd_t (by decide)) hc)
    refine And.intro trivial ?_
    exact h
  · replace h := h.2 c1
    refine And.intro (fun c2 => ?_) (fun c2 => ?_)
    · replace h := h.1 c2
      refine ⟨_, rfl, ?_⟩
      refine And.intro (fun _ => ?_) (fun hc => absurd (pm_cd_t (by decide)) hc)
      refine And.intro trivial ?_
      exact h
    · replace h := h.2 c2
      refine ⟨_, rfl, ?_⟩
      refine And.intro (fun hc => absurd hc (pm_cd_f (by decide))) (fun _ => ?_)
      refine And.intro trivial ?_
      refine v_E_isKind (d := d)  ?_
      refine And.intro (fun c3 => ?_) (fun c3 => ?_)
      · replace h := h.1 c3
        refine ⟨_, rfl, ?_⟩
        refine And.intro (fun hc => absurd hc (pm_cd_f (by decide))) (fun _ => ?_)
        refine And.intro trivial ?_
        exact h
      · replace h := h.2 c3
        refine And.intro (fun c4 => ?_) (fun c4 => ?_)
        · replace h := h.1 c4
          refine ⟨_, rfl, ?_⟩
          refine And.intro (fun hc => absurd hc (pm_cd_f (by decide))) (fun _ => ?_)
          refine And.intro trivial ?_
          exact h
        · replace h := h.2 c4
          refine ⟨_, rfl, ?_⟩
          refine And.intro (fun _ => ?_) (fun hc => absurd (pm_cd_t (by decide)) hc)
          refine And.intro sh_l16 ?_
          rw [hr_16_8]
          obtain ⟨k5, hkk5, hek5, h⟩ := h
          refine And.intro (pm_ao_of (t := 0) sh_l121 hkk5 hek5 (by decide)) ?_
          rw [pm_tn hek5 hkk5 (by decide)]
          rw [(hr_sl hkk5)]
          refine And.intro (sh_su (su_of hkk5)) ?_
          refine And.intro (fun c6 => ?_) (fun c6 => ?_)
          · replace h := h.1 c6
            refine And.intro (sh_su (su_of hkk5)) ?_
            refine And.intro (fun c7 => ?_) (fun c7 => ?_)
            · replace h := h.1 c7
              refine And.intro trivial ?_
              exact h
            · replace h := h.2 c7
              refine And.intro (sh_su (su_of hkk5)) ?_
              refine And.intro trivial ?_
              refine pm_C_imp h (fun v hi8 h => ?_)
              obtain ⟨x9, rfl, h⟩ := h
              refine ⟨_, rfl, ?_⟩
              refine And.intro (fun c10 => ?_) (fun c10 => ?_)
              · replace h := h.1 c10
                refine And.intro (sh_su (su_of hkk5)) ?_
                refine And.intro (sh_su (su_of hkk5)) ?_
                refine And.intro trivial ?_
                refine f_Kinds_worthOf_c (d := d)  ?_
                refine ⟨_, rfl, ?_⟩
                refine And.intro trivial ?_
                exact h
              · replace h := h.2 c10
                refine And.intro trivial ?_
                exact h
          · replace h := h.2 c6
            refine And.intro trivial ?_
            exact h
theorem v_E_item {L d : Nat} {p1 : Int32} {p2 : Int32} {hi : pm_B} {Q : pm_Q} (h : ((p1 < 0) → Q (some (.inl (-1000000001))) hi) ∧ ((¬ (p1 < 0)) → ((5 ≤ p1) → Q (some (.inl (-1000000001))) hi) ∧ ((¬ (5 ≤ p1)) → ∃ k3 : Nat, k3 < 5 ∧ p1 = nI k3 ∧ (((¬ (hi (122 + 3 * k3) 0) = 0) → ∃ k5 : Nat, k5 < 5 ∧ p1 = nI k5 ∧ ((((hi (122 + 3 * k5) 0) = 2) → ∃ k7 : Nat, k7 < 5 ∧ p1 = nI k7 ∧ (((p2 < 0) → Q (some (.inl (-1000000013))) hi) ∧ ((¬ (p2 < 0)) → (((hi ((122 + 3 * k7) + 1) 1) ≤ p2) → Q (some (.inl (-1000000013))) hi) ∧ ((¬ ((hi ((122 + 3 * k7) + 1) 1) ≤ p2)) → ((24 ≤ p2) → Q (some (.inl (-1000000013))) hi) ∧ ((¬ (24 ≤ p2)) → ∃ k11 : Nat, k11 < 24 ∧ p2 = nI k11 ∧ (((¬ (hi (((122 + 3 * k7) + 1) + 1) k11) = (-1000000005)) → ∃ k13 : Nat, k13 < 24 ∧ p2 = nI k13 ∧ (Q (some (.inl (hi (((122 + 3 * k7) + 1) + 1) k13))) hi)) ∧ ((¬ (¬ (hi (((122 + 3 * k7) + 1) + 1) k11) = (-1000000005))) → Q (some (.inl (-1000000012))) hi))))))) ∧ ((¬ ((hi (122 + 3 * k5) 0) = 2)) → Q (some (.inl (-1000000012))) hi))) ∧ ((¬ (¬ (hi (122 + 3 * k3) 0) = 0)) → Q (some (.inl (-1000000011))) hi))))) : pm_C pm_g (SH L) HR (d + 2) m_E_item [.inr 16, .inl p1, .inl p2] hi Q := by
  refine pm_C_of (maxL := 4) (t := pm_t111) rfl (Nat.le_of_ble_eq_true rfl) ?_
  refine pm_W_of 39 [] rfl ?_
  refine And.intro trivial ?_
  refine v_E_isSlot (d := d)  ?_
  refine And.intro (fun c1 => ?_) (fun c1 => ?_)
  · replace h := h.1 c1
    refine ⟨_, rfl, ?_⟩
    refine And.intro (fun hc => absurd hc (pm_cd_f (by decide))) (fun _ => ?_)
    refine And.intro trivial ?_
    exact h
  · replace h := h.2 c1
    refine And.intro (fun c2 => ?_) (fun c2 => ?_)
    · replace h := h.1 c2
      refine ⟨_, rfl, ?_⟩
      refine And.intro (fun hc => absurd hc (pm_cd_f (by decide))) (fun _ => ?_)
      refine And.intro trivial ?_
      exact h
    · replace h := h.2 c2
      refine ⟨_, rfl, ?_⟩
      refine And.intro (fun _ => ?_) (fun hc => absurd (pm_cd_t (by decide)) hc)
      refine And.intro sh_l16 ?_
      rw [hr_16_8]
      obtain ⟨k3, hkk3, hek3, h⟩ := h
      refine And.intro (pm_ao_of (t := 0) sh_l121 hkk3 hek3 (by decide)) ?_
      rw [pm_tn hek3 hkk3 (by decide)]
      rw [(hr_sl hkk3)]
      refine And.intro (sh_su (su_of hkk3)) ?_
      refine And.intro (fun c4 => ?_) (fun c4 => ?_)
      · replace h := h.1 c4
        refine And.intro sh_l16 ?_
        rw [hr_16_8]
        obtain ⟨k5, hkk5, hek5, h⟩ := h
        refine And.intro (pm_ao_of (t := 0) sh_l121 hkk5 hek5 (by decide)) ?_
        rw [pm_tn hek5 hkk5 (by decide)]
        rw [(hr_sl hkk5)]
        refine And.intro (sh_su (su_of hkk5)) ?_
        refine And.intro (fun c6 => ?_) (fun c6 => ?_)
        · replace h := h.1 c6
          refine And.intro sh_l16 ?_
          rw [hr_16_8]
          obtain ⟨k7, hkk7, hek7, h⟩ := h
          refine And.intro (pm_ao_of (t := 0) sh_l121 hkk7 hek7 (by decide)) ?_
          rw [pm_tn hek7 hkk7 (by decide)]
          rw [(hr_sl hkk7)]
          refine And.intro (sh_su (su_of hkk7)) ?_
          rw [(hr_su (su_of hkk7))]
          refine And.intro (sh_st (st_su (su_of hkk7))) ?_
          refine v_Sheet_hasPlace (d := d) (st_su (su_of hkk7)) ?_
          refine And.intro (fun c8 => ?_) (fun c8 => ?_)
          · replace h := h.1 c8
            refine ⟨_, rfl, ?_⟩
            refine And.intro (fun hc => absurd hc (pm_cd_f (by decide))) (fun _ => ?_)
            refine And.intro trivial ?_
            exact h
          · replace h := h.2 c8
            refine And.intro (fun c9 => ?_) (fun c9 => ?_)
            · replace h := h.1 c9
              refine ⟨_, rfl, ?_⟩
              refine And.intro (fun hc => absurd hc (pm_cd_f (by decide))) (fun _ => ?_)
              refine And.intro trivial ?_
              exact h
            · replace h := h.2 c9
              refine And.intro (fun c10 => ?_) (fun c10 => ?_)
              · replace h := h.1 c10
                refine ⟨_, rfl, ?_⟩
                refine And.intro (fun hc => absurd hc (pm_cd_f (by decide))) (fun _ => ?_)
                refine And.intro trivial ?_
                exact h
              · replace h := h.2 c10
                refine ⟨_, rfl, ?_⟩
                refine And.intro (fun _ => ?_) (fun hc => absurd (pm_cd_t (by decide)) hc)
                refine And.intro (sh_st (st_su (su_of hkk7))) ?_
                rw [(hr_st (st_su (su_of hkk7)))]
                obtain ⟨k11, hkk11, hek11, h⟩ := h
                refine And.intro (pm_ao_of (t := 0) (sh_st1 (st_su (su_of hkk7))) hkk11 hek11 (by decide)) ?_
                rw [pm_tn hek11 hkk11 (by decide)]
                refine And.intro (fun c12 => ?_) (fun c12 => ?_)
                · replace h := h.1 c12
                  refine And.intro (sh_st (st_su (su_of hkk7))) ?_
                  rw [(hr_st (st_su (su_of hkk7)))]
                  obtain ⟨k13, hkk13, hek13, h⟩ := h
                  refine And.intro (pm_ao_of (t := 0) (sh_st1 (st_su (su_of hkk7))) hkk13 hek13 (by decide)) ?_
                  rw [pm_tn hek13 hkk13 (by decide)]
                  refine And.intro trivial ?_
                  exact h
                · replace h := h.2 c12
                  refine And.intro trivial ?_
                  exact h
        · replace h := h.2 c6
          refine And.intro trivial ?_
          exact h
      · replace h := h.2 c4
        refine And.intro trivial ?_
        exact h
theorem v_E_rest {L d : Nat} {p1 : Int32} {p2 : Int32} {hi : pm_B} {Q : pm_Q} (h : ((p1 < 0) → Q (some (.inl (-1000000001))) hi) ∧ ((¬ (p1 < 0)) → ((5 ≤ p1) → Q (some (.inl (-1000000001))) hi) ∧ ((¬ (5 ≤ p1)) → ∃ k3 : Nat, k3 < 5 ∧ p1 = nI k3 ∧ (((¬ (hi (122 + 3 * k3) 0) = 0) → ∃ k5 : Nat, k5 < 5 ∧ p1 = nI k5 ∧ ((((hi (122 + 3 * k5) 0) = 3) → ((¬ p2 = 0) → ∃ k8 : Nat, k8 < 5 ∧ p1 = nI k8 ∧ ((¬ p2 = 0) ∧ (Q (some (.inl ((hi (122 + 3 * k8) 3) - (hi (122 + 3 * k8) 3) / p2 * p2))) hi))) ∧ ((¬ (¬ p2 = 0)) → Q (some (.inl (-1000000002))) hi)) ∧ ((¬ ((hi (122 + 3 * k5) 0) = 3)) → Q (some (.inl (-1000000012))) hi))) ∧ ((¬ (¬ (hi (122 + 3 * k3) 0) = 0)) → Q (some (.inl (-1000000011))) hi))))) : pm_C pm_g (SH L) HR (d + 2) m_E_rest [.inr 16, .inl p1, .inl p2] hi Q := by
  refine pm_C_of (maxL := 3) (t := pm_t112) rfl (Nat.le_of_ble_eq_true rfl) ?_
  refine pm_W_of 28 [] rfl ?_
  refine And.intro trivial ?_
  refine v_E_isSlot (d := d)  ?_
  refine And.intro (fun c1 => ?_) (fun c1 => ?_)
  · replace h := h.1 c1
    refine ⟨_, rfl, ?_⟩
    refine And.intro (fun hc => absurd hc (pm_cd_f (by decide))) (fun _ => ?_)
    refine And.intro trivial ?_
    exact h
  · replace h := h.2 c1
    refine And.intro (fun c2 => ?_) (fun c2 => ?_)
    · replace h := h.1 c2
      refine ⟨_, rfl, ?_⟩
      refine And.intro (fun hc => absurd hc (pm_cd_f (by decide))) (fun _ => ?_)
      refine And.intro trivial ?_
      exact h
    · replace h := h.2 c2
      refine ⟨_, rfl, ?_⟩
      refine And.intro (fun _ => ?_) (fun hc => absurd (pm_cd_t (by decide)) hc)
      refine And.intro sh_l16 ?_
      rw [hr_16_8]
      obtain ⟨k3, hkk3, hek3, h⟩ := h
      refine And.intro (pm_ao_of (t := 0) sh_l121 hkk3 hek3 (by decide)) ?_
      rw [pm_tn hek3 hkk3 (by decide)]
      rw [(hr_sl hkk3)]
      refine And.intro (sh_su (su_of hkk3)) ?_
      refine And.intro (fun c4 => ?_) (fun c4 => ?_)
      · replace h := h.1 c4
        refine And.intro sh_l16 ?_
        rw [hr_16_8]
        obtain ⟨k5, hkk5, hek5, h⟩ := h
        refine And.intro (pm_ao_of (t := 0) sh_l121 hkk5 hek5 (by decide)) ?_
        rw [pm_tn hek5 hkk5 (by decide)]
        rw [(hr_sl hkk5)]
        refine And.intro (sh_su (su_of hkk5)) ?_
        refine And.intro (fun c6 => ?_) (fun c6 => ?_)
        · replace h := h.1 c6
          refine And.intro (fun c7 => ?_) (fun c7 => ?_)
          · replace h := h.1 c7
            refine And.intro sh_l16 ?_
            rw [hr_16_8]
            obtain ⟨k8, hkk8, hek8, h⟩ := h
            refine And.intro (pm_ao_of (t := 0) sh_l121 hkk8 hek8 (by decide)) ?_
            rw [pm_tn hek8 hkk8 (by decide)]
            rw [(hr_sl hkk8)]
            refine And.intro (sh_su (su_of hkk8)) ?_
            refine And.intro h.1 ?_
            replace h := h.2
            refine And.intro trivial ?_
            exact h
          · replace h := h.2 c7
            refine And.intro trivial ?_
            exact h
        · replace h := h.2 c6
          refine And.intro trivial ?_
          exact h
      · replace h := h.2 c4
        refine And.intro trivial ?_
        exact h
theorem v_E_tell {L d : Nat} {p1 : Int32} {hi : pm_B} {Q : pm_Q} (h : (((hi 16 12) < 0) → Q (some (.inl (-1000000003))) hi) ∧ ((¬ ((hi 16 12) < 0)) → (((hi 16 12) < 60) → ∃ k3 : Nat, k3 < 60 ∧ (hi 16 12) = nI k3 ∧ (∀ hi4 : pm_B, hi4 = pm_u (pm_u hi 140 k3 p1) 16 12 (((pm_u hi 140 k3 p1) 16 12) + 1) → (Q (some (.inl (hi4 16 12))) hi4))) ∧ ((¬ ((hi 16 12) < 60)) → Q (some (.inl (-1000000003))) hi))) : pm_C pm_g (SH L) HR (d + 1) m_E_tell [.inr 16, .inl p1] hi Q := by
  refine pm_C_of (maxL := 2) (t := pm_t113) rfl (Nat.le_of_ble_eq_true rfl) ?_
  refine pm_W_of 26 [] rfl ?_
  refine And.intro sh_l16 ?_
  refine And.intro (fun c1 => ?_) (fun c1 => ?_)
  · replace h := h.1 c1
    refine And.intro trivial ?_
    exact h
  · replace h := h.2 c1
    refine And.intro sh_l16 ?_
    refine And.intro sh_l16 ?_
    rw [hr_16_11]
    refine ⟨60, ⟨0, _, sh_l140⟩, ?_⟩
    rw [show nI 60 = (60 : Int32) from rfl]
    refine And.intro (fun c2 => ?_) (fun c2 => ?_)
    · replace h := h.1 c2
      refine And.intro sh_l16 ?_
      rw [hr_16_11]
      refine And.intro sh_l16 ?_
      obtain ⟨k3, hkk3, hek3, h⟩ := h
      refine And.intro ⟨pm_aw_of sh_l140 hkk3 hek3 (by decide), trivial⟩ ?_
      rw [pm_tn hek3 hkk3 (by decide)]
      refine And.intro sh_l16 ?_
      refine And.intro ⟨sh_l16, trivial⟩ ?_
      obtain ⟨hi4, ehi4⟩ : ∃ m : pm_B, m = pm_u (pm_u hi 140 k3 p1) 16 12 (((pm_u hi 140 k3 p1) 16 12) + 1) := ⟨_, rfl⟩
      replace h := h hi4 ehi4
      rw [← ehi4]
      refine And.intro sh_l16 ?_
      refine And.intro trivial ?_
      exact h
    · replace h := h.2 c2
      refine And.intro trivial ?_
      exact h
theorem v_E_check {L d : Nat} {p1 : Int32} {hi : pm_B} {Q : pm_Q} (h : ((p1 < 1) → Q (some (.inl (-1000000001))) (pm_u hi 16 12 0)) ∧ ((¬ (p1 < 1)) → ((30 < p1) → Q (some (.inl (-1000000001))) (pm_u hi 16 12 0)) ∧ ((¬ (30 < p1)) → ((¬ ((pm_u hi 16 12 0) 16 4) = 0) → pm_C pm_g (SH L) HR (d + 1) m_Folk_become [.inr 88, .inr 69] (pm_u hi 16 12 0) (fun v hi4 => v = none ∧ (pm_W pm_g (SH L) HR (d + 1) pm_t114 50 [some (.inr 16), some (.inl p1), some (.inl (hi 16 12)), some (.inl 0), some (.inl 0)] [] hi4 Q))) ∧ ((¬ (¬ ((pm_u hi 16 12 0) 16 4) = 0)) → Q (some (.inl (-1000000002))) (pm_u hi 16 12 0))))) : pm_C pm_g (SH L) HR (d + 2) m_E_check [.inr 16, .inl p1] hi Q := by
  refine pm_C_of (maxL := 5) (t := pm_t114) rfl (Nat.le_of_ble_eq_true rfl) ?_
  refine pm_W_of 25 [50] rfl ?_
  refine And.intro sh_l16 ?_
  refine And.intro ⟨sh_l16, trivial⟩ ?_
  refine And.intro trivial ?_
  refine v_E_isDays (d := d)  ?_
  refine And.intro (fun c1 => ?_) (fun c1 => ?_)
  · replace h := h.1 c1
    refine ⟨_, rfl, ?_⟩
    refine And.intro (fun hc => absurd hc (pm_cd_f (by decide))) (fun _ => ?_)
    refine And.intro trivial ?_
    exact h
  · replace h := h.2 c1
    refine And.intro (fun c2 => ?_) (fun c2 => ?_)
    · replace h := h.1 c2
      refine ⟨_, rfl, ?_⟩
      refine And.intro (fun hc => absurd hc (pm_cd_f (by decide))) (fun _ => ?_)
      refine And.intro trivial ?_
      exact h
    · replace h := h.2 c2
      refine ⟨_, rfl, ?_⟩
      refine And.intro (fun _ => ?_) (fun hc => absurd (pm_cd_t (by decide)) hc)
      refine And.intro sh_l16 ?_
      refine And.intro (fun c3 => ?_) (fun c3 => ?_)
      · replace h := h.1 c3
        refine And.intro sh_l16 ?_
        rw [hr_16_3]
        refine And.intro sh_l16 ?_
        rw [hr_16_2]
        refine And.intro sh_l88 ?_
        refine pm_C_imp h (fun v hi4 h => ?_)
        obtain ⟨rfl, h⟩ := h
        refine ⟨rfl, ?_⟩
        exact h
      · replace h := h.2 c3
        refine And.intro trivial ?_
        exact h
theorem v_E_check_50 {L d : Nat}  {p1 : Int32} {y2 : Int32} {y3 : Int32} {y4 : Int32} {hi : pm_B} {Q : pm_Q} (h : ((p1 ≤ y4) → ((y2 ≤ y3) → Q (some (.inl 0)) hi) ∧ ((¬ (y2 ≤ y3)) → Q (some (.inl (1 + y3))) hi)) ∧ ((¬ (p1 ≤ y4)) → ((9999 ≤ (hi 88 6)) → ((y2 ≤ y3) → Q (some (.inl 0)) hi) ∧ ((¬ (y2 ≤ y3)) → Q (some (.inl (1 + y3))) hi)) ∧ ((¬ (9999 ≤ (hi 88 6))) → pm_C pm_g (SH L) HR (d + 1) m_Folk_passDay [.inr 88] hi (fun v hi5 => v = none ∧ (((y3 < 0) → Q (some (.inl (1 + y3))) hi5) ∧ ((¬ (y3 < 0)) → ((y2 ≤ y3) → Q (some (.inl (1 + y3))) hi5) ∧ ((¬ (y2 ≤ y3)) → ((60 ≤ y3) → Q (some (.inl (1 + y3))) hi5) ∧ ((¬ (60 ≤ y3)) → ∃ k9 : Nat, k9 < 60 ∧ y3 = nI k9 ∧ (((¬ (hi5 140 k9) = (hi5 88 4)) → Q (some (.inl (1 + y3))) hi5) ∧ ((¬ (¬ (hi5 140 k9) = (hi5 88 4))) → pm_C pm_g (SH L) HR (d + 1) m_Folk_wordsTogether [.inr 88] hi5 (fun v hi11 => ∃ x12 : Int32, v = some (.inl x12) ∧ ((((y3 + 1) < 0) → Q (some (.inl (1 + (y3 + 1)))) hi11) ∧ ((¬ ((y3 + 1) < 0)) → ((y2 ≤ (y3 + 1)) → Q (some (.inl (1 + (y3 + 1)))) hi11) ∧ ((¬ (y2 ≤ (y3 + 1))) → ((60 ≤ (y3 + 1)) → Q (some (.inl (1 + (y3 + 1)))) hi11) ∧ ((¬ (60 ≤ (y3 + 1))) → ∃ k16 : Nat, k16 < 60 ∧ (y3 + 1) = nI k16 ∧ (((¬ (hi11 140 k16) = x12) → Q (some (.inl (1 + (y3 + 1)))) hi11) ∧ ((¬ (¬ (hi11 140 k16) = x12)) → pm_W pm_g (SH L) HR (d + 1) pm_t114 50 [some (.inr 16), some (.inl p1), some (.inl y2), some (.inl ((y3 + 1) + 1)), some (.inl (y4 + 1))] [] hi11 Q))))))))))))))))) : pm_W pm_g (SH L) HR (d + 1) pm_t114 50 [some (.inr 16), some (.inl p1), some (.inl y2), some (.inl y3), some (.inl y4)] [] hi Q := by
  refine pm_W_of 34 [50] rfl ?_
  refine And.intro (fun c1 => ?_) (fun c1 => ?_)
  · replace h := h.1 c1
    refine And.intro (fun c2 => ?_) (fun c2 => ?_)
    · replace h := h.1 c2
      refine And.intro trivial ?_
      exact h
    · replace h := h.2 c2
      refine And.intro trivial ?_
      exact h
  · replace h := h.2 c1
    refine And.intro sh_l16 ?_
    rw [hr_16_3]
    refine And.intro sh_l88 ?_
    refine And.intro (fun c3 => ?_) (fun c3 => ?_)
    · replace h := h.1 c3
      refine And.intro (fun c4 => ?_) (fun c4 => ?_)
      · replace h := h.1 c4
        refine And.intro trivial ?_
        exact h
      · replace h := h.2 c4
        refine And.intro trivial ?_
        exact h
    · replace h := h.2 c3
      refine And.intro sh_l16 ?_
      rw [hr_16_3]
      refine And.intro sh_l88 ?_
      refine pm_C_imp h (fun v hi5 h => ?_)
      obtain ⟨rfl, h⟩ := h
      refine ⟨rfl, ?_⟩
      refine And.intro sh_l16 ?_
      rw [hr_16_3]
      refine And.intro sh_l88 ?_
      refine And.intro sh_l16 ?_
      refine v_E_isTold (d := d)  ?_
      refine And.intro (fun c6 => ?_) (fun c6 => ?_)
      · replace h := h.1 c6
        refine ⟨_, rfl, ?_⟩
        refine And.intro (fun hc => absurd hc (pm_cd_f (by decide))) (fun _ => ?_)
        refine And.intro trivial ?_
        exact h
      · replace h := h.2 c6
        refine And.intro (fun c7 => ?_) (fun c7 => ?_)
        · replace h := h.1 c7
          refine ⟨_, rfl, ?_⟩
          refine And.intro (fun hc => absurd hc (pm_cd_f (by decide))) (fun _ => ?_)
          refine And.intro trivial ?_
          exact h
        · replace h := h.2 c7
          refine And.intro (fun c8 => ?_) (fun c8 => ?_)
          · replace h := h.1 c8
            refine ⟨_, rfl, ?_⟩
            refine And.intro (fun hc => absurd hc (pm_cd_f (by decide))) (fun _ => ?_)
            refine And.intro trivial ?_
            exact h
          · replace h := h.2 c8
            obtain ⟨k9, hkk9, hek9, h⟩ := h
            refine ⟨k9, hkk9, hek9, ?_⟩
            refine And.intro (fun c10 => ?_) (fun c10 => ?_)
            · replace h := h.1 c10
              refine ⟨_, rfl, ?_⟩
              refine And.intro (fun hc => absurd hc (pm_cd_f (by decide))) (fun _ => ?_)
              refine And.intro trivial ?_
              exact h
            · replace h := h.2 c10
              refine ⟨_, rfl, ?_⟩
              refine And.intro (fun _ => ?_) (fun hc => absurd (pm_cd_t (by decide)) hc)
              refine And.intro sh_l16 ?_
              rw [hr_16_3]
              refine And.intro sh_l88 ?_
              refine pm_C_imp h (fun v hi11 h => ?_)
              obtain ⟨x12, rfl, h⟩ := h
              refine ⟨_, rfl, ?_⟩
              refine And.intro sh_l16 ?_
              refine v_E_isTold (d := d)  ?_
              refine And.intro (fun c13 => ?_) (fun c13 => ?_)
              · replace h := h.1 c13
                refine ⟨_, rfl, ?_⟩
                refine And.intro (fun hc => absurd hc (pm_cd_f (by decide))) (fun _ => ?_)
                refine And.intro trivial ?_
                exact h
              · replace h := h.2 c13
                refine And.intro (fun c14 => ?_) (fun c14 => ?_)
                · replace h := h.1 c14
                  refine ⟨_, rfl, ?_⟩
                  refine And.intro (fun hc => absurd hc (pm_cd_f (by decide))) (fun _ => ?_)
                  refine And.intro trivial ?_
                  exact h
                · replace h := h.2 c14
                  refine And.intro (fun c15 => ?_) (fun c15 => ?_)
                  · replace h := h.1 c15
                    refine ⟨_, rfl, ?_⟩
                    refine And.intro (fun hc => absurd hc (pm_cd_f (by decide))) (fun _ => ?_)
                    refine And.intro trivial ?_
                    exact h
                  · replace h := h.2 c15
                    obtain ⟨k16, hkk16, hek16, h⟩ := h
                    refine ⟨k16, hkk16, hek16, ?_⟩
                    refine And.intro (fun c17 => ?_) (fun c17 => ?_)
                    · replace h := h.1 c17
                      refine ⟨_, rfl, ?_⟩
                      refine And.intro (fun hc => absurd hc (pm_cd_f (by decide))) (fun _ => ?_)
                      refine And.intro trivial ?_
                      exact h
                    · replace h := h.2 c17
                      refine ⟨_, rfl, ?_⟩
                      refine And.intro (fun _ => ?_) (fun hc => absurd (pm_cd_t (by decide)) hc)
                      exact h
theorem v_E_keep {L d : Nat}  {hi : pm_B} {Q : pm_Q} (h : pm_C pm_g (SH L) HR (d) m_Folk_become [.inr 69, .inr 50] hi (fun v hi1 => v = none ∧ (Q (some (.inl ((pm_u hi1 16 4 1) 69 2))) (pm_u hi1 16 4 1)))) : pm_C pm_g (SH L) HR (d + 1) m_E_keep [.inr 16] hi Q := by
  refine pm_C_of (maxL := 1) (t := pm_t115) rfl (Nat.le_of_ble_eq_true rfl) ?_
  refine pm_W_of 14 [] rfl ?_
  refine And.intro sh_l16 ?_
  rw [hr_16_2]
  refine And.intro sh_l16 ?_
  rw [hr_16_1]
  refine And.intro sh_l69 ?_
  refine pm_C_imp h (fun v hi1 h => ?_)
  obtain ⟨rfl, h⟩ := h
  refine ⟨rfl, ?_⟩
  refine And.intro ⟨sh_l16, (Or.inr rfl)⟩ ?_
  refine And.intro sh_l16 ?_
  rw [hr_16_2]
  refine And.intro sh_l69 ?_
  refine And.intro trivial ?_
  exact h
theorem v_E_back {L d : Nat}  {hi : pm_B} {Q : pm_Q} (h : ((¬ (hi 16 4) = 0) → pm_C pm_g (SH L) HR (d) m_Folk_become [.inr 50, .inr 69] hi (fun v hi2 => v = none ∧ (Q (some (.inl (hi2 50 2))) hi2))) ∧ ((¬ (¬ (hi 16 4) = 0)) → Q (some (.inl (-1000000002))) hi)) : pm_C pm_g (SH L) HR (d + 1) m_E_back [.inr 16] hi Q := by
  refine pm_C_of (maxL := 1) (t := pm_t116) rfl (Nat.le_of_ble_eq_true rfl) ?_
  refine pm_W_of 14 [] rfl ?_
  refine And.intro sh_l16 ?_
  refine And.intro (fun c1 => ?_) (fun c1 => ?_)
  · replace h := h.1 c1
    refine And.intro sh_l16 ?_
    rw [hr_16_1]
    refine And.intro sh_l16 ?_
    rw [hr_16_2]
    refine And.intro sh_l50 ?_
    refine pm_C_imp h (fun v hi2 h => ?_)
    obtain ⟨rfl, h⟩ := h
    refine ⟨rfl, ?_⟩
    refine And.intro sh_l16 ?_
    rw [hr_16_1]
    refine And.intro sh_l50 ?_
    refine And.intro trivial ?_
    exact h
  · replace h := h.2 c1
    refine And.intro trivial ?_
    exact h
theorem v_E_count {L d : Nat} {p1 : Int32} {hi : pm_B} {Q : pm_Q} (h : ((p1 = 0) → Q (some (.inl (hi 50 2))) hi) ∧ ((¬ p1 = 0) → ((p1 = 1) → Q (some (.inl (hi 50 6))) hi) ∧ ((¬ p1 = 1) → ((p1 = 2) → Q (some (.inl (hi 50 3))) hi) ∧ ((¬ p1 = 2) → ((p1 = 3) → Q (some (.inl (hi 50 8))) hi) ∧ ((¬ p1 = 3) → ((p1 = 4) → Q (some (.inl (hi 16 12))) hi) ∧ ((¬ p1 = 4) → ((p1 = 5) → Q (some (.inl (hi 107 1))) hi) ∧ ((¬ p1 = 5) → ((p1 = 6) → Q (some (.inl (hi 50 7))) hi) ∧ ((¬ p1 = 6) → Q (some (.inl (-1000000001))) hi)))))))) : pm_C pm_g (SH L) HR (d + 1) m_E_count [.inr 16, .inl p1] hi Q := by
  refine pm_C_of (maxL := 2) (t := pm_t117) rfl (Nat.le_of_ble_eq_true rfl) ?_
  refine pm_W_of 8 [] rfl ?_
  intro pc1 hsw
  by_cases c1 : p1 = 0
  · rw [pm_sw_t c1] at hsw
    subst hsw
    replace h := h.1 c1
    refine And.intro sh_l16 ?_
    rw [hr_16_1]
    refine And.intro sh_l50 ?_
    refine And.intro trivial ?_
    exact h
  · rw [pm_sw_f c1] at hsw
    replace h := h.2 c1
    by_cases c2 : p1 = 1
    · rw [pm_sw_t c2] at hsw
      subst hsw
      replace h := h.1 c2
      refine And.intro sh_l16 ?_
      rw [hr_16_1]
      refine And.intro sh_l50 ?_
      refine And.intro trivial ?_
      exact h
    · rw [pm_sw_f c2] at hsw
      replace h := h.2 c2
      by_cases c3 : p1 = 2
      · rw [pm_sw_t c3] at hsw
        subst hsw
        replace h := h.1 c3
        refine And.intro sh_l16 ?_
        rw [hr_16_1]
        refine And.intro sh_l50 ?_
        refine And.intro trivial ?_
        exact h
      · rw [pm_sw_f c3] at hsw
        replace h := h.2 c3
        by_cases c4 : p1 = 3
        · rw [pm_sw_t c4] at hsw
          subst hsw
          replace h := h.1 c4
          refine And.intro sh_l16 ?_
          rw [hr_16_1]
          refine And.intro sh_l50 ?_
          refine And.intro trivial ?_
          exact h
        · rw [pm_sw_f c4] at hsw
          replace h := h.2 c4
          by_cases c5 : p1 = 4
          · rw [pm_sw_t c5] at hsw
            subst hsw
            replace h := h.1 c5
            refine And.intro sh_l16 ?_
            refine And.intro trivial ?_
            exact h
          · rw [pm_sw_f c5] at hsw
            replace h := h.2 c5
            by_cases c6 : p1 = 5
            · rw [pm_sw_t c6] at hsw
              subst hsw
              replace h := h.1 c6
              refine And.intro sh_l16 ?_
              rw [hr_16_5]
              refine And.intro sh_l107 ?_
              refine And.intro trivial ?_
              exact h
            · rw [pm_sw_f c6] at hsw
              replace h := h.2 c6
              by_cases c7 : p1 = 6
              · rw [pm_sw_t c7] at hsw
                subst hsw
                replace h := h.1 c7
                refine And.intro sh_l16 ?_
                rw [hr_16_1]
                refine And.intro sh_l50 ?_
                refine And.intro trivial ?_
                exact h
              · rw [pm_sw_f c7] at hsw
                replace h := h.2 c7
                replace hsw : 97 = pc1 := hsw
                subst hsw
                refine And.intro trivial ?_
                exact h
theorem v_E_putFromWithout {L d : Nat} {p1 : Int32} {p2 : Int32} {hi : pm_B} {Q : pm_Q} (h : ((p2 < 0) → Q (some (.inl p1)) hi) ∧ ((¬ (p2 < 0)) → ((20 ≤ p2) → Q (some (.inl p1)) hi) ∧ ((¬ (20 ≤ p2)) → ((p1 < 0) → Q (some (.inl p1)) hi) ∧ ((¬ (p1 < 0)) → ((p1 < 3) → ∃ k5 : Nat, k5 < 3 ∧ p1 = nI k5 ∧ (Q (some (.inl (p1 + 1))) (pm_u hi 139 k5 p2))) ∧ ((¬ (p1 < 3)) → Q (some (.inl p1)) hi))))) : pm_C pm_g (SH L) HR (d + 2) m_E_putFromWithout [.inr 16, .inl p1, .inl p2] hi Q := by
  refine pm_C_of (maxL := 3) (t := pm_t129) rfl (Nat.le_of_ble_eq_true rfl) ?_
  refine pm_W_of 21 [] rfl ?_
  refine And.intro trivial ?_
  refine v_E_isWord (d := d)  ?_
  refine And.intro (fun c1 => ?_) (fun c1 => ?_)
  · replace h := h.1 c1
    refine ⟨_, rfl, ?_⟩
    refine And.intro (fun _ => ?_) (fun hc => absurd (pm_cd_t (by decide)) hc)
    refine And.intro trivial ?_
    exact h
  · replace h := h.2 c1
    refine And.intro (fun c2 => ?_) (fun c2 => ?_)
    · replace h := h.1 c2
      refine ⟨_, rfl, ?_⟩
      refine And.intro (fun _ => ?_) (fun hc => absurd (pm_cd_t (by decide)) hc)
      refine And.intro trivial ?_
      exact h
    · replace h := h.2 c2
      refine ⟨_, rfl, ?_⟩
      refine And.intro (fun hc => absurd hc (pm_cd_f (by decide))) (fun _ => ?_)
      refine And.intro (fun c3 => ?_) (fun c3 => ?_)
      · replace h := h.1 c3
        refine And.intro trivial ?_
        exact h
      · replace h := h.2 c3
        refine And.intro sh_l16 ?_
        rw [hr_16_10]
        refine ⟨3, ⟨0, _, sh_l139⟩, ?_⟩
        rw [show nI 3 = (3 : Int32) from rfl]
        refine And.intro (fun c4 => ?_) (fun c4 => ?_)
        · replace h := h.1 c4
          refine And.intro sh_l16 ?_
          rw [hr_16_10]
          obtain ⟨k5, hkk5, hek5, h⟩ := h
          refine And.intro ⟨pm_aw_of sh_l139 hkk5 hek5 (by decide), trivial⟩ ?_
          rw [pm_tn hek5 hkk5 (by decide)]
          refine And.intro trivial ?_
          exact h
        · replace h := h.2 c4
          refine And.intro trivial ?_
          exact h
theorem v_E_readSaying {L d : Nat} {p1 : Int32} {hi : pm_B} {Q : pm_Q} (h : ((p1 < 0) → Q (some (.inl (-1000000011))) hi) ∧ ((¬ (p1 < 0)) → ((4 ≤ p1) → Q (some (.inl (-1000000011))) hi) ∧ ((¬ (4 ≤ p1)) → ∃ k3 : Nat, k3 < 4 ∧ p1 = nI k3 ∧ (((¬ (hi (113 + 2 * k3) 0) = (-1)) → ∃ k5 : Nat, k5 < 4 ∧ p1 = nI k5 ∧ (pm_C pm_g (SH L) HR (d + 1) m_Saying_read [.inr 137, .inr (113 + 2 * k5)] hi (fun v hi6 => v = none ∧ (((¬ (hi6 137 1) = 0) → Q (some (.inl 0)) hi6) ∧ ((¬ (¬ (hi6 137 1) = 0)) → Q (some (.inl (-1000000014))) hi6))))) ∧ ((¬ (¬ (hi (113 + 2 * k3) 0) = (-1))) → Q (some (.inl (-1000000011))) hi))))) : pm_C pm_g (SH L) HR (d + 2) m_E_readSaying [.inr 16, .inl p1] hi Q := by
  refine pm_C_of (maxL := 2) (t := pm_t130) rfl (Nat.le_of_ble_eq_true rfl) ?_
  refine pm_W_of 26 [] rfl ?_
  refine And.intro trivial ?_
  refine v_E_isSheet (d := d)  ?_
  refine And.intro (fun c1 => ?_) (fun c1 => ?_)
  · replace h := h.1 c1
    refine ⟨_, rfl, ?_⟩
    refine And.intro (fun _ => ?_) (fun hc => absurd (pm_cd_t (by decide)) hc)
    refine And.intro trivial ?_
    exact h
  · replace h := h.2 c1
    refine And.intro (fun c2 => ?_) (fun c2 => ?_)
    · replace h := h.1 c2
      refine ⟨_, rfl, ?_⟩
      refine And.intro (fun _ => ?_) (fun hc => absurd (pm_cd_t (by decide)) hc)
      refine And.intro trivial ?_
      exact h
    · replace h := h.2 c2
      refine ⟨_, rfl, ?_⟩
      refine And.intro (fun hc => absurd hc (pm_cd_f (by decide))) (fun _ => ?_)
      refine And.intro sh_l16 ?_
      rw [hr_16_7]
      obtain ⟨k3, hkk3, hek3, h⟩ := h
      refine And.intro (pm_ao_of (t := 0) sh_l112 hkk3 hek3 (by decide)) ?_
      rw [pm_tn hek3 hkk3 (by decide)]
      rw [(hr_sh hkk3)]
      refine And.intro (sh_st (st_of hkk3)) ?_
      refine And.intro (fun c4 => ?_) (fun c4 => ?_)
      · replace h := h.1 c4
        refine And.intro sh_l16 ?_
        rw [hr_16_9]
        refine And.intro sh_l16 ?_
        rw [hr_16_7]
        obtain ⟨k5, hkk5, hek5, h⟩ := h
        refine And.intro (pm_ao_of (t := 0) sh_l112 hkk5 hek5 (by decide)) ?_
        rw [pm_tn hek5 hkk5 (by decide)]
        rw [(hr_sh hkk5)]
        refine And.intro sh_l137 ?_
        refine pm_C_imp h (fun v hi6 h => ?_)
        obtain ⟨rfl, h⟩ := h
        refine ⟨rfl, ?_⟩
        refine And.intro sh_l16 ?_
        rw [hr_16_9]
        refine And.intro sh_l137 ?_
        refine And.intro (fun c7 => ?_) (fun c7 => ?_)
        · replace h := h.1 c7
          refine And.intro trivial ?_
          exact h
        · replace h := h.2 c7
          refine And.intro trivial ?_
          exact h
      · replace h := h.2 c4
        refine And.intro trivial ?_
        exact h
theorem v_E_breathsTaught {L d : Nat} {p1 : Int32} {p2 : Int32} {hi : pm_B} {Q : pm_Q} (h : ∃ k1 : Nat, k1 < 8 ∧ p1 = nI k1 ∧ (∃ k2 : Nat, k2 < 8 ∧ p2 = nI k2 ∧ (∃ k3 : Nat, k3 < 8 ∧ p1 = nI k3 ∧ (pm_C pm_g (SH L) HR (d) m_Speaker_become [.inr (88 + 2 + 2 * k1), .inr (50 + 2 + 2 * k3)] hi (fun v hi4 => v = none ∧ (pm_C pm_g (SH L) HR (d) m_Folk_hears [.inr 88, .inr (88 + 2 + 2 * k1), .inr ((50 + 2 + 2 * k2) + 1), .inl 0, .inl (hi4 (50 + 2 + 2 * k2) 4)] hi4 (fun v hi5 => v = none ∧ (pm_C pm_g (SH L) HR (d) m_Saying_breathsOf [.inr 137, .inr (88 + 2 + 2 * k1)] hi5 (fun v hi6 => ∃ x7 : Int32, v = some (.inl x7) ∧ (Q (some (.inl x7)) hi6)))))))))) : pm_C pm_g (SH L) HR (d + 1) m_E_breathsTaught [.inr 16, .inl p1, .inl p2] hi Q := by
  refine pm_C_of (maxL := 5) (t := pm_t131) rfl (Nat.le_of_ble_eq_true rfl) ?_
  refine pm_W_of 35 [] rfl ?_
  refine And.intro sh_l16 ?_
  rw [hr_16_3]
  refine And.intro sh_l88 ?_
  rw [hr_88_1]
  obtain ⟨k1, hkk1, hek1, h⟩ := h
  refine And.intro (pm_ao_of (t := 0) sh_l89 hkk1 hek1 (by decide)) ?_
  rw [pm_tn hek1 hkk1 (by decide)]
  rw [(hr_sp (fo_lit 88 (by decide)) hkk1)]
  refine And.intro sh_l16 ?_
  rw [hr_16_1]
  refine And.intro sh_l50 ?_
  rw [hr_50_1]
  obtain ⟨k2, hkk2, hek2, h⟩ := h
  refine And.intro (pm_ao_of (t := 0) sh_l51 hkk2 hek2 (by decide)) ?_
  rw [pm_tn hek2 hkk2 (by decide)]
  rw [(hr_sp (fo_lit 50 (by decide)) hkk2)]
  refine And.intro sh_l16 ?_
  rw [hr_16_1]
  refine And.intro sh_l50 ?_
  rw [hr_50_1]
  obtain ⟨k3, hkk3, hek3, h⟩ := h
  refine And.intro (pm_ao_of (t := 0) sh_l51 hkk3 hek3 (by decide)) ?_
  rw [pm_tn hek3 hkk3 (by decide)]
  rw [(hr_sp (fo_lit 50 (by decide)) hkk3)]
  refine And.intro (sh_sk (sk_of (fo_lit 88 (by decide)) hkk1)) ?_
  refine pm_C_imp h (fun v hi4 h => ?_)
  obtain ⟨rfl, h⟩ := h
  refine ⟨rfl, ?_⟩
  refine And.intro sh_l16 ?_
  rw [hr_16_3]
  refine And.intro (sh_sk (sk_of (fo_lit 50 (by decide)) hkk2)) ?_
  rw [(hr_sk (sk_of (fo_lit 50 (by decide)) hkk2))]
  refine And.intro (sh_sk (sk_of (fo_lit 50 (by decide)) hkk2)) ?_
  refine And.intro sh_l88 ?_
  refine pm_C_imp h (fun v hi5 h => ?_)
  obtain ⟨rfl, h⟩ := h
  refine ⟨rfl, ?_⟩
  refine And.intro sh_l16 ?_
  rw [hr_16_9]
  refine And.intro sh_l137 ?_
  refine pm_C_imp h (fun v hi6 h => ?_)
  obtain ⟨x7, rfl, h⟩ := h
  refine ⟨_, rfl, ?_⟩
  refine And.intro trivial ?_
  exact h
theorem v_E_spokenWithout {L d : Nat} {p1 : Int32} {p2 : Int32} {hi : pm_B} {Q : pm_Q} (h : pm_C pm_g (SH L) HR (d) m_Folk_become [.inr 88, .inr 50] hi (fun v hi1 => v = none ∧ (∃ k2 : Nat, k2 < 8 ∧ p1 = nI k2 ∧ (pm_C pm_g (SH L) HR (d) m_Speaker_forgetOldest [.inr (88 + 2 + 2 * k2), .inl (hi1 (88 + 2 + 2 * k2) 4)] hi1 (fun v hi3 => v = none ∧ (pm_W pm_g (SH L) HR (d) pm_t132 32 [some (.inr 16), some (.inl p1), some (.inl p2), some (.inr (88 + 2 + 2 * k2)), some (.inl 0)] [] hi3 Q)))))) : pm_C pm_g (SH L) HR (d + 1) m_E_spokenWithout [.inr 16, .inl p1, .inl p2] hi Q := by
  refine pm_C_of (maxL := 5) (t := pm_t132) rfl (Nat.le_of_ble_eq_true rfl) ?_
  refine pm_W_of 19 [32] rfl ?_
  refine And.intro sh_l16 ?_
  rw [hr_16_3]
  refine And.intro sh_l16 ?_
  rw [hr_16_1]
  refine And.intro sh_l88 ?_
  refine pm_C_imp h (fun v hi1 h => ?_)
  obtain ⟨rfl, h⟩ := h
  refine ⟨rfl, ?_⟩
  refine And.intro sh_l16 ?_
  rw [hr_16_3]
  refine And.intro sh_l88 ?_
  rw [hr_88_1]
  obtain ⟨k2, hkk2, hek2, h⟩ := h
  refine And.intro (pm_ao_of (t := 0) sh_l89 hkk2 hek2 (by decide)) ?_
  rw [pm_tn hek2 hkk2 (by decide)]
  rw [(hr_sp (fo_lit 88 (by decide)) hkk2)]
  refine And.intro (sh_sk (sk_of (fo_lit 88 (by decide)) hkk2)) ?_
  refine And.intro (sh_sk (sk_of (fo_lit 88 (by decide)) hkk2)) ?_
  refine pm_C_imp h (fun v hi3 h => ?_)
  obtain ⟨rfl, h⟩ := h
  refine ⟨rfl, ?_⟩
  exact h
theorem v_E_spokenWithout_32 {L d : Nat}  {p1 : Int32} {p2 : Int32} {r3 : Nat} (h_r3 : pm_sk r3) {y4 : Int32} {hi : pm_B} {Q : pm_Q} (h : ((p2 ≤ y4) → Q (some (.inl (hi 88 4))) hi) ∧ ((¬ (p2 ≤ y4)) → pm_C pm_g (SH L) HR (d) m_Folk_passDay [.inr 88] hi (fun v hi2 => v = none ∧ (pm_W pm_g (SH L) HR (d) pm_t132 32 [some (.inr 16), some (.inl p1), some (.inl p2), some (.inr r3), some (.inl (y4 + 1))] [] hi2 Q)))) : pm_W pm_g (SH L) HR (d) pm_t132 32 [some (.inr 16), some (.inl p1), some (.inl p2), some (.inr r3), some (.inl y4)] [] hi Q := by
  refine pm_W_of 10 [32] rfl ?_
  refine And.intro (fun c1 => ?_) (fun c1 => ?_)
  · replace h := h.1 c1
    refine And.intro sh_l16 ?_
    rw [hr_16_3]
    refine And.intro sh_l88 ?_
    refine And.intro trivial ?_
    exact h
  · replace h := h.2 c1
    refine And.intro sh_l16 ?_
    rw [hr_16_3]
    refine And.intro sh_l88 ?_
    refine pm_C_imp h (fun v hi2 h => ?_)
    obtain ⟨rfl, h⟩ := h
    refine ⟨rfl, ?_⟩
    exact h
theorem v_E_unlikeWithEar {L d : Nat} {p1 : Int32} {p2 : Int32} {p3 : Int32} {hi : pm_B} {Q : pm_Q} (h : pm_C pm_g (SH L) HR (d + 1) m_Folk_become [.inr 88, .inr 50] hi (fun v hi1 => v = none ∧ (∃ k2 : Nat, k2 < 8 ∧ p1 = nI k2 ∧ (pm_W pm_g (SH L) HR (d + 1) pm_t133 27 [some (.inr 16), some (.inl p1), some (.inl p2), some (.inl p3), some (.inl 0)] [] (pm_u hi1 (88 + 2 + 2 * k2) 1 p2) Q)))) : pm_C pm_g (SH L) HR (d + 2) m_E_unlikeWithEar [.inr 16, .inl p1, .inl p2, .inl p3] hi Q := by
  refine pm_C_of (maxL := 5) (t := pm_t133) rfl (Nat.le_of_ble_eq_true rfl) ?_
  refine pm_W_of 16 [27] rfl ?_
  refine And.intro sh_l16 ?_
  rw [hr_16_3]
  refine And.intro sh_l16 ?_
  rw [hr_16_1]
  refine And.intro sh_l88 ?_
  refine pm_C_imp h (fun v hi1 h => ?_)
  obtain ⟨rfl, h⟩ := h
  refine ⟨rfl, ?_⟩
  refine And.intro sh_l16 ?_
  rw [hr_16_3]
  refine And.intro sh_l88 ?_
  rw [hr_88_1]
  obtain ⟨k2, hkk2, hek2, h⟩ := h
  refine And.intro (pm_ao_of (t := 0) sh_l89 hkk2 hek2 (by decide)) ?_
  rw [pm_tn hek2 hkk2 (by decide)]
  rw [(hr_sp (fo_lit 88 (by decide)) hkk2)]
  refine And.intro ⟨(sh_sk (sk_of (fo_lit 88 (by decide)) hkk2)), trivial⟩ ?_
  exact h
theorem v_E_unlikeWithEar_27 {L d : Nat}  {p1 : Int32} {p2 : Int32} {p3 : Int32} {y4 : Int32} {hi : pm_B} {Q : pm_Q} (h : ((p3 ≤ y4) → ∃ k2 : Nat, k2 < 8 ∧ p1 = nI k2 ∧ (pm_C pm_g (SH L) HR (d + 1) m_Speaker_wordSet [.inr (88 + 2 + 2 * k2)] hi (fun v hi3 => ∃ x4 : Int32, v = some (.inl x4) ∧ (Q (some (.inl (f_Integer_bitCount x4))) hi3)))) ∧ ((¬ (p3 ≤ y4)) → pm_C pm_g (SH L) HR (d + 1) m_Folk_passDay [.inr 88] hi (fun v hi5 => v = none ∧ (pm_W pm_g (SH L) HR (d + 1) pm_t133 27 [some (.inr 16), some (.inl p1), some (.inl p2), some (.inl p3), some (.inl (y4 + 1))] [] hi5 Q)))) : pm_W pm_g (SH L) HR (d + 1) pm_t133 27 [some (.inr 16), some (.inl p1), some (.inl p2), some (.inl p3), some (.inl y4)] [] hi Q := by
  refine pm_W_of 13 [27] rfl ?_
  refine And.intro (fun c1 => ?_) (fun c1 => ?_)
  · replace h := h.1 c1
    refine And.intro sh_l16 ?_
    rw [hr_16_3]
    refine And.intro sh_l88 ?_
    rw [hr_88_1]
    obtain ⟨k2, hkk2, hek2, h⟩ := h
    refine And.intro (pm_ao_of (t := 0) sh_l89 hkk2 hek2 (by decide)) ?_
    rw [pm_tn hek2 hkk2 (by decide)]
    rw [(hr_sp (fo_lit 88 (by decide)) hkk2)]
    refine And.intro (sh_sk (sk_of (fo_lit 88 (by decide)) hkk2)) ?_
    refine pm_C_imp h (fun v hi3 h => ?_)
    obtain ⟨x4, rfl, h⟩ := h
    refine ⟨_, rfl, ?_⟩
    refine And.intro trivial ?_
    refine f_Integer_bitCount_c (d := d)  ?_
    refine ⟨_, rfl, ?_⟩
    refine And.intro trivial ?_
    exact h
  · replace h := h.2 c1
    refine And.intro sh_l16 ?_
    rw [hr_16_3]
    refine And.intro sh_l88 ?_
    refine pm_C_imp h (fun v hi5 h => ?_)
    obtain ⟨rfl, h⟩ := h
    refine ⟨rfl, ?_⟩
    exact h
