/-! printed by program (wip/whole/vcg.py): what each method needs -/
theorem v_Folk_become {L d : Nat} {this : Nat} (h_this : pm_fo this) {p1 : Nat} (h_p1 : pm_fo p1) {hi : pm_B} {Q : pm_Q} (h : pm_W pm_g (SH L) HR (d) pm_t1 10 [some (.inr this), some (.inr p1), some (.inl 0)] [] (pm_u hi this 2 (hi p1 2)) Q) : pm_C pm_g (SH L) HR (d + 1) m_Folk_become [.inr this, .inr p1] hi Q := by
  refine pm_C_of (maxL := 3) (t := pm_t1) rfl (Nat.le_of_ble_eq_true rfl) ?_
  refine pm_W_of 8 [10, 98] rfl ?_
  refine And.intro (sh_fo h_p1) ?_
  refine And.intro ⟨(sh_fo h_this), trivial⟩ ?_
  exact h
theorem v_Folk_become_10 {L d : Nat}  {this : Nat} (h_this : pm_fo this) {p1 : Nat} (h_p1 : pm_fo p1) {y2 : Int32} {hi : pm_B} {Q : pm_Q} (h : (((hi this 2) ≤ y2) → ∀ hi2 : pm_B, hi2 = pm_u (pm_u hi this 3 (hi p1 3)) this 4 ((pm_u hi this 3 (hi p1 3)) p1 4) → (∀ hi3 : pm_B, hi3 = pm_u (pm_u hi2 this 5 (hi2 p1 5)) this 6 ((pm_u hi2 this 5 (hi2 p1 5)) p1 6) → (∀ hi4 : pm_B, hi4 = pm_u (pm_u hi3 this 7 (hi3 p1 7)) this 8 ((pm_u hi3 this 7 (hi3 p1 7)) p1 8) → (pm_W pm_g (SH L) HR (d) pm_t1 98 [some (.inr this), some (.inr p1), some (.inl 0)] [] hi4 Q)))) ∧ ((¬ ((hi this 2) ≤ y2)) → ((8 ≤ y2) → ∀ hi6 : pm_B, hi6 = pm_u (pm_u hi this 3 (hi p1 3)) this 4 ((pm_u hi this 3 (hi p1 3)) p1 4) → (∀ hi7 : pm_B, hi7 = pm_u (pm_u hi6 this 5 (hi6 p1 5)) this 6 ((pm_u hi6 this 5 (hi6 p1 5)) p1 6) → (∀ hi8 : pm_B, hi8 = pm_u (pm_u hi7 this 7 (hi7 p1 7)) this 8 ((pm_u hi7 this 7 (hi7 p1 7)) p1 8) → (pm_W pm_g (SH L) HR (d) pm_t1 98 [some (.inr this), some (.inr p1), some (.inl 0)] [] hi8 Q)))) ∧ ((¬ (8 ≤ y2)) → ∃ k9 : Nat, k9 < 8 ∧ y2 = nI k9 ∧ (∃ k10 : Nat, k10 < 8 ∧ y2 = nI k10 ∧ (pm_C pm_g (SH L) HR (d) m_Speaker_become [.inr (this + 2 + 2 * k9), .inr (p1 + 2 + 2 * k10)] hi (fun v hi11 => v = none ∧ (pm_W pm_g (SH L) HR (d) pm_t1 10 [some (.inr this), some (.inr p1), some (.inl (y2 + 1))] [] hi11 Q))))))) : pm_W pm_g (SH L) HR (d) pm_t1 10 [some (.inr this), some (.inr p1), some (.inl y2)] [] hi Q := by
  refine pm_W_of 37 [10, 98] rfl ?_
  refine And.intro (sh_fo h_this) ?_
  refine And.intro (fun c1 => ?_) (fun c1 => ?_)
  · replace h := h.1 c1
    refine And.intro (sh_fo h_p1) ?_
    refine And.intro ⟨(sh_fo h_this), trivial⟩ ?_
    refine And.intro (sh_fo h_p1) ?_
    refine And.intro ⟨(sh_fo h_this), trivial⟩ ?_
    obtain ⟨hi2, ehi2⟩ : ∃ m : pm_B, m = pm_u (pm_u hi this 3 (hi p1 3)) this 4 ((pm_u hi this 3 (hi p1 3)) p1 4) := ⟨_, rfl⟩
    replace h := h hi2 ehi2
    rw [← ehi2]
    refine And.intro (sh_fo h_p1) ?_
    refine And.intro ⟨(sh_fo h_this), trivial⟩ ?_
    refine And.intro (sh_fo h_p1) ?_
    refine And.intro ⟨(sh_fo h_this), trivial⟩ ?_
    obtain ⟨hi3, ehi3⟩ : ∃ m : pm_B, m = pm_u (pm_u hi2 this 5 (hi2 p1 5)) this 6 ((pm_u hi2 this 5 (hi2 p1 5)) p1 6) := ⟨_, rfl⟩
    replace h := h hi3 ehi3
    rw [← ehi3]
    refine And.intro (sh_fo h_p1) ?_
    refine And.intro ⟨(sh_fo h_this), trivial⟩ ?_
    refine And.intro (sh_fo h_p1) ?_
    refine And.intro ⟨(sh_fo h_this), trivial⟩ ?_
    obtain ⟨hi4, ehi4⟩ : ∃ m : pm_B, m = pm_u (pm_u hi3 this 7 (hi3 p1 7)) this 8 ((pm_u hi3 this 7 (hi3 p1 7)) p1 8) := ⟨_, rfl⟩
    replace h := h hi4 ehi4
    rw [← ehi4]
    exact h
  · replace h := h.2 c1
    refine And.intro (sh_fo h_this) ?_
    rw [(hr_fo1 h_this)]
    refine ⟨8, ⟨0, _, (sh_fo1 h_this)⟩, ?_⟩
    rw [show nI 8 = (8 : Int32) from rfl]
    refine And.intro (fun c5 => ?_) (fun c5 => ?_)
    · replace h := h.1 c5
      refine And.intro (sh_fo h_p1) ?_
      refine And.intro ⟨(sh_fo h_this), trivial⟩ ?_
      refine And.intro (sh_fo h_p1) ?_
      refine And.intro ⟨(sh_fo h_this), trivial⟩ ?_
      obtain ⟨hi6, ehi6⟩ : ∃ m : pm_B, m = pm_u (pm_u hi this 3 (hi p1 3)) this 4 ((pm_u hi this 3 (hi p1 3)) p1 4) := ⟨_, rfl⟩
      replace h := h hi6 ehi6
      rw [← ehi6]
      refine And.intro (sh_fo h_p1) ?_
      refine And.intro ⟨(sh_fo h_this), trivial⟩ ?_
      refine And.intro (sh_fo h_p1) ?_
      refine And.intro ⟨(sh_fo h_this), trivial⟩ ?_
      obtain ⟨hi7, ehi7⟩ : ∃ m : pm_B, m = pm_u (pm_u hi6 this 5 (hi6 p1 5)) this 6 ((pm_u hi6 this 5 (hi6 p1 5)) p1 6) := ⟨_, rfl⟩
      replace h := h hi7 ehi7
      rw [← ehi7]
      refine And.intro (sh_fo h_p1) ?_
      refine And.intro ⟨(sh_fo h_this), trivial⟩ ?_
      refine And.intro (sh_fo h_p1) ?_
      refine And.intro ⟨(sh_fo h_this), trivial⟩ ?_
      obtain ⟨hi8, ehi8⟩ : ∃ m : pm_B, m = pm_u (pm_u hi7 this 7 (hi7 p1 7)) this 8 ((pm_u hi7 this 7 (hi7 p1 7)) p1 8) := ⟨_, rfl⟩
      replace h := h hi8 ehi8
      rw [← ehi8]
      exact h
    · replace h := h.2 c5
      refine And.intro (sh_fo h_this) ?_
      rw [(hr_fo1 h_this)]
      obtain ⟨k9, hkk9, hek9, h⟩ := h
      refine And.intro (pm_ao_of (t := 0) (sh_fo1 h_this) hkk9 hek9 (by decide)) ?_
      rw [pm_tn hek9 hkk9 (by decide)]
      rw [(hr_sp h_this hkk9)]
      refine And.intro (sh_fo h_p1) ?_
      rw [(hr_fo1 h_p1)]
      obtain ⟨k10, hkk10, hek10, h⟩ := h
      refine And.intro (pm_ao_of (t := 0) (sh_fo1 h_p1) hkk10 hek10 (by decide)) ?_
      rw [pm_tn hek10 hkk10 (by decide)]
      rw [(hr_sp h_p1 hkk10)]
      refine And.intro (sh_sk (sk_of h_this hkk9)) ?_
      refine pm_C_imp h (fun v hi11 h => ?_)
      obtain ⟨rfl, h⟩ := h
      refine ⟨rfl, ?_⟩
      exact h
theorem v_Folk_become_98 {L d : Nat}  {this : Nat} (h_this : pm_fo this) {p1 : Nat} (h_p1 : pm_fo p1) {y2 : Int32} {hi : pm_B} {Q : pm_Q} (h : ((3 ≤ y2) → Q none hi) ∧ ((¬ (3 ≤ y2)) → ∃ k2 : Nat, k2 < 3 ∧ y2 = nI k2 ∧ (∃ k3 : Nat, k3 < 3 ∧ y2 = nI k3 ∧ (pm_W pm_g (SH L) HR (d) pm_t1 98 [some (.inr this), some (.inr p1), some (.inl (y2 + 1))] [] (pm_u hi (this + 18) k3 (hi (p1 + 18) k2)) Q)))) : pm_W pm_g (SH L) HR (d) pm_t1 98 [some (.inr this), some (.inr p1), some (.inl y2)] [] hi Q := by
  refine pm_W_of 17 [10, 98] rfl ?_
  refine And.intro (sh_fo h_this) ?_
  rw [(hr_fo9 h_this)]
  refine ⟨3, ⟨0, _, (sh_fo18 h_this)⟩, ?_⟩
  rw [show nI 3 = (3 : Int32) from rfl]
  refine And.intro (fun c1 => ?_) (fun c1 => ?_)
  · replace h := h.1 c1
    exact h
  · replace h := h.2 c1
    refine And.intro (sh_fo h_this) ?_
    rw [(hr_fo9 h_this)]
    refine And.intro (sh_fo h_p1) ?_
    rw [(hr_fo9 h_p1)]
    obtain ⟨k2, hkk2, hek2, h⟩ := h
    refine And.intro (pm_ao_of (t := 0) (sh_fo18 h_p1) hkk2 hek2 (by decide)) ?_
    rw [pm_tn hek2 hkk2 (by decide)]
    obtain ⟨k3, hkk3, hek3, h⟩ := h
    refine And.intro ⟨pm_aw_of (sh_fo18 h_this) hkk3 hek3 (by decide), trivial⟩ ?_
    rw [pm_tn hek3 hkk3 (by decide)]
    exact h
theorem v_Folk_enter {L d : Nat} {this : Nat} (h_this : pm_fo this) {p1 : Int32} {p2 : Int32} {p3 : Int32} {hi : pm_B} {Q : pm_Q} (h : (((hi this 2) < 0) → Q none hi) ∧ ((¬ ((hi this 2) < 0)) → ((8 ≤ (hi this 2)) → Q none hi) ∧ ((¬ (8 ≤ (hi this 2))) → ∃ k3 : Nat, k3 < 8 ∧ (hi this 2) = nI k3 ∧ (∀ hi4 : pm_B, hi4 = pm_u (pm_u hi (this + 2 + 2 * k3) 0 p1) (this + 2 + 2 * k3) 1 p2 → (∀ hi5 : pm_B, hi5 = pm_u (pm_u hi4 (this + 2 + 2 * k3) 2 p3) (this + 2 + 2 * k3) 3 0 → (∀ hi6 : pm_B, hi6 = pm_u hi5 (this + 2 + 2 * k3) 4 0 → (Q none (pm_u hi6 this 2 ((hi6 this 2) + 1))))))))) : pm_C pm_g (SH L) HR (d + 2) m_Folk_enter [.inr this, .inl p1, .inl p2, .inl p3] hi Q := by
  refine pm_C_of (maxL := 4) (t := pm_t4) rfl (Nat.le_of_ble_eq_true rfl) ?_
  refine pm_W_of 21 [] rfl ?_
  refine And.intro (sh_fo h_this) ?_
  refine v_Folk_hasRoom (d := d) h_this ?_
  refine And.intro (fun c1 => ?_) (fun c1 => ?_)
  · replace h := h.1 c1
    refine ⟨_, rfl, ?_⟩
    refine And.intro (fun hc => absurd hc (pm_cd_f (by decide))) (fun _ => ?_)
    exact h
  · replace h := h.2 c1
    refine And.intro (fun c2 => ?_) (fun c2 => ?_)
    · replace h := h.1 c2
      refine ⟨_, rfl, ?_⟩
      refine And.intro (fun hc => absurd hc (pm_cd_f (by decide))) (fun _ => ?_)
      exact h
    · replace h := h.2 c2
      refine ⟨_, rfl, ?_⟩
      refine And.intro (fun _ => ?_) (fun hc => absurd (pm_cd_t (by decide)) hc)
      refine And.intro (sh_fo h_this) ?_
      rw [(hr_fo1 h_this)]
      refine And.intro (sh_fo h_this) ?_
      obtain ⟨k3, hkk3, hek3, h⟩ := h
      refine And.intro (pm_ao_of (t := 0) (sh_fo1 h_this) hkk3 hek3 (by decide)) ?_
      rw [pm_tn hek3 hkk3 (by decide)]
      rw [(hr_sp h_this hkk3)]
      refine And.intro (sh_sk (sk_of h_this hkk3)) ?_
      refine v_Speaker_begin (d := d) (sk_of h_this hkk3) ?_
      intro hi4 ehi4
      replace h := h hi4 ehi4
      intro hi5 ehi5
      replace h := h hi5 ehi5
      refine ⟨rfl, ?_⟩
      obtain ⟨hi6, ehi6⟩ : ∃ m : pm_B, m = pm_u hi5 (this + 2 + 2 * k3) 4 0 := ⟨_, rfl⟩
      replace h := h hi6 ehi6
      rw [← ehi6]
      refine And.intro (sh_fo h_this) ?_
      refine And.intro ⟨(sh_fo h_this), trivial⟩ ?_
      exact h
theorem v_Folk_enterByLot {L d : Nat} {this : Nat} (h_this : pm_fo this) {hi : pm_B} {Q : pm_Q} (h : pm_C pm_g (SH L) HR (d) m_Folk_drawBelow [.inr this, .inl 6] hi (fun v hi1 => ∃ x2 : Int32, v = some (.inl x2) ∧ (pm_C pm_g (SH L) HR (d) m_Folk_drawBelow [.inr this, .inl 9] hi1 (fun v hi3 => ∃ x4 : Int32, v = some (.inl x4) ∧ (pm_C pm_g (SH L) HR (d) m_Folk_drawBelow [.inr this, .inl 100] hi3 (fun v hi5 => ∃ x6 : Int32, v = some (.inl x6) ∧ (pm_C pm_g (SH L) HR (d) m_Folk_enter [.inr this, .inl x2, .inl (1 + x4), .inl x6] hi5 (fun v hi7 => v = none ∧ (Q none hi7))))))))) : pm_C pm_g (SH L) HR (d + 1) m_Folk_enterByLot [.inr this] hi Q := by
  refine pm_C_of (maxL := 4) (t := pm_t5) rfl (Nat.le_of_ble_eq_true rfl) ?_
  refine pm_W_of 22 [] rfl ?_
  refine And.intro (sh_fo h_this) ?_
  refine pm_C_imp h (fun v hi1 h => ?_)
  obtain ⟨x2, rfl, h⟩ := h
  refine ⟨_, rfl, ?_⟩
  refine And.intro (sh_fo h_this) ?_
  refine pm_C_imp h (fun v hi3 h => ?_)
  obtain ⟨x4, rfl, h⟩ := h
  refine ⟨_, rfl, ?_⟩
  refine And.intro (sh_fo h_this) ?_
  refine pm_C_imp h (fun v hi5 h => ?_)
  obtain ⟨x6, rfl, h⟩ := h
  refine ⟨_, rfl, ?_⟩
  refine And.intro (sh_fo h_this) ?_
  refine pm_C_imp h (fun v hi7 h => ?_)
  obtain ⟨rfl, h⟩ := h
  refine ⟨rfl, ?_⟩
  exact h
theorem v_Folk_drawBelow {L d : Nat} {this : Nat} (h_this : pm_fo this) {p1 : Int32} {hi : pm_B} {Q : pm_Q} (h : ((p1 ≤ 0) → Q (some (.inl 0)) (pm_u hi this 7 (((hi this 7) * 1103515245) + 12345))) ∧ ((¬ (p1 ≤ 0)) → (¬ p1 = 0) ∧ (Q (some (.inl (((Int32.toUInt32 ((pm_u hi this 7 (((hi this 7) * 1103515245) + 12345)) this 7) >>> (Int32.toUInt32 8 &&& Int32.toUInt32 31)).toInt32) - ((Int32.toUInt32 ((pm_u hi this 7 (((hi this 7) * 1103515245) + 12345)) this 7) >>> (Int32.toUInt32 8 &&& Int32.toUInt32 31)).toInt32) / p1 * p1))) (pm_u hi this 7 (((hi this 7) * 1103515245) + 12345))))) : pm_C pm_g (SH L) HR (d + 1) m_Folk_drawBelow [.inr this, .inl p1] hi Q := by
  refine pm_C_of (maxL := 2) (t := pm_t6) rfl (Nat.le_of_ble_eq_true rfl) ?_
  refine pm_W_of 20 [] rfl ?_
  refine And.intro (sh_fo h_this) ?_
  refine And.intro ⟨(sh_fo h_this), trivial⟩ ?_
  refine And.intro (fun c1 => ?_) (fun c1 => ?_)
  · replace h := h.1 c1
    refine And.intro trivial ?_
    exact h
  · replace h := h.2 c1
    refine And.intro (sh_fo h_this) ?_
    refine And.intro h.1 ?_
    replace h := h.2
    refine And.intro trivial ?_
    exact h
theorem v_Folk_keepsOf {L d : Nat} {this : Nat} (h_this : pm_fo this) {p1 : Nat} (h_p1 : pm_sk p1) {p2 : Int32} {hi : pm_B} {Q : pm_Q} (h : ((¬ (hi (this + 18) 0) = (-1000000005)) → pm_C pm_g (SH L) HR (d + 1) m_Laws_valueOf [.inr 17, .inl (hi (this + 18) 0), .inl (hi p1 1), .inl (hi p1 2), .inl p2] hi (fun v hi2 => ∃ x3 : Int32, v = some (.inl x3) ∧ (Q (some (.inl (f_Kinds_keepsOf (hi2 p1 0) (f_E_held x3 0 12)))) hi2))) ∧ ((¬ (¬ (hi (this + 18) 0) = (-1000000005))) → Q (some (.inl (f_Kinds_keepsOf (hi p1 0) (f_E_held 12 0 12)))) hi)) : pm_C pm_g (SH L) HR (d + 2) m_Folk_keepsOf [.inr this, .inr p1, .inl p2] hi Q := by
  refine pm_C_of (maxL := 5) (t := pm_t9) rfl (Nat.le_of_ble_eq_true rfl) ?_
  refine pm_W_of 27 [] rfl ?_
  refine And.intro (sh_fo h_this) ?_
  refine v_Folk_lawOf (d := d) h_this ?_
  refine And.intro (fun hc => absurd hc (by decide)) (fun _ => ?_)
  refine And.intro (fun hc => absurd hc (by decide)) (fun _ => ?_)
  refine ⟨0, by decide, rfl, ?_⟩
  refine ⟨_, rfl, ?_⟩
  refine And.intro (fun c1 => ?_) (fun c1 => ?_)
  · replace h := h.1 c1
    refine And.intro (sh_fo h_this) ?_
    rw [(hr_fo0 h_this)]
    refine And.intro (sh_sk h_p1) ?_
    refine And.intro (sh_sk h_p1) ?_
    refine And.intro sh_l17 ?_
    refine pm_C_imp h (fun v hi2 h => ?_)
    obtain ⟨x3, rfl, h⟩ := h
    refine ⟨_, rfl, ?_⟩
    refine And.intro (sh_sk h_p1) ?_
    refine And.intro trivial ?_
    refine f_E_held_c (d := d)  ?_
    refine ⟨_, rfl, ?_⟩
    refine And.intro trivial ?_
    refine f_Kinds_keepsOf_c (d := d)  ?_
    refine ⟨_, rfl, ?_⟩
    refine And.intro trivial ?_
    exact h
  · replace h := h.2 c1
    refine And.intro (sh_sk h_p1) ?_
    refine And.intro trivial ?_
    refine f_E_held_c (d := d)  ?_
    refine ⟨_, rfl, ?_⟩
    refine And.intro trivial ?_
    refine f_Kinds_keepsOf_c (d := d)  ?_
    refine ⟨_, rfl, ?_⟩
    refine And.intro trivial ?_
    exact h
theorem v_Folk_hears {L d : Nat} {this : Nat} (h_this : pm_fo this) {p1 : Nat} (h_p1 : pm_sk p1) {p2 n_p2 : Nat} (h_p2 : (SH L)[p2]? = some (1, 0, n_p2)) (hl_p2 : n_p2 ≤ 2147483648) {p3 : Int32} {p4 : Int32} {hi : pm_B} {Q : pm_Q} (h : pm_C pm_g (SH L) HR (d + 1) m_Speaker_putBehind [.inr p1, .inr p2, .inl p3, .inl (if (f_Kinds_takesOf (hi p1 0) (hi p1 1)) < p4 then (f_Kinds_takesOf (hi p1 0) (hi p1 1)) else p4)] hi (fun v hi1 => v = none ∧ (pm_W pm_g (SH L) HR (d + 1) pm_t10 31 [some (.inr this), some (.inr p1), some (.inr p2), some (.inl p3), some (.inl p4), some (.inl (hi1 p1 4)), some (.inl 0)] [] hi1 Q))) : pm_C pm_g (SH L) HR (d + 2) m_Folk_hears [.inr this, .inr p1, .inr p2, .inl p3, .inl p4] hi Q := by
  refine pm_C_of (maxL := 7) (t := pm_t10) rfl (Nat.le_of_ble_eq_true rfl) ?_
  refine pm_W_of 18 [31] rfl ?_
  refine And.intro (sh_sk h_p1) ?_
  refine And.intro (sh_sk h_p1) ?_
  refine And.intro trivial ?_
  refine f_Kinds_takesOf_c (d := d)  ?_
  refine ⟨_, rfl, ?_⟩
  refine And.intro (sh_sk h_p1) ?_
  refine pm_C_imp h (fun v hi1 h => ?_)
  obtain ⟨rfl, h⟩ := h
  refine ⟨rfl, ?_⟩
  refine And.intro (sh_sk h_p1) ?_
  exact h
theorem v_Folk_hears_31 {L d : Nat}  {this : Nat} (h_this : pm_fo this) {p1 : Nat} (h_p1 : pm_sk p1) {p2 n_p2 : Nat} (h_p2 : (SH L)[p2]? = some (1, 0, n_p2)) (hl_p2 : n_p2 ≤ 2147483648) {p3 : Int32} {p4 : Int32} {y5 : Int32} {y6 : Int32} {hi : pm_B} {Q : pm_Q} (h : ((24 ≤ y6) → pm_C pm_g (SH L) HR (d + 1) m_Speaker_forgetOldest [.inr p1, .inl (((pm_u hi this 5 ((hi this 5) + ((hi p1 4) - y5))) p1 4) - y5)] (pm_u hi this 5 ((hi this 5) + ((hi p1 4) - y5))) (fun v hi2 => v = none ∧ (Q none hi2))) ∧ ((¬ (24 ≤ y6)) → pm_C pm_g (SH L) HR (d + 1) m_Folk_keepsOf [.inr this, .inr p1, .inl y5] hi (fun v hi3 => ∃ x4 : Int32, v = some (.inl x4) ∧ (((y5 ≤ x4) → pm_C pm_g (SH L) HR (d + 1) m_Speaker_forgetOldest [.inr p1, .inl (((pm_u hi3 this 5 ((hi3 this 5) + ((hi3 p1 4) - y5))) p1 4) - y5)] (pm_u hi3 this 5 ((hi3 this 5) + ((hi3 p1 4) - y5))) (fun v hi6 => v = none ∧ (Q none hi6))) ∧ ((¬ (y5 ≤ x4)) → pm_W pm_g (SH L) HR (d + 1) pm_t10 31 [some (.inr this), some (.inr p1), some (.inr p2), some (.inl p3), some (.inl p4), some (.inl (y5 + (-1))), some (.inl (y6 + 1))] [] hi3 Q))))) : pm_W pm_g (SH L) HR (d + 1) pm_t10 31 [some (.inr this), some (.inr p1), some (.inr p2), some (.inl p3), some (.inl p4), some (.inl y5), some (.inl y6)] [] hi Q := by
  refine pm_W_of 29 [31] rfl ?_
  refine And.intro (sh_sk h_p1) ?_
  rw [(hr_sk h_p1)]
  refine ⟨24, ⟨0, _, (sh_sk1 h_p1)⟩, ?_⟩
  rw [show nI 24 = (24 : Int32) from rfl]
  refine And.intro (fun c1 => ?_) (fun c1 => ?_)
  · replace h := h.1 c1
    refine And.intro (sh_fo h_this) ?_
    refine And.intro (sh_sk h_p1) ?_
    refine And.intro ⟨(sh_fo h_this), trivial⟩ ?_
    refine And.intro (sh_sk h_p1) ?_
    refine And.intro (sh_sk h_p1) ?_
    refine pm_C_imp h (fun v hi2 h => ?_)
    obtain ⟨rfl, h⟩ := h
    refine ⟨rfl, ?_⟩
    exact h
  · replace h := h.2 c1
    refine And.intro (sh_fo h_this) ?_
    refine pm_C_imp h (fun v hi3 h => ?_)
    obtain ⟨x4, rfl, h⟩ := h
    refine ⟨_, rfl, ?_⟩
    refine And.intro (fun c5 => ?_) (fun c5 => ?_)
    · replace h := h.1 c5
      refine And.intro (sh_fo h_this) ?_
      refine And.intro (sh_sk h_p1) ?_
      refine And.intro ⟨(sh_fo h_this), trivial⟩ ?_
      refine And.intro (sh_sk h_p1) ?_
      refine And.intro (sh_sk h_p1) ?_
      refine pm_C_imp h (fun v hi6 h => ?_)
      obtain ⟨rfl, h⟩ := h
      refine ⟨rfl, ?_⟩
      exact h
    · replace h := h.2 c5
      exact h
theorem v_Folk_speakTo {L d : Nat} {this : Nat} (h_this : pm_fo this) {p1 : Nat} (h_p1 : pm_sk p1) {p2 : Nat} (h_p2 : pm_sk p2) {p3 : Int32} {hi : pm_B} {Q : pm_Q} (h : pm_C pm_g (SH L) HR (d + 1) m_Folk_hears [.inr this, .inr p2, .inr (p1 + 1), .inl p3, .inl (if ((hi p1 4) - p3) < (f_Kinds_goesOf (hi p1 0)) then ((hi p1 4) - p3) else (f_Kinds_goesOf (hi p1 0)))] hi (fun v hi1 => v = none ∧ (∀ hi2 : pm_B, hi2 = pm_u (pm_u hi1 p1 3 ((hi1 p1 3) + (if ((hi p1 4) - p3) < (f_Kinds_goesOf (hi p1 0)) then ((hi p1 4) - p3) else (f_Kinds_goesOf (hi p1 0))))) this 4 (((pm_u hi1 p1 3 ((hi1 p1 3) + (if ((hi p1 4) - p3) < (f_Kinds_goesOf (hi p1 0)) then ((hi p1 4) - p3) else (f_Kinds_goesOf (hi p1 0))))) this 4) + 1) → (Q (some (.inl (if ((hi p1 4) - p3) < (f_Kinds_goesOf (hi p1 0)) then ((hi p1 4) - p3) else (f_Kinds_goesOf (hi p1 0))))) hi2)))) : pm_C pm_g (SH L) HR (d + 2) m_Folk_speakTo [.inr this, .inr p1, .inr p2, .inl p3] hi Q := by
  refine pm_C_of (maxL := 5) (t := pm_t11) rfl (Nat.le_of_ble_eq_true rfl) ?_
  refine pm_W_of 32 [] rfl ?_
  refine And.intro (sh_sk h_p1) ?_
  refine And.intro trivial ?_
  refine f_Kinds_goesOf_c (d := d)  ?_
  refine ⟨_, rfl, ?_⟩
  refine And.intro (sh_sk h_p1) ?_
  refine And.intro (sh_sk h_p1) ?_
  rw [(hr_sk h_p1)]
  refine And.intro (sh_fo h_this) ?_
  refine pm_C_imp h (fun v hi1 h => ?_)
  obtain ⟨rfl, h⟩ := h
  refine ⟨rfl, ?_⟩
  refine And.intro (sh_sk h_p1) ?_
  refine And.intro ⟨(sh_sk h_p1), trivial⟩ ?_
  refine And.intro (sh_fo h_this) ?_
  refine And.intro ⟨(sh_fo h_this), trivial⟩ ?_
  obtain ⟨hi2, ehi2⟩ : ∃ m : pm_B, m = pm_u (pm_u hi1 p1 3 ((hi1 p1 3) + (if ((hi p1 4) - p3) < (f_Kinds_goesOf (hi p1 0)) then ((hi p1 4) - p3) else (f_Kinds_goesOf (hi p1 0))))) this 4 (((pm_u hi1 p1 3 ((hi1 p1 3) + (if ((hi p1 4) - p3) < (f_Kinds_goesOf (hi p1 0)) then ((hi p1 4) - p3) else (f_Kinds_goesOf (hi p1 0))))) this 4) + 1) := ⟨_, rfl⟩
  replace h := h hi2 ehi2
  rw [← ehi2]
  refine And.intro trivial ?_
  exact h
theorem v_Folk_passDay {L d : Nat} {this : Nat} (h_this : pm_fo this) {hi : pm_B} {Q : pm_Q} (h : pm_C pm_g (SH L) HR (d + 1) m_Folk_drawBelow [.inr this, .inl 100] hi (fun v hi1 => ∃ x2 : Int32, v = some (.inl x2) ∧ ((((hi1 this 3) ≤ x2) → Q none (pm_u hi1 this 6 ((hi1 this 6) + 1))) ∧ ((¬ ((hi1 this 3) ≤ x2)) → (((hi1 this 2) < 2) → Q none (pm_u hi1 this 6 ((hi1 this 6) + 1))) ∧ ((¬ ((hi1 this 2) < 2)) → pm_C pm_g (SH L) HR (d + 1) m_Folk_drawBelow [.inr this, .inl ((pm_u hi1 this 6 ((hi1 this 6) + 1)) this 2)] (pm_u hi1 this 6 ((hi1 this 6) + 1)) (fun v hi5 => ∃ x6 : Int32, v = some (.inl x6) ∧ (pm_C pm_g (SH L) HR (d + 1) m_Folk_drawBelow [.inr this, .inl ((hi5 this 2) - 1)] hi5 (fun v hi7 => ∃ x8 : Int32, v = some (.inl x8) ∧ (((x8 < x6) → ((x6 < 0) → Q none hi7) ∧ ((¬ (x6 < 0)) → (((hi7 this 2) ≤ x6) → Q none hi7) ∧ ((¬ ((hi7 this 2) ≤ x6)) → ((8 ≤ x6) → Q none hi7) ∧ ((¬ (8 ≤ x6)) → ((x8 < 0) → Q none hi7) ∧ ((¬ (x8 < 0)) → (((hi7 this 2) ≤ x8) → Q none hi7) ∧ ((¬ ((hi7 this 2) ≤ x8)) → ((8 ≤ x8) → Q none hi7) ∧ ((¬ (8 ≤ x8)) → ∃ k16 : Nat, k16 < 8 ∧ x6 = nI k16 ∧ ((((hi7 (this + 2 + 2 * k16) 4) ≤ 0) → Q none hi7) ∧ ((¬ ((hi7 (this + 2 + 2 * k16) 4) ≤ 0)) → ∃ k18 : Nat, k18 < 8 ∧ x8 = nI k18 ∧ (pm_C pm_g (SH L) HR (d + 1) m_Folk_drawBelow [.inr this, .inl (hi7 (this + 2 + 2 * k16) 4)] hi7 (fun v hi19 => ∃ x20 : Int32, v = some (.inl x20) ∧ (pm_C pm_g (SH L) HR (d + 1) m_Folk_speakTo [.inr this, .inr (this + 2 + 2 * k16), .inr (this + 2 + 2 * k18), .inl x20] hi19 (fun v hi21 => ∃ x22 : Int32, v = some (.inl x22) ∧ (Q none hi21)))))))))))))) ∧ ((¬ (x8 < x6)) → ((x6 < 0) → Q none hi7) ∧ ((¬ (x6 < 0)) → (((hi7 this 2) ≤ x6) → Q none hi7) ∧ ((¬ ((hi7 this 2) ≤ x6)) → ((8 ≤ x6) → Q none hi7) ∧ ((¬ (8 ≤ x6)) → (((x8 + 1) < 0) → Q none hi7) ∧ ((¬ ((x8 + 1) < 0)) → (((hi7 this 2) ≤ (x8 + 1)) → Q none hi7) ∧ ((¬ ((hi7 this 2) ≤ (x8 + 1))) → ((8 ≤ (x8 + 1)) → Q none hi7) ∧ ((¬ (8 ≤ (x8 + 1))) → ∃ k29 : Nat, k29 < 8 ∧ x6 = nI k29 ∧ ((((hi7 (this + 2 + 2 * k29) 4) ≤ 0) → Q none hi7) ∧ ((¬ ((hi7 (this + 2 + 2 * k29) 4) ≤ 0)) → ∃ k31 : Nat, k31 < 8 ∧ (x8 + 1) = nI k31 ∧ (pm_C pm_g (SH L) HR (d + 1) m_Folk_drawBelow [.inr this, .inl (hi7 (this + 2 + 2 * k29) 4)] hi7 (fun v hi32 => ∃ x33 : Int32, v = some (.inl x33) ∧ (pm_C pm_g (SH L) HR (d + 1) m_Folk_speakTo [.inr this, .inr (this + 2 + 2 * k29), .inr (this + 2 + 2 * k31), .inl x33] hi32 (fun v hi34 => ∃ x35 : Int32, v = some (.inl x35) ∧ (Q none hi34))))))))))))))))))))))) : pm_C pm_g (SH L) HR (d + 2) m_Folk_passDay [.inr this] hi Q := by
  refine pm_C_of (maxL := 5) (t := pm_t12) rfl (Nat.le_of_ble_eq_true rfl) ?_
  refine pm_W_of 68 [] rfl ?_
  refine And.intro (sh_fo h_this) ?_
  refine pm_C_imp h (fun v hi1 h => ?_)
  obtain ⟨x2, rfl, h⟩ := h
  refine ⟨_, rfl, ?_⟩
  refine And.intro (sh_fo h_this) ?_
  refine And.intro (fun c3 => ?_) (fun c3 => ?_)
  · replace h := h.1 c3
    refine And.intro (sh_fo h_this) ?_
    refine And.intro ⟨(sh_fo h_this), trivial⟩ ?_
    refine And.intro (fun hc => absurd hc (pm_cd_f (by decide))) (fun _ => ?_)
    exact h
  · replace h := h.2 c3
    refine And.intro (sh_fo h_this) ?_
    refine And.intro (fun c4 => ?_) (fun c4 => ?_)
    · replace h := h.1 c4
      refine And.intro (sh_fo h_this) ?_
      refine And.intro ⟨(sh_fo h_this), trivial⟩ ?_
      refine And.intro (fun hc => absurd hc (pm_cd_f (by decide))) (fun _ => ?_)
      exact h
    · replace h := h.2 c4
      refine And.intro (sh_fo h_this) ?_
      refine And.intro ⟨(sh_fo h_this), trivial⟩ ?_
      refine And.intro (fun _ => ?_) (fun hc => absurd (pm_cd_t (by decide)) hc)
      refine And.intro (sh_fo h_this) ?_
      refine And.intro (sh_fo h_this) ?_
      refine pm_C_imp h (fun v hi5 h => ?_)
      obtain ⟨x6, rfl, h⟩ := h
      refine ⟨_, rfl, ?_⟩
      refine And.intro (sh_fo h_this) ?_
      refine And.intro (sh_fo h_this) ?_
      refine pm_C_imp h (fun v hi7 h => ?_)
      obtain ⟨x8, rfl, h⟩ := h
      refine ⟨_, rfl, ?_⟩
      refine And.intro (fun c9 => ?_) (fun c9 => ?_)
      · replace h := h.1 c9
        refine And.intro (sh_fo h_this) ?_
        refine v_Folk_hasSpeaker (d := d) h_this ?_
        refine And.intro (fun c10 => ?_) (fun c10 => ?_)
        · replace h := h.1 c10
          refine ⟨_, rfl, ?_⟩
          refine And.intro (fun _ => ?_) (fun hc => absurd (pm_cd_t (by decide)) hc)
          exact h
        · replace h := h.2 c10
          refine And.intro (fun c11 => ?_) (fun c11 => ?_)
          · replace h := h.1 c11
            refine ⟨_, rfl, ?_⟩
            refine And.intro (fun _ => ?_) (fun hc => absurd (pm_cd_t (by decide)) hc)
            exact h
          · replace h := h.2 c11
            refine And.intro (fun c12 => ?_) (fun c12 => ?_)
            · replace h := h.1 c12
              refine ⟨_, rfl, ?_⟩
              refine And.intro (fun _ => ?_) (fun hc => absurd (pm_cd_t (by decide)) hc)
              exact h
            · replace h := h.2 c12
              refine ⟨_, rfl, ?_⟩
              refine And.intro (fun hc => absurd hc (pm_cd_f (by decide))) (fun _ => ?_)
              refine And.intro (sh_fo h_this) ?_
              refine v_Folk_hasSpeaker (d := d) h_this ?_
              refine And.intro (fun c13 => ?_) (fun c13 => ?_)
              · replace h := h.1 c13
                refine ⟨_, rfl, ?_⟩
                refine And.intro (fun hc => absurd hc (pm_cd_f (by decide))) (fun _ => ?_)
                exact h
              · replace h := h.2 c13
                refine And.intro (fun c14 => ?_) (fun c14 => ?_)
                · replace h := h.1 c14
                  refine ⟨_, rfl, ?_⟩
                  refine And.intro (fun hc => absurd hc (pm_cd_f (by decide))) (fun _ => ?_)
                  exact h
                · replace h := h.2 c14
                  refine And.intro (fun c15 => ?_) (fun c15 => ?_)
                  · replace h := h.1 c15
                    refine ⟨_, rfl, ?_⟩
                    refine And.intro (fun hc => absurd hc (pm_cd_f (by decide))) (fun _ => ?_)
                    exact h
                  · replace h := h.2 c15
                    refine ⟨_, rfl, ?_⟩
                    refine And.intro (fun _ => ?_) (fun hc => absurd (pm_cd_t (by decide)) hc)
                    refine And.intro (sh_fo h_this) ?_
                    rw [(hr_fo1 h_this)]
                    obtain ⟨k16, hkk16, hek16, h⟩ := h
                    refine And.intro (pm_ao_of (t := 0) (sh_fo1 h_this) hkk16 hek16 (by decide)) ?_
                    rw [pm_tn hek16 hkk16 (by decide)]
                    rw [(hr_sp h_this hkk16)]
                    refine And.intro (sh_sk (sk_of h_this hkk16)) ?_
                    refine And.intro (fun c17 => ?_) (fun c17 => ?_)
                    · replace h := h.1 c17
                      exact h
                    · replace h := h.2 c17
                      refine And.intro (sh_fo h_this) ?_
                      rw [(hr_fo1 h_this)]
                      obtain ⟨k18, hkk18, hek18, h⟩ := h
                      refine And.intro (pm_ao_of (t := 0) (sh_fo1 h_this) hkk18 hek18 (by decide)) ?_
                      rw [pm_tn hek18 hkk18 (by decide)]
                      rw [(hr_sp h_this hkk18)]
                      refine And.intro (sh_sk (sk_of h_this hkk16)) ?_
                      refine And.intro (sh_fo h_this) ?_
                      refine pm_C_imp h (fun v hi19 h => ?_)
                      obtain ⟨x20, rfl, h⟩ := h
                      refine ⟨_, rfl, ?_⟩
                      refine And.intro (sh_fo h_this) ?_
                      refine pm_C_imp h (fun v hi21 h => ?_)
                      obtain ⟨x22, rfl, h⟩ := h
                      refine ⟨_, rfl, ?_⟩
                      exact h
      · replace h := h.2 c9
        refine And.intro (sh_fo h_this) ?_
        refine v_Folk_hasSpeaker (d := d) h_this ?_
        refine And.intro (fun c23 => ?_) (fun c23 => ?_)
        · replace h := h.1 c23
          refine ⟨_, rfl, ?_⟩
          refine And.intro (fun _ => ?_) (fun hc => absurd (pm_cd_t (by decide)) hc)
          exact h
        · replace h := h.2 c23
          refine And.intro (fun c24 => ?_) (fun c24 => ?_)
          · replace h := h.1 c24
            refine ⟨_, rfl, ?_⟩
            refine And.intro (fun _ => ?_) (fun hc => absurd (pm_cd_t (by decide)) hc)
            exact h
          · replace h := h.2 c24
            refine And.intro (fun c25 => ?_) (fun c25 => ?_)
            · replace h := h.1 c25
              refine ⟨_, rfl, ?_⟩
              refine And.intro (fun _ => ?_) (fun hc => absurd (pm_cd_t (by decide)) hc)
              exact h
            · replace h := h.2 c25
              refine ⟨_, rfl, ?_⟩
              refine And.intro (fun hc => absurd hc (pm_cd_f (by decide))) (fun _ => ?_)
              refine And.intro (sh_fo h_this) ?_
              refine v_Folk_hasSpeaker (d := d) h_this ?_
              refine And.intro (fun c26 => ?_) (fun c26 => ?_)
              · replace h := h.1 c26
                refine ⟨_, rfl, ?_⟩
                refine And.intro (fun hc => absurd hc (pm_cd_f (by decide))) (fun _ => ?_)
                exact h
              · replace h := h.2 c26
                refine And.intro (fun c27 => ?_) (fun c27 => ?_)
                · replace h := h.1 c27
                  refine ⟨_, rfl, ?_⟩
                  refine And.intro (fun hc => absurd hc (pm_cd_f (by decide))) (fun _ => ?_)
                  exact h
                · replace h := h.2 c27
                  refine And.intro (fun c28 => ?_) (fun c28 => ?_)
                  · replace h := h.1 c28
                    refine ⟨_, rfl, ?_⟩
                    refine And.intro (fun hc => absurd hc (pm_cd_f (by decide))) (fun _ => ?_)
                    exact h
                  · replace h := h.2 c28
                    refine ⟨_, rfl, ?_⟩
                    refine And.intro (fun _ => ?_) (fun hc => absurd (pm_cd_t (by decide)) hc)
                    refine And.intro (sh_fo h_this) ?_
                    rw [(hr_fo1 h_this)]
                    obtain ⟨k29, hkk29, hek29, h⟩ := h
                    refine And.intro (pm_ao_of (t := 0) (sh_fo1 h_this) hkk29 hek29 (by decide)) ?_
                    rw [pm_tn hek29 hkk29 (by decide)]
                    rw [(hr_sp h_this hkk29)]
                    refine And.intro (sh_sk (sk_of h_this hkk29)) ?_
                    refine And.intro (fun c30 => ?_) (fun c30 => ?_)
                    · replace h := h.1 c30
                      exact h
                    · replace h := h.2 c30
                      refine And.intro (sh_fo h_this) ?_
                      rw [(hr_fo1 h_this)]
                      obtain ⟨k31, hkk31, hek31, h⟩ := h
                      refine And.intro (pm_ao_of (t := 0) (sh_fo1 h_this) hkk31 hek31 (by decide)) ?_
                      rw [pm_tn hek31 hkk31 (by decide)]
                      rw [(hr_sp h_this hkk31)]
                      refine And.intro (sh_sk (sk_of h_this hkk29)) ?_
                      refine And.intro (sh_fo h_this) ?_
                      refine pm_C_imp h (fun v hi32 h => ?_)
                      obtain ⟨x33, rfl, h⟩ := h
                      refine ⟨_, rfl, ?_⟩
                      refine And.intro (sh_fo h_this) ?_
                      refine pm_C_imp h (fun v hi34 h => ?_)
                      obtain ⟨x35, rfl, h⟩ := h
                      refine ⟨_, rfl, ?_⟩
                      exact h
theorem v_Folk_wordsTogether {L d : Nat} {this : Nat} (h_this : pm_fo this) {hi : pm_B} {Q : pm_Q} (h : pm_W pm_g (SH L) HR (d) pm_t13 4 [some (.inr this), some (.inl 0), some (.inl 0)] [] hi Q) : pm_C pm_g (SH L) HR (d + 1) m_Folk_wordsTogether [.inr this] hi Q := by
  refine pm_C_of (maxL := 3) (t := pm_t13) rfl (Nat.le_of_ble_eq_true rfl) ?_
  refine pm_W_of 6 [4] rfl ?_
  exact h
theorem v_Folk_wordsTogether_4 {L d : Nat}  {this : Nat} (h_this : pm_fo this) {y1 : Int32} {y2 : Int32} {hi : pm_B} {Q : pm_Q} (h : (((hi this 2) ≤ y2) → Q (some (.inl y1)) hi) ∧ ((¬ ((hi this 2) ≤ y2)) → ((8 ≤ y2) → Q (some (.inl y1)) hi) ∧ ((¬ (8 ≤ y2)) → ∃ k3 : Nat, k3 < 8 ∧ y2 = nI k3 ∧ (pm_W pm_g (SH L) HR (d) pm_t13 4 [some (.inr this), some (.inl (y1 + (hi (this + 2 + 2 * k3) 4))), some (.inl (y2 + 1))] [] hi Q)))) : pm_W pm_g (SH L) HR (d) pm_t13 4 [some (.inr this), some (.inl y1), some (.inl y2)] [] hi Q := by
  refine pm_W_of 21 [4] rfl ?_
  refine And.intro (sh_fo h_this) ?_
  refine And.intro (fun c1 => ?_) (fun c1 => ?_)
  · replace h := h.1 c1
    refine And.intro trivial ?_
    exact h
  · replace h := h.2 c1
    refine And.intro (sh_fo h_this) ?_
    rw [(hr_fo1 h_this)]
    refine ⟨8, ⟨0, _, (sh_fo1 h_this)⟩, ?_⟩
    rw [show nI 8 = (8 : Int32) from rfl]
    refine And.intro (fun c2 => ?_) (fun c2 => ?_)
    · replace h := h.1 c2
      refine And.intro trivial ?_
      exact h
    · replace h := h.2 c2
      refine And.intro (sh_fo h_this) ?_
      rw [(hr_fo1 h_this)]
      obtain ⟨k3, hkk3, hek3, h⟩ := h
      refine And.intro (pm_ao_of (t := 0) (sh_fo1 h_this) hkk3 hek3 (by decide)) ?_
      rw [pm_tn hek3 hkk3 (by decide)]
      rw [(hr_sp h_this hkk3)]
      refine And.intro (sh_sk (sk_of h_this hkk3)) ?_
      exact h
theorem v_Folk_wordsOfSomebody {L d : Nat} {this : Nat} (h_this : pm_fo this) {hi : pm_B} {Q : pm_Q} (h : pm_W pm_g (SH L) HR (d) pm_t14 4 [some (.inr this), some (.inl 0), some (.inl 0)] [] hi Q) : pm_C pm_g (SH L) HR (d + 1) m_Folk_wordsOfSomebody [.inr this] hi Q := by
  refine pm_C_of (maxL := 3) (t := pm_t14) rfl (Nat.le_of_ble_eq_true rfl) ?_
  refine pm_W_of 6 [4] rfl ?_
  exact h
theorem v_Folk_wordsOfSomebody_4 {L d : Nat}  {this : Nat} (h_this : pm_fo this) {y1 : Int32} {y2 : Int32} {hi : pm_B} {Q : pm_Q} (h : (((hi this 2) ≤ y2) → Q (some (.inl y1)) hi) ∧ ((¬ ((hi this 2) ≤ y2)) → ((8 ≤ y2) → Q (some (.inl y1)) hi) ∧ ((¬ (8 ≤ y2)) → ∃ k3 : Nat, k3 < 8 ∧ y2 = nI k3 ∧ (pm_C pm_g (SH L) HR (d) m_Speaker_wordSet [.inr (this + 2 + 2 * k3)] hi (fun v hi4 => ∃ x5 : Int32, v = some (.inl x5) ∧ (pm_W pm_g (SH L) HR (d) pm_t14 4 [some (.inr this), some (.inl (y1 ||| x5)), some (.inl (y2 + 1))] [] hi4 Q)))))) : pm_W pm_g (SH L) HR (d) pm_t14 4 [some (.inr this), some (.inl y1), some (.inl y2)] [] hi Q := by
  refine pm_W_of 21 [4] rfl ?_
  refine And.intro (sh_fo h_this) ?_
  refine And.intro (fun c1 => ?_) (fun c1 => ?_)
  · replace h := h.1 c1
    refine And.intro trivial ?_
    exact h
  · replace h := h.2 c1
    refine And.intro (sh_fo h_this) ?_
    rw [(hr_fo1 h_this)]
    refine ⟨8, ⟨0, _, (sh_fo1 h_this)⟩, ?_⟩
    rw [show nI 8 = (8 : Int32) from rfl]
    refine And.intro (fun c2 => ?_) (fun c2 => ?_)
    · replace h := h.1 c2
      refine And.intro trivial ?_
      exact h
    · replace h := h.2 c2
      refine And.intro (sh_fo h_this) ?_
      rw [(hr_fo1 h_this)]
      obtain ⟨k3, hkk3, hek3, h⟩ := h
      refine And.intro (pm_ao_of (t := 0) (sh_fo1 h_this) hkk3 hek3 (by decide)) ?_
      rw [pm_tn hek3 hkk3 (by decide)]
      rw [(hr_sp h_this hkk3)]
      refine And.intro (sh_sk (sk_of h_this hkk3)) ?_
      refine pm_C_imp h (fun v hi4 h => ?_)
      obtain ⟨x5, rfl, h⟩ := h
      refine ⟨_, rfl, ?_⟩
      exact h
theorem v_Folk_wordsOfAll {L d : Nat} {this : Nat} (h_this : pm_fo this) {hi : pm_B} {Q : pm_Q} (h : ((¬ (hi this 2) = 0) → pm_W pm_g (SH L) HR (d) pm_t15 14 [some (.inr this), some (.inl 1048575), some (.inl 0)] [] hi Q) ∧ ((¬ (¬ (hi this 2) = 0)) → Q (some (.inl 0)) hi)) : pm_C pm_g (SH L) HR (d + 1) m_Folk_wordsOfAll [.inr this] hi Q := by
  refine pm_C_of (maxL := 3) (t := pm_t15) rfl (Nat.le_of_ble_eq_true rfl) ?_
  refine pm_W_of 9 [14] rfl ?_
  refine And.intro (sh_fo h_this) ?_
  refine And.intro (fun c1 => ?_) (fun c1 => ?_)
  · replace h := h.1 c1
    exact h
  · replace h := h.2 c1
    refine And.intro trivial ?_
    exact h
theorem v_Folk_wordsOfAll_14 {L d : Nat}  {this : Nat} (h_this : pm_fo this) {y1 : Int32} {y2 : Int32} {hi : pm_B} {Q : pm_Q} (h : (((hi this 2) ≤ y2) → Q (some (.inl y1)) hi) ∧ ((¬ ((hi this 2) ≤ y2)) → ((8 ≤ y2) → Q (some (.inl y1)) hi) ∧ ((¬ (8 ≤ y2)) → ∃ k3 : Nat, k3 < 8 ∧ y2 = nI k3 ∧ (pm_C pm_g (SH L) HR (d) m_Speaker_wordSet [.inr (this + 2 + 2 * k3)] hi (fun v hi4 => ∃ x5 : Int32, v = some (.inl x5) ∧ (pm_W pm_g (SH L) HR (d) pm_t15 14 [some (.inr this), some (.inl (y1 &&& x5)), some (.inl (y2 + 1))] [] hi4 Q)))))) : pm_W pm_g (SH L) HR (d) pm_t15 14 [some (.inr this), some (.inl y1), some (.inl y2)] [] hi Q := by
  refine pm_W_of 21 [14] rfl ?_
  refine And.intro (sh_fo h_this) ?_
  refine And.intro (fun c1 => ?_) (fun c1 => ?_)
  · replace h := h.1 c1
    refine And.intro trivial ?_
    exact h
  · replace h := h.2 c1
    refine And.intro (sh_fo h_this) ?_
    rw [(hr_fo1 h_this)]
    refine ⟨8, ⟨0, _, (sh_fo1 h_this)⟩, ?_⟩
    rw [show nI 8 = (8 : Int32) from rfl]
    refine And.intro (fun c2 => ?_) (fun c2 => ?_)
    · replace h := h.1 c2
      refine And.intro trivial ?_
      exact h
    · replace h := h.2 c2
      refine And.intro (sh_fo h_this) ?_
      rw [(hr_fo1 h_this)]
      obtain ⟨k3, hkk3, hek3, h⟩ := h
      refine And.intro (pm_ao_of (t := 0) (sh_fo1 h_this) hkk3 hek3 (by decide)) ?_
      rw [pm_tn hek3 hkk3 (by decide)]
      rw [(hr_sp h_this hkk3)]
      refine And.intro (sh_sk (sk_of h_this hkk3)) ?_
      refine pm_C_imp h (fun v hi4 h => ?_)
      obtain ⟨x5, rfl, h⟩ := h
      refine ⟨_, rfl, ?_⟩
      exact h
theorem v_Folk_allButDeafHave {L d : Nat} {this : Nat} (h_this : pm_fo this) {p1 : Int32} {hi : pm_B} {Q : pm_Q} (h : pm_W pm_g (SH L) HR (d) pm_t16 2 [some (.inr this), some (.inl p1), some (.inl 0), none] [] hi Q) : pm_C pm_g (SH L) HR (d + 1) m_Folk_allButDeafHave [.inr this, .inl p1] hi Q := by
  refine pm_C_of (maxL := 4) (t := pm_t16) rfl (Nat.le_of_ble_eq_true rfl) ?_
  refine pm_W_of 4 [2] rfl ?_
  exact h
theorem v_Folk_allButDeafHave_2 {L d : Nat} {o3 : Option pm_V} {this : Nat} (h_this : pm_fo this) {p1 : Int32} {y2 : Int32} {hi : pm_B} {Q : pm_Q} (h : (((hi this 2) ≤ y2) → Q (some (.inl 1)) hi) ∧ ((¬ ((hi this 2) ≤ y2)) → ((8 ≤ y2) → Q (some (.inl 1)) hi) ∧ ((¬ (8 ≤ y2)) → ∃ k3 : Nat, k3 < 8 ∧ y2 = nI k3 ∧ (pm_C pm_g (SH L) HR (d) m_Speaker_wordSet [.inr (this + 2 + 2 * k3)] hi (fun v hi4 => ∃ x5 : Int32, v = some (.inl x5) ∧ (((¬ (((Int32.toUInt32 x5 >>> (Int32.toUInt32 p1 &&& Int32.toUInt32 31)).toInt32) &&& 1) = 1) → ∃ k7 : Nat, k7 < 8 ∧ y2 = nI k7 ∧ ((((hi4 (this + 2 + 2 * k7) 0) = 5) → pm_W pm_g (SH L) HR (d) pm_t16 2 [some (.inr this), some (.inl p1), some (.inl (y2 + 1)), some (.inl 0)] [] hi4 Q) ∧ ((¬ ((hi4 (this + 2 + 2 * k7) 0) = 5)) → Q (some (.inl 0)) hi4))) ∧ ((¬ (¬ (((Int32.toUInt32 x5 >>> (Int32.toUInt32 p1 &&& Int32.toUInt32 31)).toInt32) &&& 1) = 1)) → ∃ k9 : Nat, k9 < 8 ∧ y2 = nI k9 ∧ ((((hi4 (this + 2 + 2 * k9) 0) = 5) → pm_W pm_g (SH L) HR (d) pm_t16 2 [some (.inr this), some (.inl p1), some (.inl (y2 + 1)), some (.inl 1)] [] hi4 Q) ∧ ((¬ ((hi4 (this + 2 + 2 * k9) 0) = 5)) → pm_W pm_g (SH L) HR (d) pm_t16 2 [some (.inr this), some (.inl p1), some (.inl (y2 + 1)), some (.inl 1)] [] hi4 Q))))))))) : pm_W pm_g (SH L) HR (d) pm_t16 2 [some (.inr this), some (.inl p1), some (.inl y2), o3] [] hi Q := by
  refine pm_W_of 36 [2] rfl ?_
  refine And.intro (sh_fo h_this) ?_
  refine And.intro (fun c1 => ?_) (fun c1 => ?_)
  · replace h := h.1 c1
    refine And.intro (Or.inr rfl) ?_
    exact h
  · replace h := h.2 c1
    refine And.intro (sh_fo h_this) ?_
    rw [(hr_fo1 h_this)]
    refine ⟨8, ⟨0, _, (sh_fo1 h_this)⟩, ?_⟩
    rw [show nI 8 = (8 : Int32) from rfl]
    refine And.intro (fun c2 => ?_) (fun c2 => ?_)
    · replace h := h.1 c2
      refine And.intro (Or.inr rfl) ?_
      exact h
    · replace h := h.2 c2
      refine And.intro (sh_fo h_this) ?_
      rw [(hr_fo1 h_this)]
      obtain ⟨k3, hkk3, hek3, h⟩ := h
      refine And.intro (pm_ao_of (t := 0) (sh_fo1 h_this) hkk3 hek3 (by decide)) ?_
      rw [pm_tn hek3 hkk3 (by decide)]
      rw [(hr_sp h_this hkk3)]
      refine And.intro (sh_sk (sk_of h_this hkk3)) ?_
      refine pm_C_imp h (fun v hi4 h => ?_)
      obtain ⟨x5, rfl, h⟩ := h
      refine ⟨_, rfl, ?_⟩
      refine And.intro (fun c6 => ?_) (fun c6 => ?_)
      · replace h := h.1 c6
        refine And.intro (sh_fo h_this) ?_
        rw [(hr_fo1 h_this)]
        obtain ⟨k7, hkk7, hek7, h⟩ := h
        refine And.intro (pm_ao_of (t := 0) (sh_fo1 h_this) hkk7 hek7 (by decide)) ?_
        rw [pm_tn hek7 hkk7 (by decide)]
        rw [(hr_sp h_this hkk7)]
        refine And.intro (sh_sk (sk_of h_this hkk7)) ?_
        refine And.intro (fun c8 => ?_) (fun c8 => ?_)
        · replace h := h.1 c8
          exact h
        · replace h := h.2 c8
          refine And.intro (fun hc => absurd hc (pm_cd_f (by decide))) (fun _ => ?_)
          refine And.intro (Or.inl rfl) ?_
          exact h
      · replace h := h.2 c6
        refine And.intro (sh_fo h_this) ?_
        rw [(hr_fo1 h_this)]
        obtain ⟨k9, hkk9, hek9, h⟩ := h
        refine And.intro (pm_ao_of (t := 0) (sh_fo1 h_this) hkk9 hek9 (by decide)) ?_
        rw [pm_tn hek9 hkk9 (by decide)]
        rw [(hr_sp h_this hkk9)]
        refine And.intro (sh_sk (sk_of h_this hkk9)) ?_
        refine And.intro (fun c10 => ?_) (fun c10 => ?_)
        · replace h := h.1 c10
          exact h
        · replace h := h.2 c10
          refine And.intro (fun _ => ?_) (fun hc => absurd (pm_cd_t (by decide)) hc)
          exact h
theorem v_Kinds_isOf {L d : Nat} {p1 : Int32} {p2 : Int32} {hi : pm_B} {Q : pm_Q} (h : pm_W pm_g (SH L) HR (d) pm_t17 4 [some (.inl p1), some (.inl p2), some (.inl p1), some (.inl 0)] [] hi Q) : pm_C pm_g (SH L) HR (d + 1) m_Kinds_isOf [.inl p1, .inl p2] hi Q := by
  refine pm_C_of (maxL := 4) (t := pm_t17) rfl (Nat.le_of_ble_eq_true rfl) ?_
  refine pm_W_of 6 [4] rfl ?_
  exact h
theorem v_Kinds_isOf_4 {L d : Nat}  {p1 : Int32} {p2 : Int32} {y2 : Int32} {y3 : Int32} {hi : pm_B} {Q : pm_Q} (h : ((6 ≤ y3) → Q (some (.inl 0)) hi) ∧ ((¬ (6 ≤ y3)) → ((y2 < 0) → Q (some (.inl 0)) hi) ∧ ((¬ (y2 < 0)) → ((6 ≤ y2) → Q (some (.inl 0)) hi) ∧ ((¬ (6 ≤ y2)) → ((¬ y2 = p2) → ∃ k5 : Nat, k5 < 6 ∧ y2 = nI k5 ∧ (pm_W pm_g (SH L) HR (d) pm_t17 4 [some (.inl p1), some (.inl p2), some (.inl (hi 2 k5)), some (.inl (y3 + 1))] [] hi Q)) ∧ ((¬ (¬ y2 = p2)) → Q (some (.inl 1)) hi))))) : pm_W pm_g (SH L) HR (d) pm_t17 4 [some (.inl p1), some (.inl p2), some (.inl y2), some (.inl y3)] [] hi Q := by
  refine pm_W_of 20 [4] rfl ?_
  refine And.intro (fun c1 => ?_) (fun c1 => ?_)
  · replace h := h.1 c1
    refine And.intro (Or.inl rfl) ?_
    exact h
  · replace h := h.2 c1
    refine And.intro (fun c2 => ?_) (fun c2 => ?_)
    · replace h := h.1 c2
      refine And.intro (Or.inl rfl) ?_
      exact h
    · replace h := h.2 c2
      refine ⟨6, ⟨1, _, sh_l2⟩, ?_⟩
      rw [show nI 6 = (6 : Int32) from rfl]
      refine And.intro (fun c3 => ?_) (fun c3 => ?_)
      · replace h := h.1 c3
        refine And.intro (Or.inl rfl) ?_
        exact h
      · replace h := h.2 c3
        refine And.intro (fun c4 => ?_) (fun c4 => ?_)
        · replace h := h.1 c4
          obtain ⟨k5, hkk5, hek5, h⟩ := h
          refine And.intro (pm_ao_of (t := 1) sh_l2 hkk5 hek5 (by decide)) ?_
          rw [pm_tn hek5 hkk5 (by decide)]
          exact h
        · replace h := h.2 c4
          refine And.intro (Or.inr rfl) ?_
          exact h
theorem v_Laws_valueOf {L d : Nat} {p1 : Int32} {p2 : Int32} {p3 : Int32} {p4 : Int32} {hi : pm_B} {Q : pm_Q} (h : ((p1 < 0) → Q (some (.inl 0)) hi) ∧ ((¬ (p1 < 0)) → ((p1 < 15) → ∃ k3 : Nat, k3 < 15 ∧ p1 = nI k3 ∧ (pm_W pm_g (SH L) HR (d + 1) pm_t23 29 [some (.inr 17), some (.inl p1), some (.inl p2), some (.inl p3), some (.inl p4), some (.inr (19 + 2 * k3)), some (.inl (-1)), some (.inl 0), none] [] hi Q)) ∧ ((¬ (p1 < 15)) → Q (some (.inl 0)) hi))) : pm_C pm_g (SH L) HR (d + 2) m_Laws_valueOf [.inr 17, .inl p1, .inl p2, .inl p3, .inl p4] hi Q := by
  refine pm_C_of (maxL := 9) (t := pm_t23) rfl (Nat.le_of_ble_eq_true rfl) ?_
  refine pm_W_of 18 [29] rfl ?_
  refine And.intro (fun c1 => ?_) (fun c1 => ?_)
  · replace h := h.1 c1
    refine And.intro trivial ?_
    exact h
  · replace h := h.2 c1
    refine And.intro sh_l17 ?_
    rw [hr_17_0]
    refine ⟨15, ⟨0, _, sh_l18⟩, ?_⟩
    rw [show nI 15 = (15 : Int32) from rfl]
    refine And.intro (fun c2 => ?_) (fun c2 => ?_)
    · replace h := h.1 c2
      refine And.intro sh_l17 ?_
      rw [hr_17_0]
      obtain ⟨k3, hkk3, hek3, h⟩ := h
      refine And.intro (pm_ao_of (t := 0) sh_l18 hkk3 hek3 (by decide)) ?_
      rw [pm_tn hek3 hkk3 (by decide)]
      rw [(hr_te hkk3)]
      exact h
    · replace h := h.2 c2
      refine And.intro trivial ?_
      exact h
theorem v_Laws_valueOf_29 {L d : Nat} {o8 : Option pm_V} {p1 : Int32} {p2 : Int32} {p3 : Int32} {p4 : Int32} {r5 : Nat} (h_r5 : pm_tx r5) {y6 : Int32} {y7 : Int32} {hi : pm_B} {Q : pm_Q} (h : (((hi r5 2) ≤ y7) → ((0 ≤ y6) → ∃ k3 : Nat, k3 < 96 ∧ y6 = nI k3 ∧ (Q (some (.inl (hi 49 k3))) hi)) ∧ ((¬ (0 ≤ y6)) → Q (some (.inl 0)) hi)) ∧ ((¬ ((hi r5 2) ≤ y7)) → ((96 ≤ y7) → ((0 ≤ y6) → ∃ k6 : Nat, k6 < 96 ∧ y6 = nI k6 ∧ (Q (some (.inl (hi 49 k6))) hi)) ∧ ((¬ (0 ≤ y6)) → Q (some (.inl 0)) hi)) ∧ ((¬ (96 ≤ y7)) → ∃ k7 : Nat, k7 < 96 ∧ y7 = nI k7 ∧ ((((hi (r5 + 1) k7) < (-3)) → ((¬ (hi (r5 + 1) k7) = (-33)) → ((1 ≤ y6) → ∃ k11 : Nat, k11 < 96 ∧ (y6 + (-1)) = nI k11 ∧ (∃ k12 : Nat, k12 < 96 ∧ ((y6 + (-1)) + 1) = nI k12 ∧ (∃ k13 : Nat, k13 < 96 ∧ (y6 + (-1)) = nI k13 ∧ (pm_W pm_g (SH L) HR (d + 1) pm_t23 29 [some (.inr 17), some (.inl p1), some (.inl p2), some (.inl p3), some (.inl p4), some (.inr r5), some (.inl (y6 + (-1))), some (.inl (y7 + 1)), some (.inl (hi (r5 + 1) k7))] [] (pm_u hi 49 k13 (f_Laws_joined (-(hi (r5 + 1) k7)) (hi 49 k11) (hi 49 k12))) Q)))) ∧ ((¬ (1 ≤ y6)) → Q (some (.inl 0)) hi)) ∧ ((¬ (¬ (hi (r5 + 1) k7) = (-33))) → ((0 ≤ y6) → ∃ k15 : Nat, k15 < 96 ∧ y6 = nI k15 ∧ (((¬ (hi 49 k15) = 0) → ∃ k17 : Nat, k17 < 96 ∧ y6 = nI k17 ∧ (pm_W pm_g (SH L) HR (d + 1) pm_t23 29 [some (.inr 17), some (.inl p1), some (.inl p2), some (.inl p3), some (.inl p4), some (.inr r5), some (.inl y6), some (.inl (y7 + 1)), some (.inl (hi (r5 + 1) k7))] [] (pm_u hi 49 k17 (f_Laws_truth 0)) Q)) ∧ ((¬ (¬ (hi 49 k15) = 0)) → ∃ k18 : Nat, k18 < 96 ∧ y6 = nI k18 ∧ (pm_W pm_g (SH L) HR (d + 1) pm_t23 29 [some (.inr 17), some (.inl p1), some (.inl p2), some (.inl p3), some (.inl p4), some (.inr r5), some (.inl y6), some (.inl (y7 + 1)), some (.inl (hi (r5 + 1) k7))] [] (pm_u hi 49 k18 (f_Laws_truth 1)) Q)))) ∧ ((¬ (0 ≤ y6)) → Q (some (.inl 0)) hi))) ∧ ((¬ ((hi (r5 + 1) k7) < (-3))) → (((y6 + 1) < 96) → ∃ k20 : Nat, k20 < 96 ∧ (y6 + 1) = nI k20 ∧ (pm_W pm_g (SH L) HR (d + 1) pm_t23 29 [some (.inr 17), some (.inl p1), some (.inl p2), some (.inl p3), some (.inl p4), some (.inr r5), some (.inl (y6 + 1)), some (.inl (y7 + 1)), some (.inl (hi (r5 + 1) k7))] [] (pm_u hi 49 k20 (f_Laws_leafOf (hi (r5 + 1) k7) p2 p3 p4)) Q)) ∧ ((¬ ((y6 + 1) < 96)) → Q (some (.inl 0)) hi)))))) : pm_W pm_g (SH L) HR (d + 1) pm_t23 29 [some (.inr 17), some (.inl p1), some (.inl p2), some (.inl p3), some (.inl p4), some (.inr r5), some (.inl y6), some (.inl y7), o8] [] hi Q := by
  refine pm_W_of 45 [29] rfl ?_
  refine And.intro (sh_tx h_r5) ?_
  refine And.intro (fun c1 => ?_) (fun c1 => ?_)
  · replace h := h.1 c1
    refine And.intro (fun c2 => ?_) (fun c2 => ?_)
    · replace h := h.1 c2
      refine And.intro sh_l17 ?_
      rw [hr_17_1]
      obtain ⟨k3, hkk3, hek3, h⟩ := h
      refine And.intro (pm_ao_of (t := 0) sh_l49 hkk3 hek3 (by decide)) ?_
      rw [pm_tn hek3 hkk3 (by decide)]
      refine And.intro trivial ?_
      exact h
    · replace h := h.2 c2
      refine And.intro trivial ?_
      exact h
  · replace h := h.2 c1
    refine And.intro (sh_tx h_r5) ?_
    rw [(hr_tx h_r5)]
    refine ⟨96, ⟨0, _, (sh_tx1 h_r5)⟩, ?_⟩
    rw [show nI 96 = (96 : Int32) from rfl]
    refine And.intro (fun c4 => ?_) (fun c4 => ?_)
    · replace h := h.1 c4
      refine And.intro (fun c5 => ?_) (fun c5 => ?_)
      · replace h := h.1 c5
        refine And.intro sh_l17 ?_
        rw [hr_17_1]
        obtain ⟨k6, hkk6, hek6, h⟩ := h
        refine And.intro (pm_ao_of (t := 0) sh_l49 hkk6 hek6 (by decide)) ?_
        rw [pm_tn hek6 hkk6 (by decide)]
        refine And.intro trivial ?_
        exact h
      · replace h := h.2 c5
        refine And.intro trivial ?_
        exact h
    · replace h := h.2 c4
      refine And.intro (sh_tx h_r5) ?_
      rw [(hr_tx h_r5)]
      obtain ⟨k7, hkk7, hek7, h⟩ := h
      refine And.intro (pm_ao_of (t := 0) (sh_tx1 h_r5) hkk7 hek7 (by decide)) ?_
      rw [pm_tn hek7 hkk7 (by decide)]
      refine And.intro (fun c8 => ?_) (fun c8 => ?_)
      · replace h := h.1 c8
        refine And.intro (fun c9 => ?_) (fun c9 => ?_)
        · replace h := h.1 c9
          refine And.intro (fun c10 => ?_) (fun c10 => ?_)
          · replace h := h.1 c10
            refine And.intro sh_l17 ?_
            rw [hr_17_1]
            refine And.intro sh_l17 ?_
            rw [hr_17_1]
            obtain ⟨k11, hkk11, hek11, h⟩ := h
            refine And.intro (pm_ao_of (t := 0) sh_l49 hkk11 hek11 (by decide)) ?_
            rw [pm_tn hek11 hkk11 (by decide)]
            refine And.intro sh_l17 ?_
            rw [hr_17_1]
            obtain ⟨k12, hkk12, hek12, h⟩ := h
            refine And.intro (pm_ao_of (t := 0) sh_l49 hkk12 hek12 (by decide)) ?_
            rw [pm_tn hek12 hkk12 (by decide)]
            refine And.intro trivial ?_
            refine f_Laws_joined_c (d := d)  ?_
            refine ⟨_, rfl, ?_⟩
            obtain ⟨k13, hkk13, hek13, h⟩ := h
            refine And.intro ⟨pm_aw_of sh_l49 hkk13 hek13 (by decide), trivial⟩ ?_
            rw [pm_tn hek13 hkk13 (by decide)]
            exact h
          · replace h := h.2 c10
            refine And.intro trivial ?_
            exact h
        · replace h := h.2 c9
          refine And.intro (fun c14 => ?_) (fun c14 => ?_)
          · replace h := h.1 c14
            refine And.intro sh_l17 ?_
            rw [hr_17_1]
            refine And.intro sh_l17 ?_
            rw [hr_17_1]
            obtain ⟨k15, hkk15, hek15, h⟩ := h
            refine And.intro (pm_ao_of (t := 0) sh_l49 hkk15 hek15 (by decide)) ?_
            rw [pm_tn hek15 hkk15 (by decide)]
            refine And.intro (fun c16 => ?_) (fun c16 => ?_)
            · replace h := h.1 c16
              refine And.intro trivial ?_
              refine f_Laws_truth_c (d := d)  ?_
              refine ⟨_, rfl, ?_⟩
              obtain ⟨k17, hkk17, hek17, h⟩ := h
              refine And.intro ⟨pm_aw_of sh_l49 hkk17 hek17 (by decide), trivial⟩ ?_
              rw [pm_tn hek17 hkk17 (by decide)]
              exact h
            · replace h := h.2 c16
              refine And.intro trivial ?_
              refine f_Laws_truth_c (d := d)  ?_
              refine ⟨_, rfl, ?_⟩
              obtain ⟨k18, hkk18, hek18, h⟩ := h
              refine And.intro ⟨pm_aw_of sh_l49 hkk18 hek18 (by decide), trivial⟩ ?_
              rw [pm_tn hek18 hkk18 (by decide)]
              exact h
          · replace h := h.2 c14
            refine And.intro trivial ?_
            exact h
      · replace h := h.2 c8
        refine And.intro sh_l17 ?_
        rw [hr_17_1]
        refine ⟨96, ⟨0, _, sh_l49⟩, ?_⟩
        rw [show nI 96 = (96 : Int32) from rfl]
        refine And.intro (fun c19 => ?_) (fun c19 => ?_)
        · replace h := h.1 c19
          refine And.intro sh_l17 ?_
          rw [hr_17_1]
          refine And.intro trivial ?_
          refine f_Laws_leafOf_c (d := d)  ?_
          refine ⟨_, rfl, ?_⟩
          obtain ⟨k20, hkk20, hek20, h⟩ := h
          refine And.intro ⟨pm_aw_of sh_l49 hkk20 hek20 (by decide), trivial⟩ ?_
          rw [pm_tn hek20 hkk20 (by decide)]
          exact h
        · replace h := h.2 c19
          refine And.intro trivial ?_
          exact h
theorem v_Saying_read {L d : Nat} {p1 : Nat} (h_p1 : pm_st p1) {hi : pm_B} {Q : pm_Q} (h : pm_W pm_g (SH L) HR (d + 1) pm_t48 7 [some (.inr 137), some (.inr p1), some (.inl 0)] [] (pm_u hi 137 1 0) Q) : pm_C pm_g (SH L) HR (d + 2) m_Saying_read [.inr 137, .inr p1] hi Q := by
  refine pm_C_of (maxL := 3) (t := pm_t48) rfl (Nat.le_of_ble_eq_true rfl) ?_
  refine pm_W_of 7 [7] rfl ?_
  refine And.intro ⟨sh_l137, trivial⟩ ?_
  exact h
theorem v_Saying_read_7 {L d : Nat}  {p1 : Nat} (h_p1 : pm_st p1) {y2 : Int32} {hi : pm_B} {Q : pm_Q} (h : ((12 ≤ y2) → Q none hi) ∧ ((¬ (12 ≤ y2)) → ((y2 < 0) → Q none hi) ∧ ((¬ (y2 < 0)) → (((hi p1 1) ≤ y2) → Q none hi) ∧ ((¬ ((hi p1 1) ≤ y2)) → ((24 ≤ y2) → Q none hi) ∧ ((¬ (24 ≤ y2)) → ∃ k5 : Nat, k5 < 24 ∧ y2 = nI k5 ∧ ((((hi (p1 + 1) k5) < 0) → Q none hi) ∧ ((¬ ((hi (p1 + 1) k5) < 0)) → ((20 ≤ (hi (p1 + 1) k5)) → Q none hi) ∧ ((¬ (20 ≤ (hi (p1 + 1) k5))) → ∃ k8 : Nat, k8 < 24 ∧ y2 = nI k8 ∧ (∃ k9 : Nat, k9 < 12 ∧ y2 = nI k9 ∧ (∀ hi10 : pm_B, hi10 = pm_u (pm_u hi 138 k9 (hi (p1 + 1) k8)) 137 1 (((pm_u hi 138 k9 (hi (p1 + 1) k8)) 137 1) + 1) → (pm_W pm_g (SH L) HR (d + 1) pm_t48 7 [some (.inr 137), some (.inr p1), some (.inl (y2 + 1))] [] hi10 Q))))))))))) : pm_W pm_g (SH L) HR (d + 1) pm_t48 7 [some (.inr 137), some (.inr p1), some (.inl y2)] [] hi Q := by
  refine pm_W_of 33 [7] rfl ?_
  refine And.intro sh_l137 ?_
  rw [hr_137_0]
  refine ⟨12, ⟨0, _, sh_l138⟩, ?_⟩
  rw [show nI 12 = (12 : Int32) from rfl]
  refine And.intro (fun c1 => ?_) (fun c1 => ?_)
  · replace h := h.1 c1
    exact h
  · replace h := h.2 c1
    refine And.intro (sh_st h_p1) ?_
    refine v_Sheet_hasPlace (d := d) h_p1 ?_
    refine And.intro (fun c2 => ?_) (fun c2 => ?_)
    · replace h := h.1 c2
      refine ⟨_, rfl, ?_⟩
      refine And.intro (fun _ => ?_) (fun hc => absurd (pm_cd_t (by decide)) hc)
      exact h
    · replace h := h.2 c2
      refine And.intro (fun c3 => ?_) (fun c3 => ?_)
      · replace h := h.1 c3
        refine ⟨_, rfl, ?_⟩
        refine And.intro (fun _ => ?_) (fun hc => absurd (pm_cd_t (by decide)) hc)
        exact h
      · replace h := h.2 c3
        refine And.intro (fun c4 => ?_) (fun c4 => ?_)
        · replace h := h.1 c4
          refine ⟨_, rfl, ?_⟩
          refine And.intro (fun _ => ?_) (fun hc => absurd (pm_cd_t (by decide)) hc)
          exact h
        · replace h := h.2 c4
          refine ⟨_, rfl, ?_⟩
          refine And.intro (fun hc => absurd hc (pm_cd_f (by decide))) (fun _ => ?_)
          refine And.intro (sh_st h_p1) ?_
          rw [(hr_st h_p1)]
          obtain ⟨k5, hkk5, hek5, h⟩ := h
          refine And.intro (pm_ao_of (t := 0) (sh_st1 h_p1) hkk5 hek5 (by decide)) ?_
          rw [pm_tn hek5 hkk5 (by decide)]
          refine And.intro trivial ?_
          refine v_E_isWord (d := d)  ?_
          refine And.intro (fun c6 => ?_) (fun c6 => ?_)
          · replace h := h.1 c6
            refine ⟨_, rfl, ?_⟩
            refine And.intro (fun _ => ?_) (fun hc => absurd (pm_cd_t (by decide)) hc)
            exact h
          · replace h := h.2 c6
            refine And.intro (fun c7 => ?_) (fun c7 => ?_)
            · replace h := h.1 c7
              refine ⟨_, rfl, ?_⟩
              refine And.intro (fun _ => ?_) (fun hc => absurd (pm_cd_t (by decide)) hc)
              exact h
            · replace h := h.2 c7
              refine ⟨_, rfl, ?_⟩
              refine And.intro (fun hc => absurd hc (pm_cd_f (by decide))) (fun _ => ?_)
              refine And.intro sh_l137 ?_
              rw [hr_137_0]
              refine And.intro (sh_st h_p1) ?_
              rw [(hr_st h_p1)]
              obtain ⟨k8, hkk8, hek8, h⟩ := h
              refine And.intro (pm_ao_of (t := 0) (sh_st1 h_p1) hkk8 hek8 (by decide)) ?_
              rw [pm_tn hek8 hkk8 (by decide)]
              obtain ⟨k9, hkk9, hek9, h⟩ := h
              refine And.intro ⟨pm_aw_of sh_l138 hkk9 hek9 (by decide), trivial⟩ ?_
              rw [pm_tn hek9 hkk9 (by decide)]
              refine And.intro sh_l137 ?_
              refine And.intro ⟨sh_l137, trivial⟩ ?_
              obtain ⟨hi10, ehi10⟩ : ∃ m : pm_B, m = pm_u (pm_u hi 138 k9 (hi (p1 + 1) k8)) 137 1 (((pm_u hi 138 k9 (hi (p1 + 1) k8)) 137 1) + 1) := ⟨_, rfl⟩
              replace h := h hi10 ehi10
              rw [← ehi10]
              exact h
theorem v_Saying_firstOutside {L d : Nat} {p1 : Int32} {hi : pm_B} {Q : pm_Q} (h : pm_W pm_g (SH L) HR (d) pm_t49 2 [some (.inr 137), some (.inl p1), some (.inl 0)] [] hi Q) : pm_C pm_g (SH L) HR (d + 1) m_Saying_firstOutside [.inr 137, .inl p1] hi Q := by
  refine pm_C_of (maxL := 3) (t := pm_t49) rfl (Nat.le_of_ble_eq_true rfl) ?_
  refine pm_W_of 4 [2] rfl ?_
  exact h
theorem v_Saying_firstOutside_2 {L d : Nat}  {p1 : Int32} {y2 : Int32} {hi : pm_B} {Q : pm_Q} (h : (((hi 137 1) ≤ y2) → Q (some (.inl (-1000000005))) hi) ∧ ((¬ ((hi 137 1) ≤ y2)) → ((12 ≤ y2) → Q (some (.inl (-1000000005))) hi) ∧ ((¬ (12 ≤ y2)) → ∃ k3 : Nat, k3 < 12 ∧ y2 = nI k3 ∧ (((¬ (((Int32.toUInt32 p1 >>> (Int32.toUInt32 (hi 138 k3) &&& Int32.toUInt32 31)).toInt32) &&& 1) = 0) → pm_W pm_g (SH L) HR (d) pm_t49 2 [some (.inr 137), some (.inl p1), some (.inl (y2 + 1))] [] hi Q) ∧ ((¬ (¬ (((Int32.toUInt32 p1 >>> (Int32.toUInt32 (hi 138 k3) &&& Int32.toUInt32 31)).toInt32) &&& 1) = 0)) → ∃ k5 : Nat, k5 < 12 ∧ y2 = nI k5 ∧ (Q (some (.inl (hi 138 k5))) hi)))))) : pm_W pm_g (SH L) HR (d) pm_t49 2 [some (.inr 137), some (.inl p1), some (.inl y2)] [] hi Q := by
  refine pm_W_of 25 [2] rfl ?_
  refine And.intro sh_l137 ?_
  refine And.intro (fun c1 => ?_) (fun c1 => ?_)
  · replace h := h.1 c1
    refine And.intro trivial ?_
    exact h
  · replace h := h.2 c1
    refine And.intro sh_l137 ?_
    rw [hr_137_0]
    refine ⟨12, ⟨0, _, sh_l138⟩, ?_⟩
    rw [show nI 12 = (12 : Int32) from rfl]
    refine And.intro (fun c2 => ?_) (fun c2 => ?_)
    · replace h := h.1 c2
      refine And.intro trivial ?_
      exact h
    · replace h := h.2 c2
      refine And.intro sh_l137 ?_
      rw [hr_137_0]
      obtain ⟨k3, hkk3, hek3, h⟩ := h
      refine And.intro (pm_ao_of (t := 0) sh_l138 hkk3 hek3 (by decide)) ?_
      rw [pm_tn hek3 hkk3 (by decide)]
      refine And.intro (fun c4 => ?_) (fun c4 => ?_)
      · replace h := h.1 c4
        exact h
      · replace h := h.2 c4
        refine And.intro sh_l137 ?_
        rw [hr_137_0]
        obtain ⟨k5, hkk5, hek5, h⟩ := h
        refine And.intro (pm_ao_of (t := 0) sh_l138 hkk5 hek5 (by decide)) ?_
        rw [pm_tn hek5 hkk5 (by decide)]
        refine And.intro trivial ?_
        exact h
theorem v_Saying_breathsOf {L d : Nat} {p1 : Nat} (h_p1 : pm_sk p1) {hi : pm_B} {Q : pm_Q} (h : pm_W pm_g (SH L) HR (d + 1) pm_t50 16 [some (.inr 137), some (.inr p1), some (.inl (f_Kinds_goesOf (hi p1 0))), some (.inl 0), some (.inl 0), some (.inl 0), none] [] hi Q) : pm_C pm_g (SH L) HR (d + 2) m_Saying_breathsOf [.inr 137, .inr p1] hi Q := by
  refine pm_C_of (maxL := 7) (t := pm_t50) rfl (Nat.le_of_ble_eq_true rfl) ?_
  refine pm_W_of 12 [16] rfl ?_
  refine And.intro (sh_sk h_p1) ?_
  refine And.intro trivial ?_
  refine f_Kinds_goesOf_c (d := d)  ?_
  refine ⟨_, rfl, ?_⟩
  exact h
theorem v_Saying_breathsOf_16 {L d : Nat} {o6 : Option pm_V} {p1 : Nat} (h_p1 : pm_sk p1) {y2 : Int32} {y3 : Int32} {y4 : Int32} {y5 : Int32} {hi : pm_B} {Q : pm_Q} (h : ((12 ≤ y5) → Q (some (.inl y3)) hi) ∧ ((¬ (12 ≤ y5)) → (((hi 137 1) ≤ y4) → Q (some (.inl y3)) hi) ∧ ((¬ ((hi 137 1) ≤ y4)) → pm_C pm_g (SH L) HR (d + 1) m_Saying_longestPiece [.inr 137, .inr p1, .inl y4, .inl y2] hi (fun v hi3 => ∃ x4 : Int32, v = some (.inl x4) ∧ (((¬ x4 = 0) → pm_W pm_g (SH L) HR (d + 1) pm_t50 16 [some (.inr 137), some (.inr p1), some (.inl y2), some (.inl (y3 + 1)), some (.inl (y4 + x4)), some (.inl (y5 + 1)), some (.inl x4)] [] hi3 Q) ∧ ((¬ (¬ x4 = 0)) → Q (some (.inl (-1000000005))) hi3)))))) : pm_W pm_g (SH L) HR (d + 1) pm_t50 16 [some (.inr 137), some (.inr p1), some (.inl y2), some (.inl y3), some (.inl y4), some (.inl y5), o6] [] hi Q := by
  refine pm_W_of 26 [16] rfl ?_
  refine And.intro sh_l137 ?_
  rw [hr_137_0]
  refine ⟨12, ⟨0, _, sh_l138⟩, ?_⟩
  rw [show nI 12 = (12 : Int32) from rfl]
  refine And.intro (fun c1 => ?_) (fun c1 => ?_)
  · replace h := h.1 c1
    refine And.intro trivial ?_
    exact h
  · replace h := h.2 c1
    refine And.intro sh_l137 ?_
    refine And.intro (fun c2 => ?_) (fun c2 => ?_)
    · replace h := h.1 c2
      refine And.intro trivial ?_
      exact h
    · replace h := h.2 c2
      refine And.intro sh_l137 ?_
      refine pm_C_imp h (fun v hi3 h => ?_)
      obtain ⟨x4, rfl, h⟩ := h
      refine ⟨_, rfl, ?_⟩
      refine And.intro (fun c5 => ?_) (fun c5 => ?_)
      · replace h := h.1 c5
        exact h
      · replace h := h.2 c5
        refine And.intro trivial ?_
        exact h
theorem v_Saying_longestPiece {L d : Nat} {p1 : Nat} (h_p1 : pm_sk p1) {p2 : Int32} {p3 : Int32} {hi : pm_B} {Q : pm_Q} (h : pm_W pm_g (SH L) HR (d) pm_t51 6 [some (.inr 137), some (.inr p1), some (.inl p2), some (.inl p3), some (.inl 0), some (.inl 0)] [] hi Q) : pm_C pm_g (SH L) HR (d + 1) m_Saying_longestPiece [.inr 137, .inr p1, .inl p2, .inl p3] hi Q := by
  refine pm_C_of (maxL := 6) (t := pm_t51) rfl (Nat.le_of_ble_eq_true rfl) ?_
  refine pm_W_of 6 [6] rfl ?_
  exact h
theorem v_Saying_longestPiece_6 {L d : Nat}  {p1 : Nat} (h_p1 : pm_sk p1) {p2 : Int32} {p3 : Int32} {y4 : Int32} {y5 : Int32} {hi : pm_B} {Q : pm_Q} (h : (((hi p1 4) ≤ y5) → Q (some (.inl (if p3 < y4 then p3 else y4))) hi) ∧ ((¬ ((hi p1 4) ≤ y5)) → pm_C pm_g (SH L) HR (d) m_Saying_sameWords [.inr 137, .inr p1, .inl p2, .inl y5] hi (fun v hi2 => ∃ x3 : Int32, v = some (.inl x3) ∧ (pm_W pm_g (SH L) HR (d) pm_t51 6 [some (.inr 137), some (.inr p1), some (.inl p2), some (.inl p3), some (.inl (if y4 < x3 then x3 else y4)), some (.inl (y5 + 1))] [] hi2 Q)))) : pm_W pm_g (SH L) HR (d) pm_t51 6 [some (.inr 137), some (.inr p1), some (.inl p2), some (.inl p3), some (.inl y4), some (.inl y5)] [] hi Q := by
  refine pm_W_of 16 [6] rfl ?_
  refine And.intro (sh_sk h_p1) ?_
  refine And.intro (fun c1 => ?_) (fun c1 => ?_)
  · replace h := h.1 c1
    refine And.intro trivial ?_
    exact h
  · replace h := h.2 c1
    refine And.intro sh_l137 ?_
    refine pm_C_imp h (fun v hi2 h => ?_)
    obtain ⟨x3, rfl, h⟩ := h
    refine ⟨_, rfl, ?_⟩
    exact h
theorem v_Saying_sameWords {L d : Nat} {p1 : Nat} (h_p1 : pm_sk p1) {p2 : Int32} {p3 : Int32} {hi : pm_B} {Q : pm_Q} (h : pm_W pm_g (SH L) HR (d + 1) pm_t52 6 [some (.inr 137), some (.inr p1), some (.inl p2), some (.inl p3), some (.inl 0), some (.inl 0), none] [] hi Q) : pm_C pm_g (SH L) HR (d + 2) m_Saying_sameWords [.inr 137, .inr p1, .inl p2, .inl p3] hi Q := by
  refine pm_C_of (maxL := 7) (t := pm_t52) rfl (Nat.le_of_ble_eq_true rfl) ?_
  refine pm_W_of 6 [6] rfl ?_
  exact h
theorem v_Saying_sameWords_6 {L d : Nat} {o6 : Option pm_V} {p1 : Nat} (h_p1 : pm_sk p1) {p2 : Int32} {p3 : Int32} {y4 : Int32} {y5 : Int32} {hi : pm_B} {Q : pm_Q} (h : ((12 ≤ y5) → Q (some (.inl y4)) hi) ∧ ((¬ (12 ≤ y5)) → (((p2 + y5) < 0) → Q (some (.inl y4)) hi) ∧ ((¬ ((p2 + y5) < 0)) → (((hi 137 1) ≤ (p2 + y5)) → Q (some (.inl y4)) hi) ∧ ((¬ ((hi 137 1) ≤ (p2 + y5))) → (((p2 + y5) < 12) → ∃ k5 : Nat, k5 < 12 ∧ (p2 + y5) = nI k5 ∧ ((((p3 + y5) < 0) → (((hi 138 k5) = (-1000000005)) → pm_W pm_g (SH L) HR (d + 1) pm_t52 6 [some (.inr 137), some (.inr p1), some (.inl p2), some (.inl p3), some (.inl (y4 + 1)), some (.inl (y5 + 1)), some (.inl (p2 + y5))] [] hi Q) ∧ ((¬ ((hi 138 k5) = (-1000000005))) → Q (some (.inl y4)) hi)) ∧ ((¬ ((p3 + y5) < 0)) → (((hi p1 4) ≤ (p3 + y5)) → (((hi 138 k5) = (-1000000005)) → pm_W pm_g (SH L) HR (d + 1) pm_t52 6 [some (.inr 137), some (.inr p1), some (.inl p2), some (.inl p3), some (.inl (y4 + 1)), some (.inl (y5 + 1)), some (.inl (p2 + y5))] [] hi Q) ∧ ((¬ ((hi 138 k5) = (-1000000005))) → Q (some (.inl y4)) hi)) ∧ ((¬ ((hi p1 4) ≤ (p3 + y5))) → ((24 ≤ (p3 + y5)) → (((hi 138 k5) = (-1000000005)) → pm_W pm_g (SH L) HR (d + 1) pm_t52 6 [some (.inr 137), some (.inr p1), some (.inl p2), some (.inl p3), some (.inl (y4 + 1)), some (.inl (y5 + 1)), some (.inl (p2 + y5))] [] hi Q) ∧ ((¬ ((hi 138 k5) = (-1000000005))) → Q (some (.inl y4)) hi)) ∧ ((¬ (24 ≤ (p3 + y5))) → ∃ k12 : Nat, k12 < 24 ∧ (p3 + y5) = nI k12 ∧ ((((hi 138 k5) = (hi (p1 + 1) k12)) → pm_W pm_g (SH L) HR (d + 1) pm_t52 6 [some (.inr 137), some (.inr p1), some (.inl p2), some (.inl p3), some (.inl (y4 + 1)), some (.inl (y5 + 1)), some (.inl (p2 + y5))] [] hi Q) ∧ ((¬ ((hi 138 k5) = (hi (p1 + 1) k12))) → Q (some (.inl y4)) hi))))))) ∧ ((¬ ((p2 + y5) < 12)) → Q (some (.inl y4)) hi))))) : pm_W pm_g (SH L) HR (d + 1) pm_t52 6 [some (.inr 137), some (.inr p1), some (.inl p2), some (.inl p3), some (.inl y4), some (.inl y5), o6] [] hi Q := by
  refine pm_W_of 35 [6] rfl ?_
  refine And.intro sh_l137 ?_
  rw [hr_137_0]
  refine ⟨12, ⟨0, _, sh_l138⟩, ?_⟩
  rw [show nI 12 = (12 : Int32) from rfl]
  refine And.intro (fun c1 => ?_) (fun c1 => ?_)
  · replace h := h.1 c1
    refine And.intro trivial ?_
    exact h
  · replace h := h.2 c1
    refine And.intro (fun c2 => ?_) (fun c2 => ?_)
    · replace h := h.1 c2
      refine And.intro trivial ?_
      exact h
    · replace h := h.2 c2
      refine And.intro sh_l137 ?_
      refine And.intro (fun c3 => ?_) (fun c3 => ?_)
      · replace h := h.1 c3
        refine And.intro trivial ?_
        exact h
      · replace h := h.2 c3
        refine And.intro sh_l137 ?_
        rw [hr_137_0]
        refine ⟨12, ⟨0, _, sh_l138⟩, ?_⟩
        rw [show nI 12 = (12 : Int32) from rfl]
        refine And.intro (fun c4 => ?_) (fun c4 => ?_)
        · replace h := h.1 c4
          refine And.intro sh_l137 ?_
          rw [hr_137_0]
          obtain ⟨k5, hkk5, hek5, h⟩ := h
          refine And.intro (pm_ao_of (t := 0) sh_l138 hkk5 hek5 (by decide)) ?_
          rw [pm_tn hek5 hkk5 (by decide)]
          refine And.intro (sh_sk h_p1) ?_
          refine v_Speaker_wordAt (d := d) h_p1 ?_
          refine And.intro (fun c6 => ?_) (fun c6 => ?_)
          · replace h := h.1 c6
            refine ⟨_, rfl, ?_⟩
            refine And.intro (fun c7 => ?_) (fun c7 => ?_)
            · replace h := h.1 c7
              exact h
            · replace h := h.2 c7
              refine And.intro trivial ?_
              exact h
          · replace h := h.2 c6
            refine And.intro (fun c8 => ?_) (fun c8 => ?_)
            · replace h := h.1 c8
              refine ⟨_, rfl, ?_⟩
              refine And.intro (fun c9 => ?_) (fun c9 => ?_)
              · replace h := h.1 c9
                exact h
              · replace h := h.2 c9
                refine And.intro trivial ?_
                exact h
            · replace h := h.2 c8
              refine And.intro (fun c10 => ?_) (fun c10 => ?_)
              · replace h := h.1 c10
                refine ⟨_, rfl, ?_⟩
                refine And.intro (fun c11 => ?_) (fun c11 => ?_)
                · replace h := h.1 c11
                  exact h
                · replace h := h.2 c11
                  refine And.intro trivial ?_
                  exact h
              · replace h := h.2 c10
                obtain ⟨k12, hkk12, hek12, h⟩ := h
                refine ⟨k12, hkk12, hek12, ?_⟩
                refine ⟨_, rfl, ?_⟩
                refine And.intro (fun c13 => ?_) (fun c13 => ?_)
                · replace h := h.1 c13
                  exact h
                · replace h := h.2 c13
                  refine And.intro trivial ?_
                  exact h
        · replace h := h.2 c4
          refine And.intro trivial ?_
          exact h
theorem v_Sheet_begin {L d : Nat} {this : Nat} (h_this : pm_st this) {p1 : Int32} {p2 : Int32} {hi : pm_B} {Q : pm_Q} (h : ∀ hi1 : pm_B, hi1 = pm_u (pm_u hi this 0 p1) this 1 p2 → (pm_W pm_g (SH L) HR (d) pm_t54 12 [some (.inr this), some (.inl p1), some (.inl p2), some (.inl 0)] [] hi1 Q)) : pm_C pm_g (SH L) HR (d + 1) m_Sheet_begin [.inr this, .inl p1, .inl p2] hi Q := by
  refine pm_C_of (maxL := 4) (t := pm_t54) rfl (Nat.le_of_ble_eq_true rfl) ?_
  refine pm_W_of 10 [12] rfl ?_
  refine And.intro ⟨(sh_st h_this), trivial⟩ ?_
  refine And.intro ⟨(sh_st h_this), trivial⟩ ?_
  obtain ⟨hi1, ehi1⟩ : ∃ m : pm_B, m = pm_u (pm_u hi this 0 p1) this 1 p2 := ⟨_, rfl⟩
  replace h := h hi1 ehi1
  rw [← ehi1]
  exact h
theorem v_Sheet_begin_12 {L d : Nat}  {this : Nat} (h_this : pm_st this) {p1 : Int32} {p2 : Int32} {y3 : Int32} {hi : pm_B} {Q : pm_Q} (h : ((24 ≤ y3) → Q none hi) ∧ ((¬ (24 ≤ y3)) → ∃ k2 : Nat, k2 < 24 ∧ y3 = nI k2 ∧ (pm_W pm_g (SH L) HR (d) pm_t54 12 [some (.inr this), some (.inl p1), some (.inl p2), some (.inl (y3 + 1))] [] (pm_u hi (this + 1) k2 0) Q))) : pm_W pm_g (SH L) HR (d) pm_t54 12 [some (.inr this), some (.inl p1), some (.inl p2), some (.inl y3)] [] hi Q := by
  refine pm_W_of 14 [12] rfl ?_
  refine And.intro (sh_st h_this) ?_
  rw [(hr_st h_this)]
  refine ⟨24, ⟨0, _, (sh_st1 h_this)⟩, ?_⟩
  rw [show nI 24 = (24 : Int32) from rfl]
  refine And.intro (fun c1 => ?_) (fun c1 => ?_)
  · replace h := h.1 c1
    exact h
  · replace h := h.2 c1
    refine And.intro (sh_st h_this) ?_
    rw [(hr_st h_this)]
    obtain ⟨k2, hkk2, hek2, h⟩ := h
    refine And.intro ⟨pm_aw_of (sh_st1 h_this) hkk2 hek2 (by decide), trivial⟩ ?_
    rw [pm_tn hek2 hkk2 (by decide)]
    exact h
theorem v_Sheet_become {L d : Nat} {this : Nat} (h_this : pm_st this) {p1 : Nat} (h_p1 : pm_st p1) {hi : pm_B} {Q : pm_Q} (h : ∀ hi1 : pm_B, hi1 = pm_u (pm_u hi this 0 (hi p1 0)) this 1 ((pm_u hi this 0 (hi p1 0)) p1 1) → (pm_W pm_g (SH L) HR (d) pm_t55 18 [some (.inr this), some (.inr p1), some (.inl 0)] [] hi1 Q)) : pm_C pm_g (SH L) HR (d + 1) m_Sheet_become [.inr this, .inr p1] hi Q := by
  refine pm_C_of (maxL := 3) (t := pm_t55) rfl (Nat.le_of_ble_eq_true rfl) ?_
  refine pm_W_of 12 [18] rfl ?_
  refine And.intro (sh_st h_p1) ?_
  refine And.intro ⟨(sh_st h_this), trivial⟩ ?_
  refine And.intro (sh_st h_p1) ?_
  refine And.intro ⟨(sh_st h_this), trivial⟩ ?_
  obtain ⟨hi1, ehi1⟩ : ∃ m : pm_B, m = pm_u (pm_u hi this 0 (hi p1 0)) this 1 ((pm_u hi this 0 (hi p1 0)) p1 1) := ⟨_, rfl⟩
  replace h := h hi1 ehi1
  rw [← ehi1]
  exact h
theorem v_Sheet_become_18 {L d : Nat}  {this : Nat} (h_this : pm_st this) {p1 : Nat} (h_p1 : pm_st p1) {y2 : Int32} {hi : pm_B} {Q : pm_Q} (h : ((24 ≤ y2) → Q none hi) ∧ ((¬ (24 ≤ y2)) → ∃ k2 : Nat, k2 < 24 ∧ y2 = nI k2 ∧ (∃ k3 : Nat, k3 < 24 ∧ y2 = nI k3 ∧ (pm_W pm_g (SH L) HR (d) pm_t55 18 [some (.inr this), some (.inr p1), some (.inl (y2 + 1))] [] (pm_u hi (this + 1) k3 (hi (p1 + 1) k2)) Q)))) : pm_W pm_g (SH L) HR (d) pm_t55 18 [some (.inr this), some (.inr p1), some (.inl y2)] [] hi Q := by
  refine pm_W_of 17 [18] rfl ?_
  refine And.intro (sh_st h_this) ?_
  rw [(hr_st h_this)]
  refine ⟨24, ⟨0, _, (sh_st1 h_this)⟩, ?_⟩
  rw [show nI 24 = (24 : Int32) from rfl]
  refine And.intro (fun c1 => ?_) (fun c1 => ?_)
  · replace h := h.1 c1
    exact h
  · replace h := h.2 c1
    refine And.intro (sh_st h_this) ?_
    rw [(hr_st h_this)]
    refine And.intro (sh_st h_p1) ?_
    rw [(hr_st h_p1)]
    obtain ⟨k2, hkk2, hek2, h⟩ := h
    refine And.intro (pm_ao_of (t := 0) (sh_st1 h_p1) hkk2 hek2 (by decide)) ?_
    rw [pm_tn hek2 hkk2 (by decide)]
    obtain ⟨k3, hkk3, hek3, h⟩ := h
    refine And.intro ⟨pm_aw_of (sh_st1 h_this) hkk3 hek3 (by decide), trivial⟩ ?_
    rw [pm_tn hek3 hkk3 (by decide)]
    exact h
theorem v_Speaker_become {L d : Nat} {this : Nat} (h_this : pm_sk this) {p1 : Nat} (h_p1 : pm_sk p1) {hi : pm_B} {Q : pm_Q} (h : ∀ hi1 : pm_B, hi1 = pm_u (pm_u hi this 0 (hi p1 0)) this 1 ((pm_u hi this 0 (hi p1 0)) p1 1) → (∀ hi2 : pm_B, hi2 = pm_u (pm_u hi1 this 2 (hi1 p1 2)) this 3 ((pm_u hi1 this 2 (hi1 p1 2)) p1 3) → (pm_W pm_g (SH L) HR (d) pm_t62 42 [some (.inr this), some (.inr p1), some (.inl 0)] [] (pm_u hi2 this 4 (hi2 p1 4)) Q))) : pm_C pm_g (SH L) HR (d + 1) m_Speaker_become [.inr this, .inr p1] hi Q := by
  refine pm_C_of (maxL := 3) (t := pm_t62) rfl (Nat.le_of_ble_eq_true rfl) ?_
  refine pm_W_of 24 [42] rfl ?_
  refine And.intro (sh_sk h_p1) ?_
  refine And.intro ⟨(sh_sk h_this), trivial⟩ ?_
  refine And.intro (sh_sk h_p1) ?_
  refine And.intro ⟨(sh_sk h_this), trivial⟩ ?_
  obtain ⟨hi1, ehi1⟩ : ∃ m : pm_B, m = pm_u (pm_u hi this 0 (hi p1 0)) this 1 ((pm_u hi this 0 (hi p1 0)) p1 1) := ⟨_, rfl⟩
  replace h := h hi1 ehi1
  rw [← ehi1]
  refine And.intro (sh_sk h_p1) ?_
  refine And.intro ⟨(sh_sk h_this), trivial⟩ ?_
  refine And.intro (sh_sk h_p1) ?_
  refine And.intro ⟨(sh_sk h_this), trivial⟩ ?_
  obtain ⟨hi2, ehi2⟩ : ∃ m : pm_B, m = pm_u (pm_u hi1 this 2 (hi1 p1 2)) this 3 ((pm_u hi1 this 2 (hi1 p1 2)) p1 3) := ⟨_, rfl⟩
  replace h := h hi2 ehi2
  rw [← ehi2]
  refine And.intro (sh_sk h_p1) ?_
  refine And.intro ⟨(sh_sk h_this), trivial⟩ ?_
  exact h
theorem v_Speaker_become_42 {L d : Nat}  {this : Nat} (h_this : pm_sk this) {p1 : Nat} (h_p1 : pm_sk p1) {y2 : Int32} {hi : pm_B} {Q : pm_Q} (h : (((hi this 4) ≤ y2) → Q none hi) ∧ ((¬ ((hi this 4) ≤ y2)) → ((24 ≤ y2) → Q none hi) ∧ ((¬ (24 ≤ y2)) → ∃ k3 : Nat, k3 < 24 ∧ y2 = nI k3 ∧ (∃ k4 : Nat, k4 < 24 ∧ y2 = nI k4 ∧ (pm_W pm_g (SH L) HR (d) pm_t62 42 [some (.inr this), some (.inr p1), some (.inl (y2 + 1))] [] (pm_u hi (this + 1) k4 (hi (p1 + 1) k3)) Q))))) : pm_W pm_g (SH L) HR (d) pm_t62 42 [some (.inr this), some (.inr p1), some (.inl y2)] [] hi Q := by
  refine pm_W_of 21 [42] rfl ?_
  refine And.intro (sh_sk h_this) ?_
  refine And.intro (fun c1 => ?_) (fun c1 => ?_)
  · replace h := h.1 c1
    exact h
  · replace h := h.2 c1
    refine And.intro (sh_sk h_this) ?_
    rw [(hr_sk h_this)]
    refine ⟨24, ⟨0, _, (sh_sk1 h_this)⟩, ?_⟩
    rw [show nI 24 = (24 : Int32) from rfl]
    refine And.intro (fun c2 => ?_) (fun c2 => ?_)
    · replace h := h.1 c2
      exact h
    · replace h := h.2 c2
      refine And.intro (sh_sk h_this) ?_
      rw [(hr_sk h_this)]
      refine And.intro (sh_sk h_p1) ?_
      rw [(hr_sk h_p1)]
      obtain ⟨k3, hkk3, hek3, h⟩ := h
      refine And.intro (pm_ao_of (t := 0) (sh_sk1 h_p1) hkk3 hek3 (by decide)) ?_
      rw [pm_tn hek3 hkk3 (by decide)]
      obtain ⟨k4, hkk4, hek4, h⟩ := h
      refine And.intro ⟨pm_aw_of (sh_sk1 h_this) hkk4 hek4 (by decide), trivial⟩ ?_
      rw [pm_tn hek4 hkk4 (by decide)]
      exact h
theorem v_Speaker_wordSet {L d : Nat} {this : Nat} (h_this : pm_sk this) {hi : pm_B} {Q : pm_Q} (h : pm_W pm_g (SH L) HR (d) pm_t64 4 [some (.inr this), some (.inl 0), some (.inl 0)] [] hi Q) : pm_C pm_g (SH L) HR (d + 1) m_Speaker_wordSet [.inr this] hi Q := by
  refine pm_C_of (maxL := 3) (t := pm_t64) rfl (Nat.le_of_ble_eq_true rfl) ?_
  refine pm_W_of 6 [4] rfl ?_
  exact h
theorem v_Speaker_wordSet_4 {L d : Nat}  {this : Nat} (h_this : pm_sk this) {y1 : Int32} {y2 : Int32} {hi : pm_B} {Q : pm_Q} (h : (((hi this 4) ≤ y2) → Q (some (.inl y1)) hi) ∧ ((¬ ((hi this 4) ≤ y2)) → ((24 ≤ y2) → Q (some (.inl y1)) hi) ∧ ((¬ (24 ≤ y2)) → ∃ k3 : Nat, k3 < 24 ∧ y2 = nI k3 ∧ (pm_W pm_g (SH L) HR (d) pm_t64 4 [some (.inr this), some (.inl (y1 ||| (1 <<< ((hi (this + 1) k3) &&& 31)))), some (.inl (y2 + 1))] [] hi Q)))) : pm_W pm_g (SH L) HR (d) pm_t64 4 [some (.inr this), some (.inl y1), some (.inl y2)] [] hi Q := by
  refine pm_W_of 22 [4] rfl ?_
  refine And.intro (sh_sk h_this) ?_
  refine And.intro (fun c1 => ?_) (fun c1 => ?_)
  · replace h := h.1 c1
    refine And.intro trivial ?_
    exact h
  · replace h := h.2 c1
    refine And.intro (sh_sk h_this) ?_
    rw [(hr_sk h_this)]
    refine ⟨24, ⟨0, _, (sh_sk1 h_this)⟩, ?_⟩
    rw [show nI 24 = (24 : Int32) from rfl]
    refine And.intro (fun c2 => ?_) (fun c2 => ?_)
    · replace h := h.1 c2
      refine And.intro trivial ?_
      exact h
    · replace h := h.2 c2
      refine And.intro (sh_sk h_this) ?_
      rw [(hr_sk h_this)]
      obtain ⟨k3, hkk3, hek3, h⟩ := h
      refine And.intro (pm_ao_of (t := 0) (sh_sk1 h_this) hkk3 hek3 (by decide)) ?_
      rw [pm_tn hek3 hkk3 (by decide)]
      exact h
theorem v_Speaker_putBehind {L d : Nat} {this : Nat} (h_this : pm_sk this) {p1 n_p1 : Nat} (h_p1 : (SH L)[p1]? = some (1, 0, n_p1)) (hl_p1 : n_p1 ≤ 2147483648) {p2 : Int32} {p3 : Int32} {hi : pm_B} {Q : pm_Q} (h : pm_W pm_g (SH L) HR (d) pm_t65 3 [some (.inr this), some (.inr p1), some (.inl p2), some (.inl p3), some (.inl 0), none] [] hi Q) : pm_C pm_g (SH L) HR (d + 1) m_Speaker_putBehind [.inr this, .inr p1, .inl p2, .inl p3] hi Q := by
  refine pm_C_of (maxL := 6) (t := pm_t65) rfl (Nat.le_of_ble_eq_true rfl) ?_
  refine pm_W_of 4 [3] rfl ?_
  exact h
theorem v_Speaker_putBehind_3 {L d : Nat} {o5 : Option pm_V} {this : Nat} (h_this : pm_sk this) {p1 n_p1 : Nat} (h_p1 : (SH L)[p1]? = some (1, 0, n_p1)) (hl_p1 : n_p1 ≤ 2147483648) {p2 : Int32} {p3 : Int32} {y4 : Int32} {hi : pm_B} {Q : pm_Q} (h : ((p3 ≤ y4) → Q none hi) ∧ ((¬ (p3 ≤ y4)) → (((p2 + y4) < 0) → Q none hi) ∧ ((¬ ((p2 + y4) < 0)) → (((nI n_p1) ≤ (p2 + y4)) → Q none hi) ∧ ((¬ ((nI n_p1) ≤ (p2 + y4))) → (((hi this 4) < 0) → Q none hi) ∧ ((¬ ((hi this 4) < 0)) → (((hi this 4) < 24) → ∃ k6 : Nat, k6 < n_p1 ∧ (p2 + y4) = nI k6 ∧ (∃ k7 : Nat, k7 < 24 ∧ (hi this 4) = nI k7 ∧ (∀ hi8 : pm_B, hi8 = pm_u (pm_u hi (this + 1) k7 (hi p1 k6)) this 4 (((pm_u hi (this + 1) k7 (hi p1 k6)) this 4) + 1) → (pm_W pm_g (SH L) HR (d) pm_t65 3 [some (.inr this), some (.inr p1), some (.inl p2), some (.inl p3), some (.inl (y4 + 1)), some (.inl (p2 + y4))] [] hi8 Q)))) ∧ ((¬ ((hi this 4) < 24)) → Q none hi)))))) : pm_W pm_g (SH L) HR (d) pm_t65 3 [some (.inr this), some (.inr p1), some (.inl p2), some (.inl p3), some (.inl y4), o5] [] hi Q := by
  refine pm_W_of 40 [3] rfl ?_
  refine And.intro (fun c1 => ?_) (fun c1 => ?_)
  · replace h := h.1 c1
    exact h
  · replace h := h.2 c1
    refine And.intro (fun c2 => ?_) (fun c2 => ?_)
    · replace h := h.1 c2
      exact h
    · replace h := h.2 c2
      refine ⟨n_p1, ⟨0, _, h_p1⟩, ?_⟩
      refine And.intro (fun c3 => ?_) (fun c3 => ?_)
      · replace h := h.1 c3
        exact h
      · replace h := h.2 c3
        refine And.intro (sh_sk h_this) ?_
        refine And.intro (fun c4 => ?_) (fun c4 => ?_)
        · replace h := h.1 c4
          exact h
        · replace h := h.2 c4
          refine And.intro (sh_sk h_this) ?_
          refine And.intro (sh_sk h_this) ?_
          rw [(hr_sk h_this)]
          refine ⟨24, ⟨0, _, (sh_sk1 h_this)⟩, ?_⟩
          rw [show nI 24 = (24 : Int32) from rfl]
          refine And.intro (fun c5 => ?_) (fun c5 => ?_)
          · replace h := h.1 c5
            refine And.intro (sh_sk h_this) ?_
            rw [(hr_sk h_this)]
            refine And.intro (sh_sk h_this) ?_
            obtain ⟨k6, hkk6, hek6, h⟩ := h
            refine And.intro (pm_ao_of (t := 0) h_p1 hkk6 hek6 hl_p1) ?_
            rw [pm_tn hek6 hkk6 hl_p1]
            obtain ⟨k7, hkk7, hek7, h⟩ := h
            refine And.intro ⟨pm_aw_of (sh_sk1 h_this) hkk7 hek7 (by decide), trivial⟩ ?_
            rw [pm_tn hek7 hkk7 (by decide)]
            refine And.intro (sh_sk h_this) ?_
            refine And.intro ⟨(sh_sk h_this), trivial⟩ ?_
            obtain ⟨hi8, ehi8⟩ : ∃ m : pm_B, m = pm_u (pm_u hi (this + 1) k7 (hi p1 k6)) this 4 (((pm_u hi (this + 1) k7 (hi p1 k6)) this 4) + 1) := ⟨_, rfl⟩
            replace h := h hi8 ehi8
            rw [← ehi8]
            exact h
          · replace h := h.2 c5
            exact h
theorem v_Speaker_forgetOldest {L d : Nat} {this : Nat} (h_this : pm_sk this) {p1 : Int32} {hi : pm_B} {Q : pm_Q} (h : ((p1 < 1) → Q none hi) ∧ ((¬ (p1 < 1)) → ((p1 ≤ (hi this 4)) → pm_W pm_g (SH L) HR (d) pm_t66 26 [some (.inr this), some (.inl p1), some (.inl 0)] [] (pm_u hi this 4 ((hi this 4) - p1)) Q) ∧ ((¬ (p1 ≤ (hi this 4))) → Q none hi))) : pm_C pm_g (SH L) HR (d + 1) m_Speaker_forgetOldest [.inr this, .inl p1] hi Q := by
  refine pm_C_of (maxL := 3) (t := pm_t66) rfl (Nat.le_of_ble_eq_true rfl) ?_
  refine pm_W_of 17 [26] rfl ?_
  refine And.intro (fun c1 => ?_) (fun c1 => ?_)
  · replace h := h.1 c1
    exact h
  · replace h := h.2 c1
    refine And.intro (sh_sk h_this) ?_
    refine And.intro (fun c2 => ?_) (fun c2 => ?_)
    · replace h := h.1 c2
      refine And.intro (sh_sk h_this) ?_
      refine And.intro ⟨(sh_sk h_this), trivial⟩ ?_
      exact h
    · replace h := h.2 c2
      exact h
theorem v_Speaker_forgetOldest_26 {L d : Nat}  {this : Nat} (h_this : pm_sk this) {p1 : Int32} {y2 : Int32} {hi : pm_B} {Q : pm_Q} (h : (((hi this 4) ≤ y2) → Q none hi) ∧ ((¬ ((hi this 4) ≤ y2)) → ((24 ≤ (y2 + p1)) → Q none hi) ∧ ((¬ (24 ≤ (y2 + p1))) → ∃ k3 : Nat, k3 < 24 ∧ (y2 + p1) = nI k3 ∧ (∃ k4 : Nat, k4 < 24 ∧ y2 = nI k4 ∧ (pm_W pm_g (SH L) HR (d) pm_t66 26 [some (.inr this), some (.inl p1), some (.inl (y2 + 1))] [] (pm_u hi (this + 1) k4 (hi (this + 1) k3)) Q))))) : pm_W pm_g (SH L) HR (d) pm_t66 26 [some (.inr this), some (.inl p1), some (.inl y2)] [] hi Q := by
  refine pm_W_of 25 [26] rfl ?_
  refine And.intro (sh_sk h_this) ?_
  refine And.intro (fun c1 => ?_) (fun c1 => ?_)
  · replace h := h.1 c1
    exact h
  · replace h := h.2 c1
    refine And.intro (sh_sk h_this) ?_
    rw [(hr_sk h_this)]
    refine ⟨24, ⟨0, _, (sh_sk1 h_this)⟩, ?_⟩
    rw [show nI 24 = (24 : Int32) from rfl]
    refine And.intro (fun c2 => ?_) (fun c2 => ?_)
    · replace h := h.1 c2
      exact h
    · replace h := h.2 c2
      refine And.intro (sh_sk h_this) ?_
      rw [(hr_sk h_this)]
      refine And.intro (sh_sk h_this) ?_
      rw [(hr_sk h_this)]
      obtain ⟨k3, hkk3, hek3, h⟩ := h
      refine And.intro (pm_ao_of (t := 0) (sh_sk1 h_this) hkk3 hek3 (by decide)) ?_
      rw [pm_tn hek3 hkk3 (by decide)]
      obtain ⟨k4, hkk4, hek4, h⟩ := h
      refine And.intro ⟨pm_aw_of (sh_sk1 h_this) hkk4 hek4 (by decide), trivial⟩ ?_
      rw [pm_tn hek4 hkk4 (by decide)]
      exact h
theorem v_Tape_putNumber {L d : Nat} {p1 : Int32} {hi : pm_B} {Q : pm_Q} (h : pm_W pm_g (SH L) HR (d) pm_t68 3 [some (.inr 107), some (.inl p1), some (.inl 24)] [] hi Q) : pm_C pm_g (SH L) HR (d + 1) m_Tape_putNumber [.inr 107, .inl p1] hi Q := by
  refine pm_C_of (maxL := 3) (t := pm_t68) rfl (Nat.le_of_ble_eq_true rfl) ?_
  refine pm_W_of 4 [3] rfl ?_
  exact h
theorem v_Tape_putNumber_3 {L d : Nat}  {p1 : Int32} {y2 : Int32} {hi : pm_B} {Q : pm_Q} (h : ((y2 < 0) → Q none hi) ∧ ((¬ (y2 < 0)) → (((hi 107 1) < 0) → Q none hi) ∧ ((¬ ((hi 107 1) < 0)) → (((hi 107 1) < 96) → ∃ k4 : Nat, k4 < 96 ∧ (hi 107 1) = nI k4 ∧ (∀ hi5 : pm_B, hi5 = pm_u (pm_u hi 108 k4 (((Int32.toUInt32 p1 >>> (Int32.toUInt32 y2 &&& Int32.toUInt32 31)).toInt32) &&& 255)) 107 1 (((pm_u hi 108 k4 (((Int32.toUInt32 p1 >>> (Int32.toUInt32 y2 &&& Int32.toUInt32 31)).toInt32) &&& 255)) 107 1) + 1) → (pm_W pm_g (SH L) HR (d) pm_t68 3 [some (.inr 107), some (.inl p1), some (.inl (y2 + (-8)))] [] hi5 Q))) ∧ ((¬ ((hi 107 1) < 96)) → Q none hi)))) : pm_W pm_g (SH L) HR (d) pm_t68 3 [some (.inr 107), some (.inl p1), some (.inl y2)] [] hi Q := by
  refine pm_W_of 31 [3] rfl ?_
  refine And.intro (fun c1 => ?_) (fun c1 => ?_)
  · replace h := h.1 c1
    exact h
  · replace h := h.2 c1
    refine And.intro sh_l107 ?_
    refine And.intro (fun c2 => ?_) (fun c2 => ?_)
    · replace h := h.1 c2
      exact h
    · replace h := h.2 c2
      refine And.intro sh_l107 ?_
      refine And.intro sh_l107 ?_
      rw [hr_107_0]
      refine ⟨96, ⟨0, _, sh_l108⟩, ?_⟩
      rw [show nI 96 = (96 : Int32) from rfl]
      refine And.intro (fun c3 => ?_) (fun c3 => ?_)
      · replace h := h.1 c3
        refine And.intro sh_l107 ?_
        rw [hr_107_0]
        refine And.intro sh_l107 ?_
        obtain ⟨k4, hkk4, hek4, h⟩ := h
        refine And.intro ⟨pm_aw_of sh_l108 hkk4 hek4 (by decide), trivial⟩ ?_
        rw [pm_tn hek4 hkk4 (by decide)]
        refine And.intro sh_l107 ?_
        refine And.intro ⟨sh_l107, trivial⟩ ?_
        obtain ⟨hi5, ehi5⟩ : ∃ m : pm_B, m = pm_u (pm_u hi 108 k4 (((Int32.toUInt32 p1 >>> (Int32.toUInt32 y2 &&& Int32.toUInt32 31)).toInt32) &&& 255)) 107 1 (((pm_u hi 108 k4 (((Int32.toUInt32 p1 >>> (Int32.toUInt32 y2 &&& Int32.toUInt32 31)).toInt32) &&& 255)) 107 1) + 1) := ⟨_, rfl⟩
        replace h := h hi5 ehi5
        rw [← ehi5]
        exact h
      · replace h := h.2 c3
        exact h
