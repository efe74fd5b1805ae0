/-! printed by program (wip/whole/vcg.py): what each method needs -/
theorem v_Folk_become {L d : Nat} {this : Nat} (h_this : pm_fo this) {p1 : Nat} (h_p1 : pm_fo p1) {hi : pm_B} {Q : pm_Q} (h : pm_W pm_g (SH L) HR (d) pm_t1 10 [some (.inr this), some (.inr p1), some (.inl 0)] [] (pm_u hi this 2 (hi p1 2)) Q) : pm_C pm_g (SH L) HR (d + 1) m_Folk_become [.inr this, .inr p1] hi Q := by
  refine pm_C_of (maxL := 3) (t := pm_t1) rfl (Nat.le_of_ble_eq_true rfl) ?_
  refine pm_W_of 8 [10, 98] rfl ?_
  refine And.intro (sh_fo h_p1) ?_
  refine And.intro ⟨(sh_fo h_this), trivial⟩ ?_
  exact h
theorem v_Folk_become_10 {L d : Nat}  {this : Nat} (h_this : pm_fo this) {p1 : Nat} (h_p1 : pm_fo p1) {y2 : Int32} {hi : pm_B} {Q : pm_Q} (h : (((hi this 2) ≤ y2) → ∀ hi2 : pm_B, hi2 = pm_u (pm_u hi this 3 (hi p1 3)) this 4 ((pm_u hi this 3 (hi p1 3)) p1 4) → (∀ hi3 : pm_B, hi3 = pm_u (pm_u hi2 this 5 (hi2 p1 5)) this 6 ((pm_u hi2 this 5 (hi2 p1 5)) p1 6) → (∀ hi4 : pm_B, hi4 = pm_u (pm_u hi3 this 7 (hi3 p1 7)) this 8 ((pm_u hi3 this 7 (hi3 p1 7)) p1 8) → (pm_W pm_g (SH L) HR (d) pm_t1 98 [some (.inr this), some (.inr p1), some (.inl 0)] [] hi4 Q)))) ∧ ((¬ ((hi this 2) ≤ y2)) → ((8 ≤ y2) → ∀ hi6 : pm_B, hi6 = pm_u (pm_u hi this 3 (hi p1 3)) this 4 ((pm_u hi this 3 (hi p1 3)) p1 4) → (∀ hi7 : pm_B, hi7 = pm_u (pm_u hi6 this 5 (hi6 p1 5)) this 6 ((pm_u hi6 this 5 (hi6 p1 5)) p1 6) → (∀ hi8 : pm_B, hi8 = pm_u (pm_u hi7 this 7 (hi7 p1 7)) this 8 ((pm_u hi7 this 7 (hi7 p1 7)) p1 8) → (pm_W pm_g (SH L) HR (d) pm_t1 98 [some (.inr this), some (.inr p1), some (.inl 0)] [] hi8 Q)))) ∧ ((¬ (8 ≤ y2)) → ∃ k9 : Nat, k9 < 8 ∧ y2 = nI k9 ∧ (∃ k10 : Nat, k10 < 8 ∧ y2 = nI k10 ∧ (pm_C pm_g (SH L) HR (d) m_Speaker_become [.inr (this + 2 + 2 * k9), .inr (p1 + 2 + 2 * k10)] hi (fun v hi11 => v = none ∧ (pm_W pm_g (SH L) HR (d) pm_t1 10 [some (.inr this), some (.inr p1), some (.inl (y2 + 1))] [] hi11 Q))))))) : pm_W pm_g (SH L) HR (d) pm_t1 10 [some (.inr this), some (.inr p1), some (.inl y2)] [] hi Q := by
  refine pm_W_of 37 [10, 98] rfl ?_
  refine And.intro (sh_fo h_this) ?_
  refine And.intro (fun c1 => ?_) (fun c1 => ?_)
  · replace h := h.1 c1
    refine And.intro (sh_fo h_p1) ?_
    refine And.intro ⟨(sh_fo h_this), trivial⟩ ?_
    refine And.intro (sh_fo h_p1) ?_
    refine And.intro ⟨(sh_fo h_this), trivial⟩ ?_
    obtain ⟨hi2, ehi2⟩ : ∃ m : pm_B, m = pm_u (pm_u hi this 3 (hi p1 3)) this 4 ((pm_u hi this 3 (hi p1 3)) p1 4) := ⟨_, rfl⟩
    replace h := h hi2 ehi2
    rw [← ehi2]
    refine And.intro (sh_fo h_p1) ?_
    refine And.intro ⟨(sh_fo h_this), trivial⟩ ?_
    refine And.intro (sh_fo h_p1) ?_
    refine And.intro ⟨(sh_fo h_this), trivial⟩ ?_
    obtain ⟨hi3, ehi3⟩ : ∃ m : pm_B, m = pm_u (pm_u hi2 this 5 (hi2 p1 5)) this 6 ((pm_u hi2 this 5 (hi2 p1 5)) p1 6) := ⟨_, rfl⟩
    replace h := h hi3 ehi3
    rw [← ehi3]
    refine And.intro (sh_fo h_p1) ?_
    refine And.intro ⟨(sh_fo h_this), trivial⟩ ?_
    refine And.intro (sh_fo h_p1) ?_
    refine And.intro ⟨(sh_fo h_this), trivial⟩ ?_
    obtain ⟨hi4, ehi4⟩ : ∃ m : pm_B, m = pm_u (pm_u hi3 this 7 (hi3 p1 7)) this 8 ((pm_u hi3 this 7 (hi3 p1 7)) p1 8) := ⟨_, rfl⟩
    replace h := h hi4 ehi4
    rw [← ehi4]
    exact h
  · replace h := h.2 c1
    refine And.intro (sh_fo h_this) ?_
    rw [(hr_fo1 h_this)]
    refine ⟨8, ⟨0, _, (sh_fo1 h_this)⟩, ?_⟩
    rw [show nI 8 = (8 : Int32) from rfl]
    refine And.intro (fun c5 => ?_) (fun c5 => ?_)
    · replace h := h.1 c5
      refine And.intro (sh_fo h_p1) ?_
      refine And.intro ⟨(sh_fo h_this), trivial⟩ ?_
      refine And.intro (sh_fo h_p1) ?_
      refine And.intro ⟨(sh_fo h_this), trivial⟩ ?_
      obtain ⟨hi6, ehi6⟩ : ∃ m : pm_B, m = pm_u (pm_u hi this 3 (hi p1 3)) this 4 ((pm_u hi this 3 (hi p1 3)) p1 4) := ⟨_, rfl⟩
      replace h := h hi6 ehi6
      rw [← ehi6]
      refine And.intro (sh_fo h_p1) ?_
      refine And.intro ⟨(sh_fo h_this), trivial⟩ ?_
      refine And.intro (sh_fo h_p1) ?_
      refine And.intro ⟨(sh_fo h_this), trivial⟩ ?_
      obtain ⟨hi7, ehi7⟩ : ∃ m : pm_B, m = pm_u (pm_u hi6 this 5 (hi6 p1 5)) this 6 ((pm_u hi6 this 5 (hi6 p1 5)) p1 6) := ⟨_, rfl⟩
      replace h := h hi7 ehi7
      rw [← ehi7]
      refine And.intro (sh_fo h_p1) ?_
      refine And.intro ⟨(sh_fo h_this), trivial⟩ ?_
      refine And.intro (sh_fo h_p1) ?_
      refine And.intro ⟨(sh_fo h_this), trivial⟩ ?_
      obtain ⟨hi8, ehi8⟩ : ∃ m : pm_B, m = pm_u (pm_u hi7 this 7 (hi7 p1 7)) this 8 ((pm_u hi7 this 7 (hi7 p1 7)) p1 8) := ⟨_, rfl⟩
      replace h := h hi8 ehi8
      rw [← ehi8]
      exact h
    · replace h := h.2 c5
      refine And.intro (sh_fo h_this) ?_
      rw [(hr_fo1 h_this)]
      obtain ⟨k9, hkk9, hek9, h⟩ := h
      refine And.intro (pm_ao_of (t := 0) (sh_fo1 h_this) hkk9 hek9 (by decide)) ?_
      rw [pm_tn hek9 hkk9 (by decide)]
      rw [(hr_sp h_this hkk9)]
      refine And.intro (sh_fo h_p1) ?_
      rw [(hr_fo1 h_p1)]
      obtain ⟨k10, hkk10, hek10, h⟩ := h
      refine And.intro (pm_ao_of (t := 0) (sh_fo1 h_p1) hkk10 hek10 (by decide)) ?_
      rw [pm_tn hek10 hkk10 (by decide)]
      rw [(hr_sp h_p1 hkk10)]
      refine And.intro (sh_sk (sk_of h_this hkk9)) ?_
      refine pm_C_imp h (fun v hi11 h => ?_)
      obtain ⟨rfl, h⟩ := h
      refine ⟨rfl, ?_⟩
      exact h
theorem v_Folk_become_98 {L d : Nat}  {this : Nat} (h_this : pm_fo this) {p1 : Nat} (h_p1 : pm_fo p1) {y2 : Int32} {hi : pm_B} {Q : pm_Q} (h : ((3 ≤ y2) → Q none hi) ∧ ((¬ (3 ≤ y2)) → ∃ k2 : Nat, k2 < 3 ∧ y2 = nI k2 ∧ (∃ k3 : Nat, k3 < 3 ∧ y2 = nI k3 ∧ (pm_W pm_g (SH L) HR (d) pm_t1 98 [some (.inr this), some (.inr p1), some (.inl (y2 + 1))] [] (pm_u hi (this + 18) k3 (hi (p1 + 18) k2)) Q)))) : pm_W pm_g (SH L) HR (d) pm_t1 98 [some (.inr this), some (.inr p1), some (.inl y2)] [] hi Q := by
  refine pm_W_of 17 [10, 98] rfl ?_
  refine And.intro (sh_fo h_this) ?_
  rw [(hr_fo9 h_this)]
  refine ⟨3, ⟨0, _, (sh_fo18 h_this)⟩, ?_⟩
  rw [show nI 3 = (3 : Int32) from rfl]
  refine And.intro (fun c1 => ?_) (fun c1 => ?_)
  · replace h := h.1 c1
    exact h
  · replace h := h.2 c1
    refine And.intro (sh_fo h_this) ?_
    rw [(hr_fo9 h_this)]
    refine And.intro (sh_fo h_p1) ?_
    rw [(hr_fo9 h_p1)]
    obtain ⟨k2, hkk2, hek2, h⟩ := h
    refine And.intro (pm_ao_of (t := 0) (sh_fo18 h_p1) hkk2 hek2 (by decide)) ?_
    rw [pm_tn hek2 hkk2 (by decide)]
    obtain ⟨k3, hkk3, hek3, h⟩ := h
    refine And.intro ⟨pm_aw_of (sh_fo18 h_this) hkk3 hek3 (by decide), trivial⟩ ?_
    rw [pm_tn hek3 hkk3 (by decide)]
    exact h
theorem v_Folk_enter {L d : Nat} {this : Nat} (h_this : pm_fo this) {p1 : Int32} {p2 : Int32} {p3 : Int32} {hi : pm_B} {Q : pm_Q} (h : (((hi this 2) < 0) → Q none hi) ∧ ((¬ ((hi this 2) < 0)) → ((8 ≤ (hi this 2)) → Q none hi) ∧ ((¬ (8 ≤ (hi this 2))) → ∃ k3 : Nat, k3 < 8 ∧ (hi this 2) = nI k3 ∧ (∀ hi4 : pm_B, hi4 = pm_u (pm_u hi (this + 2 + 2 * k3) 0 p1) (this + 2 + 2 * k3) 1 p2 → (∀ hi5 : pm_B, hi5 = pm_u (pm_u hi4 (this + 2 + 2 * k3) 2 p3) (this + 2 + 2 * k3) 3 0 → (∀ hi6 : pm_B, hi6 = pm_u hi5 (this + 2 + 2 * k3) 4 0 → (Q none (pm_u hi6 this 2 ((hi6 this 2) + 1))))))))) : pm_C pm_g (SH L) HR (d + 2) m_Folk_enter [.inr this, .inl p1, .inl p2, .inl p3] hi Q := by
  refine pm_C_of (maxL := 4) (t := pm_t4) rfl (Nat.le_of_ble_eq_true rfl) ?_
  refine pm_W_of 21 [] rfl ?_
  refine And.intro (sh_fo h_this) ?_
  refine v_Folk_hasRoom (d := d) h_this ?_
  refine And.intro (fun c1 => ?_) (fun c1 => ?_)
  · replace h := h.1 c1
    refine ⟨_, rfl, ?_⟩
    refine And.intro (fun hc => absurd hc (pm_cd_f (by decide))) (fun _ => ?_)
    exact h
  · replace h := h.2 c1
    refine And.intro (fun c2 => ?_) (fun c2 => ?_)
    · replace h := h.1 c2
      refine ⟨_, rfl, ?_⟩
      refine And.intro (fun hc => absurd hc (pm_cd_f (by decide))) (fun _ => ?_)
      exact h
    · replace h := h.2 c2
      refine ⟨_, rfl, ?_⟩
      refine And.intro (fun _ => ?_) (fun hc => absurd (pm_cd_t (by decide)) hc)
      refine And.intro (sh_fo h_this) ?_
      rw [(hr_fo1 h_this)]
      refine And.intro (sh_fo h_this) ?_
      obtain ⟨k3, hkk3, hek3, h⟩ := h
      refine And.intro (pm_ao_of (t := 0) (sh_fo1 h_this) hkk3 hek3 (by decide)) ?_
      rw [pm_tn hek3 hkk3 (by decide)]
      rw [(hr_sp h_this hkk3)]
      refine And.intro (sh_sk (sk_of h_this hkk3)) ?_
      refine v_Speaker_begin (d := d) (sk_of h_this hkk3) ?_
      intro hi4 ehi4
      replace h := h hi4 ehi4
      intro hi5 ehi5
      replace h := h hi5 ehi5
      refine ⟨rfl, ?_⟩
      obtain ⟨hi6, ehi6⟩ : ∃ m : pm_B, m = pm_u hi5 (this + 2 + 2 * k3) 4 0 := ⟨_, rfl⟩
      replace h := h hi6 ehi6
      rw [← ehi6]
      refine And.intro (sh_fo h_this) ?_
      refine And.intro ⟨(sh_fo h_this), trivial⟩ ?_
      exact h
theorem v_Folk_enterByLot {L d : Nat} {this : Nat} (h_this : pm_fo this) {hi : pm_B} {Q : pm_Q} (h : pm_C pm_g (SH L) HR (d) m_Folk_drawBelow [.inr this, .inl 6] hi (fun v hi1 => ∃ x2 : Int32, v = some (.inl x2) ∧ (pm_C pm_g (SH L) HR (d) m_Folk_drawBelow [.inr this, .inl 9] hi1 (fun v hi3 => ∃ x4 : Int32, v = some (.inl x4) ∧ (pm_C pm_g (SH L) HR (d) m_Folk_drawBelow [.inr this, .inl 100] hi3 (fun v hi5 => ∃ x6 : Int32, v = some (.inl x6) ∧ (pm_C pm_g (SH L) HR (d) m_Folk_enter [.inr this, .inl x2, .inl (1 + x4), .inl x6] hi5 (fun v hi7 => v = none ∧ (Q none hi7))))))))) : pm_C pm_g (SH L) HR (d + 1) m_Folk_enterByLot [.inr this] hi Q := by
  refine pm_C_of (maxL := 4) (t := pm_t5) rfl (Nat.le_of_ble_eq_true rfl) ?_
  refine pm_W_of 22 [] rfl ?_
  refine And.intro (sh_fo h_this) ?_
  refine pm_C_imp h (fun v hi1 h => ?_)
  obtain ⟨x2, rfl, h⟩ := h
  refine ⟨_, rfl, ?_⟩
  refine And.intro (sh_fo h_this) ?_
  refine pm_C_imp h (fun v hi3 h => ?_)
  obtain ⟨x4, rfl, h⟩ := h
  refine ⟨_, rfl, ?_⟩
  refine And.intro (sh_fo h_this) ?_
  refine pm_C_imp h (fun v hi5 h => ?_)
  obtain ⟨x6, rfl, h⟩ := h
  refine ⟨_, rfl, ?_⟩
  refine And.intro (sh_fo h_this) ?_
  refine pm_C_imp h (fun v hi7 h => ?_)
  obtain ⟨rfl, h⟩ := h
  refine ⟨rfl, ?_⟩
  exact h
theorem v_Folk_drawBelow {L d : Nat} {this : Nat} (h_this : pm_fo this) {p1 : Int32} {hi : pm_B} {Q : pm_Q} (h : ((p1 ≤ 0) → Q (some (.inl 0)) (pm_u hi this 7 (((hi this 7) * 1103515245) + 12345))) ∧ ((¬ (p1 ≤ 0)) → (¬ p1 = 0) ∧ (Q (some (.inl (((Int32.toUInt32 ((pm_u hi this 7 (((hi this 7) * 1103515245) + 12345)) this 7) >>> (Int32.toUInt32 8 &&& Int32.toUInt32 31)).toInt32) - ((Int32.toUInt32 ((pm_u hi this 7 (((hi this 7) * 1103515245) + 12345)) this 7) >>> (Int32.toUInt32 8 &&& Int32.toUInt32 31)).toInt32) / p1 * p1))) (pm_u hi this 7 (((hi this 7) * 1103515245) + 12345))))) : pm_C pm_g (SH L) HR (d + 1) m_Folk_drawBelow [.inr this, .inl p1] hi Q := by
  refine pm_C_of (maxL := 2) (t := pm_t6) rfl (Nat.le_of_ble_eq_true rfl) ?_
  refine pm_W_of 20 [] rfl ?_
  refine And.intro (sh_fo h_this) ?_
  refine And.intro ⟨(sh_fo h_this), trivial⟩ ?_
  refine And.intro (fun c1 => ?_) (fun c1 => ?_)
  · replace h := h.1 c1
    refine And.intro trivial ?_
    exact h
  · replace h := h.2 c1
    refine And.intro (sh_fo h_this) ?_
    refine And.intro h.1 ?_
    replace h := h.2
    refine And.intro trivial ?_
    exact h
theorem v_Folk_keepsOf {L d : Nat} {this : Nat} (h_this : pm_fo this) {p1 : Nat} (h_p1 : pm_sk p1) {p2 : Int32} {hi : pm_B} {Q : pm_Q} (h : ((¬ (hi (this + 18) 0) = (-1000000005)) → pm_C pm_g (SH L) HR (d + 1) m_Laws_valueOf [.inr 17, .inl (hi (this + 18) 0), .inl (hi p1 1), .inl (hi p1 2), .inl p2] hi (fun v hi2 => ∃ x3 : Int32, v = some (.inl x3) ∧ (Q (some (.inl (f_Kinds_keepsOf (hi2 p1 0) (f_E_held x3 0 12)))) hi2))) ∧ ((¬ (¬ (hi (this + 18) 0) = (-1000000005))) → Q (some (.inl (f_Kinds_keepsOf (hi p1 0) (f_E_held 12 0 12)))) hi)) : pm_C pm_g (SH L) HR (d + 2) m_Folk_keepsOf [.inr this, .inr p1, .inl p2] hi Q := by
  refine pm_C_of (maxL := 5) (t := pm_t9) rfl (Nat.le_of_ble_eq_true rfl) ?_
  refine pm_W_of 27 [] rfl ?_
  refine And.intro (sh_fo h_this) ?_
  refine v_Folk_lawOf (d := d) h_this ?_
  refine And.intro (fun hc => absurd hc (by decide)) (fun _ => ?_)
  refine And.intro (fun hc => absurd hc (by decide)) (fun _ => ?_)
  refine ⟨0, by decide, rfl, ?_⟩
  refine ⟨_, rfl, ?_⟩
  refine And.intro (fun c1 => ?_) (fun c1 => ?_)
  · replace h := h.1 c1
    refine And.intro (sh_fo h_this) ?_
    rw [(hr_fo0 h_this)]
    refine And.intro (sh_sk h_p1) ?_
    refine And.intro (sh_sk h_p1) ?_
    refine And.intro sh_l17 ?_
    refine pm_C_imp h (fun v hi2 h => ?_)
    obtain ⟨x3, rfl, h⟩ := h
    refine ⟨_, rfl, ?_⟩
    refine And.intro (sh_sk h_p1) ?_
    refine And.intro trivial ?_
    refine f_E_held_c (d := d)  ?_
    refine ⟨_, rfl, ?_⟩
    refine And.intro trivial ?_
    refine f_Kinds_keepsOf_c (d := d)  ?_
    refine ⟨_, rfl, ?_⟩
    refine And.intro trivial ?_
    exact h
  · replace h := h.2 c1
    refine And.intro (sh_sk h_p1) ?_
    refine And.intro trivial ?_
    refine f_E_held_c (d := d)  ?_
    refine ⟨_, rfl, ?_⟩
    refine And.intro trivial ?_
    refine f_Kinds_keepsOf_c (d := d)  ?_
    refine ⟨_, rfl, ?_⟩
    refine And.intro trivial ?_
    exact h
theorem v_Folk_hears {L d : Nat} {this : Nat} (h_this : pm_fo this) {p1 : Nat} (h_p1 : pm_sk p1) {p2 n_p2 : Nat} (h_p2 : (SH L)[p2]? = some (1, 0, n_p2)) (hl_p2 : n_p2 ≤ 2147483648) {p3 : Int32} {p4 : Int32} {hi : pm_B} {Q : pm_Q} (h : pm_C pm_g (SH L) HR (d + 1) m_Speaker_putBehind [.inr p1, .inr p2, .inl p3, .inl (if (f_Kinds_takesOf (hi p1 0) (hi p1 1)) < p4 then (f_Kinds_takesOf (hi p1 0) (hi p1 1)) else p4)] hi (fun v hi1 => v = none ∧ (pm_W pm_g (SH L) HR (d + 1) pm_t10 31 [some (.inr this), some (.inr p1), some (.inr p2), some (.inl p3), some (.inl p4), some (.inl (hi1 p1 4)), some (.inl 0)] [] hi1 Q))) : pm_C pm_g (SH L) HR (d + 2) m_Folk_hears [.inr this, .inr p1, .inr p2, .inl p3, .inl p4] hi Q := by
  refine pm_C_of (maxL := 7) (t := pm_t10) rfl (Nat.le_of_ble_eq_true rfl) ?_
  refine pm_W_of 18 [31] rfl ?_
  refine And.intro (sh_sk h_p1) ?_
  refine And.intro (sh_sk h_p1) ?_
  refine And.intro trivial ?_
  refine f_Kinds_takesOf_c (d := d)  ?_
  refine ⟨_, rfl, ?_⟩
  refine And.intro (sh_sk h_p1) ?_
  refine pm_C_imp h (fun v hi1 h => ?_)
  obtain ⟨rfl, h⟩ := h
  refine ⟨rfl, ?_⟩
  refine And.intro (sh_sk h_p1) ?_
  exact h
theorem v_Folk_hears_31 {L d : Nat}  {this : Nat} (h_this : pm_fo this) {p1 : Nat} (h_p1 : pm_sk p1) {p2 n_p2 : Nat} (h_p2 : (SH L)[p2]? = some (1, 0, n_p2)) (hl_p2 : n_p2 ≤ 2147483648) {p3 : Int32} {p4 : Int32} {y5 : Int32} {y6 : Int32} {hi : pm_B} {Q : pm_Q} (h : ((24 ≤ y6) → pm_C pm_g (SH L) HR (d + 1) m_Speaker_forgetOldest [.inr p1, .inl (((pm_u hi this 5 ((hi this 5) + ((hi p1 4) - y5))) p1 4) - y5)] (pm_u hi this 5 ((hi this 5) + ((hi p1 4) - y5))) (fun v hi2 => v = none ∧ (Q none hi2))) ∧ ((¬ (24 ≤ y6)) → pm_C pm_g (SH L) HR (d + 1) m_Folk_keepsOf [.inr this, .inr p1, .inl y5] hi (fun v hi3 => ∃ x4 : Int32, v = some (.inl x4) ∧ (((y5 ≤ x4) → pm_C pm_g (SH L) HR (d + 1) m_Speaker_forgetOldest [.inr p1, .inl (((pm_u hi3 this 5 ((hi3 this 5) + ((hi3 p1 4) - y5))) p1 4) - y5)] (pm_u hi3 this 5 ((hi3 this 5) + ((hi3 p1 4) - y5))) (fun v hi6 => v = none ∧ (Q none hi6))) ∧ ((¬ (y5 ≤ x4)) → pm_W pm_g (SH L) HR (d + 1) pm_t10 31 [some (.inr this), some (.inr p1), some (.inr p2), some (.inl p3), some (.inl p4), some (.inl (y5 + (-1))), some (.inl (y6 + 1))] [] hi3 Q))))) : pm_W pm_g (SH L) HR (d + 1) pm_t10 31 [some (.inr this), some (.inr p1), some (.inr p2), some (.inl p3), some (.inl p4), some (.inl y5), some (.inl y6)] [] hi Q := by
  refine pm_W_of 29 [31] rfl ?_
  refine And.intro (sh_sk h_p1) ?_
  rw [(hr_sk h_p1)]
  refine ⟨24, ⟨0, _, (sh_sk1 h_p1)⟩, ?_⟩
  rw [show nI 24 = (24 : Int32) from rfl]
  refine And.intro (fun c1 => ?_) (fun c1 => ?_)
  · replace h := h.1 c1
    refine And.intro (sh_fo h_this) ?_
    refine And.intro (sh_sk h_p1) ?_
    refine And.intro ⟨(sh_fo h_this), trivial⟩ ?_
    refine And.intro (sh_sk h_p1) ?_
    refine And.intro (sh_sk h_p1) ?_
    refine pm_C_imp h (fun v hi2 h => ?_)
    obtain ⟨rfl, h⟩ := h
    refine ⟨rfl, ?_⟩
    exact h
  · replace h := h.2 c1
    refine And.intro (sh_fo h_this) ?_
    refine pm_C_imp h (fun v hi3 h => ?_)
    obtain ⟨x4, rfl, h⟩ := h
    refine ⟨_, rfl, ?_⟩
    refine And.intro (fun c5 => ?_) (fun c5 => ?_)
    · replace h := h.1 c5
      refine And.intro (sh_fo h_this) ?_
      refine And.intro (sh_sk h_p1) ?_
      refine And.intro ⟨(sh_fo h_this), trivial⟩ ?_
      refine And.intro (sh_sk h_p1) ?_
      refine And.intro (sh_sk h_p1) ?_
      refine pm_C_imp h (fun v hi6 h => ?_)
      obtain ⟨rfl, h⟩ := h
      refine ⟨rfl, ?_⟩
      exact h
    · replace h := h.2 c5
      exact h
theorem v_Folk_speakTo {L d : Nat} {this : Nat} (h_this : pm_fo this) {p1 : Nat} (h_p1 : pm_sk p1) {p2 : Nat} (h_p2 : pm_sk p2) {p3 : Int32} {hi : pm_B} {Q : pm_Q} (h : pm_C pm_g (SH L) HR (d + 1) m_Folk_hears [.inr this, .inr p2, .inr (p1 + 1), .inl p3, .inl (if ((hi p1 4) - p3) < (f_Kinds_goesOf (hi p1 0)) then ((hi p1 4) - p3) else (f_Kinds_goesOf (hi p1 0)))] hi (fun v hi1 => v = none ∧ (∀ hi2 : pm_B, hi2 = pm_u (pm_u hi1 p1 3 ((hi1 p1 3) + (if ((hi p1 4) - p3) < (f_Kinds_goesOf (hi p1 0)) then ((hi p1 4) - p3) else (f_Kinds_goesOf (hi p1 0))))) this 4 (((pm_u hi1 p1 3 ((hi1 p1 3) + (if ((hi p1 4) - p3) < (f_Kinds_goesOf (hi p1 0)) then ((hi p1 4) - p3) else (f_Kinds_goesOf (hi p1 0))))) this 4) + 1) → (Q (some (.inl (if ((hi p1 4) - p3) < (f_Kinds_goesOf (hi p1 0)) then ((hi p1 4) - p3) else (f_Kinds_goesOf (hi p1 0))))) hi2)))) : pm_C pm_g (SH L) HR (d + 2) m_Folk_speakTo [.inr this, .inr p1, .inr p2, .inl p3] hi Q := by
  refine pm_C_of (maxL := 5) (t := pm_t11) rfl (Nat.le_of_ble_eq_true rfl) ?_
  refine pm_W_of 32 [] rfl ?_
  refine And.intro (sh_sk h_p1) ?_
  refine And.intro trivial ?_
  refine f_Kinds_goesOf_c (d := d)  ?_
  refine ⟨_, rfl, ?_⟩
  refine And.intro (sh_sk h_p1) ?_
  refine And.intro (sh_sk h_p1) ?_
  rw [(hr_sk h_p1)]
  refine And.intro (sh_fo h_this) ?_
  refine pm_C_imp h (fun v hi1 h => ?_)
  obtain ⟨rfl, h⟩ := h
  refine ⟨rfl, ?_⟩
  refine And.intro (sh_sk h_p1) ?_
  refine And.intro ⟨(sh_sk h_p1), trivial⟩ ?_
  refine And.intro (sh_fo h_this) ?_
  refine And.intro ⟨(sh_fo h_this), trivial⟩ ?_
  obtain ⟨hi2, ehi2⟩ : ∃ m : pm_B, m = pm_u (pm_u hi1 p1 3 ((hi1 p1 3) + (if ((hi p1 4) - p3) < (f_Kinds_goesOf (hi p1 0)) then ((hi p1 4) - p3) else (f_Kinds_goesOf (hi p1 0))))) this 4 (((pm_u hi1 p1 3 ((hi1 p1 3) + (if ((hi p1 4) - p3) < (f_Kinds_goesOf (hi p1 0)) then ((hi p1 4) - p3) else (f_Kinds_goesOf (hi p1 0))))) this 4) + 1) := ⟨_, rfl⟩
  replace h := h hi2 ehi2
  rw [← ehi2]
  refine And.intro trivial ?_
  exact h
theorem v_Folk_passDay {L d : Nat} {this : Nat} (h_this : pm_fo this) {hi : pm_B} {Q : pm_Q} (h : pm_C pm_g (SH L) HR (d + 1) m_Folk_drawBelow [.inr this, .inl 100] hi (fun v hi1 => ∃ x2 : Int32, v = some (.inl x2) ∧ ((((hi1 this 3) ≤ x2) → Q none (pm_u hi1 this 6 ((hi1 this 6) + 1))) ∧ ((¬ ((hi1 this 3) ≤ x2)) → (((hi1 this 2) < 2) → Q none (pm_u hi1 this 6 ((hi1 this 6) + 1))) ∧ ((¬ ((hi1 this 2) < 2)) → pm_C pm_g (SH L) HR (d + 1) m_Folk_drawBelow [.inr this, .inl ((pm_u hi1 this 6 ((hi1 this 6) + 1)) this 2)] (pm_u hi1 this 6 ((hi1 this 6) + 1)) (fun v hi5 => ∃ x6 : Int32, v = some (.inl x6) ∧ (pm_C pm_g (SH L) HR (d + 1) m_Folk_drawBelow [.inr this, .inl ((hi5 this 2) - 1)] hi5 (fun v hi7 => ∃ x8 : Int32, v = some (.inl x8) ∧ (((x8 < x6) → ((x6 < 0) → Q none hi7) ∧ ((¬ (x6 < 0)) → (((hi7 this 2) ≤ x6) → Q none hi7) ∧ ((¬ ((hi7 this 2) ≤ x6)) → ((8 ≤ x6) → Q none hi7) ∧ ((¬ (8 ≤ x6)) → ((x8 < 0) → Q none hi7) ∧ ((¬ (x8 < 0)) → (((hi7 this 2) ≤ x8) → Q none hi7) ∧ ((¬ ((hi7 this 2) ≤ x8)) → ((8 ≤ x8) → Q none hi7) ∧ ((¬ (8 ≤ x8)) → ∃ k16 : Nat, k16 < 8 ∧ x6 = nI k16 ∧ ((((hi7 (this + 2 + 2 * k16) 4) ≤ 0) → Q none hi7) ∧ ((¬ ((hi7 (this + 2 + 2 * k16) 4) ≤ 0)) → ∃ k18 : Nat, k18 < 8 ∧ x8 = nI k18 ∧ (pm_C pm_g (SH L) HR (d + 1) m_Folk_drawBelow [.inr this, .inl (hi7 (this + 2 + 2 * k16) 4)] hi7 (fun v hi19 => ∃ x20 : Int32, v = some (.inl x20) ∧ (pm_C pm_g (SH L) HR (d + 1) m_Folk_speakTo [.inr this, .inr (this + 2 + 2 * k16), .inr (this + 2 + 2 * k18), .inl x20] hi19 (fun v hi21 => ∃ x22 : Int32, v = some (.inl x22) ∧ (Q none hi21)))))))))))))) ∧ ((¬ (x8 < x6)) → ((x6 < 0) → Q none hi7) ∧ ((¬ (x6 < 0)) → (((hi7 this 2) ≤ x6) → Q none hi7) ∧ ((¬ ((hi7 this 2) ≤ x6)) → ((8 ≤ x6) → Q none hi7) ∧ ((¬ (8 ≤ x6)) → (((x8 + 1) < 0) → Q none hi7) ∧ ((¬ ((x8 + 1) < 0)) → (((hi7 this 2) ≤ (x8 + 1)) → Q none hi7) ∧ ((¬ ((hi7 this 2) ≤ (x8 + 1))) → ((8 ≤ (x8 + 1)) → Q none hi7) ∧ ((¬ (8 ≤ (x8 + 1))) → ∃ k29 : Nat, k29 < 8 ∧ x6 = nI k29 ∧ ((((hi7 (this + 2 + 2 * k29) 4) ≤ 0) → Q none hi7) ∧ ((¬ ((hi7 (this + 2 + 2 * k29) 4) ≤ 0)) → ∃ k31 : Nat, k31 < 8 ∧ (x8 + 1) = nI k31 ∧ (pm_C pm_g (SH L) HR (d + 1) m_Folk_drawBelow [.inr this, .inl (hi7 (this + 2 + 2 * k29) 4)] hi7 (fun v hi32 => ∃ x33 : Int32, v = some (.inl x33) ∧ (pm_C pm_g (SH L) HR (d + 1) m_Folk_speakTo [.inr this, .inr (this + 2 + 2 * k29), .inr (this + 2 + 2 * k31), .inl x33] hi32 (fun v hi34 => ∃ x35 : Int32, v = some (.inl x35) ∧ (Q none hi34))))))))))))))))))))))) : pm_C pm_g (SH L) HR (d + 2) m_Folk_passDay [.inr this] hi Q := by
  refine pm_C_of (maxL := 5) (t := pm_t12) rfl (Nat.le_of_ble_eq_true rfl) ?_
  refine pm_W_of 68 [] rfl ?_
  refine And.intro (sh_fo h_this) ?_
  refine pm_C_imp h (fun v hi1 h => ?_)
  obtain ⟨x2, rfl, h⟩ := h
  refine ⟨_, rfl, ?_⟩
  refine And.intro (sh_fo h_this) ?_
  refine And.intro (fun c3 => ?_) (fun c3 => ?_)
  · replace h := h.1 c3
    refine And.intro (sh_fo h_this) ?_
    refine And.intro ⟨(sh_fo h_this), trivial⟩ ?_
    refine And.intro (fun hc => absurd hc (pm_cd_f (by decide))) (fun _ => ?_)
    exact h
  · replace h := h.2 c3
    refine And.intro (sh_fo h_this) ?_
    refine And.intro (fun c4 => ?_) (fun c4 => ?_)
    · replace h := h.1 c4
      refine And.intro (sh_fo h_this) ?_
      refine And.intro ⟨(sh_fo h_this), trivial⟩ ?_
      refine And.intro (fun hc => absurd hc (pm_cd_f (by decide))) (fun _ => ?_)
      exact h
    · replace h := h.2 c4
      refine And.intro (sh_fo h_this) ?_
      refine And.intro ⟨(sh_fo h_this), trivial⟩ ?_
      refine And.intro (fun _ => ?_) (fun hc => absurd (pm_cd_t (by decide)) hc)
      refine And.intro (sh_fo h_this) ?_
      refine And.intro (sh_fo h_this) ?_
      refine pm_C_imp h (fun v hi5 h => ?_)
      obtain ⟨x6, rfl, h⟩ := h
      refine ⟨_, rfl, ?_⟩
      refine And.intro (sh_fo h_this) ?_
      refine And.intro (sh_fo h_this) ?_
      refine pm_C_imp h (fun v hi7 h => ?_)
      obtain ⟨x8, rfl, h⟩ := h
      refine ⟨_, rfl, ?_⟩
      refine And.intro (fun c9 => ?_) (fun c9 => ?_)
      · replace h := h.1 c9
        refine And.intro (sh_fo h_this) ?_
        refine v_Folk_hasSpeaker (d := d) h_this ?_
        refine And.intro (fun c10 => ?_) (fun c10 => ?_)
        · replace h := h.1 c10
          refine ⟨_, rfl, ?_⟩
          refine And.intro (fun _ => ?_) (fun hc => absurd (pm_cd_t (by decide)) hc)
          exact h
        · replace h := h.2 c10
          refine And.intro (fun c11 => ?_) (fun c11 => ?_)
          · replace h := h.1 c11
            refine ⟨_, rfl, ?_⟩
            refine And.intro (fun _ => ?_) (fun hc => absurd (pm_cd_t (by decide)) hc)
            exact h
          · replace h := h.2 c11
            refine And.intro (fun c12 => ?_) (fun c12 => ?_)
            · replace h := h.1 c12
              refine ⟨_, rfl, ?_⟩
              refine And.intro (fun _ => ?_) (fun hc => absurd (pm_cd_t (by decide)) hc)
              exact h
            · replace h := h.2 c12
              refine ⟨_, rfl, ?_⟩
              refine And.intro (fun hc => absurd hc (pm_cd_f (by decide))) (fun _ => ?_)
              refine And.intro (sh_fo h_this) ?_
              refine v_Folk_hasSpeaker (d := d) h_this ?_
              refine And.intro (fun c13 => ?_) (fun c13 => ?_)
              · replace h := h.1 c13
                refine ⟨_, rfl, ?_⟩
                refine And.intro (fun hc => absurd hc (pm_cd_f (by decide))) (fun _ => ?_)
                exact h
              · replace h := h.2 c13
                refine And.intro (fun c14 => ?_) (fun c14 => ?_)
                · replace h := h.1 c14
                  refine ⟨_, rfl, ?_⟩
                  refine And.intro (fun hc => absurd hc (pm_cd_f (by decide))) (fun _ => ?_)
                  exact h
                · replace h := h.2 c14
                  refine And.intro (fun c15 => ?_) (fun c15 => ?_)
                  · replace h := h.1 c15
                    refine ⟨_, rfl, ?_⟩
                    refine And.intro (fun hc => absurd hc (pm_cd_f (by decide))) (fun _ => ?_)
                    exact h
                  · replace h := h.2 c15
                    refine ⟨_, rfl, ?_⟩
                    refine And.intro (fun _ => ?_) (fun hc => absurd (pm_cd_t (by decide)) hc)
                    refine And.intro (sh_fo h_this) ?_
                    rw [(hr_fo1 h_this)]
                    obtain ⟨k16, hkk16, hek16, h⟩ := h
                    refine And.intro (pm_ao_of (t := 0) (sh_fo1 h_this) hkk16 hek16 (by decide)) ?_
                    rw [pm_tn hek16 hkk16 (by decide)]
                    rw [(hr_sp h_this hkk16)]
                    refine And.intro (sh_sk (sk_of h_this hkk16)) ?_
                    refine And.intro (fun c17 => ?_) (fun c17 => ?_)
                    · replace h := h.1 c17
                      exact h
                    · replace h := h.2 c17
                      refine And.intro (sh_fo h_this) ?_
                      rw [(hr_fo1 h_this)]
                      obtain ⟨k18, hkk18, hek18, h⟩ := h
                      refine And.intro (pm_ao_of (t := 0) (sh_fo1 h_this) hkk18 hek18 (by decide)) ?_
                      rw [pm_tn hek18 hkk18 (by decide)]
                      rw [(hr_sp h_this hkk18)]
                      refine And.intro (sh_sk (sk_of h_this hkk16)) ?_
                      refine And.intro (sh_fo h_this) ?_
                      refine pm_C_imp h (fun v hi19 h => ?_)
                      obtain ⟨x20, rfl, h⟩ := h
                      refine ⟨_, rfl, ?_⟩
                      refine And.intro (sh_fo h_this) ?_
                      refine pm_C_imp h (fun v hi21 h => ?_)
                      obtain ⟨x22, rfl, h⟩ := h
                      refine ⟨_, rfl, ?_⟩
                      exact h
      · replace h := h.2 c9
        refine And.intro (sh_fo h_this) ?_
        refine v_Folk_hasSpeaker (d := d) h_this ?_
        refine And.intro (fun c23 => ?_) (fun c23 => ?_)
        · replace h := h.1 c23
          refine ⟨_, rfl, ?_⟩
          refine And.intro (fun _ => ?_) (fun hc => absurd (pm_cd_t (by decide)) hc)
          exact h
        · replace h := h.2 c23
          refine And.intro (fun c24 => ?_) (fun c24 => ?_)
          · replace h := h.1 c24
            refine ⟨_, rfl, ?_⟩
            refine And.intro (fun _ => ?_) (fun hc => absurd (pm_cd_t (by decide)) hc)
            exact h
          · replace h := h.2 c24
            refine And.intro (fun c25 => ?_) (fun c25 => ?_)
            · replace h := h.1 c25
              refine ⟨_, rfl, ?_⟩
              refine And.intro (fun _ => ?_) (fun hc => absurd (pm_cd_t (by decide)) hc)
              exact h
            · replace h := h.2 c25
              refine ⟨_, rfl, ?_⟩
              refine And.intro (fun hc => absurd hc (pm_cd_f (by decide))) (fun _ => ?_)
              refine And.intro (sh_fo h_this) ?_
              refine v_Folk_hasSpeaker (d := d) h_this ?_
              refine And.intro (fun c26 => ?_) (fun c26 => ?_)
              · replace h := h.1 c26
                refine ⟨_, rfl, ?_⟩
                refine And.intro (fun hc => absurd hc (pm_cd_f (by decide))) (fun _ => ?_)
                exact h
              · replace h := h.2 c26
                refine And.intro (fun c27 => ?_) (fun c27 => ?_)
                · replace h := h.1 c27
                  refine ⟨_, rfl, ?_⟩
                  refine And.intro (fun hc => absurd hc (pm_cd_f (by decide))) (fun _ => ?_)
                  exact h
                · replace h := h.2 c27
                  refine And.intro (fun c28 => ?_) (fun c28 => ?_)
                  · replace h := h.1 c28
                    refine ⟨_, rfl, ?_⟩
                    refine And.intro (fun hc => absurd hc (pm_cd_f (by decide))) (fun _ => ?_)
                    exact h
                  · replace h := h.2 c28
                    refine ⟨_, rfl, ?_⟩
                    refine And.intro (fun _ => ?_) (fun hc => absurd (pm_cd_t (by decide)) hc)
                    refine And.intro (sh_fo h_this) ?_
                    rw [(hr_fo1 h_this)]
                    obtain ⟨k29, hkk29, hek29, h⟩ := h
                    refine And.intro (pm_ao_of (t := 0) (sh_fo1 h_this) hkk29 hek29 (by decide)) ?_
                    rw [pm_tn hek29 hkk29 (by decide)]
                    rw [(hr_sp h_this hkk29)]
                    refine And.intro (sh_sk (sk_of h_this hkk29)) ?_
                    refine And.intro (fun c30 => ?_) (fun c30 => ?_)
                    · replace h := h.1 c30
                      exact h
                    · replace h := h.2 c30
                      refine And.intro (sh_fo h_this) ?_
                      rw [(hr_fo1 h_this)]
                      obtain ⟨k31, hkk31, hek31, h⟩ := h
                      refine And.intro (pm_ao_of (t := 0) (sh_fo1 h_this) hkk31 hek31 (by decide)) ?_
                      rw [pm_tn hek31 hkk31 (by decide)]
                      rw [(hr_sp h_this hkk31)]
                      refine And.intro (sh_sk (sk_of h_this hkk29)) ?_
                      refine And.intro (sh_fo h_this) ?_
                      refine pm_C_imp h (fun v hi32 h => ?_)
                      obtain ⟨x33, rfl, h⟩ := h
                      refine ⟨_, rfl, ?_⟩
                      refine And.intro (sh_fo h_this) ?_
                      refine pm_C_imp h (fun v hi34 h => ?_)
                      obtain ⟨x35, rfl, h⟩ := h
                      refine ⟨_, rfl, ?_⟩
                      exact h
theorem v_Folk_wordsTogether {L d : Nat} {this : Nat} (h_this : pm_fo this) {hi : pm_B} {Q : pm_Q} (h : pm_W pm_g (SH L) HR (d) pm_t13 4 [some (.inr this), some (.inl 0), some (.inl 0)] [] hi Q) : pm_C pm_g (SH L) HR (d + 1) m_Folk_wordsTogether [.inr this] hi Q := by
  refine pm_C_of (maxL := 3) (t := pm_t13) rfl (Nat.le_of_ble_eq_true rfl) ?_
  refine pm_W_of 6 [4] rfl ?_
  exact h
theorem v_Folk_wordsTogether_4 {L d : Nat}  {this : Nat} (h_this : pm_fo this) {y1 : Int32} {y2 : Int32} {hi : pm_B} {Q : pm_Q} (h : (((hi this 2) ≤ y2) → Q (some (.inl y1)) hi) ∧ ((¬ ((hi this 2) ≤ y2)) → ((8 ≤ y2) → Q (some (.inl y1)) hi) ∧ ((¬ (8 ≤ y2)) → ∃ k3 : Nat, k3 < 8 ∧ y2 = nI k3 ∧ (pm_W pm_g (SH L) HR (d) pm_t13 4 [some (.inr this), some (.inl (y1 + (hi (this + 2 + 2 * k3) 4))), some (.inl (y2 + 1))] [] hi Q)))) : pm_W pm_g (SH L) HR (d) pm_t13 4 [some (.inr this), some (.inl y1), some (.inl y2)] [] hi Q := by
  refine pm_W_of 21 [4] rfl ?_
  refine And.intro (sh_fo h_this) ?_
  refine And.intro (fun c1 => ?_) (fun c1 => ?_)
  · replace h := h.1 c1
    refine And.intro trivial ?_
    exact h
  · replace h := h.2 c1
    refine And.intro (sh_fo h_this) ?_
    rw [(hr_fo1 h_this)]
    refine ⟨8, ⟨0, _, (sh_fo1 h_this)⟩, ?_⟩
    rw [show nI 8 = (8 : Int32) from rfl]
    refine And.intro (fun c2 => ?_) (fun c2 => ?_)
    · replace h := h.1 c2
      refine And.intro trivial ?_
      exact h
    · replace h := h.2 c2
      refine And.intro (sh_fo h_this) ?_
      rw [(hr_fo1 h_this)]
      obtain ⟨k3, hkk3, hek3, h⟩ := h
      refine And.intro (pm_ao_of (t := 0) (sh_fo1 h_this) hkk3 hek3 (by decide)) ?_
      rw [pm_tn hek3 hkk3 (by decide)]
      rw [(hr_sp h_this hkk3)]
      refine And.intro (sh_sk (sk_of h_this hkk3)) ?_
      exact h
theorem v_Folk_wordsOfSomebody {L d : Nat} {this : Nat} (h_this : pm_fo this) {hi : pm_B} {Q : pm_Q} (h : pm_W pm_g (SH L) HR (d) pm_t14 4 [some (.inr this), some (.inl 0), some (.inl 0)] [] hi Q) : pm_C pm_g (SH L) HR (d + 1) m_Folk_wordsOfSomebody [.inr this] hi Q := by
  refine pm_C_of (maxL := 3) (t := pm_t14) rfl (Nat.le_of_ble_eq_true rfl) ?_
  refine pm_W_of 6 [4] rfl ?_
  exact h
theorem v_Folk_wordsOfSomebody_4 {L d : Nat}  {this : Nat} (h_this : pm_fo this) {y1 : Int32} {y2 : Int32} {hi : pm_B} {Q : pm_Q} (h : (((hi this 2) ≤ y2) → Q (some (.inl y1)) hi) ∧ ((¬ ((hi this 2) ≤ y2)) → ((8 ≤ y2) → Q (some (.inl y1)) hi) ∧ ((¬ (8 ≤ y2)) → ∃ k3 : Nat, k3 < 8 ∧ y2 = nI k3 ∧ (pm_C pm_g (SH L) HR (d) m_Speaker_wordSet [.inr (this + 2 + 2 * k3)] hi (fun v hi4 => ∃ x5 : Int32, v = some (.inl x5) ∧ (pm_W pm_g (SH L) HR (d) pm_t14 4 [some (.inr this), some (.inl (y1 ||| x5)), some (.inl (y2 + 1))] [] hi4 Q)))))) : pm_W pm_g (SH L) HR (d) pm_t14 4 [some (.inr this), some (.inl y1), some (.inl y2)] [] hi Q := by
  refine pm_W_of 21 [4] rfl ?_
  refine And.intro (sh_fo h_this) ?_
  refine And.intro (fun c1 => ?_) (fun c1 => ?_)
  · replace h := h.1 c1
    refine And.intro trivial ?_
    exact h
  · replace h := h.2 c1
    refine And.intro (sh_fo h_this) ?_
    rw [(hr_fo1 h_this)]
    refine ⟨8, ⟨0, _, (sh_fo1 h_this)⟩, ?_⟩
    rw [show nI 8 = (8 : Int32) from rfl]
    refine And.intro (fun c2 => ?_) (fun c2 => ?_)
    · replace h := h.1 c2
      refine And.intro trivial ?_
      exact h
    · replace h := h.2 c2
      refine And.intro (sh_fo h_this) ?_
      rw [(hr_fo1 h_this)]
      obtain ⟨k3, hkk3, hek3, h⟩ := h
      refine And.intro (pm_ao_of (t := 0) (sh_fo1 h_this) hkk3 hek3 (by decide)) ?_
      rw [pm_tn hek3 hkk3 (by decide)]
      rw [(hr_sp h_this hkk3)]
      refine And.intro (sh_sk (sk_of h_this hkk3)) ?_
      refine pm_C_imp h (fun v hi4 h => ?_)
      obtain ⟨x5, rfl, h⟩ := h
      refine ⟨_, rfl, ?_⟩
      exact h
theorem v_Folk_wordsOfAll {L d : Nat} {this : Nat} (h_this : pm_fo this) {hi : pm_B} {Q : pm_Q} (h : ((¬ (hi this 2) = 0) → pm_W pm_g (SH L) HR (d) pm_t15 14 [some (.inr this), some (.inl 1048575), some (.inl 0)] [] hi Q) ∧ ((¬ (¬ (hi this 2) = 0)) → Q (some (.inl 0)) hi)) : pm_C pm_g (SH L) HR (d + 1) m_Folk_wordsOfAll [.inr this] hi Q := by
  refine pm_C_of (maxL := 3) (t := pm_t15) rfl (Nat.le_of_ble_eq_true rfl) ?_
  refine pm_W_of 9 [14] rfl ?_
  refine And.intro (sh_fo h_this) ?_
  refine And.intro (fun c1 => ?_) (fun c1 => ?_)
  · replace h := h.1 c1
    exact h
  · replace h := h.2 c1
    refine And.intro trivial ?_
    exact h
theorem v_Folk_wordsOfAll_14 {L d : Nat}  {this : Nat} (h_this : pm_fo this) {y1 : Int32} {y2 : Int32} {hi : pm_B} {Q : pm_Q} (h : (((hi this 2) ≤ y2) → Q (some (.inl y1)) hi) ∧ ((¬ ((hi this 2) ≤ y2)) → ((8 ≤ y2) → Q (some (.inl y1)) hi) ∧ ((¬ (8 ≤ y2)) → ∃ k3 : Nat, k3 < 8 ∧ y2 = nI k3 ∧ (pm_C pm_g (SH L) HR (d) m_Speaker_wordSet [.inr (this + 2 + 2 * k3)] hi (fun v hi4 => ∃ x5 : Int32, v = some (.inl x5) ∧ (pm_W pm_g (SH L) HR (d) pm_t15 14 [some (.inr this), some (.inl (y1 &&& x5)), some (.inl (y2 + 1))] [] hi4 Q)))))) : pm_W pm_g (SH L) HR (d) pm_t15 14 [some (.inr this), some (.inl y1), some (.inl y2)] [] hi Q := by
  refine pm_W_of 21 [14] rfl ?_
  refine And.intro (sh_fo h_this) ?_
  refine And.intro (fun c1 => ?_) (fun c1 => ?_)
  · replace h := h.1 c1
    refine And.intro trivial ?_
    exact h
  · replace h := h.2 c1
    refine And.intro (sh_fo h_this) ?_
    rw [(hr_fo1 h_this)]
    refine ⟨8, ⟨0, _, (sh_fo1 h_this)⟩, ?_⟩
    rw [show nI 8 = (8 : Int32) from rfl]
    refine And.intro (fun c2 => ?_) (fun c2 => ?_)
    · replace h := h.1 c2
      refine And.intro trivial ?_
      exact h
    · replace h := h.2 c2
      refine And.intro (sh_fo h_this) ?_
      rw [(hr_fo1 h_this)]
      obtain ⟨k3, hkk3, hek3, h⟩ := h
      refine And.intro (pm_ao_of (t := 0) (sh_fo1 h_this) hkk3 hek3 (by decide)) ?_
      rw [pm_tn hek3 hkk3 (by decide)]
      rw [(hr_sp h_this hkk3)]
      refine And.intro (sh_sk (sk_of h_this hkk3)) ?_
      refine pm_C_imp h (fun v hi4 h => ?_)
      obtain ⟨x5, rfl, h⟩ := h
      refine ⟨_, rfl, ?_⟩
      exact h
theorem v_Folk_allButDeafHave {L d : Nat} {this : Nat} (h_this : pm_fo this) {p1 : Int32} {hi : pm_B} {Q : pm_Q} (h : pm_W pm_g (SH L) HR (d) pm_t16 2 [some (.inr this), some (.inl p1), some (.inl 0), none] [] hi Q) : pm_C pm_g (SH L) HR (d + 1) m_Folk_allButDeafHave [.inr this, .inl p1] hi Q := by
  refine pm_C_of (maxL := 4) (t := pm_t16) rfl (Nat.le_of_ble_eq_true rfl) ?_
  refine pm_W_of 4 [2] rfl ?_
  exact h
theorem v_Folk_allButDeafHave_2 {L d : Nat} {o3 : Option pm_V} {this : Nat} (h_this : pm_fo this) {p1 : Int32} {y2 : Int32} {hi : pm_B} {Q : pm_Q} (h : (((hi this 2) ≤ y2) → Q (some (.inl 1)) hi) ∧ ((¬ ((hi this 2) ≤ y2)) → ((8 ≤ y2) → Q (some (.inl 1)) hi) ∧ ((¬ (8 ≤ y2)) → ∃ k3 : Nat, k3 < 8 ∧ y2 = nI k3 ∧ (pm_C pm_g (SH L) HR (d) m_Speaker_wordSet [.inr (this + 2 + 2 * k3)] hi (fun v hi4 => ∃ x5 : Int32, v = some (.inl x5) ∧ (((¬ (((Int32.toUInt32 x5 >>> (Int32.toUInt32 p1 &&& Int32.toUInt32 31)).toInt32) &&& 1) = 1) → ∃ k7 : Nat, k7 < 8 ∧ y2 = nI k7 ∧ ((((hi4 (this + 2 + 2 * k7) 0) = 5) → pm_W pm_g (SH L) HR (d) pm_t16 2 [some (.inr this), some (.inl p1), some (.inl (y2 + 1)), some (.inl 0)] [] hi4 Q) ∧ ((¬ ((hi4 (this + 2 + 2 * k7) 0) = 5)) → Q (some (.inl 0)) hi4))) ∧ ((¬ (¬ (((Int32.toUInt32 x5 >>> (Int32.toUInt32 p1 &&& Int32.toUInt32 31)).toInt32) &&& 1) = 1)) → ∃ k9 : Nat, k9 < 8 ∧ y2 = nI k9 ∧ ((((hi4 (this + 2 + 2 * k9) 0) = 5) → pm_W pm_g (SH L) HR (d) pm_t16 2 [some (.inr this), some (.inl p1), some (.inl (y2 + 1)), some (.inl 1)] [] hi4 Q) ∧ ((¬ ((hi4 (this + 2 + 2 * k9) 0) = 5)) → pm_W pm_g (SH L) HR (d) pm_t16 2 [some (.inr this), some (.inl p1), some (.inl (y2 + 1)), some (.inl 1)] [] hi4 Q))))))))) : pm_W pm_g (SH L) HR (d) pm_t16 2 [some (.inr this), some (.inl p1), some (.inl y2), o3] [] hi Q := by
  refine pm_W_of 36 [2] rfl ?_
  refine And.intro (sh_fo h_this) ?_
  refine And.intro (fun c1 => ?_) (fun c1 => ?_)
  · replace h := h.1 c1
    refine And.intro (Or.inr rfl) ?_
    exact h
  · replace h := h.2 c1
    refine And.intro (sh_fo h_this) ?_
    rw [(hr_fo1 h_this)]
    refine ⟨8, ⟨0, _, (sh_fo1 h_this)⟩, ?_⟩
    rw [show nI 8 = (8 : Int32) from rfl]
    refine And.intro (fun c2 => ?_) (fun c2 => ?_)
    · replace h := h.1 c2
      refine And.intro (Or.inr rfl) ?_
      exact h
    · replace h := h.2 c2
      refine And.intro (sh_fo h_this) ?_
      rw [(hr_fo1 h_this)]
      obtain ⟨k3, hkk3, hek3, h⟩ := h
      refine And.intro (pm_ao_of (t := 0) (sh_fo1 h_this) hkk3 hek3 (by decide)) ?_
      rw [pm_tn hek3 hkk3 (by decide)]
      rw [(hr_sp h_this hkk3)]
      refine And.intro (sh_sk (sk_of h_this hkk3)) ?_
      refine pm_C_imp h (fun v hi4 h => ?_)
      obtain ⟨x5, rfl, h⟩ := h
      refine ⟨_, rfl, ?_⟩
      refine And.intro (fun c6 => ?_) (fun c6 => ?_)
      · replace h := h.1 c6
        refine And.intro (sh_fo h_this) ?_
        rw [(hr_fo1 h_this)]
        obtain ⟨k7, hkk7, hek7, h⟩ := h
        refine And.intro (pm_ao_of (t := 0) (sh_fo1 h_this) hkk7 hek7 (by decide)) ?_
        rw [pm_tn hek7 hkk7 (by decide)]
        rw [(hr_sp h_this hkk7)]
        refine And.intro (sh_sk (sk_of h_this hkk7)) ?_
        refine And.intro (fun c8 => ?_) (fun c8 => ?_)
        · replace h := h.1 c8
          exact h
        · replace h := h.2 c8
          refine And.intro (fun hc => absurd hc (pm_cd_f (by decide))) (fun _ => ?_)
          refine And.intro (Or.inl rfl) ?_
          exact h
      · replace h := h.2 c6
        refine And.intro (sh_fo h_this) ?_
        rw [(hr_fo1 h_this)]
        obtain ⟨k9, hkk9, hek9, h⟩ := h
        refine And.intro (pm_ao_of (t := 0) (sh_fo1 h_this) hkk9 hek9 (by decide)) ?_
        rw [pm_tn hek9 hkk9 (by decide)]
        rw [(hr_sp h_this hkk9)]
        refine And.intro (sh_sk (sk_of h_this hkk9)) ?_
        refine And.intro (fun c10 => ?_) (fun c10 => ?_)
        · replace h := h.1 c10
          exact h
        · replace h := h.2 c10
          refine And.intro (fun _ => ?_) (fun hc => absurd (pm_cd_t (by decide)) hc)
          exact h
theorem v_Kinds_isOf {L d : Nat} {p1 : Int32} {p2 : Int32} {hi : pm_B} {Q : pm_Q} (h : pm_W pm_g (SH L) HR (d) pm_t17 4 [some (.inl p1), some (.inl p2), some (.inl p1), some (.inl 0)] [] hi Q) : pm_C pm_g (SH L) HR (d + 1) m_Kinds_isOf [.inl p1, .inl p2] hi Q := by
  refine pm_C_of (maxL := 4) (t := pm_t17) rfl (Nat.le_of_ble_eq_true rfl) ?_
  refine pm_W_of 6 [4] rfl ?_
  exact h
theorem v_Kinds_isOf_4 {L d : Nat}  {p1 : Int32} {p2 : Int32} {y2 : Int32} {y3 : Int32} {hi : pm_B} {Q : pm_Q} (h : ((6 ≤ y3) → Q (some (.inl 0)) hi) ∧ ((¬ (6 ≤ y3)) → ((y2 < 0) → Q (some (.inl 0)) hi) ∧ ((¬ (y2 < 0)) → ((6 ≤ y2) → Q (some (.inl 0)) hi) ∧ ((¬ (6 ≤ y2)) → ((¬ y2 = p2) → ∃ k5 : Nat, k5 < 6 ∧ y2 = nI k5 ∧ (pm_W pm_g (SH L) HR (d) pm_t17 4 [some (.inl p1), some (.inl p2), some (.inl (hi 2 k5)), some (.inl (y3 + 1))] [] hi Q)) ∧ ((¬ (¬ y2 = p2)) → Q (some (.inl 1)) hi))))) : pm_W pm_g (SH L) HR (d) pm_t17 4 [some (.inl p1), some (.inl p2), some (.inl y2), some (.inl y3)] [] hi Q := by
  refine pm_W_of 20 [4] rfl ?_
  refine And.intro (fun c1 => ?_) (fun c1 => ?_)
  · replace h := h.1 c1
    refine And.intro (Or.inl rfl) ?_
    exact h
  · replace h := h.2 c1
    refine And.intro (fun c2 => ?_) (fun c2 => ?_)
    · replace h := h.1 c2
      refine And.intro (Or.inl rfl) ?_
      exact h
    · replace h := h.2 c2
      refine ⟨6, ⟨1, _, sh_l2⟩, ?_⟩
      rw [show nI 6 = (6 : Int32) from rfl]
      refine And.intro (fun c3 => ?_) (fun c3 => ?_)
      · replace h := h.1 c3
        refine And.intro (Or.inl rfl) ?_
        exact h
      · replace h := h.2 c3
        refine And.intro (fun c4 => ?_) (fun c4 => ?_)
        · replace h := h.1 c4
          obtain ⟨k5, hkk5, hek5, h⟩ := h
          refine And.intro (pm_ao_of (t := 1) sh_l2 hkk5 hek5 (by decide)) ?_
          rw [pm_tn hek5 hkk5 (by decide)]
          exact h
        · replace h := h.2 c4
          refine And.intro (Or.inr rfl) ?_
          exact h
theorem v_Laws_valueOf {L d : Nat} {p1 : Int32} {p2 : Int32} {p3 : Int32} {p4 : Int32} {hi : pm_B} {Q : pm_Q} (h : ((p1 < 0) → Q (some (.inl 0)) hi) ∧ ((¬ (p1 < 0)) → ((p1 < 15) → ∃ k3 : Nat, k3 < 15 ∧ p1 = nI k3 ∧ (pm_W pm_g (SH L) HR (d + 1) pm_t23 29 [some (.inr 17), some (.inl p1), some (.inl p2), some (.inl p3), some (.inl p4), some (.inr (19 + 2 * k3)), some (.inl (-1)), some (.inl 0), none] [] hi Q)) ∧ ((¬ (p1 < 15)) → Q (some (.inl 0)) hi))) : pm_C pm_g (SH L) HR (d + 2) m_Laws_valueOf [.inr 17, .inl p1, .inl p2, .inl p3, .inl p4] hi Q := by
  refine pm_C_of (maxL := 9) (t := pm_t23) rfl (Nat.le_of_ble_eq_true rfl) ?_
  refine pm_W_of 18 [29] rfl ?_
  refine And.intro (fun c1 => ?_) (fun c1 => ?_)
  · replace h := h.1 c1
    refine And.intro trivial ?_
    exact h
  · replace h := h.2 c1
    refine And.intro sh_l17 ?_
    rw [hr_17_0]
    refine ⟨15, ⟨0, _, sh_l18⟩, ?_⟩
    rw [show nI 15 = (15 : Int32) from rfl]
    refine And.intro (fun c2 => ?_) (fun c2 => ?_)
    · replace h := h.1 c2
      refine And.intro sh_l17 ?_
      rw [hr_17_0]
      obtain ⟨k3, hkk3, hek3, h⟩ := h
      refine And.intro (pm_ao_of (t := 0) sh_l18 hkk3 hek3 (by decide)) ?_
      rw [pm_tn hek3 hkk3 (by decide)]
      rw [(hr_te hkk3)]
      exact h
    · replace h := h.2 c2
      refine And.intro trivial ?_
      exact h
theorem v_Laws_valueOf_29 {L d : Nat} {o8 : Option pm_V} {p1 : Int32} {p2 : Int32} {p3 : Int32} {p4 : Int32} {r5 : Nat} (h_r5 : pm_tx r5) {y6 : Int32} {y7 : Int32} {hi : pm_B} {Q : pm_Q} (h : (((hi r5 2) ≤ y7) → ((0 ≤ y6) → ∃ k3 : Nat, k3 < 96 ∧ y6 = nI k3 ∧ (Q (some (.inl (hi 49 k3))) hi)) ∧ ((¬ (0 ≤ y6)) → Q (some (.inl 0)) hi)) ∧ ((¬ ((hi r5 2) ≤ y7)) → ((96 ≤ y7) → ((0 ≤ y6) → ∃ k6 : Nat, k6 < 96 ∧ y6 = nI k6 ∧ (Q (some (.inl (hi 49 k6))) hi)) ∧ ((¬ (0 ≤ y6)) → Q (some (.inl 0)) hi)) ∧ ((¬ (96 ≤ y7)) → ∃ k7 : Nat, k7 < 96 ∧ y7 = nI k7 ∧ ((((hi (r5 + 1) k7) < (-3)) → ((¬ (hi (r5 + 1) k7) = (-33)) → ((1 ≤ y6) → ∃ k11 : Nat, k11 < 96 ∧ (y6 + (-1)) = nI k11 ∧ (∃ k12 : Nat, k12 < 96 ∧ ((y6 + (-1)) + 1) = nI k12 ∧ (pm_C pm_g (SH L) HR (d + 1) m_Laws_joined [.inl (-(hi (r5 + 1) k7)), .inl (hi 49 k11), .inl (hi 49 k12)] hi (fun v hi13 => ∃ x14 : Int32, v = some (.inl x14) ∧ (∃ k15 : Nat, k15 < 96 ∧ (y6 + (-1)) = nI k15 ∧ (pm_W pm_g (SH L) HR (d + 1) pm_t23 29 [some (.inr 17), some (.inl p1), some (.inl p2), some (.inl p3), some (.inl p4), some (.inr r5), some (.inl (y6 + (-1))), some (.inl (y7 + 1)), some (.inl (hi (r5 + 1) k7))] [] (pm_u hi13 49 k15 x14) Q)))))) ∧ ((¬ (1 ≤ y6)) → Q (some (.inl 0)) hi)) ∧ ((¬ (¬ (hi (r5 + 1) k7) = (-33))) → ((0 ≤ y6) → ∃ k17 : Nat, k17 < 96 ∧ y6 = nI k17 ∧ (((¬ (hi 49 k17) = 0) → ∃ k19 : Nat, k19 < 96 ∧ y6 = nI k19 ∧ (pm_W pm_g (SH L) HR (d + 1) pm_t23 29 [some (.inr 17), some (.inl p1), some (.inl p2), some (.inl p3), some (.inl p4), some (.inr r5), some (.inl y6), some (.inl (y7 + 1)), some (.inl (hi (r5 + 1) k7))] [] (pm_u hi 49 k19 (f_Laws_truth 0)) Q)) ∧ ((¬ (¬ (hi 49 k17) = 0)) → ∃ k20 : Nat, k20 < 96 ∧ y6 = nI k20 ∧ (pm_W pm_g (SH L) HR (d + 1) pm_t23 29 [some (.inr 17), some (.inl p1), some (.inl p2), some (.inl p3), some (.inl p4), some (.inr r5), some (.inl y6), some (.inl (y7 + 1)), some (.inl (hi (r5 + 1) k7))] [] (pm_u hi 49 k20 (f_Laws_truth 1)) Q)))) ∧ ((¬ (0 ≤ y6)) → Q (some (.inl 0)) hi))) ∧ ((¬ ((hi (r5 + 1) k7) < (-3))) → (((y6 + 1) < 96) → ∃ k22 : Nat, k22 < 96 ∧ (y6 + 1) = nI k22 ∧ (pm_W pm_g (SH L) HR (d + 1) pm_t23 29 [some (.inr 17), some (.inl p1), some (.inl p2), some (.inl p3), some (.inl p4), some (.inr r5), some (.inl (y6 + 1)), some (.inl (y7 + 1)), some (.inl (hi (r5 + 1) k7))] [] (pm_u hi 49 k22 (f_Laws_leafOf (hi (r5 + 1) k7) p2 p3 p4)) Q)) ∧ ((¬ ((y6 + 1) < 96)) → Q (some (.inl 0)) hi)))))) : pm_W pm_g (SH L) HR (d + 1) pm_t23 29 [some (.inr 17), some (.inl p1), some (.inl p2), some (.inl p3), some (.inl p4), some (.inr r5), some (.inl y6), some (.inl y7), o8] [] hi Q := by
  refine pm_W_of 45 [29] rfl ?_
  refine And.intro (sh_tx h_r5) ?_
  refine And.intro (fun c1 => ?_) (fun c1 => ?_)
  · replace h := h.1 c1
    refine And.intro (fun c2 => ?_) (fun c2 => ?_)
    · replace h := h.1 c2
      refine And.intro sh_l17 ?_
      rw [hr_17_1]
      obtain ⟨k3, hkk3, hek3, h⟩ := h
      refine And.intro (pm_ao_of (t := 0) sh_l49 hkk3 hek3 (by decide)) ?_
      rw [pm_tn hek3 hkk3 (by decide)]
      refine And.intro trivial ?_
      exact h
    · replace h := h.2 c2
      refine And.intro trivial ?_
      exact h
  · replace h := h.2 c1
    refine And.intro (sh_tx h_r5) ?_
    rw [(hr_tx h_r5)]
    refine ⟨96, ⟨0, _, (sh_tx1 h_r5)⟩, ?_⟩
    rw [show nI 96 = (96 : Int32) from rfl]
    refine And.intro (fun c4 => ?_) (fun c4 => ?_)
    · replace h := h.1 c4
      refine And.intro (fun c5 => ?_) (fun c5 => ?_)
      · replace h := h.1 c5
        refine And.intro sh_l17 ?_
        rw [hr_17_1]
        obtain ⟨k6, hkk6, hek6, h⟩ := h
        refine And.intro (pm_ao_of (t := 0) sh_l49 hkk6 hek6 (by decide)) ?_
        rw [pm_tn hek6 hkk6 (by decide)]
        refine And.intro trivial ?_
        exact h
      · replace h := h.2 c5
        refine And.intro trivial ?_
        exact h
    · replace h := h.2 c4
      refine And.intro (sh_tx h_r5) ?_
      rw [(hr_tx h_r5)]
      obtain ⟨k7, hkk7, hek7, h⟩ := h
      refine And.intro (pm_ao_of (t := 0) (sh_tx1 h_r5) hkk7 hek7 (by decide)) ?_
      rw [pm_tn hek7 hkk7 (by decide)]
      refine And.intro (fun c8 => ?_) (fun c8 => ?_)
      · replace h := h.1 c8
        refine And.intro (fun c9 => ?_) (fun c9 => ?_)
        · replace h := h.1 c9
          refine And.intro (fun c10 => ?_) (fun c10 => ?_)
          · replace h := h.1 c10
            refine And.intro sh_l17 ?_
            rw [hr_17_1]
            refine And.intro sh_l17 ?_
            rw [hr_17_1]
            obtain ⟨k11, hkk11, hek11, h⟩ := h
            refine And.intro (pm_ao_of (t := 0) sh_l49 hkk11 hek11 (by decide)) ?_
            rw [pm_tn hek11 hkk11 (by decide)]
            refine And.intro sh_l17 ?_
            rw [hr_17_1]
            obtain ⟨k12, hkk12, hek12, h⟩ := h
            refine And.intro (pm_ao_of (t := 0) sh_l49 hkk12 hek12 (by decide)) ?_
            rw [pm_tn hek12 hkk12 (by decide)]
            refine And.intro trivial ?_
            refine pm_C_imp h (fun v hi13 h => ?_)
            obtain ⟨x14, rfl, h⟩ := h
            refine ⟨_, rfl, ?_⟩
            obtain ⟨k15, hkk15, hek15, h⟩ := h
            refine And.intro ⟨pm_aw_of sh_l49 hkk15 hek15 (by decide), trivial⟩ ?_
            rw [pm_tn hek15 hkk15 (by decide)]
            exact h
          · replace h := h.2 c10
            refine And.intro trivial ?_
            exact h
        · replace h := h.2 c9
          refine And.intro (fun c16 => ?_) (fun c16 => ?_)
          · replace h := h.1 c16
            refine And.intro sh_l17 ?_
            rw [hr_17_1]
            refine And.intro sh_l17 ?_
            rw [hr_17_1]
            obtain ⟨k17, hkk17, hek17, h⟩ := h
            refine And.intro (pm_ao_of (t := 0) sh_l49 hkk17 hek17 (by decide)) ?_
            rw [pm_tn hek17 hkk17 (by decide)]
            refine And.intro (fun c18 => ?_) (fun c18 => ?_)
            · replace h := h.1 c18
              refine And.intro trivial ?_
              refine f_Laws_truth_c (d := d)  ?_
              refine ⟨_, rfl, ?_⟩
              obtain ⟨k19, hkk19, hek19, h⟩ := h
              refine And.intro ⟨pm_aw_of sh_l49 hkk19 hek19 (by decide), trivial⟩ ?_
              rw [pm_tn hek19 hkk19 (by decide)]
              exact h
            · replace h := h.2 c18
              refine And.intro trivial ?_
              refine f_Laws_truth_c (d := d)  ?_
              refine ⟨_, rfl, ?_⟩
              obtain ⟨k20, hkk20, hek20, h⟩ := h
              refine And.intro ⟨pm_aw_of sh_l49 hkk20 hek20 (by decide), trivial⟩ ?_
              rw [pm_tn hek20 hkk20 (by decide)]
              exact h
          · replace h := h.2 c16
            refine And.intro trivial ?_
            exact h
      · replace h := h.2 c8
        refine And.intro sh_l17 ?_
        rw [hr_17_1]
        refine ⟨96, ⟨0, _, sh_l49⟩, ?_⟩
        rw [show nI 96 = (96 : Int32) from rfl]
        refine And.intro (fun c21 => ?_) (fun c21 => ?_)
        · replace h := h.1 c21
          refine And.intro sh_l17 ?_
          rw [hr_17_1]
          refine And.intro trivial ?_
          refine f_Laws_leafOf_c (d := d)  ?_
          refine ⟨_, rfl, ?_⟩
          obtain ⟨k22, hkk22, hek22, h⟩ := h
          refine And.intro ⟨pm_aw_of sh_l49 hkk22 hek22 (by decide), trivial⟩ ?_
          rw [pm_tn hek22 hkk22 (by decide)]
          exact h
        · replace h := h.2 c21
          refine And.intro trivial ?_
          exact h
theorem v_Laws_joined {L d : Nat} {p1 : Int32} {p2 : Int32} {p3 : Int32} {hi : pm_B} {Q : pm_Q} (h : ((p1 = 38) → ((p2 = 0) → Q (some (.inl 0)) hi) ∧ ((¬ (p2 = 0)) → ((p3 = 0) → Q (some (.inl 0)) hi) ∧ ((¬ (p3 = 0)) → Q (some (.inl 1)) hi))) ∧ ((¬ p1 = 38) → ((p1 = 42) → Q (some (.inl (p2 * p3))) hi) ∧ ((¬ p1 = 42) → ((p1 = 43) → Q (some (.inl (p2 + p3))) hi) ∧ ((¬ p1 = 43) → ((p1 = 45) → Q (some (.inl (p2 - p3))) hi) ∧ ((¬ p1 = 45) → ((p1 = 47) → ((¬ p3 = 0) → (¬ p3 = 0) ∧ (Q (some (.inl (p2 / p3))) hi)) ∧ ((¬ (¬ p3 = 0)) → Q (some (.inl 0)) hi)) ∧ ((¬ p1 = 47) → ((p1 = 60) → ((p3 ≤ p2) → Q (some (.inl 0)) hi) ∧ ((¬ (p3 ≤ p2)) → Q (some (.inl 1)) hi)) ∧ ((¬ p1 = 60) → ((p1 = 61) → ((¬ p2 = p3) → Q (some (.inl 0)) hi) ∧ ((¬ (¬ p2 = p3)) → Q (some (.inl 1)) hi)) ∧ ((¬ p1 = 61) → ((p1 = 62) → ((p2 ≤ p3) → Q (some (.inl 0)) hi) ∧ ((¬ (p2 ≤ p3)) → Q (some (.inl 1)) hi)) ∧ ((¬ p1 = 62) → ((p1 = 124) → ((¬ p2 = 0) → Q (some (.inl 1)) hi) ∧ ((¬ (¬ p2 = 0)) → ((p3 = 0) → Q (some (.inl 0)) hi) ∧ ((¬ (p3 = 0)) → Q (some (.inl 1)) hi))) ∧ ((¬ p1 = 124) → Q (some (.inl 0)) hi)))))))))) : pm_C pm_g (SH L) HR (d + 1) m_Laws_joined [.inl p1, .inl p2, .inl p3] hi Q := by
  refine pm_C_of (maxL := 3) (t := pm_t25) rfl (Nat.le_of_ble_eq_true rfl) ?_
  refine pm_W_of 11 [] rfl ?_
  intro pc1 hsw
  by_cases c1 : p1 = 38
  · rw [pm_sw_t c1] at hsw
    subst hsw
    replace h := h.1 c1
    refine And.intro (fun c2 => ?_) (fun c2 => ?_)
    · replace h := h.1 c2
      refine And.intro trivial ?_
      exact h
    · replace h := h.2 c2
      refine And.intro (fun c3 => ?_) (fun c3 => ?_)
      · replace h := h.1 c3
        refine And.intro trivial ?_
        exact h
      · replace h := h.2 c3
        refine And.intro trivial ?_
        exact h
  · rw [pm_sw_f c1] at hsw
    replace h := h.2 c1
    by_cases c4 : p1 = 42
    · rw [pm_sw_t c4] at hsw
      subst hsw
      replace h := h.1 c4
      refine And.intro trivial ?_
      exact h
    · rw [pm_sw_f c4] at hsw
      replace h := h.2 c4
      by_cases c5 : p1 = 43
      · rw [pm_sw_t c5] at hsw
        subst hsw
        replace h := h.1 c5
        refine And.intro trivial ?_
        exact h
      · rw [pm_sw_f c5] at hsw
        replace h := h.2 c5
        by_cases c6 : p1 = 45
        · rw [pm_sw_t c6] at hsw
          subst hsw
          replace h := h.1 c6
          refine And.intro trivial ?_
          exact h
        · rw [pm_sw_f c6] at hsw
          replace h := h.2 c6
          by_cases c7 : p1 = 47
          · rw [pm_sw_t c7] at hsw
            subst hsw
            replace h := h.1 c7
            refine And.intro (fun c8 => ?_) (fun c8 => ?_)
            · replace h := h.1 c8
              refine And.intro h.1 ?_
              replace h := h.2
              refine And.intro trivial ?_
              exact h
            · replace h := h.2 c8
              refine And.intro trivial ?_
              exact h
          · rw [pm_sw_f c7] at hsw
            replace h := h.2 c7
            by_cases c9 : p1 = 60
            · rw [pm_sw_t c9] at hsw
              subst hsw
              replace h := h.1 c9
              refine And.intro (fun c10 => ?_) (fun c10 => ?_)
              · replace h := h.1 c10
                refine And.intro trivial ?_
                exact h
              · replace h := h.2 c10
                refine And.intro trivial ?_
                exact h
            · rw [pm_sw_f c9] at hsw
              replace h := h.2 c9
              by_cases c11 : p1 = 61
              · rw [pm_sw_t c11] at hsw
                subst hsw
                replace h := h.1 c11
                refine And.intro (fun c12 => ?_) (fun c12 => ?_)
                · replace h := h.1 c12
                  refine And.intro trivial ?_
                  exact h
                · replace h := h.2 c12
                  refine And.intro trivial ?_
                  exact h
              · rw [pm_sw_f c11] at hsw
                replace h := h.2 c11
                by_cases c13 : p1 = 62
                · rw [pm_sw_t c13] at hsw
                  subst hsw
                  replace h := h.1 c13
                  refine And.intro (fun c14 => ?_) (fun c14 => ?_)
                  · replace h := h.1 c14
                    refine And.intro trivial ?_
                    exact h
                  · replace h := h.2 c14
                    refine And.intro trivial ?_
                    exact h
                · rw [pm_sw_f c13] at hsw
                  replace h := h.2 c13
                  by_cases c15 : p1 = 124
                  · rw [pm_sw_t c15] at hsw
                    subst hsw
                    replace h := h.1 c15
                    refine And.intro (fun c16 => ?_) (fun c16 => ?_)
                    · replace h := h.1 c16
                      refine And.intro trivial ?_
                      exact h
                    · replace h := h.2 c16
                      refine And.intro (fun c17 => ?_) (fun c17 => ?_)
                      · replace h := h.1 c17
                        refine And.intro trivial ?_
                        exact h
                      · replace h := h.2 c17
                        refine And.intro trivial ?_
                        exact h
                  · rw [pm_sw_f c15] at hsw
                    replace h := h.2 c15
                    replace hsw : 169 = pc1 := hsw
                    subst hsw
                    refine And.intro trivial ?_
                    exact h
theorem v_Parser_parse {L d : Nat} {p1 : Nat} (h_p1 : pm_tx p1) {hi : pm_B} {Q : pm_Q} (h : ∃ t1 : Nat, pm_tx t1 ∧ ((pm_u hi 109 1 (nI p1)) 109 1) = nI t1 ∧ (∀ hi2 : pm_B, hi2 = pm_u (pm_u (pm_u hi 109 1 (nI p1)) t1 0 0) t1 1 0 → (∀ hi3 : pm_B, hi3 = pm_u hi2 t1 2 0 → (∀ hi4 : pm_B, hi4 = pm_u (pm_u hi3 109 2 0) 109 3 0 → (∀ hi5 : pm_B, hi5 = pm_u (pm_u hi4 109 4 0) 109 5 0 → (∀ hi6 : pm_B, hi6 = pm_u (pm_u hi5 109 6 0) 109 7 (-1000000005) → (pm_C pm_g (SH L) HR (d + 1) m_Parser_step [.inr 109] hi6 (fun v hi7 => v = none ∧ (pm_C pm_g (SH L) HR (d + 1) m_Parser_readKey [.inr 109] hi7 (fun v hi8 => v = none ∧ (pm_C pm_g (SH L) HR (d + 1) m_Parser_readOr [.inr 109] hi8 (fun v hi9 => v = none ∧ ((((hi9 109 2) = 0) → Q (some (.inl (hi9 109 7))) hi9) ∧ ((¬ ((hi9 109 2) = 0)) → ((¬ (hi9 109 7) = (-1000000005)) → ∀ hi12 : pm_B, hi12 = pm_u hi9 109 2 4 → (Q (some (.inl (hi12 109 7))) hi12)) ∧ ((¬ (¬ (hi9 109 7) = (-1000000005))) → ∀ hi13 : pm_B, hi13 = pm_u (pm_u hi9 109 7 (hi9 109 3)) 109 2 4 → (Q (some (.inl (hi13 109 7))) hi13)))))))))))))))) : pm_C pm_g (SH L) HR (d + 2) m_Parser_parse [.inr 109, .inr p1] hi Q := by
  refine pm_C_of (maxL := 2) (t := pm_t28) rfl (Nat.le_of_ble_eq_true rfl) ?_
  refine pm_W_of 40 [] rfl ?_
  refine And.intro ⟨sh_l109, (tx_lt h_p1)⟩ ?_
  refine And.intro sh_l109 ?_
  obtain ⟨t1, hht1, het1, h⟩ := h
  rw [pm_tn_tx het1 hht1]
  refine And.intro (sh_tx hht1) ?_
  refine v_Text_begin (d := d) hht1 ?_
  intro hi2 ehi2
  replace h := h hi2 ehi2
  refine ⟨rfl, ?_⟩
  obtain ⟨hi3, ehi3⟩ : ∃ m : pm_B, m = pm_u hi2 t1 2 0 := ⟨_, rfl⟩
  replace h := h hi3 ehi3
  rw [← ehi3]
  refine And.intro ⟨sh_l109, trivial⟩ ?_
  refine And.intro ⟨sh_l109, trivial⟩ ?_
  obtain ⟨hi4, ehi4⟩ : ∃ m : pm_B, m = pm_u (pm_u hi3 109 2 0) 109 3 0 := ⟨_, rfl⟩
  replace h := h hi4 ehi4
  rw [← ehi4]
  refine And.intro ⟨sh_l109, trivial⟩ ?_
  refine And.intro ⟨sh_l109, trivial⟩ ?_
  obtain ⟨hi5, ehi5⟩ : ∃ m : pm_B, m = pm_u (pm_u hi4 109 4 0) 109 5 0 := ⟨_, rfl⟩
  replace h := h hi5 ehi5
  rw [← ehi5]
  refine And.intro ⟨sh_l109, trivial⟩ ?_
  refine And.intro ⟨sh_l109, trivial⟩ ?_
  obtain ⟨hi6, ehi6⟩ : ∃ m : pm_B, m = pm_u (pm_u hi5 109 6 0) 109 7 (-1000000005) := ⟨_, rfl⟩
  replace h := h hi6 ehi6
  rw [← ehi6]
  refine And.intro sh_l109 ?_
  refine pm_C_imp h (fun v hi7 h => ?_)
  obtain ⟨rfl, h⟩ := h
  refine ⟨rfl, ?_⟩
  refine And.intro sh_l109 ?_
  refine pm_C_imp h (fun v hi8 h => ?_)
  obtain ⟨rfl, h⟩ := h
  refine ⟨rfl, ?_⟩
  refine And.intro sh_l109 ?_
  refine pm_C_imp h (fun v hi9 h => ?_)
  obtain ⟨rfl, h⟩ := h
  refine ⟨rfl, ?_⟩
  refine And.intro sh_l109 ?_
  refine And.intro (fun c10 => ?_) (fun c10 => ?_)
  · replace h := h.1 c10
    refine And.intro sh_l109 ?_
    refine And.intro trivial ?_
    exact h
  · replace h := h.2 c10
    refine And.intro sh_l109 ?_
    refine v_Parser_fail (d := d)  ?_
    refine And.intro (fun c11 => ?_) (fun c11 => ?_)
    · replace h := h.1 c11
      refine ⟨rfl, ?_⟩
      obtain ⟨hi12, ehi12⟩ : ∃ m : pm_B, m = pm_u hi9 109 2 4 := ⟨_, rfl⟩
      replace h := h hi12 ehi12
      rw [← ehi12]
      refine And.intro sh_l109 ?_
      refine And.intro trivial ?_
      exact h
    · replace h := h.2 c11
      intro hi13 ehi13
      replace h := h hi13 ehi13
      refine ⟨rfl, ?_⟩
      refine And.intro sh_l109 ?_
      refine And.intro trivial ?_
      exact h
theorem v_Parser_step {L d : Nat}  {hi : pm_B} {Q : pm_Q} (h : (((hi 109 2) = 1) → pm_W pm_g (SH L) HR (d + 1) pm_t30 34 [some (.inr 109), some (.inl 1), some (.inl (hi 109 4)), some (.inl 0)] [] (pm_u hi 109 3 (hi 109 4)) Q) ∧ ((¬ ((hi 109 2) = 1)) → ((¬ (hi 109 2) = 2) → pm_W pm_g (SH L) HR (d + 1) pm_t30 34 [some (.inr 109), some (.inl 0), some (.inl (hi 109 4)), some (.inl 0)] [] (pm_u hi 109 3 (hi 109 4)) Q) ∧ ((¬ (¬ (hi 109 2) = 2)) → pm_W pm_g (SH L) HR (d + 1) pm_t30 34 [some (.inr 109), some (.inl 1), some (.inl (hi 109 4)), some (.inl 0)] [] (pm_u hi 109 3 (hi 109 4)) Q))) : pm_C pm_g (SH L) HR (d + 2) m_Parser_step [.inr 109] hi Q := by
  refine pm_C_of (maxL := 4) (t := pm_t30) rfl (Nat.le_of_ble_eq_true rfl) ?_
  refine pm_W_of 21 [34, 127] rfl ?_
  refine And.intro sh_l109 ?_
  refine And.intro (fun c1 => ?_) (fun c1 => ?_)
  · replace h := h.1 c1
    refine And.intro sh_l109 ?_
    refine And.intro ⟨sh_l109, trivial⟩ ?_
    exact h
  · replace h := h.2 c1
    refine And.intro sh_l109 ?_
    refine And.intro (fun c2 => ?_) (fun c2 => ?_)
    · replace h := h.1 c2
      refine And.intro sh_l109 ?_
      refine And.intro ⟨sh_l109, trivial⟩ ?_
      exact h
    · replace h := h.2 c2
      refine And.intro sh_l109 ?_
      refine And.intro ⟨sh_l109, trivial⟩ ?_
      exact h
theorem v_Parser_step_34 {L d : Nat}  {y1 : Int32} {y2 : Int32} {y3 : Int32} {hi : pm_B} {Q : pm_Q} (h : ((96 ≤ y3) → (((hi 109 3) < 0) → ∀ hi3 : pm_B, hi3 = pm_u (pm_u hi 109 2 (f_Parser_sortOf (-1))) 109 4 ((pm_u hi 109 2 (f_Parser_sortOf (-1))) 109 3) → (((¬ (hi3 109 2) = 0) → ((¬ ((pm_u hi3 109 4 ((hi3 109 4) + 1)) 109 2) = 3) → pm_W pm_g (SH L) HR (d + 1) pm_t30 127 [some (.inr 109), some (.inl y1), some (.inl y2), some (.inl 0)] [] (pm_u hi3 109 4 ((hi3 109 4) + 1)) Q) ∧ ((¬ (¬ ((pm_u hi3 109 4 ((hi3 109 4) + 1)) 109 2) = 3)) → Q none (pm_u hi3 109 4 ((hi3 109 4) + 1)))) ∧ ((¬ (¬ (hi3 109 2) = 0)) → Q none hi3))) ∧ ((¬ ((hi 109 3) < 0)) → (((hi 107 1) ≤ (hi 109 3)) → ∀ hi7 : pm_B, hi7 = pm_u (pm_u hi 109 2 (f_Parser_sortOf (-1))) 109 4 ((pm_u hi 109 2 (f_Parser_sortOf (-1))) 109 3) → (((¬ (hi7 109 2) = 0) → ((¬ ((pm_u hi7 109 4 ((hi7 109 4) + 1)) 109 2) = 3) → pm_W pm_g (SH L) HR (d + 1) pm_t30 127 [some (.inr 109), some (.inl y1), some (.inl y2), some (.inl 0)] [] (pm_u hi7 109 4 ((hi7 109 4) + 1)) Q) ∧ ((¬ (¬ ((pm_u hi7 109 4 ((hi7 109 4) + 1)) 109 2) = 3)) → Q none (pm_u hi7 109 4 ((hi7 109 4) + 1)))) ∧ ((¬ (¬ (hi7 109 2) = 0)) → Q none hi7))) ∧ ((¬ ((hi 107 1) ≤ (hi 109 3))) → ((96 ≤ (hi 109 3)) → ∀ hi11 : pm_B, hi11 = pm_u (pm_u hi 109 2 (f_Parser_sortOf (-1))) 109 4 ((pm_u hi 109 2 (f_Parser_sortOf (-1))) 109 3) → (((¬ (hi11 109 2) = 0) → ((¬ ((pm_u hi11 109 4 ((hi11 109 4) + 1)) 109 2) = 3) → pm_W pm_g (SH L) HR (d + 1) pm_t30 127 [some (.inr 109), some (.inl y1), some (.inl y2), some (.inl 0)] [] (pm_u hi11 109 4 ((hi11 109 4) + 1)) Q) ∧ ((¬ (¬ ((pm_u hi11 109 4 ((hi11 109 4) + 1)) 109 2) = 3)) → Q none (pm_u hi11 109 4 ((hi11 109 4) + 1)))) ∧ ((¬ (¬ (hi11 109 2) = 0)) → Q none hi11))) ∧ ((¬ (96 ≤ (hi 109 3))) → ∃ k14 : Nat, k14 < 96 ∧ (hi 109 3) = nI k14 ∧ (∀ hi15 : pm_B, hi15 = pm_u (pm_u hi 109 2 (f_Parser_sortOf (hi 108 k14))) 109 4 ((pm_u hi 109 2 (f_Parser_sortOf (hi 108 k14))) 109 3) → (((¬ (hi15 109 2) = 0) → ((¬ ((pm_u hi15 109 4 ((hi15 109 4) + 1)) 109 2) = 3) → pm_W pm_g (SH L) HR (d + 1) pm_t30 127 [some (.inr 109), some (.inl y1), some (.inl y2), some (.inl 0)] [] (pm_u hi15 109 4 ((hi15 109 4) + 1)) Q) ∧ ((¬ (¬ ((pm_u hi15 109 4 ((hi15 109 4) + 1)) 109 2) = 3)) → Q none (pm_u hi15 109 4 ((hi15 109 4) + 1)))) ∧ ((¬ (¬ (hi15 109 2) = 0)) → Q none hi15))))))) ∧ ((¬ (96 ≤ y3)) → (((hi 109 3) < 0) → (((hi 109 3) < 0) → ∀ hi20 : pm_B, hi20 = pm_u (pm_u hi 109 2 (f_Parser_sortOf (-1))) 109 4 ((pm_u hi 109 2 (f_Parser_sortOf (-1))) 109 3) → (((¬ (hi20 109 2) = 0) → ((¬ ((pm_u hi20 109 4 ((hi20 109 4) + 1)) 109 2) = 3) → pm_W pm_g (SH L) HR (d + 1) pm_t30 127 [some (.inr 109), some (.inl y1), some (.inl y2), some (.inl 0)] [] (pm_u hi20 109 4 ((hi20 109 4) + 1)) Q) ∧ ((¬ (¬ ((pm_u hi20 109 4 ((hi20 109 4) + 1)) 109 2) = 3)) → Q none (pm_u hi20 109 4 ((hi20 109 4) + 1)))) ∧ ((¬ (¬ (hi20 109 2) = 0)) → Q none hi20))) ∧ ((¬ ((hi 109 3) < 0)) → (((hi 107 1) ≤ (hi 109 3)) → ∀ hi24 : pm_B, hi24 = pm_u (pm_u hi 109 2 (f_Parser_sortOf (-1))) 109 4 ((pm_u hi 109 2 (f_Parser_sortOf (-1))) 109 3) → (((¬ (hi24 109 2) = 0) → ((¬ ((pm_u hi24 109 4 ((hi24 109 4) + 1)) 109 2) = 3) → pm_W pm_g (SH L) HR (d + 1) pm_t30 127 [some (.inr 109), some (.inl y1), some (.inl y2), some (.inl 0)] [] (pm_u hi24 109 4 ((hi24 109 4) + 1)) Q) ∧ ((¬ (¬ ((pm_u hi24 109 4 ((hi24 109 4) + 1)) 109 2) = 3)) → Q none (pm_u hi24 109 4 ((hi24 109 4) + 1)))) ∧ ((¬ (¬ (hi24 109 2) = 0)) → Q none hi24))) ∧ ((¬ ((hi 107 1) ≤ (hi 109 3))) → ((96 ≤ (hi 109 3)) → ∀ hi28 : pm_B, hi28 = pm_u (pm_u hi 109 2 (f_Parser_sortOf (-1))) 109 4 ((pm_u hi 109 2 (f_Parser_sortOf (-1))) 109 3) → (((¬ (hi28 109 2) = 0) → ((¬ ((pm_u hi28 109 4 ((hi28 109 4) + 1)) 109 2) = 3) → pm_W pm_g (SH L) HR (d + 1) pm_t30 127 [some (.inr 109), some (.inl y1), some (.inl y2), some (.inl 0)] [] (pm_u hi28 109 4 ((hi28 109 4) + 1)) Q) ∧ ((¬ (¬ ((pm_u hi28 109 4 ((hi28 109 4) + 1)) 109 2) = 3)) → Q none (pm_u hi28 109 4 ((hi28 109 4) + 1)))) ∧ ((¬ (¬ (hi28 109 2) = 0)) → Q none hi28))) ∧ ((¬ (96 ≤ (hi 109 3))) → ∃ k31 : Nat, k31 < 96 ∧ (hi 109 3) = nI k31 ∧ (∀ hi32 : pm_B, hi32 = pm_u (pm_u hi 109 2 (f_Parser_sortOf (hi 108 k31))) 109 4 ((pm_u hi 109 2 (f_Parser_sortOf (hi 108 k31))) 109 3) → (((¬ (hi32 109 2) = 0) → ((¬ ((pm_u hi32 109 4 ((hi32 109 4) + 1)) 109 2) = 3) → pm_W pm_g (SH L) HR (d + 1) pm_t30 127 [some (.inr 109), some (.inl y1), some (.inl y2), some (.inl 0)] [] (pm_u hi32 109 4 ((hi32 109 4) + 1)) Q) ∧ ((¬ (¬ ((pm_u hi32 109 4 ((hi32 109 4) + 1)) 109 2) = 3)) → Q none (pm_u hi32 109 4 ((hi32 109 4) + 1)))) ∧ ((¬ (¬ (hi32 109 2) = 0)) → Q none hi32))))))) ∧ ((¬ ((hi 109 3) < 0)) → (((hi 107 1) ≤ (hi 109 3)) → (((hi 109 3) < 0) → ∀ hi37 : pm_B, hi37 = pm_u (pm_u hi 109 2 (f_Parser_sortOf (-1))) 109 4 ((pm_u hi 109 2 (f_Parser_sortOf (-1))) 109 3) → (((¬ (hi37 109 2) = 0) → ((¬ ((pm_u hi37 109 4 ((hi37 109 4) + 1)) 109 2) = 3) → pm_W pm_g (SH L) HR (d + 1) pm_t30 127 [some (.inr 109), some (.inl y1), some (.inl y2), some (.inl 0)] [] (pm_u hi37 109 4 ((hi37 109 4) + 1)) Q) ∧ ((¬ (¬ ((pm_u hi37 109 4 ((hi37 109 4) + 1)) 109 2) = 3)) → Q none (pm_u hi37 109 4 ((hi37 109 4) + 1)))) ∧ ((¬ (¬ (hi37 109 2) = 0)) → Q none hi37))) ∧ ((¬ ((hi 109 3) < 0)) → (((hi 107 1) ≤ (hi 109 3)) → ∀ hi41 : pm_B, hi41 = pm_u (pm_u hi 109 2 (f_Parser_sortOf (-1))) 109 4 ((pm_u hi 109 2 (f_Parser_sortOf (-1))) 109 3) → (((¬ (hi41 109 2) = 0) → ((¬ ((pm_u hi41 109 4 ((hi41 109 4) + 1)) 109 2) = 3) → pm_W pm_g (SH L) HR (d + 1) pm_t30 127 [some (.inr 109), some (.inl y1), some (.inl y2), some (.inl 0)] [] (pm_u hi41 109 4 ((hi41 109 4) + 1)) Q) ∧ ((¬ (¬ ((pm_u hi41 109 4 ((hi41 109 4) + 1)) 109 2) = 3)) → Q none (pm_u hi41 109 4 ((hi41 109 4) + 1)))) ∧ ((¬ (¬ (hi41 109 2) = 0)) → Q none hi41))) ∧ ((¬ ((hi 107 1) ≤ (hi 109 3))) → ((96 ≤ (hi 109 3)) → ∀ hi45 : pm_B, hi45 = pm_u (pm_u hi 109 2 (f_Parser_sortOf (-1))) 109 4 ((pm_u hi 109 2 (f_Parser_sortOf (-1))) 109 3) → (((¬ (hi45 109 2) = 0) → ((¬ ((pm_u hi45 109 4 ((hi45 109 4) + 1)) 109 2) = 3) → pm_W pm_g (SH L) HR (d + 1) pm_t30 127 [some (.inr 109), some (.inl y1), some (.inl y2), some (.inl 0)] [] (pm_u hi45 109 4 ((hi45 109 4) + 1)) Q) ∧ ((¬ (¬ ((pm_u hi45 109 4 ((hi45 109 4) + 1)) 109 2) = 3)) → Q none (pm_u hi45 109 4 ((hi45 109 4) + 1)))) ∧ ((¬ (¬ (hi45 109 2) = 0)) → Q none hi45))) ∧ ((¬ (96 ≤ (hi 109 3))) → ∃ k48 : Nat, k48 < 96 ∧ (hi 109 3) = nI k48 ∧ (∀ hi49 : pm_B, hi49 = pm_u (pm_u hi 109 2 (f_Parser_sortOf (hi 108 k48))) 109 4 ((pm_u hi 109 2 (f_Parser_sortOf (hi 108 k48))) 109 3) → (((¬ (hi49 109 2) = 0) → ((¬ ((pm_u hi49 109 4 ((hi49 109 4) + 1)) 109 2) = 3) → pm_W pm_g (SH L) HR (d + 1) pm_t30 127 [some (.inr 109), some (.inl y1), some (.inl y2), some (.inl 0)] [] (pm_u hi49 109 4 ((hi49 109 4) + 1)) Q) ∧ ((¬ (¬ ((pm_u hi49 109 4 ((hi49 109 4) + 1)) 109 2) = 3)) → Q none (pm_u hi49 109 4 ((hi49 109 4) + 1)))) ∧ ((¬ (¬ (hi49 109 2) = 0)) → Q none hi49))))))) ∧ ((¬ ((hi 107 1) ≤ (hi 109 3))) → ((96 ≤ (hi 109 3)) → (((hi 109 3) < 0) → ∀ hi54 : pm_B, hi54 = pm_u (pm_u hi 109 2 (f_Parser_sortOf (-1))) 109 4 ((pm_u hi 109 2 (f_Parser_sortOf (-1))) 109 3) → (((¬ (hi54 109 2) = 0) → ((¬ ((pm_u hi54 109 4 ((hi54 109 4) + 1)) 109 2) = 3) → pm_W pm_g (SH L) HR (d + 1) pm_t30 127 [some (.inr 109), some (.inl y1), some (.inl y2), some (.inl 0)] [] (pm_u hi54 109 4 ((hi54 109 4) + 1)) Q) ∧ ((¬ (¬ ((pm_u hi54 109 4 ((hi54 109 4) + 1)) 109 2) = 3)) → Q none (pm_u hi54 109 4 ((hi54 109 4) + 1)))) ∧ ((¬ (¬ (hi54 109 2) = 0)) → Q none hi54))) ∧ ((¬ ((hi 109 3) < 0)) → (((hi 107 1) ≤ (hi 109 3)) → ∀ hi58 : pm_B, hi58 = pm_u (pm_u hi 109 2 (f_Parser_sortOf (-1))) 109 4 ((pm_u hi 109 2 (f_Parser_sortOf (-1))) 109 3) → (((¬ (hi58 109 2) = 0) → ((¬ ((pm_u hi58 109 4 ((hi58 109 4) + 1)) 109 2) = 3) → pm_W pm_g (SH L) HR (d + 1) pm_t30 127 [some (.inr 109), some (.inl y1), some (.inl y2), some (.inl 0)] [] (pm_u hi58 109 4 ((hi58 109 4) + 1)) Q) ∧ ((¬ (¬ ((pm_u hi58 109 4 ((hi58 109 4) + 1)) 109 2) = 3)) → Q none (pm_u hi58 109 4 ((hi58 109 4) + 1)))) ∧ ((¬ (¬ (hi58 109 2) = 0)) → Q none hi58))) ∧ ((¬ ((hi 107 1) ≤ (hi 109 3))) → ((96 ≤ (hi 109 3)) → ∀ hi62 : pm_B, hi62 = pm_u (pm_u hi 109 2 (f_Parser_sortOf (-1))) 109 4 ((pm_u hi 109 2 (f_Parser_sortOf (-1))) 109 3) → (((¬ (hi62 109 2) = 0) → ((¬ ((pm_u hi62 109 4 ((hi62 109 4) + 1)) 109 2) = 3) → pm_W pm_g (SH L) HR (d + 1) pm_t30 127 [some (.inr 109), some (.inl y1), some (.inl y2), some (.inl 0)] [] (pm_u hi62 109 4 ((hi62 109 4) + 1)) Q) ∧ ((¬ (¬ ((pm_u hi62 109 4 ((hi62 109 4) + 1)) 109 2) = 3)) → Q none (pm_u hi62 109 4 ((hi62 109 4) + 1)))) ∧ ((¬ (¬ (hi62 109 2) = 0)) → Q none hi62))) ∧ ((¬ (96 ≤ (hi 109 3))) → ∃ k65 : Nat, k65 < 96 ∧ (hi 109 3) = nI k65 ∧ (∀ hi66 : pm_B, hi66 = pm_u (pm_u hi 109 2 (f_Parser_sortOf (hi 108 k65))) 109 4 ((pm_u hi 109 2 (f_Parser_sortOf (hi 108 k65))) 109 3) → (((¬ (hi66 109 2) = 0) → ((¬ ((pm_u hi66 109 4 ((hi66 109 4) + 1)) 109 2) = 3) → pm_W pm_g (SH L) HR (d + 1) pm_t30 127 [some (.inr 109), some (.inl y1), some (.inl y2), some (.inl 0)] [] (pm_u hi66 109 4 ((hi66 109 4) + 1)) Q) ∧ ((¬ (¬ ((pm_u hi66 109 4 ((hi66 109 4) + 1)) 109 2) = 3)) → Q none (pm_u hi66 109 4 ((hi66 109 4) + 1)))) ∧ ((¬ (¬ (hi66 109 2) = 0)) → Q none hi66))))))) ∧ ((¬ (96 ≤ (hi 109 3))) → ∃ k69 : Nat, k69 < 96 ∧ (hi 109 3) = nI k69 ∧ (((¬ (hi 108 k69) = 32) → (((hi 109 3) < 0) → ∀ hi72 : pm_B, hi72 = pm_u (pm_u hi 109 2 (f_Parser_sortOf (-1))) 109 4 ((pm_u hi 109 2 (f_Parser_sortOf (-1))) 109 3) → (((¬ (hi72 109 2) = 0) → ((¬ ((pm_u hi72 109 4 ((hi72 109 4) + 1)) 109 2) = 3) → pm_W pm_g (SH L) HR (d + 1) pm_t30 127 [some (.inr 109), some (.inl y1), some (.inl y2), some (.inl 0)] [] (pm_u hi72 109 4 ((hi72 109 4) + 1)) Q) ∧ ((¬ (¬ ((pm_u hi72 109 4 ((hi72 109 4) + 1)) 109 2) = 3)) → Q none (pm_u hi72 109 4 ((hi72 109 4) + 1)))) ∧ ((¬ (¬ (hi72 109 2) = 0)) → Q none hi72))) ∧ ((¬ ((hi 109 3) < 0)) → (((hi 107 1) ≤ (hi 109 3)) → ∀ hi76 : pm_B, hi76 = pm_u (pm_u hi 109 2 (f_Parser_sortOf (-1))) 109 4 ((pm_u hi 109 2 (f_Parser_sortOf (-1))) 109 3) → (((¬ (hi76 109 2) = 0) → ((¬ ((pm_u hi76 109 4 ((hi76 109 4) + 1)) 109 2) = 3) → pm_W pm_g (SH L) HR (d + 1) pm_t30 127 [some (.inr 109), some (.inl y1), some (.inl y2), some (.inl 0)] [] (pm_u hi76 109 4 ((hi76 109 4) + 1)) Q) ∧ ((¬ (¬ ((pm_u hi76 109 4 ((hi76 109 4) + 1)) 109 2) = 3)) → Q none (pm_u hi76 109 4 ((hi76 109 4) + 1)))) ∧ ((¬ (¬ (hi76 109 2) = 0)) → Q none hi76))) ∧ ((¬ ((hi 107 1) ≤ (hi 109 3))) → ((96 ≤ (hi 109 3)) → ∀ hi80 : pm_B, hi80 = pm_u (pm_u hi 109 2 (f_Parser_sortOf (-1))) 109 4 ((pm_u hi 109 2 (f_Parser_sortOf (-1))) 109 3) → (((¬ (hi80 109 2) = 0) → ((¬ ((pm_u hi80 109 4 ((hi80 109 4) + 1)) 109 2) = 3) → pm_W pm_g (SH L) HR (d + 1) pm_t30 127 [some (.inr 109), some (.inl y1), some (.inl y2), some (.inl 0)] [] (pm_u hi80 109 4 ((hi80 109 4) + 1)) Q) ∧ ((¬ (¬ ((pm_u hi80 109 4 ((hi80 109 4) + 1)) 109 2) = 3)) → Q none (pm_u hi80 109 4 ((hi80 109 4) + 1)))) ∧ ((¬ (¬ (hi80 109 2) = 0)) → Q none hi80))) ∧ ((¬ (96 ≤ (hi 109 3))) → ∃ k83 : Nat, k83 < 96 ∧ (hi 109 3) = nI k83 ∧ (∀ hi84 : pm_B, hi84 = pm_u (pm_u hi 109 2 (f_Parser_sortOf (hi 108 k83))) 109 4 ((pm_u hi 109 2 (f_Parser_sortOf (hi 108 k83))) 109 3) → (((¬ (hi84 109 2) = 0) → ((¬ ((pm_u hi84 109 4 ((hi84 109 4) + 1)) 109 2) = 3) → pm_W pm_g (SH L) HR (d + 1) pm_t30 127 [some (.inr 109), some (.inl y1), some (.inl y2), some (.inl 0)] [] (pm_u hi84 109 4 ((hi84 109 4) + 1)) Q) ∧ ((¬ (¬ ((pm_u hi84 109 4 ((hi84 109 4) + 1)) 109 2) = 3)) → Q none (pm_u hi84 109 4 ((hi84 109 4) + 1)))) ∧ ((¬ (¬ (hi84 109 2) = 0)) → Q none hi84))))))) ∧ ((¬ (¬ (hi 108 k69) = 32)) → pm_W pm_g (SH L) HR (d + 1) pm_t30 34 [some (.inr 109), some (.inl y1), some (.inl y2), some (.inl (y3 + 1))] [] (pm_u hi 109 3 ((hi 109 3) + 1)) Q))))))) : pm_W pm_g (SH L) HR (d + 1) pm_t30 34 [some (.inr 109), some (.inl y1), some (.inl y2), some (.inl y3)] [] hi Q := by
  refine pm_W_of 39 [34, 127] rfl ?_
  refine And.intro (fun c1 => ?_) (fun c1 => ?_)
  · replace h := h.1 c1
    refine And.intro sh_l109 ?_
    rw [hr_109_0]
    refine And.intro sh_l109 ?_
    refine And.intro sh_l107 ?_
    refine v_Tape_byteAt (d := d)  ?_
    refine And.intro (fun c2 => ?_) (fun c2 => ?_)
    · replace h := h.1 c2
      refine ⟨_, rfl, ?_⟩
      refine And.intro trivial ?_
      refine f_Parser_sortOf_c (d := d)  ?_
      refine ⟨_, rfl, ?_⟩
      refine And.intro ⟨sh_l109, trivial⟩ ?_
      refine And.intro sh_l109 ?_
      refine And.intro ⟨sh_l109, trivial⟩ ?_
      obtain ⟨hi3, ehi3⟩ : ∃ m : pm_B, m = pm_u (pm_u hi 109 2 (f_Parser_sortOf (-1))) 109 4 ((pm_u hi 109 2 (f_Parser_sortOf (-1))) 109 3) := ⟨_, rfl⟩
      replace h := h hi3 ehi3
      rw [← ehi3]
      refine And.intro sh_l109 ?_
      refine And.intro (fun c4 => ?_) (fun c4 => ?_)
      · replace h := h.1 c4
        refine And.intro sh_l109 ?_
        refine And.intro ⟨sh_l109, trivial⟩ ?_
        refine And.intro sh_l109 ?_
        refine And.intro (fun c5 => ?_) (fun c5 => ?_)
        · replace h := h.1 c5
          exact h
        · replace h := h.2 c5
          exact h
      · replace h := h.2 c4
        exact h
    · replace h := h.2 c2
      refine And.intro (fun c6 => ?_) (fun c6 => ?_)
      · replace h := h.1 c6
        refine ⟨_, rfl, ?_⟩
        refine And.intro trivial ?_
        refine f_Parser_sortOf_c (d := d)  ?_
        refine ⟨_, rfl, ?_⟩
        refine And.intro ⟨sh_l109, trivial⟩ ?_
        refine And.intro sh_l109 ?_
        refine And.intro ⟨sh_l109, trivial⟩ ?_
        obtain ⟨hi7, ehi7⟩ : ∃ m : pm_B, m = pm_u (pm_u hi 109 2 (f_Parser_sortOf (-1))) 109 4 ((pm_u hi 109 2 (f_Parser_sortOf (-1))) 109 3) := ⟨_, rfl⟩
        replace h := h hi7 ehi7
        rw [← ehi7]
        refine And.intro sh_l109 ?_
        refine And.intro (fun c8 => ?_) (fun c8 => ?_)
        · replace h := h.1 c8
          refine And.intro sh_l109 ?_
          refine And.intro ⟨sh_l109, trivial⟩ ?_
          refine And.intro sh_l109 ?_
          refine And.intro (fun c9 => ?_) (fun c9 => ?_)
          · replace h := h.1 c9
            exact h
          · replace h := h.2 c9
            exact h
        · replace h := h.2 c8
          exact h
      · replace h := h.2 c6
        refine And.intro (fun c10 => ?_) (fun c10 => ?_)
        · replace h := h.1 c10
          refine ⟨_, rfl, ?_⟩
          refine And.intro trivial ?_
          refine f_Parser_sortOf_c (d := d)  ?_
          refine ⟨_, rfl, ?_⟩
          refine And.intro ⟨sh_l109, trivial⟩ ?_
          refine And.intro sh_l109 ?_
          refine And.intro ⟨sh_l109, trivial⟩ ?_
          obtain ⟨hi11, ehi11⟩ : ∃ m : pm_B, m = pm_u (pm_u hi 109 2 (f_Parser_sortOf (-1))) 109 4 ((pm_u hi 109 2 (f_Parser_sortOf (-1))) 109 3) := ⟨_, rfl⟩
          replace h := h hi11 ehi11
          rw [← ehi11]
          refine And.intro sh_l109 ?_
          refine And.intro (fun c12 => ?_) (fun c12 => ?_)
          · replace h := h.1 c12
            refine And.intro sh_l109 ?_
            refine And.intro ⟨sh_l109, trivial⟩ ?_
            refine And.intro sh_l109 ?_
            refine And.intro (fun c13 => ?_) (fun c13 => ?_)
            · replace h := h.1 c13
              exact h
            · replace h := h.2 c13
              exact h
          · replace h := h.2 c12
            exact h
        · replace h := h.2 c10
          obtain ⟨k14, hkk14, hek14, h⟩ := h
          refine ⟨k14, hkk14, hek14, ?_⟩
          refine ⟨_, rfl, ?_⟩
          refine And.intro trivial ?_
          refine f_Parser_sortOf_c (d := d)  ?_
          refine ⟨_, rfl, ?_⟩
          refine And.intro ⟨sh_l109, trivial⟩ ?_
          refine And.intro sh_l109 ?_
          refine And.intro ⟨sh_l109, trivial⟩ ?_
          obtain ⟨hi15, ehi15⟩ : ∃ m : pm_B, m = pm_u (pm_u hi 109 2 (f_Parser_sortOf (hi 108 k14))) 109 4 ((pm_u hi 109 2 (f_Parser_sortOf (hi 108 k14))) 109 3) := ⟨_, rfl⟩
          replace h := h hi15 ehi15
          rw [← ehi15]
          refine And.intro sh_l109 ?_
          refine And.intro (fun c16 => ?_) (fun c16 => ?_)
          · replace h := h.1 c16
            refine And.intro sh_l109 ?_
            refine And.intro ⟨sh_l109, trivial⟩ ?_
            refine And.intro sh_l109 ?_
            refine And.intro (fun c17 => ?_) (fun c17 => ?_)
            · replace h := h.1 c17
              exact h
            · replace h := h.2 c17
              exact h
          · replace h := h.2 c16
            exact h
  · replace h := h.2 c1
    refine And.intro sh_l109 ?_
    rw [hr_109_0]
    refine And.intro sh_l109 ?_
    refine And.intro sh_l107 ?_
    refine v_Tape_byteAt (d := d)  ?_
    refine And.intro (fun c18 => ?_) (fun c18 => ?_)
    · replace h := h.1 c18
      refine ⟨_, rfl, ?_⟩
      refine And.intro (fun _ => ?_) (fun hc => absurd (pm_cd_t (by decide)) hc)
      refine And.intro sh_l109 ?_
      rw [hr_109_0]
      refine And.intro sh_l109 ?_
      refine And.intro sh_l107 ?_
      refine v_Tape_byteAt (d := d)  ?_
      refine And.intro (fun c19 => ?_) (fun c19 => ?_)
      · replace h := h.1 c19
        refine ⟨_, rfl, ?_⟩
        refine And.intro trivial ?_
        refine f_Parser_sortOf_c (d := d)  ?_
        refine ⟨_, rfl, ?_⟩
        refine And.intro ⟨sh_l109, trivial⟩ ?_
        refine And.intro sh_l109 ?_
        refine And.intro ⟨sh_l109, trivial⟩ ?_
        obtain ⟨hi20, ehi20⟩ : ∃ m : pm_B, m = pm_u (pm_u hi 109 2 (f_Parser_sortOf (-1))) 109 4 ((pm_u hi 109 2 (f_Parser_sortOf (-1))) 109 3) := ⟨_, rfl⟩
        replace h := h hi20 ehi20
        rw [← ehi20]
        refine And.intro sh_l109 ?_
        refine And.intro (fun c21 => ?_) (fun c21 => ?_)
        · replace h := h.1 c21
          refine And.intro sh_l109 ?_
          refine And.intro ⟨sh_l109, trivial⟩ ?_
          refine And.intro sh_l109 ?_
          refine And.intro (fun c22 => ?_) (fun c22 => ?_)
          · replace h := h.1 c22
            exact h
          · replace h := h.2 c22
            exact h
        · replace h := h.2 c21
          exact h
      · replace h := h.2 c19
        refine And.intro (fun c23 => ?_) (fun c23 => ?_)
        · replace h := h.1 c23
          refine ⟨_, rfl, ?_⟩
          refine And.intro trivial ?_
          refine f_Parser_sortOf_c (d := d)  ?_
          refine ⟨_, rfl, ?_⟩
          refine And.intro ⟨sh_l109, trivial⟩ ?_
          refine And.intro sh_l109 ?_
          refine And.intro ⟨sh_l109, trivial⟩ ?_
          obtain ⟨hi24, ehi24⟩ : ∃ m : pm_B, m = pm_u (pm_u hi 109 2 (f_Parser_sortOf (-1))) 109 4 ((pm_u hi 109 2 (f_Parser_sortOf (-1))) 109 3) := ⟨_, rfl⟩
          replace h := h hi24 ehi24
          rw [← ehi24]
          refine And.intro sh_l109 ?_
          refine And.intro (fun c25 => ?_) (fun c25 => ?_)
          · replace h := h.1 c25
            refine And.intro sh_l109 ?_
            refine And.intro ⟨sh_l109, trivial⟩ ?_
            refine And.intro sh_l109 ?_
            refine And.intro (fun c26 => ?_) (fun c26 => ?_)
            · replace h := h.1 c26
              exact h
            · replace h := h.2 c26
              exact h
          · replace h := h.2 c25
            exact h
        · replace h := h.2 c23
          refine And.intro (fun c27 => ?_) (fun c27 => ?_)
          · replace h := h.1 c27
            refine ⟨_, rfl, ?_⟩
            refine And.intro trivial ?_
            refine f_Parser_sortOf_c (d := d)  ?_
            refine ⟨_, rfl, ?_⟩
            refine And.intro ⟨sh_l109, trivial⟩ ?_
            refine And.intro sh_l109 ?_
            refine And.intro ⟨sh_l109, trivial⟩ ?_
            obtain ⟨hi28, ehi28⟩ : ∃ m : pm_B, m = pm_u (pm_u hi 109 2 (f_Parser_sortOf (-1))) 109 4 ((pm_u hi 109 2 (f_Parser_sortOf (-1))) 109 3) := ⟨_, rfl⟩
            replace h := h hi28 ehi28
            rw [← ehi28]
            refine And.intro sh_l109 ?_
            refine And.intro (fun c29 => ?_) (fun c29 => ?_)
            · replace h := h.1 c29
              refine And.intro sh_l109 ?_
              refine And.intro ⟨sh_l109, trivial⟩ ?_
              refine And.intro sh_l109 ?_
              refine And.intro (fun c30 => ?_) (fun c30 => ?_)
              · replace h := h.1 c30
                exact h
              · replace h := h.2 c30
                exact h
            · replace h := h.2 c29
              exact h
          · replace h := h.2 c27
            obtain ⟨k31, hkk31, hek31, h⟩ := h
            refine ⟨k31, hkk31, hek31, ?_⟩
            refine ⟨_, rfl, ?_⟩
            refine And.intro trivial ?_
            refine f_Parser_sortOf_c (d := d)  ?_
            refine ⟨_, rfl, ?_⟩
            refine And.intro ⟨sh_l109, trivial⟩ ?_
            refine And.intro sh_l109 ?_
            refine And.intro ⟨sh_l109, trivial⟩ ?_
            obtain ⟨hi32, ehi32⟩ : ∃ m : pm_B, m = pm_u (pm_u hi 109 2 (f_Parser_sortOf (hi 108 k31))) 109 4 ((pm_u hi 109 2 (f_Parser_sortOf (hi 108 k31))) 109 3) := ⟨_, rfl⟩
            replace h := h hi32 ehi32
            rw [← ehi32]
            refine And.intro sh_l109 ?_
            refine And.intro (fun c33 => ?_) (fun c33 => ?_)
            · replace h := h.1 c33
              refine And.intro sh_l109 ?_
              refine And.intro ⟨sh_l109, trivial⟩ ?_
              refine And.intro sh_l109 ?_
              refine And.intro (fun c34 => ?_) (fun c34 => ?_)
              · replace h := h.1 c34
                exact h
              · replace h := h.2 c34
                exact h
            · replace h := h.2 c33
              exact h
    · replace h := h.2 c18
      refine And.intro (fun c35 => ?_) (fun c35 => ?_)
      · replace h := h.1 c35
        refine ⟨_, rfl, ?_⟩
        refine And.intro (fun _ => ?_) (fun hc => absurd (pm_cd_t (by decide)) hc)
        refine And.intro sh_l109 ?_
        rw [hr_109_0]
        refine And.intro sh_l109 ?_
        refine And.intro sh_l107 ?_
        refine v_Tape_byteAt (d := d)  ?_
        refine And.intro (fun c36 => ?_) (fun c36 => ?_)
        · replace h := h.1 c36
          refine ⟨_, rfl, ?_⟩
          refine And.intro trivial ?_
          refine f_Parser_sortOf_c (d := d)  ?_
          refine ⟨_, rfl, ?_⟩
          refine And.intro ⟨sh_l109, trivial⟩ ?_
          refine And.intro sh_l109 ?_
          refine And.intro ⟨sh_l109, trivial⟩ ?_
          obtain ⟨hi37, ehi37⟩ : ∃ m : pm_B, m = pm_u (pm_u hi 109 2 (f_Parser_sortOf (-1))) 109 4 ((pm_u hi 109 2 (f_Parser_sortOf (-1))) 109 3) := ⟨_, rfl⟩
          replace h := h hi37 ehi37
          rw [← ehi37]
          refine And.intro sh_l109 ?_
          refine And.intro (fun c38 => ?_) (fun c38 => ?_)
          · replace h := h.1 c38
            refine And.intro sh_l109 ?_
            refine And.intro ⟨sh_l109, trivial⟩ ?_
            refine And.intro sh_l109 ?_
            refine And.intro (fun c39 => ?_) (fun c39 => ?_)
            · replace h := h.1 c39
              exact h
            · replace h := h.2 c39
              exact h
          · replace h := h.2 c38
            exact h
        · replace h := h.2 c36
          refine And.intro (fun c40 => ?_) (fun c40 => ?_)
          · replace h := h.1 c40
            refine ⟨_, rfl, ?_⟩
            refine And.intro trivial ?_
            refine f_Parser_sortOf_c (d := d)  ?_
            refine ⟨_, rfl, ?_⟩
            refine And.intro ⟨sh_l109, trivial⟩ ?_
            refine And.intro sh_l109 ?_
            refine And.intro ⟨sh_l109, trivial⟩ ?_
            obtain ⟨hi41, ehi41⟩ : ∃ m : pm_B, m = pm_u (pm_u hi 109 2 (f_Parser_sortOf (-1))) 109 4 ((pm_u hi 109 2 (f_Parser_sortOf (-1))) 109 3) := ⟨_, rfl⟩
            replace h := h hi41 ehi41
            rw [← ehi41]
            refine And.intro sh_l109 ?_
            refine And.intro (fun c42 => ?_) (fun c42 => ?_)
            · replace h := h.1 c42
              refine And.intro sh_l109 ?_
              refine And.intro ⟨sh_l109, trivial⟩ ?_
              refine And.intro sh_l109 ?_
              refine And.intro (fun c43 => ?_) (fun c43 => ?_)
              · replace h := h.1 c43
                exact h
              · replace h := h.2 c43
                exact h
            · replace h := h.2 c42
              exact h
          · replace h := h.2 c40
            refine And.intro (fun c44 => ?_) (fun c44 => ?_)
            · replace h := h.1 c44
              refine ⟨_, rfl, ?_⟩
              refine And.intro trivial ?_
              refine f_Parser_sortOf_c (d := d)  ?_
              refine ⟨_, rfl, ?_⟩
              refine And.intro ⟨sh_l109, trivial⟩ ?_
              refine And.intro sh_l109 ?_
              refine And.intro ⟨sh_l109, trivial⟩ ?_
              obtain ⟨hi45, ehi45⟩ : ∃ m : pm_B, m = pm_u (pm_u hi 109 2 (f_Parser_sortOf (-1))) 109 4 ((pm_u hi 109 2 (f_Parser_sortOf (-1))) 109 3) := ⟨_, rfl⟩
              replace h := h hi45 ehi45
              rw [← ehi45]
              refine And.intro sh_l109 ?_
              refine And.intro (fun c46 => ?_) (fun c46 => ?_)
              · replace h := h.1 c46
                refine And.intro sh_l109 ?_
                refine And.intro ⟨sh_l109, trivial⟩ ?_
                refine And.intro sh_l109 ?_
                refine And.intro (fun c47 => ?_) (fun c47 => ?_)
                · replace h := h.1 c47
                  exact h
                · replace h := h.2 c47
                  exact h
              · replace h := h.2 c46
                exact h
            · replace h := h.2 c44
              obtain ⟨k48, hkk48, hek48, h⟩ := h
              refine ⟨k48, hkk48, hek48, ?_⟩
              refine ⟨_, rfl, ?_⟩
              refine And.intro trivial ?_
              refine f_Parser_sortOf_c (d := d)  ?_
              refine ⟨_, rfl, ?_⟩
              refine And.intro ⟨sh_l109, trivial⟩ ?_
              refine And.intro sh_l109 ?_
              refine And.intro ⟨sh_l109, trivial⟩ ?_
              obtain ⟨hi49, ehi49⟩ : ∃ m : pm_B, m = pm_u (pm_u hi 109 2 (f_Parser_sortOf (hi 108 k48))) 109 4 ((pm_u hi 109 2 (f_Parser_sortOf (hi 108 k48))) 109 3) := ⟨_, rfl⟩
              replace h := h hi49 ehi49
              rw [← ehi49]
              refine And.intro sh_l109 ?_
              refine And.intro (fun c50 => ?_) (fun c50 => ?_)
              · replace h := h.1 c50
                refine And.intro sh_l109 ?_
                refine And.intro ⟨sh_l109, trivial⟩ ?_
                refine And.intro sh_l109 ?_
                refine And.intro (fun c51 => ?_) (fun c51 => ?_)
                · replace h := h.1 c51
                  exact h
                · replace h := h.2 c51
                  exact h
              · replace h := h.2 c50
                exact h
      · replace h := h.2 c35
        refine And.intro (fun c52 => ?_) (fun c52 => ?_)
        · replace h := h.1 c52
          refine ⟨_, rfl, ?_⟩
          refine And.intro (fun _ => ?_) (fun hc => absurd (pm_cd_t (by decide)) hc)
          refine And.intro sh_l109 ?_
          rw [hr_109_0]
          refine And.intro sh_l109 ?_
          refine And.intro sh_l107 ?_
          refine v_Tape_byteAt (d := d)  ?_
          refine And.intro (fun c53 => ?_) (fun c53 => ?_)
          · replace h := h.1 c53
            refine ⟨_, rfl, ?_⟩
            refine And.intro trivial ?_
            refine f_Parser_sortOf_c (d := d)  ?_
            refine ⟨_, rfl, ?_⟩
            refine And.intro ⟨sh_l109, trivial⟩ ?_
            refine And.intro sh_l109 ?_
            refine And.intro ⟨sh_l109, trivial⟩ ?_
            obtain ⟨hi54, ehi54⟩ : ∃ m : pm_B, m = pm_u (pm_u hi 109 2 (f_Parser_sortOf (-1))) 109 4 ((pm_u hi 109 2 (f_Parser_sortOf (-1))) 109 3) := ⟨_, rfl⟩
            replace h := h hi54 ehi54
            rw [← ehi54]
            refine And.intro sh_l109 ?_
            refine And.intro (fun c55 => ?_) (fun c55 => ?_)
            · replace h := h.1 c55
              refine And.intro sh_l109 ?_
              refine And.intro ⟨sh_l109, trivial⟩ ?_
              refine And.intro sh_l109 ?_
              refine And.intro (fun c56 => ?_) (fun c56 => ?_)
              · replace h := h.1 c56
                exact h
              · replace h := h.2 c56
                exact h
            · replace h := h.2 c55
              exact h
          · replace h := h.2 c53
            refine And.intro (fun c57 => ?_) (fun c57 => ?_)
            · replace h := h.1 c57
              refine ⟨_, rfl, ?_⟩
              refine And.intro trivial ?_
              refine f_Parser_sortOf_c (d := d)  ?_
              refine ⟨_, rfl, ?_⟩
              refine And.intro ⟨sh_l109, trivial⟩ ?_
              refine And.intro sh_l109 ?_
              refine And.intro ⟨sh_l109, trivial⟩ ?_
              obtain ⟨hi58, ehi58⟩ : ∃ m : pm_B, m = pm_u (pm_u hi 109 2 (f_Parser_sortOf (-1))) 109 4 ((pm_u hi 109 2 (f_Parser_sortOf (-1))) 109 3) := ⟨_, rfl⟩
              replace h := h hi58 ehi58
              rw [← ehi58]
              refine And.intro sh_l109 ?_
              refine And.intro (fun c59 => ?_) (fun c59 => ?_)
              · replace h := h.1 c59
                refine And.intro sh_l109 ?_
                refine And.intro ⟨sh_l109, trivial⟩ ?_
                refine And.intro sh_l109 ?_
                refine And.intro (fun c60 => ?_) (fun c60 => ?_)
                · replace h := h.1 c60
                  exact h
                · replace h := h.2 c60
                  exact h
              · replace h := h.2 c59
                exact h
            · replace h := h.2 c57
              refine And.intro (fun c61 => ?_) (fun c61 => ?_)
              · replace h := h.1 c61
                refine ⟨_, rfl, ?_⟩
                refine And.intro trivial ?_
                refine f_Parser_sortOf_c (d := d)  ?_
                refine ⟨_, rfl, ?_⟩
                refine And.intro ⟨sh_l109, trivial⟩ ?_
                refine And.intro sh_l109 ?_
                refine And.intro ⟨sh_l109, trivial⟩ ?_
                obtain ⟨hi62, ehi62⟩ : ∃ m : pm_B, m = pm_u (pm_u hi 109 2 (f_Parser_sortOf (-1))) 109 4 ((pm_u hi 109 2 (f_Parser_sortOf (-1))) 109 3) := ⟨_, rfl⟩
                replace h := h hi62 ehi62
                rw [← ehi62]
                refine And.intro sh_l109 ?_
                refine And.intro (fun c63 => ?_) (fun c63 => ?_)
                · replace h := h.1 c63
                  refine And.intro sh_l109 ?_
                  refine And.intro ⟨sh_l109, trivial⟩ ?_
                  refine And.intro sh_l109 ?_
                  refine And.intro (fun c64 => ?_) (fun c64 => ?_)
                  · replace h := h.1 c64
                    exact h
                  · replace h := h.2 c64
                    exact h
                · replace h := h.2 c63
                  exact h
              · replace h := h.2 c61
                obtain ⟨k65, hkk65, hek65, h⟩ := h
                refine ⟨k65, hkk65, hek65, ?_⟩
                refine ⟨_, rfl, ?_⟩
                refine And.intro trivial ?_
                refine f_Parser_sortOf_c (d := d)  ?_
                refine ⟨_, rfl, ?_⟩
                refine And.intro ⟨sh_l109, trivial⟩ ?_
                refine And.intro sh_l109 ?_
                refine And.intro ⟨sh_l109, trivial⟩ ?_
                obtain ⟨hi66, ehi66⟩ : ∃ m : pm_B, m = pm_u (pm_u hi 109 2 (f_Parser_sortOf (hi 108 k65))) 109 4 ((pm_u hi 109 2 (f_Parser_sortOf (hi 108 k65))) 109 3) := ⟨_, rfl⟩
                replace h := h hi66 ehi66
                rw [← ehi66]
                refine And.intro sh_l109 ?_
                refine And.intro (fun c67 => ?_) (fun c67 => ?_)
                · replace h := h.1 c67
                  refine And.intro sh_l109 ?_
                  refine And.intro ⟨sh_l109, trivial⟩ ?_
                  refine And.intro sh_l109 ?_
                  refine And.intro (fun c68 => ?_) (fun c68 => ?_)
                  · replace h := h.1 c68
                    exact h
                  · replace h := h.2 c68
                    exact h
                · replace h := h.2 c67
                  exact h
        · replace h := h.2 c52
          obtain ⟨k69, hkk69, hek69, h⟩ := h
          refine ⟨k69, hkk69, hek69, ?_⟩
          refine ⟨_, rfl, ?_⟩
          refine And.intro (fun c70 => ?_) (fun c70 => ?_)
          · replace h := h.1 c70
            refine And.intro sh_l109 ?_
            rw [hr_109_0]
            refine And.intro sh_l109 ?_
            refine And.intro sh_l107 ?_
            refine v_Tape_byteAt (d := d)  ?_
            refine And.intro (fun c71 => ?_) (fun c71 => ?_)
            · replace h := h.1 c71
              refine ⟨_, rfl, ?_⟩
              refine And.intro trivial ?_
              refine f_Parser_sortOf_c (d := d)  ?_
              refine ⟨_, rfl, ?_⟩
              refine And.intro ⟨sh_l109, trivial⟩ ?_
              refine And.intro sh_l109 ?_
              refine And.intro ⟨sh_l109, trivial⟩ ?_
              obtain ⟨hi72, ehi72⟩ : ∃ m : pm_B, m = pm_u (pm_u hi 109 2 (f_Parser_sortOf (-1))) 109 4 ((pm_u hi 109 2 (f_Parser_sortOf (-1))) 109 3) := ⟨_, rfl⟩
              replace h := h hi72 ehi72
              rw [← ehi72]
              refine And.intro sh_l109 ?_
              refine And.intro (fun c73 => ?_) (fun c73 => ?_)
              · replace h := h.1 c73
                refine And.intro sh_l109 ?_
                refine And.intro ⟨sh_l109, trivial⟩ ?_
                refine And.intro sh_l109 ?_
                refine And.intro (fun c74 => ?_) (fun c74 => ?_)
                · replace h := h.1 c74
                  exact h
                · replace h := h.2 c74
                  exact h
              · replace h := h.2 c73
                exact h
            · replace h := h.2 c71
              refine And.intro (fun c75 => ?_) (fun c75 => ?_)
              · replace h := h.1 c75
                refine ⟨_, rfl, ?_⟩
                refine And.intro trivial ?_
                refine f_Parser_sortOf_c (d := d)  ?_
                refine ⟨_, rfl, ?_⟩
                refine And.intro ⟨sh_l109, trivial⟩ ?_
                refine And.intro sh_l109 ?_
                refine And.intro ⟨sh_l109, trivial⟩ ?_
                obtain ⟨hi76, ehi76⟩ : ∃ m : pm_B, m = pm_u (pm_u hi 109 2 (f_Parser_sortOf (-1))) 109 4 ((pm_u hi 109 2 (f_Parser_sortOf (-1))) 109 3) := ⟨_, rfl⟩
                replace h := h hi76 ehi76
                rw [← ehi76]
                refine And.intro sh_l109 ?_
                refine And.intro (fun c77 => ?_) (fun c77 => ?_)
                · replace h := h.1 c77
                  refine And.intro sh_l109 ?_
                  refine And.intro ⟨sh_l109, trivial⟩ ?_
                  refine And.intro sh_l109 ?_
                  refine And.intro (fun c78 => ?_) (fun c78 => ?_)
                  · replace h := h.1 c78
                    exact h
                  · replace h := h.2 c78
                    exact h
                · replace h := h.2 c77
                  exact h
              · replace h := h.2 c75
                refine And.intro (fun c79 => ?_) (fun c79 => ?_)
                · replace h := h.1 c79
                  refine ⟨_, rfl, ?_⟩
                  refine And.intro trivial ?_
                  refine f_Parser_sortOf_c (d := d)  ?_
                  refine ⟨_, rfl, ?_⟩
                  refine And.intro ⟨sh_l109, trivial⟩ ?_
                  refine And.intro sh_l109 ?_
                  refine And.intro ⟨sh_l109, trivial⟩ ?_
                  obtain ⟨hi80, ehi80⟩ : ∃ m : pm_B, m = pm_u (pm_u hi 109 2 (f_Parser_sortOf (-1))) 109 4 ((pm_u hi 109 2 (f_Parser_sortOf (-1))) 109 3) := ⟨_, rfl⟩
                  replace h := h hi80 ehi80
                  rw [← ehi80]
                  refine And.intro sh_l109 ?_
                  refine And.intro (fun c81 => ?_) (fun c81 => ?_)
                  · replace h := h.1 c81
                    refine And.intro sh_l109 ?_
                    refine And.intro ⟨sh_l109, trivial⟩ ?_
                    refine And.intro sh_l109 ?_
                    refine And.intro (fun c82 => ?_) (fun c82 => ?_)
                    · replace h := h.1 c82
                      exact h
                    · replace h := h.2 c82
                      exact h
                  · replace h := h.2 c81
                    exact h
                · replace h := h.2 c79
                  obtain ⟨k83, hkk83, hek83, h⟩ := h
                  refine ⟨k83, hkk83, hek83, ?_⟩
                  refine ⟨_, rfl, ?_⟩
                  refine And.intro trivial ?_
                  refine f_Parser_sortOf_c (d := d)  ?_
                  refine ⟨_, rfl, ?_⟩
                  refine And.intro ⟨sh_l109, trivial⟩ ?_
                  refine And.intro sh_l109 ?_
                  refine And.intro ⟨sh_l109, trivial⟩ ?_
                  obtain ⟨hi84, ehi84⟩ : ∃ m : pm_B, m = pm_u (pm_u hi 109 2 (f_Parser_sortOf (hi 108 k83))) 109 4 ((pm_u hi 109 2 (f_Parser_sortOf (hi 108 k83))) 109 3) := ⟨_, rfl⟩
                  replace h := h hi84 ehi84
                  rw [← ehi84]
                  refine And.intro sh_l109 ?_
                  refine And.intro (fun c85 => ?_) (fun c85 => ?_)
                  · replace h := h.1 c85
                    refine And.intro sh_l109 ?_
                    refine And.intro ⟨sh_l109, trivial⟩ ?_
                    refine And.intro sh_l109 ?_
                    refine And.intro (fun c86 => ?_) (fun c86 => ?_)
                    · replace h := h.1 c86
                      exact h
                    · replace h := h.2 c86
                      exact h
                  · replace h := h.2 c85
                    exact h
          · replace h := h.2 c70
            refine And.intro sh_l109 ?_
            refine And.intro ⟨sh_l109, trivial⟩ ?_
            exact h
theorem v_Parser_step_127 {L d : Nat}  {y1 : Int32} {y2 : Int32} {y3 : Int32} {hi : pm_B} {Q : pm_Q} (h : ((96 ≤ y3) → ((y1 = 0) → Q none hi) ∧ ((¬ (y1 = 0)) → ((¬ (hi 109 3) = y2) → Q none hi) ∧ ((¬ (¬ (hi 109 3) = y2)) → Q none (pm_u hi 109 2 4)))) ∧ ((¬ (96 ≤ y3)) → (((hi 109 4) < 0) → ((¬ (f_Parser_sortOf (-1)) = (hi 109 2)) → ((y1 = 0) → Q none hi) ∧ ((¬ (y1 = 0)) → ((¬ (hi 109 3) = y2) → Q none hi) ∧ ((¬ (¬ (hi 109 3) = y2)) → Q none (pm_u hi 109 2 4)))) ∧ ((¬ (¬ (f_Parser_sortOf (-1)) = (hi 109 2))) → pm_W pm_g (SH L) HR (d + 1) pm_t30 127 [some (.inr 109), some (.inl y1), some (.inl y2), some (.inl (y3 + 1))] [] (pm_u hi 109 4 ((hi 109 4) + 1)) Q)) ∧ ((¬ ((hi 109 4) < 0)) → (((hi 107 1) ≤ (hi 109 4)) → ((¬ (f_Parser_sortOf (-1)) = (hi 109 2)) → ((y1 = 0) → Q none hi) ∧ ((¬ (y1 = 0)) → ((¬ (hi 109 3) = y2) → Q none hi) ∧ ((¬ (¬ (hi 109 3) = y2)) → Q none (pm_u hi 109 2 4)))) ∧ ((¬ (¬ (f_Parser_sortOf (-1)) = (hi 109 2))) → pm_W pm_g (SH L) HR (d + 1) pm_t30 127 [some (.inr 109), some (.inl y1), some (.inl y2), some (.inl (y3 + 1))] [] (pm_u hi 109 4 ((hi 109 4) + 1)) Q)) ∧ ((¬ ((hi 107 1) ≤ (hi 109 4))) → ((96 ≤ (hi 109 4)) → ((¬ (f_Parser_sortOf (-1)) = (hi 109 2)) → ((y1 = 0) → Q none hi) ∧ ((¬ (y1 = 0)) → ((¬ (hi 109 3) = y2) → Q none hi) ∧ ((¬ (¬ (hi 109 3) = y2)) → Q none (pm_u hi 109 2 4)))) ∧ ((¬ (¬ (f_Parser_sortOf (-1)) = (hi 109 2))) → pm_W pm_g (SH L) HR (d + 1) pm_t30 127 [some (.inr 109), some (.inl y1), some (.inl y2), some (.inl (y3 + 1))] [] (pm_u hi 109 4 ((hi 109 4) + 1)) Q)) ∧ ((¬ (96 ≤ (hi 109 4))) → ∃ k16 : Nat, k16 < 96 ∧ (hi 109 4) = nI k16 ∧ (((¬ (f_Parser_sortOf (hi 108 k16)) = (hi 109 2)) → ((y1 = 0) → Q none hi) ∧ ((¬ (y1 = 0)) → ((¬ (hi 109 3) = y2) → Q none hi) ∧ ((¬ (¬ (hi 109 3) = y2)) → Q none (pm_u hi 109 2 4)))) ∧ ((¬ (¬ (f_Parser_sortOf (hi 108 k16)) = (hi 109 2))) → pm_W pm_g (SH L) HR (d + 1) pm_t30 127 [some (.inr 109), some (.inl y1), some (.inl y2), some (.inl (y3 + 1))] [] (pm_u hi 109 4 ((hi 109 4) + 1)) Q))))))) : pm_W pm_g (SH L) HR (d + 1) pm_t30 127 [some (.inr 109), some (.inl y1), some (.inl y2), some (.inl y3)] [] hi Q := by
  refine pm_W_of 24 [34, 127] rfl ?_
  refine And.intro (fun c1 => ?_) (fun c1 => ?_)
  · replace h := h.1 c1
    refine And.intro (fun c2 => ?_) (fun c2 => ?_)
    · replace h := h.1 c2
      exact h
    · replace h := h.2 c2
      refine And.intro sh_l109 ?_
      refine And.intro (fun c3 => ?_) (fun c3 => ?_)
      · replace h := h.1 c3
        exact h
      · replace h := h.2 c3
        refine And.intro ⟨sh_l109, trivial⟩ ?_
        exact h
  · replace h := h.2 c1
    refine And.intro sh_l109 ?_
    rw [hr_109_0]
    refine And.intro sh_l109 ?_
    refine And.intro sh_l107 ?_
    refine v_Tape_byteAt (d := d)  ?_
    refine And.intro (fun c4 => ?_) (fun c4 => ?_)
    · replace h := h.1 c4
      refine ⟨_, rfl, ?_⟩
      refine And.intro trivial ?_
      refine f_Parser_sortOf_c (d := d)  ?_
      refine ⟨_, rfl, ?_⟩
      refine And.intro sh_l109 ?_
      refine And.intro (fun c5 => ?_) (fun c5 => ?_)
      · replace h := h.1 c5
        refine And.intro (fun c6 => ?_) (fun c6 => ?_)
        · replace h := h.1 c6
          exact h
        · replace h := h.2 c6
          refine And.intro sh_l109 ?_
          refine And.intro (fun c7 => ?_) (fun c7 => ?_)
          · replace h := h.1 c7
            exact h
          · replace h := h.2 c7
            refine And.intro ⟨sh_l109, trivial⟩ ?_
            exact h
      · replace h := h.2 c5
        refine And.intro sh_l109 ?_
        refine And.intro ⟨sh_l109, trivial⟩ ?_
        exact h
    · replace h := h.2 c4
      refine And.intro (fun c8 => ?_) (fun c8 => ?_)
      · replace h := h.1 c8
        refine ⟨_, rfl, ?_⟩
        refine And.intro trivial ?_
        refine f_Parser_sortOf_c (d := d)  ?_
        refine ⟨_, rfl, ?_⟩
        refine And.intro sh_l109 ?_
        refine And.intro (fun c9 => ?_) (fun c9 => ?_)
        · replace h := h.1 c9
          refine And.intro (fun c10 => ?_) (fun c10 => ?_)
          · replace h := h.1 c10
            exact h
          · replace h := h.2 c10
            refine And.intro sh_l109 ?_
            refine And.intro (fun c11 => ?_) (fun c11 => ?_)
            · replace h := h.1 c11
              exact h
            · replace h := h.2 c11
              refine And.intro ⟨sh_l109, trivial⟩ ?_
              exact h
        · replace h := h.2 c9
          refine And.intro sh_l109 ?_
          refine And.intro ⟨sh_l109, trivial⟩ ?_
          exact h
      · replace h := h.2 c8
        refine And.intro (fun c12 => ?_) (fun c12 => ?_)
        · replace h := h.1 c12
          refine ⟨_, rfl, ?_⟩
          refine And.intro trivial ?_
          refine f_Parser_sortOf_c (d := d)  ?_
          refine ⟨_, rfl, ?_⟩
          refine And.intro sh_l109 ?_
          refine And.intro (fun c13 => ?_) (fun c13 => ?_)
          · replace h := h.1 c13
            refine And.intro (fun c14 => ?_) (fun c14 => ?_)
            · replace h := h.1 c14
              exact h
            · replace h := h.2 c14
              refine And.intro sh_l109 ?_
              refine And.intro (fun c15 => ?_) (fun c15 => ?_)
              · replace h := h.1 c15
                exact h
              · replace h := h.2 c15
                refine And.intro ⟨sh_l109, trivial⟩ ?_
                exact h
          · replace h := h.2 c13
            refine And.intro sh_l109 ?_
            refine And.intro ⟨sh_l109, trivial⟩ ?_
            exact h
        · replace h := h.2 c12
          obtain ⟨k16, hkk16, hek16, h⟩ := h
          refine ⟨k16, hkk16, hek16, ?_⟩
          refine ⟨_, rfl, ?_⟩
          refine And.intro trivial ?_
          refine f_Parser_sortOf_c (d := d)  ?_
          refine ⟨_, rfl, ?_⟩
          refine And.intro sh_l109 ?_
          refine And.intro (fun c17 => ?_) (fun c17 => ?_)
          · replace h := h.1 c17
            refine And.intro (fun c18 => ?_) (fun c18 => ?_)
            · replace h := h.1 c18
              exact h
            · replace h := h.2 c18
              refine And.intro sh_l109 ?_
              refine And.intro (fun c19 => ?_) (fun c19 => ?_)
              · replace h := h.1 c19
                exact h
              · replace h := h.2 c19
                refine And.intro ⟨sh_l109, trivial⟩ ?_
                exact h
          · replace h := h.2 c17
            refine And.intro sh_l109 ?_
            refine And.intro ⟨sh_l109, trivial⟩ ?_
            exact h
theorem v_Parser_isSign {L d : Nat} {p1 : Int32} {hi : pm_B} {Q : pm_Q} (h : ((¬ (hi 109 2) = 3) → Q (some (.inl 0)) hi) ∧ ((¬ (¬ (hi 109 2) = 3)) → (((hi 109 3) < 0) → ((¬ (-1) = p1) → Q (some (.inl 0)) hi) ∧ ((¬ (¬ (-1) = p1)) → Q (some (.inl 1)) hi)) ∧ ((¬ ((hi 109 3) < 0)) → (((hi 107 1) ≤ (hi 109 3)) → ((¬ (-1) = p1) → Q (some (.inl 0)) hi) ∧ ((¬ (¬ (-1) = p1)) → Q (some (.inl 1)) hi)) ∧ ((¬ ((hi 107 1) ≤ (hi 109 3))) → ((96 ≤ (hi 109 3)) → ((¬ (-1) = p1) → Q (some (.inl 0)) hi) ∧ ((¬ (¬ (-1) = p1)) → Q (some (.inl 1)) hi)) ∧ ((¬ (96 ≤ (hi 109 3))) → ∃ k8 : Nat, k8 < 96 ∧ (hi 109 3) = nI k8 ∧ (((¬ (hi 108 k8) = p1) → Q (some (.inl 0)) hi) ∧ ((¬ (¬ (hi 108 k8) = p1)) → Q (some (.inl 1)) hi))))))) : pm_C pm_g (SH L) HR (d + 2) m_Parser_isSign [.inr 109, .inl p1] hi Q := by
  refine pm_C_of (maxL := 2) (t := pm_t32) rfl (Nat.le_of_ble_eq_true rfl) ?_
  refine pm_W_of 19 [] rfl ?_
  refine And.intro sh_l109 ?_
  refine And.intro (fun c1 => ?_) (fun c1 => ?_)
  · replace h := h.1 c1
    refine And.intro (Or.inl rfl) ?_
    exact h
  · replace h := h.2 c1
    refine And.intro sh_l109 ?_
    rw [hr_109_0]
    refine And.intro sh_l109 ?_
    refine And.intro sh_l107 ?_
    refine v_Tape_byteAt (d := d)  ?_
    refine And.intro (fun c2 => ?_) (fun c2 => ?_)
    · replace h := h.1 c2
      refine ⟨_, rfl, ?_⟩
      refine And.intro (fun c3 => ?_) (fun c3 => ?_)
      · replace h := h.1 c3
        refine And.intro (Or.inl rfl) ?_
        exact h
      · replace h := h.2 c3
        refine And.intro (Or.inr rfl) ?_
        exact h
    · replace h := h.2 c2
      refine And.intro (fun c4 => ?_) (fun c4 => ?_)
      · replace h := h.1 c4
        refine ⟨_, rfl, ?_⟩
        refine And.intro (fun c5 => ?_) (fun c5 => ?_)
        · replace h := h.1 c5
          refine And.intro (Or.inl rfl) ?_
          exact h
        · replace h := h.2 c5
          refine And.intro (Or.inr rfl) ?_
          exact h
      · replace h := h.2 c4
        refine And.intro (fun c6 => ?_) (fun c6 => ?_)
        · replace h := h.1 c6
          refine ⟨_, rfl, ?_⟩
          refine And.intro (fun c7 => ?_) (fun c7 => ?_)
          · replace h := h.1 c7
            refine And.intro (Or.inl rfl) ?_
            exact h
          · replace h := h.2 c7
            refine And.intro (Or.inr rfl) ?_
            exact h
        · replace h := h.2 c6
          obtain ⟨k8, hkk8, hek8, h⟩ := h
          refine ⟨k8, hkk8, hek8, ?_⟩
          refine ⟨_, rfl, ?_⟩
          refine And.intro (fun c9 => ?_) (fun c9 => ?_)
          · replace h := h.1 c9
            refine And.intro (Or.inl rfl) ?_
            exact h
          · replace h := h.2 c9
            refine And.intro (Or.inr rfl) ?_
            exact h
theorem v_Parser_isWordOf {L d : Nat} {p1 : Nat} (h_p1 : pm_sr p1) {hi : pm_B} {Q : pm_Q} (h : ((¬ (hi 109 2) = 1) → Q (some (.inl 0)) hi) ∧ ((¬ (¬ (hi 109 2) = 1)) → pm_fit 1 (hi p1 1) ∧ (((((hi 109 4) - (hi 109 3)) = ((nI (slen p1)) >>> ((hi p1 1) &&& 31))) → pm_W pm_g (SH L) HR (d + 4) pm_t33 28 [some (.inr 109), some (.inr p1), some (.inl 0)] [] hi Q) ∧ ((¬ (((hi 109 4) - (hi 109 3)) = ((nI (slen p1)) >>> ((hi p1 1) &&& 31)))) → Q (some (.inl 0)) hi)))) : pm_C pm_g (SH L) HR (d + 5) m_Parser_isWordOf [.inr 109, .inr p1] hi Q := by
  refine pm_C_of (maxL := 3) (t := pm_t33) rfl (Nat.le_of_ble_eq_true rfl) ?_
  refine pm_W_of 16 [28] rfl ?_
  refine And.intro sh_l109 ?_
  refine And.intro (fun c1 => ?_) (fun c1 => ?_)
  · replace h := h.1 c1
    refine And.intro (Or.inl rfl) ?_
    exact h
  · replace h := h.2 c1
    refine And.intro sh_l109 ?_
    refine And.intro sh_l109 ?_
    refine And.intro (sh_sr h_p1) ?_
    refine v_String_length (d := d + 2) h_p1 ?_
    refine And.intro h.1 ?_
    replace h := h.2
    refine ⟨_, rfl, ?_⟩
    refine And.intro (fun c2 => ?_) (fun c2 => ?_)
    · replace h := h.1 c2
      exact h
    · replace h := h.2 c2
      refine And.intro (Or.inl rfl) ?_
      exact h
theorem v_Parser_isWordOf_28 {L d : Nat}  {p1 : Nat} (h_p1 : pm_sr p1) {y2 : Int32} {hi : pm_B} {Q : pm_Q} (h : pm_fit 1 (hi p1 1) ∧ (((((nI (slen p1)) >>> ((hi p1 1) &&& 31)) ≤ y2) → Q (some (.inl 1)) hi) ∧ ((¬ (((nI (slen p1)) >>> ((hi p1 1) &&& 31)) ≤ y2)) → ((((hi 109 3) + y2) < 0) → ((¬ (hi p1 1) = 0) → False) ∧ ((¬ (¬ (hi p1 1) = 0)) → ((y2 < 0) → False) ∧ ((¬ (y2 < 0)) → ((y2 < (nI (slen p1))) → ∃ k6 : Nat, k6 < (slen p1) ∧ y2 = nI k6 ∧ (pm_fit 2 ((Int32.toUInt32 ((hi (p1 + 6) k6) &&& 255) % 65536).toInt32) ∧ (pm_fit 2 ((Int32.toUInt32 ((hi (p1 + 6) k6) &&& 255) % 65536).toInt32) ∧ ((((-1) = (Int32.toUInt32 ((hi (p1 + 6) k6) &&& 255) % 65536).toInt32) → pm_W pm_g (SH L) HR (d + 4) pm_t33 28 [some (.inr 109), some (.inr p1), some (.inl (y2 + 1))] [] hi Q) ∧ ((¬ ((-1) = (Int32.toUInt32 ((hi (p1 + 6) k6) &&& 255) % 65536).toInt32)) → Q (some (.inl 0)) hi))))) ∧ ((¬ (y2 < (nI (slen p1)))) → False)))) ∧ ((¬ (((hi 109 3) + y2) < 0)) → (((hi 107 1) ≤ ((hi 109 3) + y2)) → ((¬ (hi p1 1) = 0) → False) ∧ ((¬ (¬ (hi p1 1) = 0)) → ((y2 < 0) → False) ∧ ((¬ (y2 < 0)) → ((y2 < (nI (slen p1))) → ∃ k12 : Nat, k12 < (slen p1) ∧ y2 = nI k12 ∧ (pm_fit 2 ((Int32.toUInt32 ((hi (p1 + 6) k12) &&& 255) % 65536).toInt32) ∧ (pm_fit 2 ((Int32.toUInt32 ((hi (p1 + 6) k12) &&& 255) % 65536).toInt32) ∧ ((((-1) = (Int32.toUInt32 ((hi (p1 + 6) k12) &&& 255) % 65536).toInt32) → pm_W pm_g (SH L) HR (d + 4) pm_t33 28 [some (.inr 109), some (.inr p1), some (.inl (y2 + 1))] [] hi Q) ∧ ((¬ ((-1) = (Int32.toUInt32 ((hi (p1 + 6) k12) &&& 255) % 65536).toInt32)) → Q (some (.inl 0)) hi))))) ∧ ((¬ (y2 < (nI (slen p1)))) → False)))) ∧ ((¬ ((hi 107 1) ≤ ((hi 109 3) + y2))) → ((96 ≤ ((hi 109 3) + y2)) → ((¬ (hi p1 1) = 0) → False) ∧ ((¬ (¬ (hi p1 1) = 0)) → ((y2 < 0) → False) ∧ ((¬ (y2 < 0)) → ((y2 < (nI (slen p1))) → ∃ k18 : Nat, k18 < (slen p1) ∧ y2 = nI k18 ∧ (pm_fit 2 ((Int32.toUInt32 ((hi (p1 + 6) k18) &&& 255) % 65536).toInt32) ∧ (pm_fit 2 ((Int32.toUInt32 ((hi (p1 + 6) k18) &&& 255) % 65536).toInt32) ∧ ((((-1) = (Int32.toUInt32 ((hi (p1 + 6) k18) &&& 255) % 65536).toInt32) → pm_W pm_g (SH L) HR (d + 4) pm_t33 28 [some (.inr 109), some (.inr p1), some (.inl (y2 + 1))] [] hi Q) ∧ ((¬ ((-1) = (Int32.toUInt32 ((hi (p1 + 6) k18) &&& 255) % 65536).toInt32)) → Q (some (.inl 0)) hi))))) ∧ ((¬ (y2 < (nI (slen p1)))) → False)))) ∧ ((¬ (96 ≤ ((hi 109 3) + y2))) → ∃ k20 : Nat, k20 < 96 ∧ ((hi 109 3) + y2) = nI k20 ∧ (((¬ (hi p1 1) = 0) → False) ∧ ((¬ (¬ (hi p1 1) = 0)) → ((y2 < 0) → False) ∧ ((¬ (y2 < 0)) → ((y2 < (nI (slen p1))) → ∃ k24 : Nat, k24 < (slen p1) ∧ y2 = nI k24 ∧ (pm_fit 2 ((Int32.toUInt32 ((hi (p1 + 6) k24) &&& 255) % 65536).toInt32) ∧ (pm_fit 2 ((Int32.toUInt32 ((hi (p1 + 6) k24) &&& 255) % 65536).toInt32) ∧ ((((hi 108 k20) = (Int32.toUInt32 ((hi (p1 + 6) k24) &&& 255) % 65536).toInt32) → pm_W pm_g (SH L) HR (d + 4) pm_t33 28 [some (.inr 109), some (.inr p1), some (.inl (y2 + 1))] [] hi Q) ∧ ((¬ ((hi 108 k20) = (Int32.toUInt32 ((hi (p1 + 6) k24) &&& 255) % 65536).toInt32)) → Q (some (.inl 0)) hi))))) ∧ ((¬ (y2 < (nI (slen p1)))) → False)))))))))) : pm_W pm_g (SH L) HR (d + 4) pm_t33 28 [some (.inr 109), some (.inr p1), some (.inl y2)] [] hi Q := by
  refine pm_W_of 19 [28] rfl ?_
  refine And.intro (sh_sr h_p1) ?_
  refine v_String_length (d := d + 2) h_p1 ?_
  refine And.intro h.1 ?_
  replace h := h.2
  refine ⟨_, rfl, ?_⟩
  refine And.intro (fun c1 => ?_) (fun c1 => ?_)
  · replace h := h.1 c1
    refine And.intro (Or.inr rfl) ?_
    exact h
  · replace h := h.2 c1
    refine And.intro sh_l109 ?_
    rw [hr_109_0]
    refine And.intro sh_l109 ?_
    refine And.intro sh_l107 ?_
    refine v_Tape_byteAt (d := d + 3)  ?_
    refine And.intro (fun c2 => ?_) (fun c2 => ?_)
    · replace h := h.1 c2
      refine ⟨_, rfl, ?_⟩
      refine And.intro (sh_sr h_p1) ?_
      refine v_String_charAt (d := d) h_p1 ?_
      refine And.intro (fun c3 => ?_) (fun c3 => ?_)
      · replace h := h.1 c3
        exact h.elim
      · replace h := h.2 c3
        refine And.intro (fun c4 => ?_) (fun c4 => ?_)
        · replace h := h.1 c4
          exact h.elim
        · replace h := h.2 c4
          refine And.intro (fun c5 => ?_) (fun c5 => ?_)
          · replace h := h.1 c5
            obtain ⟨k6, hkk6, hek6, h⟩ := h
            refine ⟨k6, hkk6, hek6, ?_⟩
            refine And.intro h.1 ?_
            replace h := h.2
            refine And.intro h.1 ?_
            replace h := h.2
            refine ⟨_, rfl, ?_⟩
            refine And.intro (fun c7 => ?_) (fun c7 => ?_)
            · replace h := h.1 c7
              exact h
            · replace h := h.2 c7
              refine And.intro (Or.inl rfl) ?_
              exact h
          · replace h := h.2 c5
            exact h.elim
    · replace h := h.2 c2
      refine And.intro (fun c8 => ?_) (fun c8 => ?_)
      · replace h := h.1 c8
        refine ⟨_, rfl, ?_⟩
        refine And.intro (sh_sr h_p1) ?_
        refine v_String_charAt (d := d) h_p1 ?_
        refine And.intro (fun c9 => ?_) (fun c9 => ?_)
        · replace h := h.1 c9
          exact h.elim
        · replace h := h.2 c9
          refine And.intro (fun c10 => ?_) (fun c10 => ?_)
          · replace h := h.1 c10
            exact h.elim
          · replace h := h.2 c10
            refine And.intro (fun c11 => ?_) (fun c11 => ?_)
            · replace h := h.1 c11
              obtain ⟨k12, hkk12, hek12, h⟩ := h
              refine ⟨k12, hkk12, hek12, ?_⟩
              refine And.intro h.1 ?_
              replace h := h.2
              refine And.intro h.1 ?_
              replace h := h.2
              refine ⟨_, rfl, ?_⟩
              refine And.intro (fun c13 => ?_) (fun c13 => ?_)
              · replace h := h.1 c13
                exact h
              · replace h := h.2 c13
                refine And.intro (Or.inl rfl) ?_
                exact h
            · replace h := h.2 c11
              exact h.elim
      · replace h := h.2 c8
        refine And.intro (fun c14 => ?_) (fun c14 => ?_)
        · replace h := h.1 c14
          refine ⟨_, rfl, ?_⟩
          refine And.intro (sh_sr h_p1) ?_
          refine v_String_charAt (d := d) h_p1 ?_
          refine And.intro (fun c15 => ?_) (fun c15 => ?_)
          · replace h := h.1 c15
            exact h.elim
          · replace h := h.2 c15
            refine And.intro (fun c16 => ?_) (fun c16 => ?_)
            · replace h := h.1 c16
              exact h.elim
            · replace h := h.2 c16
              refine And.intro (fun c17 => ?_) (fun c17 => ?_)
              · replace h := h.1 c17
                obtain ⟨k18, hkk18, hek18, h⟩ := h
                refine ⟨k18, hkk18, hek18, ?_⟩
                refine And.intro h.1 ?_
                replace h := h.2
                refine And.intro h.1 ?_
                replace h := h.2
                refine ⟨_, rfl, ?_⟩
                refine And.intro (fun c19 => ?_) (fun c19 => ?_)
                · replace h := h.1 c19
                  exact h
                · replace h := h.2 c19
                  refine And.intro (Or.inl rfl) ?_
                  exact h
              · replace h := h.2 c17
                exact h.elim
        · replace h := h.2 c14
          obtain ⟨k20, hkk20, hek20, h⟩ := h
          refine ⟨k20, hkk20, hek20, ?_⟩
          refine ⟨_, rfl, ?_⟩
          refine And.intro (sh_sr h_p1) ?_
          refine v_String_charAt (d := d) h_p1 ?_
          refine And.intro (fun c21 => ?_) (fun c21 => ?_)
          · replace h := h.1 c21
            exact h.elim
          · replace h := h.2 c21
            refine And.intro (fun c22 => ?_) (fun c22 => ?_)
            · replace h := h.1 c22
              exact h.elim
            · replace h := h.2 c22
              refine And.intro (fun c23 => ?_) (fun c23 => ?_)
              · replace h := h.1 c23
                obtain ⟨k24, hkk24, hek24, h⟩ := h
                refine ⟨k24, hkk24, hek24, ?_⟩
                refine And.intro h.1 ?_
                replace h := h.2
                refine And.intro h.1 ?_
                replace h := h.2
                refine ⟨_, rfl, ?_⟩
                refine And.intro (fun c25 => ?_) (fun c25 => ?_)
                · replace h := h.1 c25
                  exact h
                · replace h := h.2 c25
                  refine And.intro (Or.inl rfl) ?_
                  exact h
              · replace h := h.2 c23
                exact h.elim
theorem v_Parser_readKey {L d : Nat}  {hi : pm_B} {Q : pm_Q} (h : pm_C pm_g (SH L) HR (d + 1) m_Parser_isWordOf [.inr 109, .inr 3] hi (fun v hi1 => ∃ x2 : Int32, v = some (.inl x2) ∧ (((x2 = 0) → pm_C pm_g (SH L) HR (d + 1) m_Parser_isWordOf [.inr 109, .inr 4] hi1 (fun v hi4 => ∃ x5 : Int32, v = some (.inl x5) ∧ (((x5 = 0) → pm_C pm_g (SH L) HR (d + 1) m_Parser_isWordOf [.inr 109, .inr 5] hi4 (fun v hi7 => ∃ x8 : Int32, v = some (.inl x8) ∧ (((x8 = 0) → ((¬ (hi7 109 7) = (-1000000005)) → ∀ hi11 : pm_B, hi11 = pm_u hi7 109 2 4 → ((((hi11 109 2) = 4) → Q none hi11) ∧ ((¬ ((hi11 109 2) = 4)) → pm_C pm_g (SH L) HR (d + 1) m_Parser_step [.inr 109] hi11 (fun v hi13 => v = none ∧ (Q none hi13))))) ∧ ((¬ (¬ (hi7 109 7) = (-1000000005))) → ∀ hi14 : pm_B, hi14 = pm_u (pm_u hi7 109 7 (hi7 109 3)) 109 2 4 → ((((hi14 109 2) = 4) → Q none hi14) ∧ ((¬ ((hi14 109 2) = 4)) → pm_C pm_g (SH L) HR (d + 1) m_Parser_step [.inr 109] hi14 (fun v hi16 => v = none ∧ (Q none hi16)))))) ∧ ((¬ (x8 = 0)) → ∃ t17 : Nat, pm_tx t17 ∧ (hi7 109 1) = nI t17 ∧ (((((pm_u hi7 t17 0 2) 109 2) = 4) → Q none (pm_u hi7 t17 0 2)) ∧ ((¬ (((pm_u hi7 t17 0 2) 109 2) = 4)) → pm_C pm_g (SH L) HR (d + 1) m_Parser_step [.inr 109] (pm_u hi7 t17 0 2) (fun v hi19 => v = none ∧ (Q none hi19)))))))) ∧ ((¬ (x5 = 0)) → ∃ t20 : Nat, pm_tx t20 ∧ (hi4 109 1) = nI t20 ∧ (((((pm_u hi4 t20 0 1) 109 2) = 4) → Q none (pm_u hi4 t20 0 1)) ∧ ((¬ (((pm_u hi4 t20 0 1) 109 2) = 4)) → pm_C pm_g (SH L) HR (d + 1) m_Parser_step [.inr 109] (pm_u hi4 t20 0 1) (fun v hi22 => v = none ∧ (Q none hi22)))))))) ∧ ((¬ (x2 = 0)) → ∃ t23 : Nat, pm_tx t23 ∧ (hi1 109 1) = nI t23 ∧ (((((pm_u hi1 t23 0 0) 109 2) = 4) → Q none (pm_u hi1 t23 0 0)) ∧ ((¬ (((pm_u hi1 t23 0 0) 109 2) = 4)) → pm_C pm_g (SH L) HR (d + 1) m_Parser_step [.inr 109] (pm_u hi1 t23 0 0) (fun v hi25 => v = none ∧ (Q none hi25)))))))) : pm_C pm_g (SH L) HR (d + 2) m_Parser_readKey [.inr 109] hi Q := by
  refine pm_C_of (maxL := 1) (t := pm_t34) rfl (Nat.le_of_ble_eq_true rfl) ?_
  refine pm_W_of 26 [] rfl ?_
  refine And.intro sh_l109 ?_
  refine pm_C_imp h (fun v hi1 h => ?_)
  obtain ⟨x2, rfl, h⟩ := h
  refine ⟨_, rfl, ?_⟩
  refine And.intro (fun c3 => ?_) (fun c3 => ?_)
  · replace h := h.1 c3
    refine And.intro sh_l109 ?_
    refine pm_C_imp h (fun v hi4 h => ?_)
    obtain ⟨x5, rfl, h⟩ := h
    refine ⟨_, rfl, ?_⟩
    refine And.intro (fun c6 => ?_) (fun c6 => ?_)
    · replace h := h.1 c6
      refine And.intro sh_l109 ?_
      refine pm_C_imp h (fun v hi7 h => ?_)
      obtain ⟨x8, rfl, h⟩ := h
      refine ⟨_, rfl, ?_⟩
      refine And.intro (fun c9 => ?_) (fun c9 => ?_)
      · replace h := h.1 c9
        refine And.intro sh_l109 ?_
        refine v_Parser_fail (d := d)  ?_
        refine And.intro (fun c10 => ?_) (fun c10 => ?_)
        · replace h := h.1 c10
          refine ⟨rfl, ?_⟩
          obtain ⟨hi11, ehi11⟩ : ∃ m : pm_B, m = pm_u hi7 109 2 4 := ⟨_, rfl⟩
          replace h := h hi11 ehi11
          rw [← ehi11]
          refine And.intro sh_l109 ?_
          refine And.intro (fun c12 => ?_) (fun c12 => ?_)
          · replace h := h.1 c12
            exact h
          · replace h := h.2 c12
            refine And.intro sh_l109 ?_
            refine pm_C_imp h (fun v hi13 h => ?_)
            obtain ⟨rfl, h⟩ := h
            refine ⟨rfl, ?_⟩
            exact h
        · replace h := h.2 c10
          intro hi14 ehi14
          replace h := h hi14 ehi14
          refine ⟨rfl, ?_⟩
          refine And.intro sh_l109 ?_
          refine And.intro (fun c15 => ?_) (fun c15 => ?_)
          · replace h := h.1 c15
            exact h
          · replace h := h.2 c15
            refine And.intro sh_l109 ?_
            refine pm_C_imp h (fun v hi16 h => ?_)
            obtain ⟨rfl, h⟩ := h
            refine ⟨rfl, ?_⟩
            exact h
      · replace h := h.2 c9
        refine And.intro sh_l109 ?_
        obtain ⟨t17, hht17, het17, h⟩ := h
        rw [pm_tn_tx het17 hht17]
        refine And.intro ⟨(sh_tx hht17), trivial⟩ ?_
        refine And.intro sh_l109 ?_
        refine And.intro (fun c18 => ?_) (fun c18 => ?_)
        · replace h := h.1 c18
          exact h
        · replace h := h.2 c18
          refine And.intro sh_l109 ?_
          refine pm_C_imp h (fun v hi19 h => ?_)
          obtain ⟨rfl, h⟩ := h
          refine ⟨rfl, ?_⟩
          exact h
    · replace h := h.2 c6
      refine And.intro sh_l109 ?_
      obtain ⟨t20, hht20, het20, h⟩ := h
      rw [pm_tn_tx het20 hht20]
      refine And.intro ⟨(sh_tx hht20), trivial⟩ ?_
      refine And.intro sh_l109 ?_
      refine And.intro (fun c21 => ?_) (fun c21 => ?_)
      · replace h := h.1 c21
        exact h
      · replace h := h.2 c21
        refine And.intro sh_l109 ?_
        refine pm_C_imp h (fun v hi22 h => ?_)
        obtain ⟨rfl, h⟩ := h
        refine ⟨rfl, ?_⟩
        exact h
  · replace h := h.2 c3
    refine And.intro sh_l109 ?_
    obtain ⟨t23, hht23, het23, h⟩ := h
    rw [pm_tn_tx het23 hht23]
    refine And.intro ⟨(sh_tx hht23), trivial⟩ ?_
    refine And.intro sh_l109 ?_
    refine And.intro (fun c24 => ?_) (fun c24 => ?_)
    · replace h := h.1 c24
      exact h
    · replace h := h.2 c24
      refine And.intro sh_l109 ?_
      refine pm_C_imp h (fun v hi25 h => ?_)
      obtain ⟨rfl, h⟩ := h
      refine ⟨rfl, ?_⟩
      exact h
theorem v_Parser_readOr {L d : Nat}  {hi : pm_B} {Q : pm_Q} (h : pm_C pm_g (SH L) HR (d + 1) m_Parser_readAnd [.inr 109] hi (fun v hi1 => v = none ∧ (pm_W pm_g (SH L) HR (d + 1) pm_t35 6 [some (.inr 109), some (.inl 0)] [] hi1 Q))) : pm_C pm_g (SH L) HR (d + 2) m_Parser_readOr [.inr 109] hi Q := by
  refine pm_C_of (maxL := 2) (t := pm_t35) rfl (Nat.le_of_ble_eq_true rfl) ?_
  refine pm_W_of 6 [6] rfl ?_
  refine And.intro sh_l109 ?_
  refine pm_C_imp h (fun v hi1 h => ?_)
  obtain ⟨rfl, h⟩ := h
  refine ⟨rfl, ?_⟩
  exact h
theorem v_Parser_readOr_6 {L d : Nat}  {y1 : Int32} {hi : pm_B} {Q : pm_Q} (h : ((96 ≤ y1) → Q none hi) ∧ ((¬ (96 ≤ y1)) → pm_C pm_g (SH L) HR (d + 1) m_Parser_isSign [.inr 109, .inl 124] hi (fun v hi2 => ∃ x3 : Int32, v = some (.inl x3) ∧ (((x3 = 0) → Q none hi2) ∧ ((¬ (x3 = 0)) → pm_C pm_g (SH L) HR (d + 1) m_Parser_step [.inr 109] hi2 (fun v hi5 => v = none ∧ (pm_C pm_g (SH L) HR (d + 1) m_Parser_readAnd [.inr 109] hi5 (fun v hi6 => v = none ∧ (∃ t7 : Nat, pm_tx t7 ∧ (hi6 109 1) = nI t7 ∧ ((((hi6 t7 2) < 0) → pm_W pm_g (SH L) HR (d + 1) pm_t35 6 [some (.inr 109), some (.inl (y1 + 1))] [] hi6 Q) ∧ ((¬ ((hi6 t7 2) < 0)) → (((hi6 t7 2) < 96) → ∃ k10 : Nat, k10 < 96 ∧ (hi6 t7 2) = nI k10 ∧ (∀ hi11 : pm_B, hi11 = pm_u (pm_u hi6 (t7 + 1) k10 (-124)) t7 2 (((pm_u hi6 (t7 + 1) k10 (-124)) t7 2) + 1) → (pm_W pm_g (SH L) HR (d + 1) pm_t35 6 [some (.inr 109), some (.inl (y1 + 1))] [] hi11 Q))) ∧ ((¬ ((hi6 t7 2) < 96)) → pm_W pm_g (SH L) HR (d + 1) pm_t35 6 [some (.inr 109), some (.inl (y1 + 1))] [] hi6 Q)))))))))))) : pm_W pm_g (SH L) HR (d + 1) pm_t35 6 [some (.inr 109), some (.inl y1)] [] hi Q := by
  refine pm_W_of 24 [6] rfl ?_
  refine And.intro (fun c1 => ?_) (fun c1 => ?_)
  · replace h := h.1 c1
    exact h
  · replace h := h.2 c1
    refine And.intro sh_l109 ?_
    refine pm_C_imp h (fun v hi2 h => ?_)
    obtain ⟨x3, rfl, h⟩ := h
    refine ⟨_, rfl, ?_⟩
    refine And.intro (fun c4 => ?_) (fun c4 => ?_)
    · replace h := h.1 c4
      exact h
    · replace h := h.2 c4
      refine And.intro sh_l109 ?_
      refine pm_C_imp h (fun v hi5 h => ?_)
      obtain ⟨rfl, h⟩ := h
      refine ⟨rfl, ?_⟩
      refine And.intro sh_l109 ?_
      refine pm_C_imp h (fun v hi6 h => ?_)
      obtain ⟨rfl, h⟩ := h
      refine ⟨rfl, ?_⟩
      refine And.intro sh_l109 ?_
      obtain ⟨t7, hht7, het7, h⟩ := h
      rw [pm_tn_tx het7 hht7]
      refine And.intro (sh_tx hht7) ?_
      refine v_Text_put (d := d) hht7 ?_
      refine And.intro (fun c8 => ?_) (fun c8 => ?_)
      · replace h := h.1 c8
        refine ⟨rfl, ?_⟩
        exact h
      · replace h := h.2 c8
        refine And.intro (fun c9 => ?_) (fun c9 => ?_)
        · replace h := h.1 c9
          obtain ⟨k10, hkk10, hek10, h⟩ := h
          refine ⟨k10, hkk10, hek10, ?_⟩
          intro hi11 ehi11
          replace h := h hi11 ehi11
          refine ⟨rfl, ?_⟩
          exact h
        · replace h := h.2 c9
          refine ⟨rfl, ?_⟩
          exact h
theorem v_Parser_readAnd {L d : Nat}  {hi : pm_B} {Q : pm_Q} (h : pm_C pm_g (SH L) HR (d + 1) m_Parser_readTest [.inr 109] hi (fun v hi1 => v = none ∧ (pm_W pm_g (SH L) HR (d + 1) pm_t36 6 [some (.inr 109), some (.inl 0)] [] hi1 Q))) : pm_C pm_g (SH L) HR (d + 2) m_Parser_readAnd [.inr 109] hi Q := by
  refine pm_C_of (maxL := 2) (t := pm_t36) rfl (Nat.le_of_ble_eq_true rfl) ?_
  refine pm_W_of 6 [6] rfl ?_
  refine And.intro sh_l109 ?_
  refine pm_C_imp h (fun v hi1 h => ?_)
  obtain ⟨rfl, h⟩ := h
  refine ⟨rfl, ?_⟩
  exact h
theorem v_Parser_readAnd_6 {L d : Nat}  {y1 : Int32} {hi : pm_B} {Q : pm_Q} (h : ((96 ≤ y1) → Q none hi) ∧ ((¬ (96 ≤ y1)) → pm_C pm_g (SH L) HR (d + 1) m_Parser_isSign [.inr 109, .inl 38] hi (fun v hi2 => ∃ x3 : Int32, v = some (.inl x3) ∧ (((x3 = 0) → Q none hi2) ∧ ((¬ (x3 = 0)) → pm_C pm_g (SH L) HR (d + 1) m_Parser_step [.inr 109] hi2 (fun v hi5 => v = none ∧ (pm_C pm_g (SH L) HR (d + 1) m_Parser_readTest [.inr 109] hi5 (fun v hi6 => v = none ∧ (∃ t7 : Nat, pm_tx t7 ∧ (hi6 109 1) = nI t7 ∧ ((((hi6 t7 2) < 0) → pm_W pm_g (SH L) HR (d + 1) pm_t36 6 [some (.inr 109), some (.inl (y1 + 1))] [] hi6 Q) ∧ ((¬ ((hi6 t7 2) < 0)) → (((hi6 t7 2) < 96) → ∃ k10 : Nat, k10 < 96 ∧ (hi6 t7 2) = nI k10 ∧ (∀ hi11 : pm_B, hi11 = pm_u (pm_u hi6 (t7 + 1) k10 (-38)) t7 2 (((pm_u hi6 (t7 + 1) k10 (-38)) t7 2) + 1) → (pm_W pm_g (SH L) HR (d + 1) pm_t36 6 [some (.inr 109), some (.inl (y1 + 1))] [] hi11 Q))) ∧ ((¬ ((hi6 t7 2) < 96)) → pm_W pm_g (SH L) HR (d + 1) pm_t36 6 [some (.inr 109), some (.inl (y1 + 1))] [] hi6 Q)))))))))))) : pm_W pm_g (SH L) HR (d + 1) pm_t36 6 [some (.inr 109), some (.inl y1)] [] hi Q := by
  refine pm_W_of 24 [6] rfl ?_
  refine And.intro (fun c1 => ?_) (fun c1 => ?_)
  · replace h := h.1 c1
    exact h
  · replace h := h.2 c1
    refine And.intro sh_l109 ?_
    refine pm_C_imp h (fun v hi2 h => ?_)
    obtain ⟨x3, rfl, h⟩ := h
    refine ⟨_, rfl, ?_⟩
    refine And.intro (fun c4 => ?_) (fun c4 => ?_)
    · replace h := h.1 c4
      exact h
    · replace h := h.2 c4
      refine And.intro sh_l109 ?_
      refine pm_C_imp h (fun v hi5 h => ?_)
      obtain ⟨rfl, h⟩ := h
      refine ⟨rfl, ?_⟩
      refine And.intro sh_l109 ?_
      refine pm_C_imp h (fun v hi6 h => ?_)
      obtain ⟨rfl, h⟩ := h
      refine ⟨rfl, ?_⟩
      refine And.intro sh_l109 ?_
      obtain ⟨t7, hht7, het7, h⟩ := h
      rw [pm_tn_tx het7 hht7]
      refine And.intro (sh_tx hht7) ?_
      refine v_Text_put (d := d) hht7 ?_
      refine And.intro (fun c8 => ?_) (fun c8 => ?_)
      · replace h := h.1 c8
        refine ⟨rfl, ?_⟩
        exact h
      · replace h := h.2 c8
        refine And.intro (fun c9 => ?_) (fun c9 => ?_)
        · replace h := h.1 c9
          obtain ⟨k10, hkk10, hek10, h⟩ := h
          refine ⟨k10, hkk10, hek10, ?_⟩
          intro hi11 ehi11
          replace h := h hi11 ehi11
          refine ⟨rfl, ?_⟩
          exact h
        · replace h := h.2 c9
          refine ⟨rfl, ?_⟩
          exact h
theorem v_Parser_readTest {L d : Nat}  {hi : pm_B} {Q : pm_Q} (h : pm_C pm_g (SH L) HR (d + 1) m_Parser_readSum [.inr 109] hi (fun v hi1 => v = none ∧ (pm_C pm_g (SH L) HR (d + 1) m_Parser_isSign [.inr 109, .inl 60] hi1 (fun v hi2 => ∃ x3 : Int32, v = some (.inl x3) ∧ (((¬ x3 = 0) → (((hi2 109 3) < 0) → pm_C pm_g (SH L) HR (d + 1) m_Parser_step [.inr 109] hi2 (fun v hi6 => v = none ∧ (pm_C pm_g (SH L) HR (d + 1) m_Parser_readSum [.inr 109] hi6 (fun v hi7 => v = none ∧ (∃ t8 : Nat, pm_tx t8 ∧ (hi7 109 1) = nI t8 ∧ ((((hi7 t8 2) < 0) → Q none hi7) ∧ ((¬ ((hi7 t8 2) < 0)) → (((hi7 t8 2) < 96) → ∃ k11 : Nat, k11 < 96 ∧ (hi7 t8 2) = nI k11 ∧ (∀ hi12 : pm_B, hi12 = pm_u (pm_u hi7 (t8 + 1) k11 (-(-1))) t8 2 (((pm_u hi7 (t8 + 1) k11 (-(-1))) t8 2) + 1) → (Q none hi12))) ∧ ((¬ ((hi7 t8 2) < 96)) → Q none hi7)))))))) ∧ ((¬ ((hi2 109 3) < 0)) → (((hi2 107 1) ≤ (hi2 109 3)) → pm_C pm_g (SH L) HR (d + 1) m_Parser_step [.inr 109] hi2 (fun v hi14 => v = none ∧ (pm_C pm_g (SH L) HR (d + 1) m_Parser_readSum [.inr 109] hi14 (fun v hi15 => v = none ∧ (∃ t16 : Nat, pm_tx t16 ∧ (hi15 109 1) = nI t16 ∧ ((((hi15 t16 2) < 0) → Q none hi15) ∧ ((¬ ((hi15 t16 2) < 0)) → (((hi15 t16 2) < 96) → ∃ k19 : Nat, k19 < 96 ∧ (hi15 t16 2) = nI k19 ∧ (∀ hi20 : pm_B, hi20 = pm_u (pm_u hi15 (t16 + 1) k19 (-(-1))) t16 2 (((pm_u hi15 (t16 + 1) k19 (-(-1))) t16 2) + 1) → (Q none hi20))) ∧ ((¬ ((hi15 t16 2) < 96)) → Q none hi15)))))))) ∧ ((¬ ((hi2 107 1) ≤ (hi2 109 3))) → ((96 ≤ (hi2 109 3)) → pm_C pm_g (SH L) HR (d + 1) m_Parser_step [.inr 109] hi2 (fun v hi22 => v = none ∧ (pm_C pm_g (SH L) HR (d + 1) m_Parser_readSum [.inr 109] hi22 (fun v hi23 => v = none ∧ (∃ t24 : Nat, pm_tx t24 ∧ (hi23 109 1) = nI t24 ∧ ((((hi23 t24 2) < 0) → Q none hi23) ∧ ((¬ ((hi23 t24 2) < 0)) → (((hi23 t24 2) < 96) → ∃ k27 : Nat, k27 < 96 ∧ (hi23 t24 2) = nI k27 ∧ (∀ hi28 : pm_B, hi28 = pm_u (pm_u hi23 (t24 + 1) k27 (-(-1))) t24 2 (((pm_u hi23 (t24 + 1) k27 (-(-1))) t24 2) + 1) → (Q none hi28))) ∧ ((¬ ((hi23 t24 2) < 96)) → Q none hi23)))))))) ∧ ((¬ (96 ≤ (hi2 109 3))) → ∃ k29 : Nat, k29 < 96 ∧ (hi2 109 3) = nI k29 ∧ (pm_C pm_g (SH L) HR (d + 1) m_Parser_step [.inr 109] hi2 (fun v hi30 => v = none ∧ (pm_C pm_g (SH L) HR (d + 1) m_Parser_readSum [.inr 109] hi30 (fun v hi31 => v = none ∧ (∃ t32 : Nat, pm_tx t32 ∧ (hi31 109 1) = nI t32 ∧ ((((hi31 t32 2) < 0) → Q none hi31) ∧ ((¬ ((hi31 t32 2) < 0)) → (((hi31 t32 2) < 96) → ∃ k35 : Nat, k35 < 96 ∧ (hi31 t32 2) = nI k35 ∧ (∀ hi36 : pm_B, hi36 = pm_u (pm_u hi31 (t32 + 1) k35 (-(hi2 108 k29))) t32 2 (((pm_u hi31 (t32 + 1) k35 (-(hi2 108 k29))) t32 2) + 1) → (Q none hi36))) ∧ ((¬ ((hi31 t32 2) < 96)) → Q none hi31)))))))))))) ∧ ((¬ (¬ x3 = 0)) → pm_C pm_g (SH L) HR (d + 1) m_Parser_isSign [.inr 109, .inl 61] hi2 (fun v hi37 => ∃ x38 : Int32, v = some (.inl x38) ∧ (((¬ x38 = 0) → (((hi37 109 3) < 0) → pm_C pm_g (SH L) HR (d + 1) m_Parser_step [.inr 109] hi37 (fun v hi41 => v = none ∧ (pm_C pm_g (SH L) HR (d + 1) m_Parser_readSum [.inr 109] hi41 (fun v hi42 => v = none ∧ (∃ t43 : Nat, pm_tx t43 ∧ (hi42 109 1) = nI t43 ∧ ((((hi42 t43 2) < 0) → Q none hi42) ∧ ((¬ ((hi42 t43 2) < 0)) → (((hi42 t43 2) < 96) → ∃ k46 : Nat, k46 < 96 ∧ (hi42 t43 2) = nI k46 ∧ (∀ hi47 : pm_B, hi47 = pm_u (pm_u hi42 (t43 + 1) k46 (-(-1))) t43 2 (((pm_u hi42 (t43 + 1) k46 (-(-1))) t43 2) + 1) → (Q none hi47))) ∧ ((¬ ((hi42 t43 2) < 96)) → Q none hi42)))))))) ∧ ((¬ ((hi37 109 3) < 0)) → (((hi37 107 1) ≤ (hi37 109 3)) → pm_C pm_g (SH L) HR (d + 1) m_Parser_step [.inr 109] hi37 (fun v hi49 => v = none ∧ (pm_C pm_g (SH L) HR (d + 1) m_Parser_readSum [.inr 109] hi49 (fun v hi50 => v = none ∧ (∃ t51 : Nat, pm_tx t51 ∧ (hi50 109 1) = nI t51 ∧ ((((hi50 t51 2) < 0) → Q none hi50) ∧ ((¬ ((hi50 t51 2) < 0)) → (((hi50 t51 2) < 96) → ∃ k54 : Nat, k54 < 96 ∧ (hi50 t51 2) = nI k54 ∧ (∀ hi55 : pm_B, hi55 = pm_u (pm_u hi50 (t51 + 1) k54 (-(-1))) t51 2 (((pm_u hi50 (t51 + 1) k54 (-(-1))) t51 2) + 1) → (Q none hi55))) ∧ ((¬ ((hi50 t51 2) < 96)) → Q none hi50)))))))) ∧ ((¬ ((hi37 107 1) ≤ (hi37 109 3))) → ((96 ≤ (hi37 109 3)) → pm_C pm_g (SH L) HR (d + 1) m_Parser_step [.inr 109] hi37 (fun v hi57 => v = none ∧ (pm_C pm_g (SH L) HR (d + 1) m_Parser_readSum [.inr 109] hi57 (fun v hi58 => v = none ∧ (∃ t59 : Nat, pm_tx t59 ∧ (hi58 109 1) = nI t59 ∧ ((((hi58 t59 2) < 0) → Q none hi58) ∧ ((¬ ((hi58 t59 2) < 0)) → (((hi58 t59 2) < 96) → ∃ k62 : Nat, k62 < 96 ∧ (hi58 t59 2) = nI k62 ∧ (∀ hi63 : pm_B, hi63 = pm_u (pm_u hi58 (t59 + 1) k62 (-(-1))) t59 2 (((pm_u hi58 (t59 + 1) k62 (-(-1))) t59 2) + 1) → (Q none hi63))) ∧ ((¬ ((hi58 t59 2) < 96)) → Q none hi58)))))))) ∧ ((¬ (96 ≤ (hi37 109 3))) → ∃ k64 : Nat, k64 < 96 ∧ (hi37 109 3) = nI k64 ∧ (pm_C pm_g (SH L) HR (d + 1) m_Parser_step [.inr 109] hi37 (fun v hi65 => v = none ∧ (pm_C pm_g (SH L) HR (d + 1) m_Parser_readSum [.inr 109] hi65 (fun v hi66 => v = none ∧ (∃ t67 : Nat, pm_tx t67 ∧ (hi66 109 1) = nI t67 ∧ ((((hi66 t67 2) < 0) → Q none hi66) ∧ ((¬ ((hi66 t67 2) < 0)) → (((hi66 t67 2) < 96) → ∃ k70 : Nat, k70 < 96 ∧ (hi66 t67 2) = nI k70 ∧ (∀ hi71 : pm_B, hi71 = pm_u (pm_u hi66 (t67 + 1) k70 (-(hi37 108 k64))) t67 2 (((pm_u hi66 (t67 + 1) k70 (-(hi37 108 k64))) t67 2) + 1) → (Q none hi71))) ∧ ((¬ ((hi66 t67 2) < 96)) → Q none hi66)))))))))))) ∧ ((¬ (¬ x38 = 0)) → pm_C pm_g (SH L) HR (d + 1) m_Parser_isSign [.inr 109, .inl 62] hi37 (fun v hi72 => ∃ x73 : Int32, v = some (.inl x73) ∧ (((x73 = 0) → Q none hi72) ∧ ((¬ (x73 = 0)) → (((hi72 109 3) < 0) → pm_C pm_g (SH L) HR (d + 1) m_Parser_step [.inr 109] hi72 (fun v hi76 => v = none ∧ (pm_C pm_g (SH L) HR (d + 1) m_Parser_readSum [.inr 109] hi76 (fun v hi77 => v = none ∧ (∃ t78 : Nat, pm_tx t78 ∧ (hi77 109 1) = nI t78 ∧ ((((hi77 t78 2) < 0) → Q none hi77) ∧ ((¬ ((hi77 t78 2) < 0)) → (((hi77 t78 2) < 96) → ∃ k81 : Nat, k81 < 96 ∧ (hi77 t78 2) = nI k81 ∧ (∀ hi82 : pm_B, hi82 = pm_u (pm_u hi77 (t78 + 1) k81 (-(-1))) t78 2 (((pm_u hi77 (t78 + 1) k81 (-(-1))) t78 2) + 1) → (Q none hi82))) ∧ ((¬ ((hi77 t78 2) < 96)) → Q none hi77)))))))) ∧ ((¬ ((hi72 109 3) < 0)) → (((hi72 107 1) ≤ (hi72 109 3)) → pm_C pm_g (SH L) HR (d + 1) m_Parser_step [.inr 109] hi72 (fun v hi84 => v = none ∧ (pm_C pm_g (SH L) HR (d + 1) m_Parser_readSum [.inr 109] hi84 (fun v hi85 => v = none ∧ (∃ t86 : Nat, pm_tx t86 ∧ (hi85 109 1) = nI t86 ∧ ((((hi85 t86 2) < 0) → Q none hi85) ∧ ((¬ ((hi85 t86 2) < 0)) → (((hi85 t86 2) < 96) → ∃ k89 : Nat, k89 < 96 ∧ (hi85 t86 2) = nI k89 ∧ (∀ hi90 : pm_B, hi90 = pm_u (pm_u hi85 (t86 + 1) k89 (-(-1))) t86 2 (((pm_u hi85 (t86 + 1) k89 (-(-1))) t86 2) + 1) → (Q none hi90))) ∧ ((¬ ((hi85 t86 2) < 96)) → Q none hi85)))))))) ∧ ((¬ ((hi72 107 1) ≤ (hi72 109 3))) → ((96 ≤ (hi72 109 3)) → pm_C pm_g (SH L) HR (d + 1) m_Parser_step [.inr 109] hi72 (fun v hi92 => v = none ∧ (pm_C pm_g (SH L) HR (d + 1) m_Parser_readSum [.inr 109] hi92 (fun v hi93 => v = none ∧ (∃ t94 : Nat, pm_tx t94 ∧ (hi93 109 1) = nI t94 ∧ ((((hi93 t94 2) < 0) → Q none hi93) ∧ ((¬ ((hi93 t94 2) < 0)) → (((hi93 t94 2) < 96) → ∃ k97 : Nat, k97 < 96 ∧ (hi93 t94 2) = nI k97 ∧ (∀ hi98 : pm_B, hi98 = pm_u (pm_u hi93 (t94 + 1) k97 (-(-1))) t94 2 (((pm_u hi93 (t94 + 1) k97 (-(-1))) t94 2) + 1) → (Q none hi98))) ∧ ((¬ ((hi93 t94 2) < 96)) → Q none hi93)))))))) ∧ ((¬ (96 ≤ (hi72 109 3))) → ∃ k99 : Nat, k99 < 96 ∧ (hi72 109 3) = nI k99 ∧ (pm_C pm_g (SH L) HR (d + 1) m_Parser_step [.inr 109] hi72 (fun v hi100 => v = none ∧ (pm_C pm_g (SH L) HR (d + 1) m_Parser_readSum [.inr 109] hi100 (fun v hi101 => v = none ∧ (∃ t102 : Nat, pm_tx t102 ∧ (hi101 109 1) = nI t102 ∧ ((((hi101 t102 2) < 0) → Q none hi101) ∧ ((¬ ((hi101 t102 2) < 0)) → (((hi101 t102 2) < 96) → ∃ k105 : Nat, k105 < 96 ∧ (hi101 t102 2) = nI k105 ∧ (∀ hi106 : pm_B, hi106 = pm_u (pm_u hi101 (t102 + 1) k105 (-(hi72 108 k99))) t102 2 (((pm_u hi101 (t102 + 1) k105 (-(hi72 108 k99))) t102 2) + 1) → (Q none hi106))) ∧ ((¬ ((hi101 t102 2) < 96)) → Q none hi101))))))))))))))))))))))) : pm_C pm_g (SH L) HR (d + 2) m_Parser_readTest [.inr 109] hi Q := by
  refine pm_C_of (maxL := 2) (t := pm_t37) rfl (Nat.le_of_ble_eq_true rfl) ?_
  refine pm_W_of 32 [] rfl ?_
  refine And.intro sh_l109 ?_
  refine pm_C_imp h (fun v hi1 h => ?_)
  obtain ⟨rfl, h⟩ := h
  refine ⟨rfl, ?_⟩
  refine And.intro sh_l109 ?_
  refine pm_C_imp h (fun v hi2 h => ?_)
  obtain ⟨x3, rfl, h⟩ := h
  refine ⟨_, rfl, ?_⟩
  refine And.intro (fun c4 => ?_) (fun c4 => ?_)
  · replace h := h.1 c4
    refine And.intro sh_l109 ?_
    rw [hr_109_0]
    refine And.intro sh_l109 ?_
    refine And.intro sh_l107 ?_
    refine v_Tape_byteAt (d := d)  ?_
    refine And.intro (fun c5 => ?_) (fun c5 => ?_)
    · replace h := h.1 c5
      refine ⟨_, rfl, ?_⟩
      refine And.intro sh_l109 ?_
      refine pm_C_imp h (fun v hi6 h => ?_)
      obtain ⟨rfl, h⟩ := h
      refine ⟨rfl, ?_⟩
      refine And.intro sh_l109 ?_
      refine pm_C_imp h (fun v hi7 h => ?_)
      obtain ⟨rfl, h⟩ := h
      refine ⟨rfl, ?_⟩
      refine And.intro sh_l109 ?_
      obtain ⟨t8, hht8, het8, h⟩ := h
      rw [pm_tn_tx het8 hht8]
      refine And.intro (sh_tx hht8) ?_
      refine v_Text_put (d := d) hht8 ?_
      refine And.intro (fun c9 => ?_) (fun c9 => ?_)
      · replace h := h.1 c9
        refine ⟨rfl, ?_⟩
        exact h
      · replace h := h.2 c9
        refine And.intro (fun c10 => ?_) (fun c10 => ?_)
        · replace h := h.1 c10
          obtain ⟨k11, hkk11, hek11, h⟩ := h
          refine ⟨k11, hkk11, hek11, ?_⟩
          intro hi12 ehi12
          replace h := h hi12 ehi12
          refine ⟨rfl, ?_⟩
          exact h
        · replace h := h.2 c10
          refine ⟨rfl, ?_⟩
          exact h
    · replace h := h.2 c5
      refine And.intro (fun c13 => ?_) (fun c13 => ?_)
      · replace h := h.1 c13
        refine ⟨_, rfl, ?_⟩
        refine And.intro sh_l109 ?_
        refine pm_C_imp h (fun v hi14 h => ?_)
        obtain ⟨rfl, h⟩ := h
        refine ⟨rfl, ?_⟩
        refine And.intro sh_l109 ?_
        refine pm_C_imp h (fun v hi15 h => ?_)
        obtain ⟨rfl, h⟩ := h
        refine ⟨rfl, ?_⟩
        refine And.intro sh_l109 ?_
        obtain ⟨t16, hht16, het16, h⟩ := h
        rw [pm_tn_tx het16 hht16]
        refine And.intro (sh_tx hht16) ?_
        refine v_Text_put (d := d) hht16 ?_
        refine And.intro (fun c17 => ?_) (fun c17 => ?_)
        · replace h := h.1 c17
          refine ⟨rfl, ?_⟩
          exact h
        · replace h := h.2 c17
          refine And.intro (fun c18 => ?_) (fun c18 => ?_)
          · replace h := h.1 c18
            obtain ⟨k19, hkk19, hek19, h⟩ := h
            refine ⟨k19, hkk19, hek19, ?_⟩
            intro hi20 ehi20
            replace h := h hi20 ehi20
            refine ⟨rfl, ?_⟩
            exact h
          · replace h := h.2 c18
            refine ⟨rfl, ?_⟩
            exact h
      · replace h := h.2 c13
        refine And.intro (fun c21 => ?_) (fun c21 => ?_)
        · replace h := h.1 c21
          refine ⟨_, rfl, ?_⟩
          refine And.intro sh_l109 ?_
          refine pm_C_imp h (fun v hi22 h => ?_)
          obtain ⟨rfl, h⟩ := h
          refine ⟨rfl, ?_⟩
          refine And.intro sh_l109 ?_
          refine pm_C_imp h (fun v hi23 h => ?_)
          obtain ⟨rfl, h⟩ := h
          refine ⟨rfl, ?_⟩
          refine And.intro sh_l109 ?_
          obtain ⟨t24, hht24, het24, h⟩ := h
          rw [pm_tn_tx het24 hht24]
          refine And.intro (sh_tx hht24) ?_
          refine v_Text_put (d := d) hht24 ?_
          refine And.intro (fun c25 => ?_) (fun c25 => ?_)
          · replace h := h.1 c25
            refine ⟨rfl, ?_⟩
            exact h
          · replace h := h.2 c25
            refine And.intro (fun c26 => ?_) (fun c26 => ?_)
            · replace h := h.1 c26
              obtain ⟨k27, hkk27, hek27, h⟩ := h
              refine ⟨k27, hkk27, hek27, ?_⟩
              intro hi28 ehi28
              replace h := h hi28 ehi28
              refine ⟨rfl, ?_⟩
              exact h
            · replace h := h.2 c26
              refine ⟨rfl, ?_⟩
              exact h
        · replace h := h.2 c21
          obtain ⟨k29, hkk29, hek29, h⟩ := h
          refine ⟨k29, hkk29, hek29, ?_⟩
          refine ⟨_, rfl, ?_⟩
          refine And.intro sh_l109 ?_
          refine pm_C_imp h (fun v hi30 h => ?_)
          obtain ⟨rfl, h⟩ := h
          refine ⟨rfl, ?_⟩
          refine And.intro sh_l109 ?_
          refine pm_C_imp h (fun v hi31 h => ?_)
          obtain ⟨rfl, h⟩ := h
          refine ⟨rfl, ?_⟩
          refine And.intro sh_l109 ?_
          obtain ⟨t32, hht32, het32, h⟩ := h
          rw [pm_tn_tx het32 hht32]
          refine And.intro (sh_tx hht32) ?_
          refine v_Text_put (d := d) hht32 ?_
          refine And.intro (fun c33 => ?_) (fun c33 => ?_)
          · replace h := h.1 c33
            refine ⟨rfl, ?_⟩
            exact h
          · replace h := h.2 c33
            refine And.intro (fun c34 => ?_) (fun c34 => ?_)
            · replace h := h.1 c34
              obtain ⟨k35, hkk35, hek35, h⟩ := h
              refine ⟨k35, hkk35, hek35, ?_⟩
              intro hi36 ehi36
              replace h := h hi36 ehi36
              refine ⟨rfl, ?_⟩
              exact h
            · replace h := h.2 c34
              refine ⟨rfl, ?_⟩
              exact h
  · replace h := h.2 c4
    refine And.intro sh_l109 ?_
    refine pm_C_imp h (fun v hi37 h => ?_)
    obtain ⟨x38, rfl, h⟩ := h
    refine ⟨_, rfl, ?_⟩
    refine And.intro (fun c39 => ?_) (fun c39 => ?_)
    · replace h := h.1 c39
      refine And.intro sh_l109 ?_
      rw [hr_109_0]
      refine And.intro sh_l109 ?_
      refine And.intro sh_l107 ?_
      refine v_Tape_byteAt (d := d)  ?_
      refine And.intro (fun c40 => ?_) (fun c40 => ?_)
      · replace h := h.1 c40
        refine ⟨_, rfl, ?_⟩
        refine And.intro sh_l109 ?_
        refine pm_C_imp h (fun v hi41 h => ?_)
        obtain ⟨rfl, h⟩ := h
        refine ⟨rfl, ?_⟩
        refine And.intro sh_l109 ?_
        refine pm_C_imp h (fun v hi42 h => ?_)
        obtain ⟨rfl, h⟩ := h
        refine ⟨rfl, ?_⟩
        refine And.intro sh_l109 ?_
        obtain ⟨t43, hht43, het43, h⟩ := h
        rw [pm_tn_tx het43 hht43]
        refine And.intro (sh_tx hht43) ?_
        refine v_Text_put (d := d) hht43 ?_
        refine And.intro (fun c44 => ?_) (fun c44 => ?_)
        · replace h := h.1 c44
          refine ⟨rfl, ?_⟩
          exact h
        · replace h := h.2 c44
          refine And.intro (fun c45 => ?_) (fun c45 => ?_)
          · replace h := h.1 c45
            obtain ⟨k46, hkk46, hek46, h⟩ := h
            refine ⟨k46, hkk46, hek46, ?_⟩
            intro hi47 ehi47
            replace h := h hi47 ehi47
            refine ⟨rfl, ?_⟩
            exact h
          · replace h := h.2 c45
            refine ⟨rfl, ?_⟩
            exact h
      · replace h := h.2 c40
        refine And.intro (fun c48 => ?_) (fun c48 => ?_)
        · replace h := h.1 c48
          refine ⟨_, rfl, ?_⟩
          refine And.intro sh_l109 ?_
          refine pm_C_imp h (fun v hi49 h => ?_)
          obtain ⟨rfl, h⟩ := h
          refine ⟨rfl, ?_⟩
          refine And.intro sh_l109 ?_
          refine pm_C_imp h (fun v hi50 h => ?_)
          obtain ⟨rfl, h⟩ := h
          refine ⟨rfl, ?_⟩
          refine And.intro sh_l109 ?_
          obtain ⟨t51, hht51, het51, h⟩ := h
          rw [pm_tn_tx het51 hht51]
          refine And.intro (sh_tx hht51) ?_
          refine v_Text_put (d := d) hht51 ?_
          refine And.intro (fun c52 => ?_) (fun c52 => ?_)
          · replace h := h.1 c52
            refine ⟨rfl, ?_⟩
            exact h
          · replace h := h.2 c52
            refine And.intro (fun c53 => ?_) (fun c53 => ?_)
            · replace h := h.1 c53
              obtain ⟨k54, hkk54, hek54, h⟩ := h
              refine ⟨k54, hkk54, hek54, ?_⟩
              intro hi55 ehi55
              replace h := h hi55 ehi55
              refine ⟨rfl, ?_⟩
              exact h
            · replace h := h.2 c53
              refine ⟨rfl, ?_⟩
              exact h
        · replace h := h.2 c48
          refine And.intro (fun c56 => ?_) (fun c56 => ?_)
          · replace h := h.1 c56
            refine ⟨_, rfl, ?_⟩
            refine And.intro sh_l109 ?_
            refine pm_C_imp h (fun v hi57 h => ?_)
            obtain ⟨rfl, h⟩ := h
            refine ⟨rfl, ?_⟩
            refine And.intro sh_l109 ?_
            refine pm_C_imp h (fun v hi58 h => ?_)
            obtain ⟨rfl, h⟩ := h
            refine ⟨rfl, ?_⟩
            refine And.intro sh_l109 ?_
            obtain ⟨t59, hht59, het59, h⟩ := h
            rw [pm_tn_tx het59 hht59]
            refine And.intro (sh_tx hht59) ?_
            refine v_Text_put (d := d) hht59 ?_
            refine And.intro (fun c60 => ?_) (fun c60 => ?_)
            · replace h := h.1 c60
              refine ⟨rfl, ?_⟩
              exact h
            · replace h := h.2 c60
              refine And.intro (fun c61 => ?_) (fun c61 => ?_)
              · replace h := h.1 c61
                obtain ⟨k62, hkk62, hek62, h⟩ := h
                refine ⟨k62, hkk62, hek62, ?_⟩
                intro hi63 ehi63
                replace h := h hi63 ehi63
                refine ⟨rfl, ?_⟩
                exact h
              · replace h := h.2 c61
                refine ⟨rfl, ?_⟩
                exact h
          · replace h := h.2 c56
            obtain ⟨k64, hkk64, hek64, h⟩ := h
            refine ⟨k64, hkk64, hek64, ?_⟩
            refine ⟨_, rfl, ?_⟩
            refine And.intro sh_l109 ?_
            refine pm_C_imp h (fun v hi65 h => ?_)
            obtain ⟨rfl, h⟩ := h
            refine ⟨rfl, ?_⟩
            refine And.intro sh_l109 ?_
            refine pm_C_imp h (fun v hi66 h => ?_)
            obtain ⟨rfl, h⟩ := h
            refine ⟨rfl, ?_⟩
            refine And.intro sh_l109 ?_
            obtain ⟨t67, hht67, het67, h⟩ := h
            rw [pm_tn_tx het67 hht67]
            refine And.intro (sh_tx hht67) ?_
            refine v_Text_put (d := d) hht67 ?_
            refine And.intro (fun c68 => ?_) (fun c68 => ?_)
            · replace h := h.1 c68
              refine ⟨rfl, ?_⟩
              exact h
            · replace h := h.2 c68
              refine And.intro (fun c69 => ?_) (fun c69 => ?_)
              · replace h := h.1 c69
                obtain ⟨k70, hkk70, hek70, h⟩ := h
                refine ⟨k70, hkk70, hek70, ?_⟩
                intro hi71 ehi71
                replace h := h hi71 ehi71
                refine ⟨rfl, ?_⟩
                exact h
              · replace h := h.2 c69
                refine ⟨rfl, ?_⟩
                exact h
    · replace h := h.2 c39
      refine And.intro sh_l109 ?_
      refine pm_C_imp h (fun v hi72 h => ?_)
      obtain ⟨x73, rfl, h⟩ := h
      refine ⟨_, rfl, ?_⟩
      refine And.intro (fun c74 => ?_) (fun c74 => ?_)
      · replace h := h.1 c74
        exact h
      · replace h := h.2 c74
        refine And.intro sh_l109 ?_
        rw [hr_109_0]
        refine And.intro sh_l109 ?_
        refine And.intro sh_l107 ?_
        refine v_Tape_byteAt (d := d)  ?_
        refine And.intro (fun c75 => ?_) (fun c75 => ?_)
        · replace h := h.1 c75
          refine ⟨_, rfl, ?_⟩
          refine And.intro sh_l109 ?_
          refine pm_C_imp h (fun v hi76 h => ?_)
          obtain ⟨rfl, h⟩ := h
          refine ⟨rfl, ?_⟩
          refine And.intro sh_l109 ?_
          refine pm_C_imp h (fun v hi77 h => ?_)
          obtain ⟨rfl, h⟩ := h
          refine ⟨rfl, ?_⟩
          refine And.intro sh_l109 ?_
          obtain ⟨t78, hht78, het78, h⟩ := h
          rw [pm_tn_tx het78 hht78]
          refine And.intro (sh_tx hht78) ?_
          refine v_Text_put (d := d) hht78 ?_
          refine And.intro (fun c79 => ?_) (fun c79 => ?_)
          · replace h := h.1 c79
            refine ⟨rfl, ?_⟩
            exact h
          · replace h := h.2 c79
            refine And.intro (fun c80 => ?_) (fun c80 => ?_)
            · replace h := h.1 c80
              obtain ⟨k81, hkk81, hek81, h⟩ := h
              refine ⟨k81, hkk81, hek81, ?_⟩
              intro hi82 ehi82
              replace h := h hi82 ehi82
              refine ⟨rfl, ?_⟩
              exact h
            · replace h := h.2 c80
              refine ⟨rfl, ?_⟩
              exact h
        · replace h := h.2 c75
          refine And.intro (fun c83 => ?_) (fun c83 => ?_)
          · replace h := h.1 c83
            refine ⟨_, rfl, ?_⟩
            refine And.intro sh_l109 ?_
            refine pm_C_imp h (fun v hi84 h => ?_)
            obtain ⟨rfl, h⟩ := h
            refine ⟨rfl, ?_⟩
            refine And.intro sh_l109 ?_
            refine pm_C_imp h (fun v hi85 h => ?_)
            obtain ⟨rfl, h⟩ := h
            refine ⟨rfl, ?_⟩
            refine And.intro sh_l109 ?_
            obtain ⟨t86, hht86, het86, h⟩ := h
            rw [pm_tn_tx het86 hht86]
            refine And.intro (sh_tx hht86) ?_
            refine v_Text_put (d := d) hht86 ?_
            refine And.intro (fun c87 => ?_) (fun c87 => ?_)
            · replace h := h.1 c87
              refine ⟨rfl, ?_⟩
              exact h
            · replace h := h.2 c87
              refine And.intro (fun c88 => ?_) (fun c88 => ?_)
              · replace h := h.1 c88
                obtain ⟨k89, hkk89, hek89, h⟩ := h
                refine ⟨k89, hkk89, hek89, ?_⟩
                intro hi90 ehi90
                replace h := h hi90 ehi90
                refine ⟨rfl, ?_⟩
                exact h
              · replace h := h.2 c88
                refine ⟨rfl, ?_⟩
                exact h
          · replace h := h.2 c83
            refine And.intro (fun c91 => ?_) (fun c91 => ?_)
            · replace h := h.1 c91
              refine ⟨_, rfl, ?_⟩
              refine And.intro sh_l109 ?_
              refine pm_C_imp h (fun v hi92 h => ?_)
              obtain ⟨rfl, h⟩ := h
              refine ⟨rfl, ?_⟩
              refine And.intro sh_l109 ?_
              refine pm_C_imp h (fun v hi93 h => ?_)
              obtain ⟨rfl, h⟩ := h
              refine ⟨rfl, ?_⟩
              refine And.intro sh_l109 ?_
              obtain ⟨t94, hht94, het94, h⟩ := h
              rw [pm_tn_tx het94 hht94]
              refine And.intro (sh_tx hht94) ?_
              refine v_Text_put (d := d) hht94 ?_
              refine And.intro (fun c95 => ?_) (fun c95 => ?_)
              · replace h := h.1 c95
                refine ⟨rfl, ?_⟩
                exact h
              · replace h := h.2 c95
                refine And.intro (fun c96 => ?_) (fun c96 => ?_)
                · replace h := h.1 c96
                  obtain ⟨k97, hkk97, hek97, h⟩ := h
                  refine ⟨k97, hkk97, hek97, ?_⟩
                  intro hi98 ehi98
                  replace h := h hi98 ehi98
                  refine ⟨rfl, ?_⟩
                  exact h
                · replace h := h.2 c96
                  refine ⟨rfl, ?_⟩
                  exact h
            · replace h := h.2 c91
              obtain ⟨k99, hkk99, hek99, h⟩ := h
              refine ⟨k99, hkk99, hek99, ?_⟩
              refine ⟨_, rfl, ?_⟩
              refine And.intro sh_l109 ?_
              refine pm_C_imp h (fun v hi100 h => ?_)
              obtain ⟨rfl, h⟩ := h
              refine ⟨rfl, ?_⟩
              refine And.intro sh_l109 ?_
              refine pm_C_imp h (fun v hi101 h => ?_)
              obtain ⟨rfl, h⟩ := h
              refine ⟨rfl, ?_⟩
              refine And.intro sh_l109 ?_
              obtain ⟨t102, hht102, het102, h⟩ := h
              rw [pm_tn_tx het102 hht102]
              refine And.intro (sh_tx hht102) ?_
              refine v_Text_put (d := d) hht102 ?_
              refine And.intro (fun c103 => ?_) (fun c103 => ?_)
              · replace h := h.1 c103
                refine ⟨rfl, ?_⟩
                exact h
              · replace h := h.2 c103
                refine And.intro (fun c104 => ?_) (fun c104 => ?_)
                · replace h := h.1 c104
                  obtain ⟨k105, hkk105, hek105, h⟩ := h
                  refine ⟨k105, hkk105, hek105, ?_⟩
                  intro hi106 ehi106
                  replace h := h hi106 ehi106
                  refine ⟨rfl, ?_⟩
                  exact h
                · replace h := h.2 c104
                  refine ⟨rfl, ?_⟩
                  exact h
theorem v_Parser_readSum {L d : Nat}  {hi : pm_B} {Q : pm_Q} (h : pm_C pm_g (SH L) HR (d + 1) m_Parser_readTerm [.inr 109] hi (fun v hi1 => v = none ∧ (pm_W pm_g (SH L) HR (d + 1) pm_t38 6 [some (.inr 109), some (.inl 0), none] [] hi1 Q))) : pm_C pm_g (SH L) HR (d + 2) m_Parser_readSum [.inr 109] hi Q := by
  refine pm_C_of (maxL := 3) (t := pm_t38) rfl (Nat.le_of_ble_eq_true rfl) ?_
  refine pm_W_of 6 [6] rfl ?_
  refine And.intro sh_l109 ?_
  refine pm_C_imp h (fun v hi1 h => ?_)
  obtain ⟨rfl, h⟩ := h
  refine ⟨rfl, ?_⟩
  exact h
theorem v_Parser_readSum_6 {L d : Nat} {o2 : Option pm_V} {y1 : Int32} {hi : pm_B} {Q : pm_Q} (h : ((96 ≤ y1) → Q none hi) ∧ ((¬ (96 ≤ y1)) → pm_C pm_g (SH L) HR (d + 1) m_Parser_isSign [.inr 109, .inl 43] hi (fun v hi2 => ∃ x3 : Int32, v = some (.inl x3) ∧ (((¬ x3 = 0) → (((hi2 109 3) < 0) → pm_C pm_g (SH L) HR (d + 1) m_Parser_step [.inr 109] hi2 (fun v hi6 => v = none ∧ (pm_C pm_g (SH L) HR (d + 1) m_Parser_readTerm [.inr 109] hi6 (fun v hi7 => v = none ∧ (∃ t8 : Nat, pm_tx t8 ∧ (hi7 109 1) = nI t8 ∧ ((((hi7 t8 2) < 0) → pm_W pm_g (SH L) HR (d + 1) pm_t38 6 [some (.inr 109), some (.inl (y1 + 1)), some (.inl (-1))] [] hi7 Q) ∧ ((¬ ((hi7 t8 2) < 0)) → (((hi7 t8 2) < 96) → ∃ k11 : Nat, k11 < 96 ∧ (hi7 t8 2) = nI k11 ∧ (∀ hi12 : pm_B, hi12 = pm_u (pm_u hi7 (t8 + 1) k11 (-(-1))) t8 2 (((pm_u hi7 (t8 + 1) k11 (-(-1))) t8 2) + 1) → (pm_W pm_g (SH L) HR (d + 1) pm_t38 6 [some (.inr 109), some (.inl (y1 + 1)), some (.inl (-1))] [] hi12 Q))) ∧ ((¬ ((hi7 t8 2) < 96)) → pm_W pm_g (SH L) HR (d + 1) pm_t38 6 [some (.inr 109), some (.inl (y1 + 1)), some (.inl (-1))] [] hi7 Q)))))))) ∧ ((¬ ((hi2 109 3) < 0)) → (((hi2 107 1) ≤ (hi2 109 3)) → pm_C pm_g (SH L) HR (d + 1) m_Parser_step [.inr 109] hi2 (fun v hi14 => v = none ∧ (pm_C pm_g (SH L) HR (d + 1) m_Parser_readTerm [.inr 109] hi14 (fun v hi15 => v = none ∧ (∃ t16 : Nat, pm_tx t16 ∧ (hi15 109 1) = nI t16 ∧ ((((hi15 t16 2) < 0) → pm_W pm_g (SH L) HR (d + 1) pm_t38 6 [some (.inr 109), some (.inl (y1 + 1)), some (.inl (-1))] [] hi15 Q) ∧ ((¬ ((hi15 t16 2) < 0)) → (((hi15 t16 2) < 96) → ∃ k19 : Nat, k19 < 96 ∧ (hi15 t16 2) = nI k19 ∧ (∀ hi20 : pm_B, hi20 = pm_u (pm_u hi15 (t16 + 1) k19 (-(-1))) t16 2 (((pm_u hi15 (t16 + 1) k19 (-(-1))) t16 2) + 1) → (pm_W pm_g (SH L) HR (d + 1) pm_t38 6 [some (.inr 109), some (.inl (y1 + 1)), some (.inl (-1))] [] hi20 Q))) ∧ ((¬ ((hi15 t16 2) < 96)) → pm_W pm_g (SH L) HR (d + 1) pm_t38 6 [some (.inr 109), some (.inl (y1 + 1)), some (.inl (-1))] [] hi15 Q)))))))) ∧ ((¬ ((hi2 107 1) ≤ (hi2 109 3))) → ((96 ≤ (hi2 109 3)) → pm_C pm_g (SH L) HR (d + 1) m_Parser_step [.inr 109] hi2 (fun v hi22 => v = none ∧ (pm_C pm_g (SH L) HR (d + 1) m_Parser_readTerm [.inr 109] hi22 (fun v hi23 => v = none ∧ (∃ t24 : Nat, pm_tx t24 ∧ (hi23 109 1) = nI t24 ∧ ((((hi23 t24 2) < 0) → pm_W pm_g (SH L) HR (d + 1) pm_t38 6 [some (.inr 109), some (.inl (y1 + 1)), some (.inl (-1))] [] hi23 Q) ∧ ((¬ ((hi23 t24 2) < 0)) → (((hi23 t24 2) < 96) → ∃ k27 : Nat, k27 < 96 ∧ (hi23 t24 2) = nI k27 ∧ (∀ hi28 : pm_B, hi28 = pm_u (pm_u hi23 (t24 + 1) k27 (-(-1))) t24 2 (((pm_u hi23 (t24 + 1) k27 (-(-1))) t24 2) + 1) → (pm_W pm_g (SH L) HR (d + 1) pm_t38 6 [some (.inr 109), some (.inl (y1 + 1)), some (.inl (-1))] [] hi28 Q))) ∧ ((¬ ((hi23 t24 2) < 96)) → pm_W pm_g (SH L) HR (d + 1) pm_t38 6 [some (.inr 109), some (.inl (y1 + 1)), some (.inl (-1))] [] hi23 Q)))))))) ∧ ((¬ (96 ≤ (hi2 109 3))) → ∃ k29 : Nat, k29 < 96 ∧ (hi2 109 3) = nI k29 ∧ (pm_C pm_g (SH L) HR (d + 1) m_Parser_step [.inr 109] hi2 (fun v hi30 => v = none ∧ (pm_C pm_g (SH L) HR (d + 1) m_Parser_readTerm [.inr 109] hi30 (fun v hi31 => v = none ∧ (∃ t32 : Nat, pm_tx t32 ∧ (hi31 109 1) = nI t32 ∧ ((((hi31 t32 2) < 0) → pm_W pm_g (SH L) HR (d + 1) pm_t38 6 [some (.inr 109), some (.inl (y1 + 1)), some (.inl (hi2 108 k29))] [] hi31 Q) ∧ ((¬ ((hi31 t32 2) < 0)) → (((hi31 t32 2) < 96) → ∃ k35 : Nat, k35 < 96 ∧ (hi31 t32 2) = nI k35 ∧ (∀ hi36 : pm_B, hi36 = pm_u (pm_u hi31 (t32 + 1) k35 (-(hi2 108 k29))) t32 2 (((pm_u hi31 (t32 + 1) k35 (-(hi2 108 k29))) t32 2) + 1) → (pm_W pm_g (SH L) HR (d + 1) pm_t38 6 [some (.inr 109), some (.inl (y1 + 1)), some (.inl (hi2 108 k29))] [] hi36 Q))) ∧ ((¬ ((hi31 t32 2) < 96)) → pm_W pm_g (SH L) HR (d + 1) pm_t38 6 [some (.inr 109), some (.inl (y1 + 1)), some (.inl (hi2 108 k29))] [] hi31 Q)))))))))))) ∧ ((¬ (¬ x3 = 0)) → pm_C pm_g (SH L) HR (d + 1) m_Parser_isSign [.inr 109, .inl 45] hi2 (fun v hi37 => ∃ x38 : Int32, v = some (.inl x38) ∧ (((x38 = 0) → Q none hi37) ∧ ((¬ (x38 = 0)) → (((hi37 109 3) < 0) → pm_C pm_g (SH L) HR (d + 1) m_Parser_step [.inr 109] hi37 (fun v hi41 => v = none ∧ (pm_C pm_g (SH L) HR (d + 1) m_Parser_readTerm [.inr 109] hi41 (fun v hi42 => v = none ∧ (∃ t43 : Nat, pm_tx t43 ∧ (hi42 109 1) = nI t43 ∧ ((((hi42 t43 2) < 0) → pm_W pm_g (SH L) HR (d + 1) pm_t38 6 [some (.inr 109), some (.inl (y1 + 1)), some (.inl (-1))] [] hi42 Q) ∧ ((¬ ((hi42 t43 2) < 0)) → (((hi42 t43 2) < 96) → ∃ k46 : Nat, k46 < 96 ∧ (hi42 t43 2) = nI k46 ∧ (∀ hi47 : pm_B, hi47 = pm_u (pm_u hi42 (t43 + 1) k46 (-(-1))) t43 2 (((pm_u hi42 (t43 + 1) k46 (-(-1))) t43 2) + 1) → (pm_W pm_g (SH L) HR (d + 1) pm_t38 6 [some (.inr 109), some (.inl (y1 + 1)), some (.inl (-1))] [] hi47 Q))) ∧ ((¬ ((hi42 t43 2) < 96)) → pm_W pm_g (SH L) HR (d + 1) pm_t38 6 [some (.inr 109), some (.inl (y1 + 1)), some (.inl (-1))] [] hi42 Q)))))))) ∧ ((¬ ((hi37 109 3) < 0)) → (((hi37 107 1) ≤ (hi37 109 3)) → pm_C pm_g (SH L) HR (d + 1) m_Parser_step [.inr 109] hi37 (fun v hi49 => v = none ∧ (pm_C pm_g (SH L) HR (d + 1) m_Parser_readTerm [.inr 109] hi49 (fun v hi50 => v = none ∧ (∃ t51 : Nat, pm_tx t51 ∧ (hi50 109 1) = nI t51 ∧ ((((hi50 t51 2) < 0) → pm_W pm_g (SH L) HR (d + 1) pm_t38 6 [some (.inr 109), some (.inl (y1 + 1)), some (.inl (-1))] [] hi50 Q) ∧ ((¬ ((hi50 t51 2) < 0)) → (((hi50 t51 2) < 96) → ∃ k54 : Nat, k54 < 96 ∧ (hi50 t51 2) = nI k54 ∧ (∀ hi55 : pm_B, hi55 = pm_u (pm_u hi50 (t51 + 1) k54 (-(-1))) t51 2 (((pm_u hi50 (t51 + 1) k54 (-(-1))) t51 2) + 1) → (pm_W pm_g (SH L) HR (d + 1) pm_t38 6 [some (.inr 109), some (.inl (y1 + 1)), some (.inl (-1))] [] hi55 Q))) ∧ ((¬ ((hi50 t51 2) < 96)) → pm_W pm_g (SH L) HR (d + 1) pm_t38 6 [some (.inr 109), some (.inl (y1 + 1)), some (.inl (-1))] [] hi50 Q)))))))) ∧ ((¬ ((hi37 107 1) ≤ (hi37 109 3))) → ((96 ≤ (hi37 109 3)) → pm_C pm_g (SH L) HR (d + 1) m_Parser_step [.inr 109] hi37 (fun v hi57 => v = none ∧ (pm_C pm_g (SH L) HR (d + 1) m_Parser_readTerm [.inr 109] hi57 (fun v hi58 => v = none ∧ (∃ t59 : Nat, pm_tx t59 ∧ (hi58 109 1) = nI t59 ∧ ((((hi58 t59 2) < 0) → pm_W pm_g (SH L) HR (d + 1) pm_t38 6 [some (.inr 109), some (.inl (y1 + 1)), some (.inl (-1))] [] hi58 Q) ∧ ((¬ ((hi58 t59 2) < 0)) → (((hi58 t59 2) < 96) → ∃ k62 : Nat, k62 < 96 ∧ (hi58 t59 2) = nI k62 ∧ (∀ hi63 : pm_B, hi63 = pm_u (pm_u hi58 (t59 + 1) k62 (-(-1))) t59 2 (((pm_u hi58 (t59 + 1) k62 (-(-1))) t59 2) + 1) → (pm_W pm_g (SH L) HR (d + 1) pm_t38 6 [some (.inr 109), some (.inl (y1 + 1)), some (.inl (-1))] [] hi63 Q))) ∧ ((¬ ((hi58 t59 2) < 96)) → pm_W pm_g (SH L) HR (d + 1) pm_t38 6 [some (.inr 109), some (.inl (y1 + 1)), some (.inl (-1))] [] hi58 Q)))))))) ∧ ((¬ (96 ≤ (hi37 109 3))) → ∃ k64 : Nat, k64 < 96 ∧ (hi37 109 3) = nI k64 ∧ (pm_C pm_g (SH L) HR (d + 1) m_Parser_step [.inr 109] hi37 (fun v hi65 => v = none ∧ (pm_C pm_g (SH L) HR (d + 1) m_Parser_readTerm [.inr 109] hi65 (fun v hi66 => v = none ∧ (∃ t67 : Nat, pm_tx t67 ∧ (hi66 109 1) = nI t67 ∧ ((((hi66 t67 2) < 0) → pm_W pm_g (SH L) HR (d + 1) pm_t38 6 [some (.inr 109), some (.inl (y1 + 1)), some (.inl (hi37 108 k64))] [] hi66 Q) ∧ ((¬ ((hi66 t67 2) < 0)) → (((hi66 t67 2) < 96) → ∃ k70 : Nat, k70 < 96 ∧ (hi66 t67 2) = nI k70 ∧ (∀ hi71 : pm_B, hi71 = pm_u (pm_u hi66 (t67 + 1) k70 (-(hi37 108 k64))) t67 2 (((pm_u hi66 (t67 + 1) k70 (-(hi37 108 k64))) t67 2) + 1) → (pm_W pm_g (SH L) HR (d + 1) pm_t38 6 [some (.inr 109), some (.inl (y1 + 1)), some (.inl (hi37 108 k64))] [] hi71 Q))) ∧ ((¬ ((hi66 t67 2) < 96)) → pm_W pm_g (SH L) HR (d + 1) pm_t38 6 [some (.inr 109), some (.inl (y1 + 1)), some (.inl (hi37 108 k64))] [] hi66 Q))))))))))))))))))) : pm_W pm_g (SH L) HR (d + 1) pm_t38 6 [some (.inr 109), some (.inl y1), o2] [] hi Q := by
  refine pm_W_of 30 [6] rfl ?_
  refine And.intro (fun c1 => ?_) (fun c1 => ?_)
  · replace h := h.1 c1
    exact h
  · replace h := h.2 c1
    refine And.intro sh_l109 ?_
    refine pm_C_imp h (fun v hi2 h => ?_)
    obtain ⟨x3, rfl, h⟩ := h
    refine ⟨_, rfl, ?_⟩
    refine And.intro (fun c4 => ?_) (fun c4 => ?_)
    · replace h := h.1 c4
      refine And.intro sh_l109 ?_
      rw [hr_109_0]
      refine And.intro sh_l109 ?_
      refine And.intro sh_l107 ?_
      refine v_Tape_byteAt (d := d)  ?_
      refine And.intro (fun c5 => ?_) (fun c5 => ?_)
      · replace h := h.1 c5
        refine ⟨_, rfl, ?_⟩
        refine And.intro sh_l109 ?_
        refine pm_C_imp h (fun v hi6 h => ?_)
        obtain ⟨rfl, h⟩ := h
        refine ⟨rfl, ?_⟩
        refine And.intro sh_l109 ?_
        refine pm_C_imp h (fun v hi7 h => ?_)
        obtain ⟨rfl, h⟩ := h
        refine ⟨rfl, ?_⟩
        refine And.intro sh_l109 ?_
        obtain ⟨t8, hht8, het8, h⟩ := h
        rw [pm_tn_tx het8 hht8]
        refine And.intro (sh_tx hht8) ?_
        refine v_Text_put (d := d) hht8 ?_
        refine And.intro (fun c9 => ?_) (fun c9 => ?_)
        · replace h := h.1 c9
          refine ⟨rfl, ?_⟩
          exact h
        · replace h := h.2 c9
          refine And.intro (fun c10 => ?_) (fun c10 => ?_)
          · replace h := h.1 c10
            obtain ⟨k11, hkk11, hek11, h⟩ := h
            refine ⟨k11, hkk11, hek11, ?_⟩
            intro hi12 ehi12
            replace h := h hi12 ehi12
            refine ⟨rfl, ?_⟩
            exact h
          · replace h := h.2 c10
            refine ⟨rfl, ?_⟩
            exact h
      · replace h := h.2 c5
        refine And.intro (fun c13 => ?_) (fun c13 => ?_)
        · replace h := h.1 c13
          refine ⟨_, rfl, ?_⟩
          refine And.intro sh_l109 ?_
          refine pm_C_imp h (fun v hi14 h => ?_)
          obtain ⟨rfl, h⟩ := h
          refine ⟨rfl, ?_⟩
          refine And.intro sh_l109 ?_
          refine pm_C_imp h (fun v hi15 h => ?_)
          obtain ⟨rfl, h⟩ := h
          refine ⟨rfl, ?_⟩
          refine And.intro sh_l109 ?_
          obtain ⟨t16, hht16, het16, h⟩ := h
          rw [pm_tn_tx het16 hht16]
          refine And.intro (sh_tx hht16) ?_
          refine v_Text_put (d := d) hht16 ?_
          refine And.intro (fun c17 => ?_) (fun c17 => ?_)
          · replace h := h.1 c17
            refine ⟨rfl, ?_⟩
            exact h
          · replace h := h.2 c17
            refine And.intro (fun c18 => ?_) (fun c18 => ?_)
            · replace h := h.1 c18
              obtain ⟨k19, hkk19, hek19, h⟩ := h
              refine ⟨k19, hkk19, hek19, ?_⟩
              intro hi20 ehi20
              replace h := h hi20 ehi20
              refine ⟨rfl, ?_⟩
              exact h
            · replace h := h.2 c18
              refine ⟨rfl, ?_⟩
              exact h
        · replace h := h.2 c13
          refine And.intro (fun c21 => ?_) (fun c21 => ?_)
          · replace h := h.1 c21
            refine ⟨_, rfl, ?_⟩
            refine And.intro sh_l109 ?_
            refine pm_C_imp h (fun v hi22 h => ?_)
            obtain ⟨rfl, h⟩ := h
            refine ⟨rfl, ?_⟩
            refine And.intro sh_l109 ?_
            refine pm_C_imp h (fun v hi23 h => ?_)
            obtain ⟨rfl, h⟩ := h
            refine ⟨rfl, ?_⟩
            refine And.intro sh_l109 ?_
            obtain ⟨t24, hht24, het24, h⟩ := h
            rw [pm_tn_tx het24 hht24]
            refine And.intro (sh_tx hht24) ?_
            refine v_Text_put (d := d) hht24 ?_
            refine And.intro (fun c25 => ?_) (fun c25 => ?_)
            · replace h := h.1 c25
              refine ⟨rfl, ?_⟩
              exact h
            · replace h := h.2 c25
              refine And.intro (fun c26 => ?_) (fun c26 => ?_)
              · replace h := h.1 c26
                obtain ⟨k27, hkk27, hek27, h⟩ := h
                refine ⟨k27, hkk27, hek27, ?_⟩
                intro hi28 ehi28
                replace h := h hi28 ehi28
                refine ⟨rfl, ?_⟩
                exact h
              · replace h := h.2 c26
                refine ⟨rfl, ?_⟩
                exact h
          · replace h := h.2 c21
            obtain ⟨k29, hkk29, hek29, h⟩ := h
            refine ⟨k29, hkk29, hek29, ?_⟩
            refine ⟨_, rfl, ?_⟩
            refine And.intro sh_l109 ?_
            refine pm_C_imp h (fun v hi30 h => ?_)
            obtain ⟨rfl, h⟩ := h
            refine ⟨rfl, ?_⟩
            refine And.intro sh_l109 ?_
            refine pm_C_imp h (fun v hi31 h => ?_)
            obtain ⟨rfl, h⟩ := h
            refine ⟨rfl, ?_⟩
            refine And.intro sh_l109 ?_
            obtain ⟨t32, hht32, het32, h⟩ := h
            rw [pm_tn_tx het32 hht32]
            refine And.intro (sh_tx hht32) ?_
            refine v_Text_put (d := d) hht32 ?_
            refine And.intro (fun c33 => ?_) (fun c33 => ?_)
            · replace h := h.1 c33
              refine ⟨rfl, ?_⟩
              exact h
            · replace h := h.2 c33
              refine And.intro (fun c34 => ?_) (fun c34 => ?_)
              · replace h := h.1 c34
                obtain ⟨k35, hkk35, hek35, h⟩ := h
                refine ⟨k35, hkk35, hek35, ?_⟩
                intro hi36 ehi36
                replace h := h hi36 ehi36
                refine ⟨rfl, ?_⟩
                exact h
              · replace h := h.2 c34
                refine ⟨rfl, ?_⟩
                exact h
    · replace h := h.2 c4
      refine And.intro sh_l109 ?_
      refine pm_C_imp h (fun v hi37 h => ?_)
      obtain ⟨x38, rfl, h⟩ := h
      refine ⟨_, rfl, ?_⟩
      refine And.intro (fun c39 => ?_) (fun c39 => ?_)
      · replace h := h.1 c39
        exact h
      · replace h := h.2 c39
        refine And.intro sh_l109 ?_
        rw [hr_109_0]
        refine And.intro sh_l109 ?_
        refine And.intro sh_l107 ?_
        refine v_Tape_byteAt (d := d)  ?_
        refine And.intro (fun c40 => ?_) (fun c40 => ?_)
        · replace h := h.1 c40
          refine ⟨_, rfl, ?_⟩
          refine And.intro sh_l109 ?_
          refine pm_C_imp h (fun v hi41 h => ?_)
          obtain ⟨rfl, h⟩ := h
          refine ⟨rfl, ?_⟩
          refine And.intro sh_l109 ?_
          refine pm_C_imp h (fun v hi42 h => ?_)
          obtain ⟨rfl, h⟩ := h
          refine ⟨rfl, ?_⟩
          refine And.intro sh_l109 ?_
          obtain ⟨t43, hht43, het43, h⟩ := h
          rw [pm_tn_tx het43 hht43]
          refine And.intro (sh_tx hht43) ?_
          refine v_Text_put (d := d) hht43 ?_
          refine And.intro (fun c44 => ?_) (fun c44 => ?_)
          · replace h := h.1 c44
            refine ⟨rfl, ?_⟩
            exact h
          · replace h := h.2 c44
            refine And.intro (fun c45 => ?_) (fun c45 => ?_)
            · replace h := h.1 c45
              obtain ⟨k46, hkk46, hek46, h⟩ := h
              refine ⟨k46, hkk46, hek46, ?_⟩
              intro hi47 ehi47
              replace h := h hi47 ehi47
              refine ⟨rfl, ?_⟩
              exact h
            · replace h := h.2 c45
              refine ⟨rfl, ?_⟩
              exact h
        · replace h := h.2 c40
          refine And.intro (fun c48 => ?_) (fun c48 => ?_)
          · replace h := h.1 c48
            refine ⟨_, rfl, ?_⟩
            refine And.intro sh_l109 ?_
            refine pm_C_imp h (fun v hi49 h => ?_)
            obtain ⟨rfl, h⟩ := h
            refine ⟨rfl, ?_⟩
            refine And.intro sh_l109 ?_
            refine pm_C_imp h (fun v hi50 h => ?_)
            obtain ⟨rfl, h⟩ := h
            refine ⟨rfl, ?_⟩
            refine And.intro sh_l109 ?_
            obtain ⟨t51, hht51, het51, h⟩ := h
            rw [pm_tn_tx het51 hht51]
            refine And.intro (sh_tx hht51) ?_
            refine v_Text_put (d := d) hht51 ?_
            refine And.intro (fun c52 => ?_) (fun c52 => ?_)
            · replace h := h.1 c52
              refine ⟨rfl, ?_⟩
              exact h
            · replace h := h.2 c52
              refine And.intro (fun c53 => ?_) (fun c53 => ?_)
              · replace h := h.1 c53
                obtain ⟨k54, hkk54, hek54, h⟩ := h
                refine ⟨k54, hkk54, hek54, ?_⟩
                intro hi55 ehi55
                replace h := h hi55 ehi55
                refine ⟨rfl, ?_⟩
                exact h
              · replace h := h.2 c53
                refine ⟨rfl, ?_⟩
                exact h
          · replace h := h.2 c48
            refine And.intro (fun c56 => ?_) (fun c56 => ?_)
            · replace h := h.1 c56
              refine ⟨_, rfl, ?_⟩
              refine And.intro sh_l109 ?_
              refine pm_C_imp h (fun v hi57 h => ?_)
              obtain ⟨rfl, h⟩ := h
              refine ⟨rfl, ?_⟩
              refine And.intro sh_l109 ?_
              refine pm_C_imp h (fun v hi58 h => ?_)
              obtain ⟨rfl, h⟩ := h
              refine ⟨rfl, ?_⟩
              refine And.intro sh_l109 ?_
              obtain ⟨t59, hht59, het59, h⟩ := h
              rw [pm_tn_tx het59 hht59]
              refine And.intro (sh_tx hht59) ?_
              refine v_Text_put (d := d) hht59 ?_
              refine And.intro (fun c60 => ?_) (fun c60 => ?_)
              · replace h := h.1 c60
                refine ⟨rfl, ?_⟩
                exact h
              · replace h := h.2 c60
                refine And.intro (fun c61 => ?_) (fun c61 => ?_)
                · replace h := h.1 c61
                  obtain ⟨k62, hkk62, hek62, h⟩ := h
                  refine ⟨k62, hkk62, hek62, ?_⟩
                  intro hi63 ehi63
                  replace h := h hi63 ehi63
                  refine ⟨rfl, ?_⟩
                  exact h
                · replace h := h.2 c61
                  refine ⟨rfl, ?_⟩
                  exact h
            · replace h := h.2 c56
              obtain ⟨k64, hkk64, hek64, h⟩ := h
              refine ⟨k64, hkk64, hek64, ?_⟩
              refine ⟨_, rfl, ?_⟩
              refine And.intro sh_l109 ?_
              refine pm_C_imp h (fun v hi65 h => ?_)
              obtain ⟨rfl, h⟩ := h
              refine ⟨rfl, ?_⟩
              refine And.intro sh_l109 ?_
              refine pm_C_imp h (fun v hi66 h => ?_)
              obtain ⟨rfl, h⟩ := h
              refine ⟨rfl, ?_⟩
              refine And.intro sh_l109 ?_
              obtain ⟨t67, hht67, het67, h⟩ := h
              rw [pm_tn_tx het67 hht67]
              refine And.intro (sh_tx hht67) ?_
              refine v_Text_put (d := d) hht67 ?_
              refine And.intro (fun c68 => ?_) (fun c68 => ?_)
              · replace h := h.1 c68
                refine ⟨rfl, ?_⟩
                exact h
              · replace h := h.2 c68
                refine And.intro (fun c69 => ?_) (fun c69 => ?_)
                · replace h := h.1 c69
                  obtain ⟨k70, hkk70, hek70, h⟩ := h
                  refine ⟨k70, hkk70, hek70, ?_⟩
                  intro hi71 ehi71
                  replace h := h hi71 ehi71
                  refine ⟨rfl, ?_⟩
                  exact h
                · replace h := h.2 c69
                  refine ⟨rfl, ?_⟩
                  exact h
theorem v_Parser_readTerm {L d : Nat}  {hi : pm_B} {Q : pm_Q} (h : pm_C pm_g (SH L) HR (d + 1) m_Parser_readPiece [.inr 109] hi (fun v hi1 => v = none ∧ (pm_W pm_g (SH L) HR (d + 1) pm_t39 6 [some (.inr 109), some (.inl 0), none] [] hi1 Q))) : pm_C pm_g (SH L) HR (d + 2) m_Parser_readTerm [.inr 109] hi Q := by
  refine pm_C_of (maxL := 3) (t := pm_t39) rfl (Nat.le_of_ble_eq_true rfl) ?_
  refine pm_W_of 6 [6] rfl ?_
  refine And.intro sh_l109 ?_
  refine pm_C_imp h (fun v hi1 h => ?_)
  obtain ⟨rfl, h⟩ := h
  refine ⟨rfl, ?_⟩
  exact h
theorem v_Parser_readTerm_6 {L d : Nat} {o2 : Option pm_V} {y1 : Int32} {hi : pm_B} {Q : pm_Q} (h : ((96 ≤ y1) → Q none hi) ∧ ((¬ (96 ≤ y1)) → pm_C pm_g (SH L) HR (d + 1) m_Parser_isSign [.inr 109, .inl 42] hi (fun v hi2 => ∃ x3 : Int32, v = some (.inl x3) ∧ (((¬ x3 = 0) → (((hi2 109 3) < 0) → pm_C pm_g (SH L) HR (d + 1) m_Parser_step [.inr 109] hi2 (fun v hi6 => v = none ∧ (pm_C pm_g (SH L) HR (d + 1) m_Parser_readPiece [.inr 109] hi6 (fun v hi7 => v = none ∧ (∃ t8 : Nat, pm_tx t8 ∧ (hi7 109 1) = nI t8 ∧ ((((hi7 t8 2) < 0) → pm_W pm_g (SH L) HR (d + 1) pm_t39 6 [some (.inr 109), some (.inl (y1 + 1)), some (.inl (-1))] [] hi7 Q) ∧ ((¬ ((hi7 t8 2) < 0)) → (((hi7 t8 2) < 96) → ∃ k11 : Nat, k11 < 96 ∧ (hi7 t8 2) = nI k11 ∧ (∀ hi12 : pm_B, hi12 = pm_u (pm_u hi7 (t8 + 1) k11 (-(-1))) t8 2 (((pm_u hi7 (t8 + 1) k11 (-(-1))) t8 2) + 1) → (pm_W pm_g (SH L) HR (d + 1) pm_t39 6 [some (.inr 109), some (.inl (y1 + 1)), some (.inl (-1))] [] hi12 Q))) ∧ ((¬ ((hi7 t8 2) < 96)) → pm_W pm_g (SH L) HR (d + 1) pm_t39 6 [some (.inr 109), some (.inl (y1 + 1)), some (.inl (-1))] [] hi7 Q)))))))) ∧ ((¬ ((hi2 109 3) < 0)) → (((hi2 107 1) ≤ (hi2 109 3)) → pm_C pm_g (SH L) HR (d + 1) m_Parser_step [.inr 109] hi2 (fun v hi14 => v = none ∧ (pm_C pm_g (SH L) HR (d + 1) m_Parser_readPiece [.inr 109] hi14 (fun v hi15 => v = none ∧ (∃ t16 : Nat, pm_tx t16 ∧ (hi15 109 1) = nI t16 ∧ ((((hi15 t16 2) < 0) → pm_W pm_g (SH L) HR (d + 1) pm_t39 6 [some (.inr 109), some (.inl (y1 + 1)), some (.inl (-1))] [] hi15 Q) ∧ ((¬ ((hi15 t16 2) < 0)) → (((hi15 t16 2) < 96) → ∃ k19 : Nat, k19 < 96 ∧ (hi15 t16 2) = nI k19 ∧ (∀ hi20 : pm_B, hi20 = pm_u (pm_u hi15 (t16 + 1) k19 (-(-1))) t16 2 (((pm_u hi15 (t16 + 1) k19 (-(-1))) t16 2) + 1) → (pm_W pm_g (SH L) HR (d + 1) pm_t39 6 [some (.inr 109), some (.inl (y1 + 1)), some (.inl (-1))] [] hi20 Q))) ∧ ((¬ ((hi15 t16 2) < 96)) → pm_W pm_g (SH L) HR (d + 1) pm_t39 6 [some (.inr 109), some (.inl (y1 + 1)), some (.inl (-1))] [] hi15 Q)))))))) ∧ ((¬ ((hi2 107 1) ≤ (hi2 109 3))) → ((96 ≤ (hi2 109 3)) → pm_C pm_g (SH L) HR (d + 1) m_Parser_step [.inr 109] hi2 (fun v hi22 => v = none ∧ (pm_C pm_g (SH L) HR (d + 1) m_Parser_readPiece [.inr 109] hi22 (fun v hi23 => v = none ∧ (∃ t24 : Nat, pm_tx t24 ∧ (hi23 109 1) = nI t24 ∧ ((((hi23 t24 2) < 0) → pm_W pm_g (SH L) HR (d + 1) pm_t39 6 [some (.inr 109), some (.inl (y1 + 1)), some (.inl (-1))] [] hi23 Q) ∧ ((¬ ((hi23 t24 2) < 0)) → (((hi23 t24 2) < 96) → ∃ k27 : Nat, k27 < 96 ∧ (hi23 t24 2) = nI k27 ∧ (∀ hi28 : pm_B, hi28 = pm_u (pm_u hi23 (t24 + 1) k27 (-(-1))) t24 2 (((pm_u hi23 (t24 + 1) k27 (-(-1))) t24 2) + 1) → (pm_W pm_g (SH L) HR (d + 1) pm_t39 6 [some (.inr 109), some (.inl (y1 + 1)), some (.inl (-1))] [] hi28 Q))) ∧ ((¬ ((hi23 t24 2) < 96)) → pm_W pm_g (SH L) HR (d + 1) pm_t39 6 [some (.inr 109), some (.inl (y1 + 1)), some (.inl (-1))] [] hi23 Q)))))))) ∧ ((¬ (96 ≤ (hi2 109 3))) → ∃ k29 : Nat, k29 < 96 ∧ (hi2 109 3) = nI k29 ∧ (pm_C pm_g (SH L) HR (d + 1) m_Parser_step [.inr 109] hi2 (fun v hi30 => v = none ∧ (pm_C pm_g (SH L) HR (d + 1) m_Parser_readPiece [.inr 109] hi30 (fun v hi31 => v = none ∧ (∃ t32 : Nat, pm_tx t32 ∧ (hi31 109 1) = nI t32 ∧ ((((hi31 t32 2) < 0) → pm_W pm_g (SH L) HR (d + 1) pm_t39 6 [some (.inr 109), some (.inl (y1 + 1)), some (.inl (hi2 108 k29))] [] hi31 Q) ∧ ((¬ ((hi31 t32 2) < 0)) → (((hi31 t32 2) < 96) → ∃ k35 : Nat, k35 < 96 ∧ (hi31 t32 2) = nI k35 ∧ (∀ hi36 : pm_B, hi36 = pm_u (pm_u hi31 (t32 + 1) k35 (-(hi2 108 k29))) t32 2 (((pm_u hi31 (t32 + 1) k35 (-(hi2 108 k29))) t32 2) + 1) → (pm_W pm_g (SH L) HR (d + 1) pm_t39 6 [some (.inr 109), some (.inl (y1 + 1)), some (.inl (hi2 108 k29))] [] hi36 Q))) ∧ ((¬ ((hi31 t32 2) < 96)) → pm_W pm_g (SH L) HR (d + 1) pm_t39 6 [some (.inr 109), some (.inl (y1 + 1)), some (.inl (hi2 108 k29))] [] hi31 Q)))))))))))) ∧ ((¬ (¬ x3 = 0)) → pm_C pm_g (SH L) HR (d + 1) m_Parser_isSign [.inr 109, .inl 47] hi2 (fun v hi37 => ∃ x38 : Int32, v = some (.inl x38) ∧ (((x38 = 0) → Q none hi37) ∧ ((¬ (x38 = 0)) → (((hi37 109 3) < 0) → pm_C pm_g (SH L) HR (d + 1) m_Parser_step [.inr 109] hi37 (fun v hi41 => v = none ∧ (pm_C pm_g (SH L) HR (d + 1) m_Parser_readPiece [.inr 109] hi41 (fun v hi42 => v = none ∧ (∃ t43 : Nat, pm_tx t43 ∧ (hi42 109 1) = nI t43 ∧ ((((hi42 t43 2) < 0) → pm_W pm_g (SH L) HR (d + 1) pm_t39 6 [some (.inr 109), some (.inl (y1 + 1)), some (.inl (-1))] [] hi42 Q) ∧ ((¬ ((hi42 t43 2) < 0)) → (((hi42 t43 2) < 96) → ∃ k46 : Nat, k46 < 96 ∧ (hi42 t43 2) = nI k46 ∧ (∀ hi47 : pm_B, hi47 = pm_u (pm_u hi42 (t43 + 1) k46 (-(-1))) t43 2 (((pm_u hi42 (t43 + 1) k46 (-(-1))) t43 2) + 1) → (pm_W pm_g (SH L) HR (d + 1) pm_t39 6 [some (.inr 109), some (.inl (y1 + 1)), some (.inl (-1))] [] hi47 Q))) ∧ ((¬ ((hi42 t43 2) < 96)) → pm_W pm_g (SH L) HR (d + 1) pm_t39 6 [some (.inr 109), some (.inl (y1 + 1)), some (.inl (-1))] [] hi42 Q)))))))) ∧ ((¬ ((hi37 109 3) < 0)) → (((hi37 107 1) ≤ (hi37 109 3)) → pm_C pm_g (SH L) HR (d + 1) m_Parser_step [.inr 109] hi37 (fun v hi49 => v = none ∧ (pm_C pm_g (SH L) HR (d + 1) m_Parser_readPiece [.inr 109] hi49 (fun v hi50 => v = none ∧ (∃ t51 : Nat, pm_tx t51 ∧ (hi50 109 1) = nI t51 ∧ ((((hi50 t51 2) < 0) → pm_W pm_g (SH L) HR (d + 1) pm_t39 6 [some (.inr 109), some (.inl (y1 + 1)), some (.inl (-1))] [] hi50 Q) ∧ ((¬ ((hi50 t51 2) < 0)) → (((hi50 t51 2) < 96) → ∃ k54 : Nat, k54 < 96 ∧ (hi50 t51 2) = nI k54 ∧ (∀ hi55 : pm_B, hi55 = pm_u (pm_u hi50 (t51 + 1) k54 (-(-1))) t51 2 (((pm_u hi50 (t51 + 1) k54 (-(-1))) t51 2) + 1) → (pm_W pm_g (SH L) HR (d + 1) pm_t39 6 [some (.inr 109), some (.inl (y1 + 1)), some (.inl (-1))] [] hi55 Q))) ∧ ((¬ ((hi50 t51 2) < 96)) → pm_W pm_g (SH L) HR (d + 1) pm_t39 6 [some (.inr 109), some (.inl (y1 + 1)), some (.inl (-1))] [] hi50 Q)))))))) ∧ ((¬ ((hi37 107 1) ≤ (hi37 109 3))) → ((96 ≤ (hi37 109 3)) → pm_C pm_g (SH L) HR (d + 1) m_Parser_step [.inr 109] hi37 (fun v hi57 => v = none ∧ (pm_C pm_g (SH L) HR (d + 1) m_Parser_readPiece [.inr 109] hi57 (fun v hi58 => v = none ∧ (∃ t59 : Nat, pm_tx t59 ∧ (hi58 109 1) = nI t59 ∧ ((((hi58 t59 2) < 0) → pm_W pm_g (SH L) HR (d + 1) pm_t39 6 [some (.inr 109), some (.inl (y1 + 1)), some (.inl (-1))] [] hi58 Q) ∧ ((¬ ((hi58 t59 2) < 0)) → (((hi58 t59 2) < 96) → ∃ k62 : Nat, k62 < 96 ∧ (hi58 t59 2) = nI k62 ∧ (∀ hi63 : pm_B, hi63 = pm_u (pm_u hi58 (t59 + 1) k62 (-(-1))) t59 2 (((pm_u hi58 (t59 + 1) k62 (-(-1))) t59 2) + 1) → (pm_W pm_g (SH L) HR (d + 1) pm_t39 6 [some (.inr 109), some (.inl (y1 + 1)), some (.inl (-1))] [] hi63 Q))) ∧ ((¬ ((hi58 t59 2) < 96)) → pm_W pm_g (SH L) HR (d + 1) pm_t39 6 [some (.inr 109), some (.inl (y1 + 1)), some (.inl (-1))] [] hi58 Q)))))))) ∧ ((¬ (96 ≤ (hi37 109 3))) → ∃ k64 : Nat, k64 < 96 ∧ (hi37 109 3) = nI k64 ∧ (pm_C pm_g (SH L) HR (d + 1) m_Parser_step [.inr 109] hi37 (fun v hi65 => v = none ∧ (pm_C pm_g (SH L) HR (d + 1) m_Parser_readPiece [.inr 109] hi65 (fun v hi66 => v = none ∧ (∃ t67 : Nat, pm_tx t67 ∧ (hi66 109 1) = nI t67 ∧ ((((hi66 t67 2) < 0) → pm_W pm_g (SH L) HR (d + 1) pm_t39 6 [some (.inr 109), some (.inl (y1 + 1)), some (.inl (hi37 108 k64))] [] hi66 Q) ∧ ((¬ ((hi66 t67 2) < 0)) → (((hi66 t67 2) < 96) → ∃ k70 : Nat, k70 < 96 ∧ (hi66 t67 2) = nI k70 ∧ (∀ hi71 : pm_B, hi71 = pm_u (pm_u hi66 (t67 + 1) k70 (-(hi37 108 k64))) t67 2 (((pm_u hi66 (t67 + 1) k70 (-(hi37 108 k64))) t67 2) + 1) → (pm_W pm_g (SH L) HR (d + 1) pm_t39 6 [some (.inr 109), some (.inl (y1 + 1)), some (.inl (hi37 108 k64))] [] hi71 Q))) ∧ ((¬ ((hi66 t67 2) < 96)) → pm_W pm_g (SH L) HR (d + 1) pm_t39 6 [some (.inr 109), some (.inl (y1 + 1)), some (.inl (hi37 108 k64))] [] hi66 Q))))))))))))))))))) : pm_W pm_g (SH L) HR (d + 1) pm_t39 6 [some (.inr 109), some (.inl y1), o2] [] hi Q := by
  refine pm_W_of 30 [6] rfl ?_
  refine And.intro (fun c1 => ?_) (fun c1 => ?_)
  · replace h := h.1 c1
    exact h
  · replace h := h.2 c1
    refine And.intro sh_l109 ?_
    refine pm_C_imp h (fun v hi2 h => ?_)
    obtain ⟨x3, rfl, h⟩ := h
    refine ⟨_, rfl, ?_⟩
    refine And.intro (fun c4 => ?_) (fun c4 => ?_)
    · replace h := h.1 c4
      refine And.intro sh_l109 ?_
      rw [hr_109_0]
      refine And.intro sh_l109 ?_
      refine And.intro sh_l107 ?_
      refine v_Tape_byteAt (d := d)  ?_
      refine And.intro (fun c5 => ?_) (fun c5 => ?_)
      · replace h := h.1 c5
        refine ⟨_, rfl, ?_⟩
        refine And.intro sh_l109 ?_
        refine pm_C_imp h (fun v hi6 h => ?_)
        obtain ⟨rfl, h⟩ := h
        refine ⟨rfl, ?_⟩
        refine And.intro sh_l109 ?_
        refine pm_C_imp h (fun v hi7 h => ?_)
        obtain ⟨rfl, h⟩ := h
        refine ⟨rfl, ?_⟩
        refine And.intro sh_l109 ?_
        obtain ⟨t8, hht8, het8, h⟩ := h
        rw [pm_tn_tx het8 hht8]
        refine And.intro (sh_tx hht8) ?_
        refine v_Text_put (d := d) hht8 ?_
        refine And.intro (fun c9 => ?_) (fun c9 => ?_)
        · replace h := h.1 c9
          refine ⟨rfl, ?_⟩
          exact h
        · replace h := h.2 c9
          refine And.intro (fun c10 => ?_) (fun c10 => ?_)
          · replace h := h.1 c10
            obtain ⟨k11, hkk11, hek11, h⟩ := h
            refine ⟨k11, hkk11, hek11, ?_⟩
            intro hi12 ehi12
            replace h := h hi12 ehi12
            refine ⟨rfl, ?_⟩
            exact h
          · replace h := h.2 c10
            refine ⟨rfl, ?_⟩
            exact h
      · replace h := h.2 c5
        refine And.intro (fun c13 => ?_) (fun c13 => ?_)
        · replace h := h.1 c13
          refine ⟨_, rfl, ?_⟩
          refine And.intro sh_l109 ?_
          refine pm_C_imp h (fun v hi14 h => ?_)
          obtain ⟨rfl, h⟩ := h
          refine ⟨rfl, ?_⟩
          refine And.intro sh_l109 ?_
          refine pm_C_imp h (fun v hi15 h => ?_)
          obtain ⟨rfl, h⟩ := h
          refine ⟨rfl, ?_⟩
          refine And.intro sh_l109 ?_
          obtain ⟨t16, hht16, het16, h⟩ := h
          rw [pm_tn_tx het16 hht16]
          refine And.intro (sh_tx hht16) ?_
          refine v_Text_put (d := d) hht16 ?_
          refine And.intro (fun c17 => ?_) (fun c17 => ?_)
          · replace h := h.1 c17
            refine ⟨rfl, ?_⟩
            exact h
          · replace h := h.2 c17
            refine And.intro (fun c18 => ?_) (fun c18 => ?_)
            · replace h := h.1 c18
              obtain ⟨k19, hkk19, hek19, h⟩ := h
              refine ⟨k19, hkk19, hek19, ?_⟩
              intro hi20 ehi20
              replace h := h hi20 ehi20
              refine ⟨rfl, ?_⟩
              exact h
            · replace h := h.2 c18
              refine ⟨rfl, ?_⟩
              exact h
        · replace h := h.2 c13
          refine And.intro (fun c21 => ?_) (fun c21 => ?_)
          · replace h := h.1 c21
            refine ⟨_, rfl, ?_⟩
            refine And.intro sh_l109 ?_
            refine pm_C_imp h (fun v hi22 h => ?_)
            obtain ⟨rfl, h⟩ := h
            refine ⟨rfl, ?_⟩
            refine And.intro sh_l109 ?_
            refine pm_C_imp h (fun v hi23 h => ?_)
            obtain ⟨rfl, h⟩ := h
            refine ⟨rfl, ?_⟩
            refine And.intro sh_l109 ?_
            obtain ⟨t24, hht24, het24, h⟩ := h
            rw [pm_tn_tx het24 hht24]
            refine And.intro (sh_tx hht24) ?_
            refine v_Text_put (d := d) hht24 ?_
            refine And.intro (fun c25 => ?_) (fun c25 => ?_)
            · replace h := h.1 c25
              refine ⟨rfl, ?_⟩
              exact h
            · replace h := h.2 c25
              refine And.intro (fun c26 => ?_) (fun c26 => ?_)
              · replace h := h.1 c26
                obtain ⟨k27, hkk27, hek27, h⟩ := h
                refine ⟨k27, hkk27, hek27, ?_⟩
                intro hi28 ehi28
                replace h := h hi28 ehi28
                refine ⟨rfl, ?_⟩
                exact h
              · replace h := h.2 c26
                refine ⟨rfl, ?_⟩
                exact h
          · replace h := h.2 c21
            obtain ⟨k29, hkk29, hek29, h⟩ := h
            refine ⟨k29, hkk29, hek29, ?_⟩
            refine ⟨_, rfl, ?_⟩
            refine And.intro sh_l109 ?_
            refine pm_C_imp h (fun v hi30 h => ?_)
            obtain ⟨rfl, h⟩ := h
            refine ⟨rfl, ?_⟩
            refine And.intro sh_l109 ?_
            refine pm_C_imp h (fun v hi31 h => ?_)
            obtain ⟨rfl, h⟩ := h
            refine ⟨rfl, ?_⟩
            refine And.intro sh_l109 ?_
            obtain ⟨t32, hht32, het32, h⟩ := h
            rw [pm_tn_tx het32 hht32]
            refine And.intro (sh_tx hht32) ?_
            refine v_Text_put (d := d) hht32 ?_
            refine And.intro (fun c33 => ?_) (fun c33 => ?_)
            · replace h := h.1 c33
              refine ⟨rfl, ?_⟩
              exact h
            · replace h := h.2 c33
              refine And.intro (fun c34 => ?_) (fun c34 => ?_)
              · replace h := h.1 c34
                obtain ⟨k35, hkk35, hek35, h⟩ := h
                refine ⟨k35, hkk35, hek35, ?_⟩
                intro hi36 ehi36
                replace h := h hi36 ehi36
                refine ⟨rfl, ?_⟩
                exact h
              · replace h := h.2 c34
                refine ⟨rfl, ?_⟩
                exact h
    · replace h := h.2 c4
      refine And.intro sh_l109 ?_
      refine pm_C_imp h (fun v hi37 h => ?_)
      obtain ⟨x38, rfl, h⟩ := h
      refine ⟨_, rfl, ?_⟩
      refine And.intro (fun c39 => ?_) (fun c39 => ?_)
      · replace h := h.1 c39
        exact h
      · replace h := h.2 c39
        refine And.intro sh_l109 ?_
        rw [hr_109_0]
        refine And.intro sh_l109 ?_
        refine And.intro sh_l107 ?_
        refine v_Tape_byteAt (d := d)  ?_
        refine And.intro (fun c40 => ?_) (fun c40 => ?_)
        · replace h := h.1 c40
          refine ⟨_, rfl, ?_⟩
          refine And.intro sh_l109 ?_
          refine pm_C_imp h (fun v hi41 h => ?_)
          obtain ⟨rfl, h⟩ := h
          refine ⟨rfl, ?_⟩
          refine And.intro sh_l109 ?_
          refine pm_C_imp h (fun v hi42 h => ?_)
          obtain ⟨rfl, h⟩ := h
          refine ⟨rfl, ?_⟩
          refine And.intro sh_l109 ?_
          obtain ⟨t43, hht43, het43, h⟩ := h
          rw [pm_tn_tx het43 hht43]
          refine And.intro (sh_tx hht43) ?_
          refine v_Text_put (d := d) hht43 ?_
          refine And.intro (fun c44 => ?_) (fun c44 => ?_)
          · replace h := h.1 c44
            refine ⟨rfl, ?_⟩
            exact h
          · replace h := h.2 c44
            refine And.intro (fun c45 => ?_) (fun c45 => ?_)
            · replace h := h.1 c45
              obtain ⟨k46, hkk46, hek46, h⟩ := h
              refine ⟨k46, hkk46, hek46, ?_⟩
              intro hi47 ehi47
              replace h := h hi47 ehi47
              refine ⟨rfl, ?_⟩
              exact h
            · replace h := h.2 c45
              refine ⟨rfl, ?_⟩
              exact h
        · replace h := h.2 c40
          refine And.intro (fun c48 => ?_) (fun c48 => ?_)
          · replace h := h.1 c48
            refine ⟨_, rfl, ?_⟩
            refine And.intro sh_l109 ?_
            refine pm_C_imp h (fun v hi49 h => ?_)
            obtain ⟨rfl, h⟩ := h
            refine ⟨rfl, ?_⟩
            refine And.intro sh_l109 ?_
            refine pm_C_imp h (fun v hi50 h => ?_)
            obtain ⟨rfl, h⟩ := h
            refine ⟨rfl, ?_⟩
            refine And.intro sh_l109 ?_
            obtain ⟨t51, hht51, het51, h⟩ := h
            rw [pm_tn_tx het51 hht51]
            refine And.intro (sh_tx hht51) ?_
            refine v_Text_put (d := d) hht51 ?_
            refine And.intro (fun c52 => ?_) (fun c52 => ?_)
            · replace h := h.1 c52
              refine ⟨rfl, ?_⟩
              exact h
            · replace h := h.2 c52
              refine And.intro (fun c53 => ?_) (fun c53 => ?_)
              · replace h := h.1 c53
                obtain ⟨k54, hkk54, hek54, h⟩ := h
                refine ⟨k54, hkk54, hek54, ?_⟩
                intro hi55 ehi55
                replace h := h hi55 ehi55
                refine ⟨rfl, ?_⟩
                exact h
              · replace h := h.2 c53
                refine ⟨rfl, ?_⟩
                exact h
          · replace h := h.2 c48
            refine And.intro (fun c56 => ?_) (fun c56 => ?_)
            · replace h := h.1 c56
              refine ⟨_, rfl, ?_⟩
              refine And.intro sh_l109 ?_
              refine pm_C_imp h (fun v hi57 h => ?_)
              obtain ⟨rfl, h⟩ := h
              refine ⟨rfl, ?_⟩
              refine And.intro sh_l109 ?_
              refine pm_C_imp h (fun v hi58 h => ?_)
              obtain ⟨rfl, h⟩ := h
              refine ⟨rfl, ?_⟩
              refine And.intro sh_l109 ?_
              obtain ⟨t59, hht59, het59, h⟩ := h
              rw [pm_tn_tx het59 hht59]
              refine And.intro (sh_tx hht59) ?_
              refine v_Text_put (d := d) hht59 ?_
              refine And.intro (fun c60 => ?_) (fun c60 => ?_)
              · replace h := h.1 c60
                refine ⟨rfl, ?_⟩
                exact h
              · replace h := h.2 c60
                refine And.intro (fun c61 => ?_) (fun c61 => ?_)
                · replace h := h.1 c61
                  obtain ⟨k62, hkk62, hek62, h⟩ := h
                  refine ⟨k62, hkk62, hek62, ?_⟩
                  intro hi63 ehi63
                  replace h := h hi63 ehi63
                  refine ⟨rfl, ?_⟩
                  exact h
                · replace h := h.2 c61
                  refine ⟨rfl, ?_⟩
                  exact h
            · replace h := h.2 c56
              obtain ⟨k64, hkk64, hek64, h⟩ := h
              refine ⟨k64, hkk64, hek64, ?_⟩
              refine ⟨_, rfl, ?_⟩
              refine And.intro sh_l109 ?_
              refine pm_C_imp h (fun v hi65 h => ?_)
              obtain ⟨rfl, h⟩ := h
              refine ⟨rfl, ?_⟩
              refine And.intro sh_l109 ?_
              refine pm_C_imp h (fun v hi66 h => ?_)
              obtain ⟨rfl, h⟩ := h
              refine ⟨rfl, ?_⟩
              refine And.intro sh_l109 ?_
              obtain ⟨t67, hht67, het67, h⟩ := h
              rw [pm_tn_tx het67 hht67]
              refine And.intro (sh_tx hht67) ?_
              refine v_Text_put (d := d) hht67 ?_
              refine And.intro (fun c68 => ?_) (fun c68 => ?_)
              · replace h := h.1 c68
                refine ⟨rfl, ?_⟩
                exact h
              · replace h := h.2 c68
                refine And.intro (fun c69 => ?_) (fun c69 => ?_)
                · replace h := h.1 c69
                  obtain ⟨k70, hkk70, hek70, h⟩ := h
                  refine ⟨k70, hkk70, hek70, ?_⟩
                  intro hi71 ehi71
                  replace h := h hi71 ehi71
                  refine ⟨rfl, ?_⟩
                  exact h
                · replace h := h.2 c69
                  refine ⟨rfl, ?_⟩
                  exact h
theorem v_Parser_readPiece {L d : Nat}  {hi : pm_B} {Q : pm_Q} (h : ((¬ (hi 109 2) = 2) → ((¬ (hi 109 2) = 1) → pm_C pm_g (SH L) HR (d + 1) m_Parser_isSign [.inr 109, .inl 33] hi (fun v hi3 => ∃ x4 : Int32, v = some (.inl x4) ∧ (((x4 = 0) → pm_C pm_g (SH L) HR (d + 1) m_Parser_isSign [.inr 109, .inl 40] hi3 (fun v hi6 => ∃ x7 : Int32, v = some (.inl x7) ∧ (((x7 = 0) → ((¬ (hi6 109 7) = (-1000000005)) → ∀ hi10 : pm_B, hi10 = pm_u hi6 109 2 4 → (Q none hi10)) ∧ ((¬ (¬ (hi6 109 7) = (-1000000005))) → ∀ hi11 : pm_B, hi11 = pm_u (pm_u hi6 109 7 (hi6 109 3)) 109 2 4 → (Q none hi11))) ∧ ((¬ (x7 = 0)) → pm_C pm_g (SH L) HR (d + 1) m_Parser_readBrackets [.inr 109] hi6 (fun v hi12 => v = none ∧ (Q none hi12)))))) ∧ ((¬ (x4 = 0)) → pm_C pm_g (SH L) HR (d + 1) m_Parser_readNot [.inr 109] hi3 (fun v hi13 => v = none ∧ (Q none hi13)))))) ∧ ((¬ (¬ (hi 109 2) = 1)) → pm_C pm_g (SH L) HR (d + 1) m_Parser_readName [.inr 109] hi (fun v hi14 => v = none ∧ (Q none hi14)))) ∧ ((¬ (¬ (hi 109 2) = 2)) → pm_C pm_g (SH L) HR (d + 1) m_Parser_readNumber [.inr 109] hi (fun v hi15 => v = none ∧ (Q none hi15)))) : pm_C pm_g (SH L) HR (d + 2) m_Parser_readPiece [.inr 109] hi Q := by
  refine pm_C_of (maxL := 1) (t := pm_t40) rfl (Nat.le_of_ble_eq_true rfl) ?_
  refine pm_W_of 22 [] rfl ?_
  refine And.intro sh_l109 ?_
  refine And.intro (fun c1 => ?_) (fun c1 => ?_)
  · replace h := h.1 c1
    refine And.intro sh_l109 ?_
    refine And.intro (fun c2 => ?_) (fun c2 => ?_)
    · replace h := h.1 c2
      refine And.intro sh_l109 ?_
      refine pm_C_imp h (fun v hi3 h => ?_)
      obtain ⟨x4, rfl, h⟩ := h
      refine ⟨_, rfl, ?_⟩
      refine And.intro (fun c5 => ?_) (fun c5 => ?_)
      · replace h := h.1 c5
        refine And.intro sh_l109 ?_
        refine pm_C_imp h (fun v hi6 h => ?_)
        obtain ⟨x7, rfl, h⟩ := h
        refine ⟨_, rfl, ?_⟩
        refine And.intro (fun c8 => ?_) (fun c8 => ?_)
        · replace h := h.1 c8
          refine And.intro sh_l109 ?_
          refine v_Parser_fail (d := d)  ?_
          refine And.intro (fun c9 => ?_) (fun c9 => ?_)
          · replace h := h.1 c9
            refine ⟨rfl, ?_⟩
            obtain ⟨hi10, ehi10⟩ : ∃ m : pm_B, m = pm_u hi6 109 2 4 := ⟨_, rfl⟩
            replace h := h hi10 ehi10
            rw [← ehi10]
            exact h
          · replace h := h.2 c9
            intro hi11 ehi11
            replace h := h hi11 ehi11
            refine ⟨rfl, ?_⟩
            exact h
        · replace h := h.2 c8
          refine And.intro sh_l109 ?_
          refine pm_C_imp h (fun v hi12 h => ?_)
          obtain ⟨rfl, h⟩ := h
          refine ⟨rfl, ?_⟩
          exact h
      · replace h := h.2 c5
        refine And.intro sh_l109 ?_
        refine pm_C_imp h (fun v hi13 h => ?_)
        obtain ⟨rfl, h⟩ := h
        refine ⟨rfl, ?_⟩
        exact h
    · replace h := h.2 c2
      refine And.intro sh_l109 ?_
      refine pm_C_imp h (fun v hi14 h => ?_)
      obtain ⟨rfl, h⟩ := h
      refine ⟨rfl, ?_⟩
      exact h
  · replace h := h.2 c1
    refine And.intro sh_l109 ?_
    refine pm_C_imp h (fun v hi15 h => ?_)
    obtain ⟨rfl, h⟩ := h
    refine ⟨rfl, ?_⟩
    exact h
theorem v_Parser_readNumber {L d : Nat}  {hi : pm_B} {Q : pm_Q} (h : ((((hi 109 4) - (hi 109 3)) ≤ 4) → pm_W pm_g (SH L) HR (d + 1) pm_t41 25 [some (.inr 109), some (.inl 0), some (.inl (hi 109 3))] [] hi Q) ∧ ((¬ (((hi 109 4) - (hi 109 3)) ≤ 4)) → ((¬ (hi 109 7) = (-1000000005)) → ∀ hi3 : pm_B, hi3 = pm_u hi 109 2 4 → (Q none hi3)) ∧ ((¬ (¬ (hi 109 7) = (-1000000005))) → ∀ hi4 : pm_B, hi4 = pm_u (pm_u hi 109 7 (hi 109 3)) 109 2 4 → (Q none hi4)))) : pm_C pm_g (SH L) HR (d + 2) m_Parser_readNumber [.inr 109] hi Q := by
  refine pm_C_of (maxL := 3) (t := pm_t41) rfl (Nat.le_of_ble_eq_true rfl) ?_
  refine pm_W_of 14 [25] rfl ?_
  refine And.intro sh_l109 ?_
  refine And.intro sh_l109 ?_
  refine And.intro (fun c1 => ?_) (fun c1 => ?_)
  · replace h := h.1 c1
    refine And.intro sh_l109 ?_
    exact h
  · replace h := h.2 c1
    refine And.intro sh_l109 ?_
    refine v_Parser_fail (d := d)  ?_
    refine And.intro (fun c2 => ?_) (fun c2 => ?_)
    · replace h := h.1 c2
      refine ⟨rfl, ?_⟩
      obtain ⟨hi3, ehi3⟩ : ∃ m : pm_B, m = pm_u hi 109 2 4 := ⟨_, rfl⟩
      replace h := h hi3 ehi3
      rw [← ehi3]
      exact h
    · replace h := h.2 c2
      intro hi4 ehi4
      replace h := h hi4 ehi4
      refine ⟨rfl, ?_⟩
      exact h
theorem v_Parser_readNumber_25 {L d : Nat}  {y1 : Int32} {y2 : Int32} {hi : pm_B} {Q : pm_Q} (h : (((hi 109 4) ≤ y2) → pm_C pm_g (SH L) HR (d + 1) m_Parser_putLeaf [.inr 109, .inl y1] hi (fun v hi2 => v = none ∧ (Q none hi2))) ∧ ((¬ ((hi 109 4) ≤ y2)) → ((y2 < 0) → pm_W pm_g (SH L) HR (d + 1) pm_t41 25 [some (.inr 109), some (.inl (((y1 * 10) + (-1)) - 48)), some (.inl (y2 + 1))] [] hi Q) ∧ ((¬ (y2 < 0)) → (((hi 107 1) ≤ y2) → pm_W pm_g (SH L) HR (d + 1) pm_t41 25 [some (.inr 109), some (.inl (((y1 * 10) + (-1)) - 48)), some (.inl (y2 + 1))] [] hi Q) ∧ ((¬ ((hi 107 1) ≤ y2)) → ((96 ≤ y2) → pm_W pm_g (SH L) HR (d + 1) pm_t41 25 [some (.inr 109), some (.inl (((y1 * 10) + (-1)) - 48)), some (.inl (y2 + 1))] [] hi Q) ∧ ((¬ (96 ≤ y2)) → ∃ k6 : Nat, k6 < 96 ∧ y2 = nI k6 ∧ (pm_W pm_g (SH L) HR (d + 1) pm_t41 25 [some (.inr 109), some (.inl (((y1 * 10) + (hi 108 k6)) - 48)), some (.inl (y2 + 1))] [] hi Q)))))) : pm_W pm_g (SH L) HR (d + 1) pm_t41 25 [some (.inr 109), some (.inl y1), some (.inl y2)] [] hi Q := by
  refine pm_W_of 19 [25] rfl ?_
  refine And.intro sh_l109 ?_
  refine And.intro (fun c1 => ?_) (fun c1 => ?_)
  · replace h := h.1 c1
    refine And.intro sh_l109 ?_
    refine pm_C_imp h (fun v hi2 h => ?_)
    obtain ⟨rfl, h⟩ := h
    refine ⟨rfl, ?_⟩
    exact h
  · replace h := h.2 c1
    refine And.intro sh_l109 ?_
    rw [hr_109_0]
    refine And.intro sh_l107 ?_
    refine v_Tape_byteAt (d := d)  ?_
    refine And.intro (fun c3 => ?_) (fun c3 => ?_)
    · replace h := h.1 c3
      refine ⟨_, rfl, ?_⟩
      exact h
    · replace h := h.2 c3
      refine And.intro (fun c4 => ?_) (fun c4 => ?_)
      · replace h := h.1 c4
        refine ⟨_, rfl, ?_⟩
        exact h
      · replace h := h.2 c4
        refine And.intro (fun c5 => ?_) (fun c5 => ?_)
        · replace h := h.1 c5
          refine ⟨_, rfl, ?_⟩
          exact h
        · replace h := h.2 c5
          obtain ⟨k6, hkk6, hek6, h⟩ := h
          refine ⟨k6, hkk6, hek6, ?_⟩
          refine ⟨_, rfl, ?_⟩
          exact h
theorem v_Parser_readName {L d : Nat}  {hi : pm_B} {Q : pm_Q} (h : ((¬ ((hi 109 4) - (hi 109 3)) = 1) → ((¬ (hi 109 7) = (-1000000005)) → ∀ hi3 : pm_B, hi3 = pm_u hi 109 2 4 → (Q none hi3)) ∧ ((¬ (¬ (hi 109 7) = (-1000000005))) → ∀ hi4 : pm_B, hi4 = pm_u (pm_u hi 109 7 (hi 109 3)) 109 2 4 → (Q none hi4))) ∧ ((¬ (¬ ((hi 109 4) - (hi 109 3)) = 1)) → ∃ t5 : Nat, pm_tx t5 ∧ (hi 109 1) = nI t5 ∧ ((((hi t5 0) = 0) → (((hi 109 3) < 0) → pm_C pm_g (SH L) HR (d + 1) m_String_indexOf [.inr 6, .inl ((Int32.toUInt32 (-1) % 65536).toInt32)] hi (fun v hi8 => ∃ x9 : Int32, v = some (.inl x9) ∧ (((0 ≤ x9) → pm_C pm_g (SH L) HR (d + 1) m_Parser_putLeaf [.inr 109, .inl ((-1) - x9)] hi8 (fun v hi11 => v = none ∧ (Q none hi11))) ∧ ((¬ (0 ≤ x9)) → ((¬ (hi8 109 7) = (-1000000005)) → ∀ hi13 : pm_B, hi13 = pm_u hi8 109 2 4 → (Q none hi13)) ∧ ((¬ (¬ (hi8 109 7) = (-1000000005))) → ∀ hi14 : pm_B, hi14 = pm_u (pm_u hi8 109 7 (hi8 109 3)) 109 2 4 → (Q none hi14)))))) ∧ ((¬ ((hi 109 3) < 0)) → (((hi 107 1) ≤ (hi 109 3)) → pm_C pm_g (SH L) HR (d + 1) m_String_indexOf [.inr 6, .inl ((Int32.toUInt32 (-1) % 65536).toInt32)] hi (fun v hi16 => ∃ x17 : Int32, v = some (.inl x17) ∧ (((0 ≤ x17) → pm_C pm_g (SH L) HR (d + 1) m_Parser_putLeaf [.inr 109, .inl ((-1) - x17)] hi16 (fun v hi19 => v = none ∧ (Q none hi19))) ∧ ((¬ (0 ≤ x17)) → ((¬ (hi16 109 7) = (-1000000005)) → ∀ hi21 : pm_B, hi21 = pm_u hi16 109 2 4 → (Q none hi21)) ∧ ((¬ (¬ (hi16 109 7) = (-1000000005))) → ∀ hi22 : pm_B, hi22 = pm_u (pm_u hi16 109 7 (hi16 109 3)) 109 2 4 → (Q none hi22)))))) ∧ ((¬ ((hi 107 1) ≤ (hi 109 3))) → ((96 ≤ (hi 109 3)) → pm_C pm_g (SH L) HR (d + 1) m_String_indexOf [.inr 6, .inl ((Int32.toUInt32 (-1) % 65536).toInt32)] hi (fun v hi24 => ∃ x25 : Int32, v = some (.inl x25) ∧ (((0 ≤ x25) → pm_C pm_g (SH L) HR (d + 1) m_Parser_putLeaf [.inr 109, .inl ((-1) - x25)] hi24 (fun v hi27 => v = none ∧ (Q none hi27))) ∧ ((¬ (0 ≤ x25)) → ((¬ (hi24 109 7) = (-1000000005)) → ∀ hi29 : pm_B, hi29 = pm_u hi24 109 2 4 → (Q none hi29)) ∧ ((¬ (¬ (hi24 109 7) = (-1000000005))) → ∀ hi30 : pm_B, hi30 = pm_u (pm_u hi24 109 7 (hi24 109 3)) 109 2 4 → (Q none hi30)))))) ∧ ((¬ (96 ≤ (hi 109 3))) → ∃ k31 : Nat, k31 < 96 ∧ (hi 109 3) = nI k31 ∧ (pm_C pm_g (SH L) HR (d + 1) m_String_indexOf [.inr 6, .inl ((Int32.toUInt32 (hi 108 k31) % 65536).toInt32)] hi (fun v hi32 => ∃ x33 : Int32, v = some (.inl x33) ∧ (((0 ≤ x33) → pm_C pm_g (SH L) HR (d + 1) m_Parser_putLeaf [.inr 109, .inl ((-1) - x33)] hi32 (fun v hi35 => v = none ∧ (Q none hi35))) ∧ ((¬ (0 ≤ x33)) → ((¬ (hi32 109 7) = (-1000000005)) → ∀ hi37 : pm_B, hi37 = pm_u hi32 109 2 4 → (Q none hi37)) ∧ ((¬ (¬ (hi32 109 7) = (-1000000005))) → ∀ hi38 : pm_B, hi38 = pm_u (pm_u hi32 109 7 (hi32 109 3)) 109 2 4 → (Q none hi38)))))))))) ∧ ((¬ (hi t5 0) = 0) → (((hi t5 0) = 1) → (((hi 109 3) < 0) → pm_C pm_g (SH L) HR (d + 1) m_String_indexOf [.inr 7, .inl ((Int32.toUInt32 (-1) % 65536).toInt32)] hi (fun v hi41 => ∃ x42 : Int32, v = some (.inl x42) ∧ (((0 ≤ x42) → pm_C pm_g (SH L) HR (d + 1) m_Parser_putLeaf [.inr 109, .inl ((-1) - x42)] hi41 (fun v hi44 => v = none ∧ (Q none hi44))) ∧ ((¬ (0 ≤ x42)) → ((¬ (hi41 109 7) = (-1000000005)) → ∀ hi46 : pm_B, hi46 = pm_u hi41 109 2 4 → (Q none hi46)) ∧ ((¬ (¬ (hi41 109 7) = (-1000000005))) → ∀ hi47 : pm_B, hi47 = pm_u (pm_u hi41 109 7 (hi41 109 3)) 109 2 4 → (Q none hi47)))))) ∧ ((¬ ((hi 109 3) < 0)) → (((hi 107 1) ≤ (hi 109 3)) → pm_C pm_g (SH L) HR (d + 1) m_String_indexOf [.inr 7, .inl ((Int32.toUInt32 (-1) % 65536).toInt32)] hi (fun v hi49 => ∃ x50 : Int32, v = some (.inl x50) ∧ (((0 ≤ x50) → pm_C pm_g (SH L) HR (d + 1) m_Parser_putLeaf [.inr 109, .inl ((-1) - x50)] hi49 (fun v hi52 => v = none ∧ (Q none hi52))) ∧ ((¬ (0 ≤ x50)) → ((¬ (hi49 109 7) = (-1000000005)) → ∀ hi54 : pm_B, hi54 = pm_u hi49 109 2 4 → (Q none hi54)) ∧ ((¬ (¬ (hi49 109 7) = (-1000000005))) → ∀ hi55 : pm_B, hi55 = pm_u (pm_u hi49 109 7 (hi49 109 3)) 109 2 4 → (Q none hi55)))))) ∧ ((¬ ((hi 107 1) ≤ (hi 109 3))) → ((96 ≤ (hi 109 3)) → pm_C pm_g (SH L) HR (d + 1) m_String_indexOf [.inr 7, .inl ((Int32.toUInt32 (-1) % 65536).toInt32)] hi (fun v hi57 => ∃ x58 : Int32, v = some (.inl x58) ∧ (((0 ≤ x58) → pm_C pm_g (SH L) HR (d + 1) m_Parser_putLeaf [.inr 109, .inl ((-1) - x58)] hi57 (fun v hi60 => v = none ∧ (Q none hi60))) ∧ ((¬ (0 ≤ x58)) → ((¬ (hi57 109 7) = (-1000000005)) → ∀ hi62 : pm_B, hi62 = pm_u hi57 109 2 4 → (Q none hi62)) ∧ ((¬ (¬ (hi57 109 7) = (-1000000005))) → ∀ hi63 : pm_B, hi63 = pm_u (pm_u hi57 109 7 (hi57 109 3)) 109 2 4 → (Q none hi63)))))) ∧ ((¬ (96 ≤ (hi 109 3))) → ∃ k64 : Nat, k64 < 96 ∧ (hi 109 3) = nI k64 ∧ (pm_C pm_g (SH L) HR (d + 1) m_String_indexOf [.inr 7, .inl ((Int32.toUInt32 (hi 108 k64) % 65536).toInt32)] hi (fun v hi65 => ∃ x66 : Int32, v = some (.inl x66) ∧ (((0 ≤ x66) → pm_C pm_g (SH L) HR (d + 1) m_Parser_putLeaf [.inr 109, .inl ((-1) - x66)] hi65 (fun v hi68 => v = none ∧ (Q none hi68))) ∧ ((¬ (0 ≤ x66)) → ((¬ (hi65 109 7) = (-1000000005)) → ∀ hi70 : pm_B, hi70 = pm_u hi65 109 2 4 → (Q none hi70)) ∧ ((¬ (¬ (hi65 109 7) = (-1000000005))) → ∀ hi71 : pm_B, hi71 = pm_u (pm_u hi65 109 7 (hi65 109 3)) 109 2 4 → (Q none hi71)))))))))) ∧ ((¬ (hi t5 0) = 1) → (((hi 109 3) < 0) → pm_C pm_g (SH L) HR (d + 1) m_String_indexOf [.inr 8, .inl ((Int32.toUInt32 (-1) % 65536).toInt32)] hi (fun v hi73 => ∃ x74 : Int32, v = some (.inl x74) ∧ (((0 ≤ x74) → pm_C pm_g (SH L) HR (d + 1) m_Parser_putLeaf [.inr 109, .inl ((-1) - x74)] hi73 (fun v hi76 => v = none ∧ (Q none hi76))) ∧ ((¬ (0 ≤ x74)) → ((¬ (hi73 109 7) = (-1000000005)) → ∀ hi78 : pm_B, hi78 = pm_u hi73 109 2 4 → (Q none hi78)) ∧ ((¬ (¬ (hi73 109 7) = (-1000000005))) → ∀ hi79 : pm_B, hi79 = pm_u (pm_u hi73 109 7 (hi73 109 3)) 109 2 4 → (Q none hi79)))))) ∧ ((¬ ((hi 109 3) < 0)) → (((hi 107 1) ≤ (hi 109 3)) → pm_C pm_g (SH L) HR (d + 1) m_String_indexOf [.inr 8, .inl ((Int32.toUInt32 (-1) % 65536).toInt32)] hi (fun v hi81 => ∃ x82 : Int32, v = some (.inl x82) ∧ (((0 ≤ x82) → pm_C pm_g (SH L) HR (d + 1) m_Parser_putLeaf [.inr 109, .inl ((-1) - x82)] hi81 (fun v hi84 => v = none ∧ (Q none hi84))) ∧ ((¬ (0 ≤ x82)) → ((¬ (hi81 109 7) = (-1000000005)) → ∀ hi86 : pm_B, hi86 = pm_u hi81 109 2 4 → (Q none hi86)) ∧ ((¬ (¬ (hi81 109 7) = (-1000000005))) → ∀ hi87 : pm_B, hi87 = pm_u (pm_u hi81 109 7 (hi81 109 3)) 109 2 4 → (Q none hi87)))))) ∧ ((¬ ((hi 107 1) ≤ (hi 109 3))) → ((96 ≤ (hi 109 3)) → pm_C pm_g (SH L) HR (d + 1) m_String_indexOf [.inr 8, .inl ((Int32.toUInt32 (-1) % 65536).toInt32)] hi (fun v hi89 => ∃ x90 : Int32, v = some (.inl x90) ∧ (((0 ≤ x90) → pm_C pm_g (SH L) HR (d + 1) m_Parser_putLeaf [.inr 109, .inl ((-1) - x90)] hi89 (fun v hi92 => v = none ∧ (Q none hi92))) ∧ ((¬ (0 ≤ x90)) → ((¬ (hi89 109 7) = (-1000000005)) → ∀ hi94 : pm_B, hi94 = pm_u hi89 109 2 4 → (Q none hi94)) ∧ ((¬ (¬ (hi89 109 7) = (-1000000005))) → ∀ hi95 : pm_B, hi95 = pm_u (pm_u hi89 109 7 (hi89 109 3)) 109 2 4 → (Q none hi95)))))) ∧ ((¬ (96 ≤ (hi 109 3))) → ∃ k96 : Nat, k96 < 96 ∧ (hi 109 3) = nI k96 ∧ (pm_C pm_g (SH L) HR (d + 1) m_String_indexOf [.inr 8, .inl ((Int32.toUInt32 (hi 108 k96) % 65536).toInt32)] hi (fun v hi97 => ∃ x98 : Int32, v = some (.inl x98) ∧ (((0 ≤ x98) → pm_C pm_g (SH L) HR (d + 1) m_Parser_putLeaf [.inr 109, .inl ((-1) - x98)] hi97 (fun v hi100 => v = none ∧ (Q none hi100))) ∧ ((¬ (0 ≤ x98)) → ((¬ (hi97 109 7) = (-1000000005)) → ∀ hi102 : pm_B, hi102 = pm_u hi97 109 2 4 → (Q none hi102)) ∧ ((¬ (¬ (hi97 109 7) = (-1000000005))) → ∀ hi103 : pm_B, hi103 = pm_u (pm_u hi97 109 7 (hi97 109 3)) 109 2 4 → (Q none hi103)))))))))))))) : pm_C pm_g (SH L) HR (d + 2) m_Parser_readName [.inr 109] hi Q := by
  refine pm_C_of (maxL := 2) (t := pm_t42) rfl (Nat.le_of_ble_eq_true rfl) ?_
  refine pm_W_of 30 [] rfl ?_
  refine And.intro sh_l109 ?_
  refine And.intro sh_l109 ?_
  refine And.intro (fun c1 => ?_) (fun c1 => ?_)
  · replace h := h.1 c1
    refine And.intro (fun hc => absurd hc (pm_cd_f (by decide))) (fun _ => ?_)
    refine And.intro sh_l109 ?_
    refine v_Parser_fail (d := d)  ?_
    refine And.intro (fun c2 => ?_) (fun c2 => ?_)
    · replace h := h.1 c2
      refine ⟨rfl, ?_⟩
      obtain ⟨hi3, ehi3⟩ : ∃ m : pm_B, m = pm_u hi 109 2 4 := ⟨_, rfl⟩
      replace h := h hi3 ehi3
      rw [← ehi3]
      exact h
    · replace h := h.2 c2
      intro hi4 ehi4
      replace h := h hi4 ehi4
      refine ⟨rfl, ?_⟩
      exact h
  · replace h := h.2 c1
    refine And.intro sh_l109 ?_
    obtain ⟨t5, hht5, het5, h⟩ := h
    rw [pm_tn_tx het5 hht5]
    refine And.intro (sh_tx hht5) ?_
    refine And.intro trivial ?_
    refine v_Parser_namesOf (d := d)  ?_
    refine And.intro (fun c6 => ?_) (fun c6 => ?_)
    · replace h := h.1 c6
      refine ⟨_, rfl, ?_⟩
      refine And.intro sh_l109 ?_
      rw [hr_109_0]
      refine And.intro sh_l109 ?_
      refine And.intro sh_l107 ?_
      refine v_Tape_byteAt (d := d)  ?_
      refine And.intro (fun c7 => ?_) (fun c7 => ?_)
      · replace h := h.1 c7
        refine ⟨_, rfl, ?_⟩
        refine And.intro (sh_sr (sr_lit 6 (by decide))) ?_
        refine pm_C_imp h (fun v hi8 h => ?_)
        obtain ⟨x9, rfl, h⟩ := h
        refine ⟨_, rfl, ?_⟩
        refine And.intro (fun c10 => ?_) (fun c10 => ?_)
        · replace h := h.1 c10
          refine And.intro sh_l109 ?_
          refine pm_C_imp h (fun v hi11 h => ?_)
          obtain ⟨rfl, h⟩ := h
          refine ⟨rfl, ?_⟩
          exact h
        · replace h := h.2 c10
          refine And.intro sh_l109 ?_
          refine v_Parser_fail (d := d)  ?_
          refine And.intro (fun c12 => ?_) (fun c12 => ?_)
          · replace h := h.1 c12
            refine ⟨rfl, ?_⟩
            obtain ⟨hi13, ehi13⟩ : ∃ m : pm_B, m = pm_u hi8 109 2 4 := ⟨_, rfl⟩
            replace h := h hi13 ehi13
            rw [← ehi13]
            exact h
          · replace h := h.2 c12
            intro hi14 ehi14
            replace h := h hi14 ehi14
            refine ⟨rfl, ?_⟩
            exact h
      · replace h := h.2 c7
        refine And.intro (fun c15 => ?_) (fun c15 => ?_)
        · replace h := h.1 c15
          refine ⟨_, rfl, ?_⟩
          refine And.intro (sh_sr (sr_lit 6 (by decide))) ?_
          refine pm_C_imp h (fun v hi16 h => ?_)
          obtain ⟨x17, rfl, h⟩ := h
          refine ⟨_, rfl, ?_⟩
          refine And.intro (fun c18 => ?_) (fun c18 => ?_)
          · replace h := h.1 c18
            refine And.intro sh_l109 ?_
            refine pm_C_imp h (fun v hi19 h => ?_)
            obtain ⟨rfl, h⟩ := h
            refine ⟨rfl, ?_⟩
            exact h
          · replace h := h.2 c18
            refine And.intro sh_l109 ?_
            refine v_Parser_fail (d := d)  ?_
            refine And.intro (fun c20 => ?_) (fun c20 => ?_)
            · replace h := h.1 c20
              refine ⟨rfl, ?_⟩
              obtain ⟨hi21, ehi21⟩ : ∃ m : pm_B, m = pm_u hi16 109 2 4 := ⟨_, rfl⟩
              replace h := h hi21 ehi21
              rw [← ehi21]
              exact h
            · replace h := h.2 c20
              intro hi22 ehi22
              replace h := h hi22 ehi22
              refine ⟨rfl, ?_⟩
              exact h
        · replace h := h.2 c15
          refine And.intro (fun c23 => ?_) (fun c23 => ?_)
          · replace h := h.1 c23
            refine ⟨_, rfl, ?_⟩
            refine And.intro (sh_sr (sr_lit 6 (by decide))) ?_
            refine pm_C_imp h (fun v hi24 h => ?_)
            obtain ⟨x25, rfl, h⟩ := h
            refine ⟨_, rfl, ?_⟩
            refine And.intro (fun c26 => ?_) (fun c26 => ?_)
            · replace h := h.1 c26
              refine And.intro sh_l109 ?_
              refine pm_C_imp h (fun v hi27 h => ?_)
              obtain ⟨rfl, h⟩ := h
              refine ⟨rfl, ?_⟩
              exact h
            · replace h := h.2 c26
              refine And.intro sh_l109 ?_
              refine v_Parser_fail (d := d)  ?_
              refine And.intro (fun c28 => ?_) (fun c28 => ?_)
              · replace h := h.1 c28
                refine ⟨rfl, ?_⟩
                obtain ⟨hi29, ehi29⟩ : ∃ m : pm_B, m = pm_u hi24 109 2 4 := ⟨_, rfl⟩
                replace h := h hi29 ehi29
                rw [← ehi29]
                exact h
              · replace h := h.2 c28
                intro hi30 ehi30
                replace h := h hi30 ehi30
                refine ⟨rfl, ?_⟩
                exact h
          · replace h := h.2 c23
            obtain ⟨k31, hkk31, hek31, h⟩ := h
            refine ⟨k31, hkk31, hek31, ?_⟩
            refine ⟨_, rfl, ?_⟩
            refine And.intro (sh_sr (sr_lit 6 (by decide))) ?_
            refine pm_C_imp h (fun v hi32 h => ?_)
            obtain ⟨x33, rfl, h⟩ := h
            refine ⟨_, rfl, ?_⟩
            refine And.intro (fun c34 => ?_) (fun c34 => ?_)
            · replace h := h.1 c34
              refine And.intro sh_l109 ?_
              refine pm_C_imp h (fun v hi35 h => ?_)
              obtain ⟨rfl, h⟩ := h
              refine ⟨rfl, ?_⟩
              exact h
            · replace h := h.2 c34
              refine And.intro sh_l109 ?_
              refine v_Parser_fail (d := d)  ?_
              refine And.intro (fun c36 => ?_) (fun c36 => ?_)
              · replace h := h.1 c36
                refine ⟨rfl, ?_⟩
                obtain ⟨hi37, ehi37⟩ : ∃ m : pm_B, m = pm_u hi32 109 2 4 := ⟨_, rfl⟩
                replace h := h hi37 ehi37
                rw [← ehi37]
                exact h
              · replace h := h.2 c36
                intro hi38 ehi38
                replace h := h hi38 ehi38
                refine ⟨rfl, ?_⟩
                exact h
    · replace h := h.2 c6
      refine And.intro (fun c39 => ?_) (fun c39 => ?_)
      · replace h := h.1 c39
        refine ⟨_, rfl, ?_⟩
        refine And.intro sh_l109 ?_
        rw [hr_109_0]
        refine And.intro sh_l109 ?_
        refine And.intro sh_l107 ?_
        refine v_Tape_byteAt (d := d)  ?_
        refine And.intro (fun c40 => ?_) (fun c40 => ?_)
        · replace h := h.1 c40
          refine ⟨_, rfl, ?_⟩
          refine And.intro (sh_sr (sr_lit 7 (by decide))) ?_
          refine pm_C_imp h (fun v hi41 h => ?_)
          obtain ⟨x42, rfl, h⟩ := h
          refine ⟨_, rfl, ?_⟩
          refine And.intro (fun c43 => ?_) (fun c43 => ?_)
          · replace h := h.1 c43
            refine And.intro sh_l109 ?_
            refine pm_C_imp h (fun v hi44 h => ?_)
            obtain ⟨rfl, h⟩ := h
            refine ⟨rfl, ?_⟩
            exact h
          · replace h := h.2 c43
            refine And.intro sh_l109 ?_
            refine v_Parser_fail (d := d)  ?_
            refine And.intro (fun c45 => ?_) (fun c45 => ?_)
            · replace h := h.1 c45
              refine ⟨rfl, ?_⟩
              obtain ⟨hi46, ehi46⟩ : ∃ m : pm_B, m = pm_u hi41 109 2 4 := ⟨_, rfl⟩
              replace h := h hi46 ehi46
              rw [← ehi46]
              exact h
            · replace h := h.2 c45
              intro hi47 ehi47
              replace h := h hi47 ehi47
              refine ⟨rfl, ?_⟩
              exact h
        · replace h := h.2 c40
          refine And.intro (fun c48 => ?_) (fun c48 => ?_)
          · replace h := h.1 c48
            refine ⟨_, rfl, ?_⟩
            refine And.intro (sh_sr (sr_lit 7 (by decide))) ?_
            refine pm_C_imp h (fun v hi49 h => ?_)
            obtain ⟨x50, rfl, h⟩ := h
            refine ⟨_, rfl, ?_⟩
            refine And.intro (fun c51 => ?_) (fun c51 => ?_)
            · replace h := h.1 c51
              refine And.intro sh_l109 ?_
              refine pm_C_imp h (fun v hi52 h => ?_)
              obtain ⟨rfl, h⟩ := h
              refine ⟨rfl, ?_⟩
              exact h
            · replace h := h.2 c51
              refine And.intro sh_l109 ?_
              refine v_Parser_fail (d := d)  ?_
              refine And.intro (fun c53 => ?_) (fun c53 => ?_)
              · replace h := h.1 c53
                refine ⟨rfl, ?_⟩
                obtain ⟨hi54, ehi54⟩ : ∃ m : pm_B, m = pm_u hi49 109 2 4 := ⟨_, rfl⟩
                replace h := h hi54 ehi54
                rw [← ehi54]
                exact h
              · replace h := h.2 c53
                intro hi55 ehi55
                replace h := h hi55 ehi55
                refine ⟨rfl, ?_⟩
                exact h
          · replace h := h.2 c48
            refine And.intro (fun c56 => ?_) (fun c56 => ?_)
            · replace h := h.1 c56
              refine ⟨_, rfl, ?_⟩
              refine And.intro (sh_sr (sr_lit 7 (by decide))) ?_
              refine pm_C_imp h (fun v hi57 h => ?_)
              obtain ⟨x58, rfl, h⟩ := h
              refine ⟨_, rfl, ?_⟩
              refine And.intro (fun c59 => ?_) (fun c59 => ?_)
              · replace h := h.1 c59
                refine And.intro sh_l109 ?_
                refine pm_C_imp h (fun v hi60 h => ?_)
                obtain ⟨rfl, h⟩ := h
                refine ⟨rfl, ?_⟩
                exact h
              · replace h := h.2 c59
                refine And.intro sh_l109 ?_
                refine v_Parser_fail (d := d)  ?_
                refine And.intro (fun c61 => ?_) (fun c61 => ?_)
                · replace h := h.1 c61
                  refine ⟨rfl, ?_⟩
                  obtain ⟨hi62, ehi62⟩ : ∃ m : pm_B, m = pm_u hi57 109 2 4 := ⟨_, rfl⟩
                  replace h := h hi62 ehi62
                  rw [← ehi62]
                  exact h
                · replace h := h.2 c61
                  intro hi63 ehi63
                  replace h := h hi63 ehi63
                  refine ⟨rfl, ?_⟩
                  exact h
            · replace h := h.2 c56
              obtain ⟨k64, hkk64, hek64, h⟩ := h
              refine ⟨k64, hkk64, hek64, ?_⟩
              refine ⟨_, rfl, ?_⟩
              refine And.intro (sh_sr (sr_lit 7 (by decide))) ?_
              refine pm_C_imp h (fun v hi65 h => ?_)
              obtain ⟨x66, rfl, h⟩ := h
              refine ⟨_, rfl, ?_⟩
              refine And.intro (fun c67 => ?_) (fun c67 => ?_)
              · replace h := h.1 c67
                refine And.intro sh_l109 ?_
                refine pm_C_imp h (fun v hi68 h => ?_)
                obtain ⟨rfl, h⟩ := h
                refine ⟨rfl, ?_⟩
                exact h
              · replace h := h.2 c67
                refine And.intro sh_l109 ?_
                refine v_Parser_fail (d := d)  ?_
                refine And.intro (fun c69 => ?_) (fun c69 => ?_)
                · replace h := h.1 c69
                  refine ⟨rfl, ?_⟩
                  obtain ⟨hi70, ehi70⟩ : ∃ m : pm_B, m = pm_u hi65 109 2 4 := ⟨_, rfl⟩
                  replace h := h hi70 ehi70
                  rw [← ehi70]
                  exact h
                · replace h := h.2 c69
                  intro hi71 ehi71
                  replace h := h hi71 ehi71
                  refine ⟨rfl, ?_⟩
                  exact h
      · replace h := h.2 c39
        refine ⟨_, rfl, ?_⟩
        refine And.intro sh_l109 ?_
        rw [hr_109_0]
        refine And.intro sh_l109 ?_
        refine And.intro sh_l107 ?_
        refine v_Tape_byteAt (d := d)  ?_
        refine And.intro (fun c72 => ?_) (fun c72 => ?_)
        · replace h := h.1 c72
          refine ⟨_, rfl, ?_⟩
          refine And.intro (sh_sr (sr_lit 8 (by decide))) ?_
          refine pm_C_imp h (fun v hi73 h => ?_)
          obtain ⟨x74, rfl, h⟩ := h
          refine ⟨_, rfl, ?_⟩
          refine And.intro (fun c75 => ?_) (fun c75 => ?_)
          · replace h := h.1 c75
            refine And.intro sh_l109 ?_
            refine pm_C_imp h (fun v hi76 h => ?_)
            obtain ⟨rfl, h⟩ := h
            refine ⟨rfl, ?_⟩
            exact h
          · replace h := h.2 c75
            refine And.intro sh_l109 ?_
            refine v_Parser_fail (d := d)  ?_
            refine And.intro (fun c77 => ?_) (fun c77 => ?_)
            · replace h := h.1 c77
              refine ⟨rfl, ?_⟩
              obtain ⟨hi78, ehi78⟩ : ∃ m : pm_B, m = pm_u hi73 109 2 4 := ⟨_, rfl⟩
              replace h := h hi78 ehi78
              rw [← ehi78]
              exact h
            · replace h := h.2 c77
              intro hi79 ehi79
              replace h := h hi79 ehi79
              refine ⟨rfl, ?_⟩
              exact h
        · replace h := h.2 c72
          refine And.intro (fun c80 => ?_) (fun c80 => ?_)
          · replace h := h.1 c80
            refine ⟨_, rfl, ?_⟩
            refine And.intro (sh_sr (sr_lit 8 (by decide))) ?_
            refine pm_C_imp h (fun v hi81 h => ?_)
            obtain ⟨x82, rfl, h⟩ := h
            refine ⟨_, rfl, ?_⟩
            refine And.intro (fun c83 => ?_) (fun c83 => ?_)
            · replace h := h.1 c83
              refine And.intro sh_l109 ?_
              refine pm_C_imp h (fun v hi84 h => ?_)
              obtain ⟨rfl, h⟩ := h
              refine ⟨rfl, ?_⟩
              exact h
            · replace h := h.2 c83
              refine And.intro sh_l109 ?_
              refine v_Parser_fail (d := d)  ?_
              refine And.intro (fun c85 => ?_) (fun c85 => ?_)
              · replace h := h.1 c85
                refine ⟨rfl, ?_⟩
                obtain ⟨hi86, ehi86⟩ : ∃ m : pm_B, m = pm_u hi81 109 2 4 := ⟨_, rfl⟩
                replace h := h hi86 ehi86
                rw [← ehi86]
                exact h
              · replace h := h.2 c85
                intro hi87 ehi87
                replace h := h hi87 ehi87
                refine ⟨rfl, ?_⟩
                exact h
          · replace h := h.2 c80
            refine And.intro (fun c88 => ?_) (fun c88 => ?_)
            · replace h := h.1 c88
              refine ⟨_, rfl, ?_⟩
              refine And.intro (sh_sr (sr_lit 8 (by decide))) ?_
              refine pm_C_imp h (fun v hi89 h => ?_)
              obtain ⟨x90, rfl, h⟩ := h
              refine ⟨_, rfl, ?_⟩
              refine And.intro (fun c91 => ?_) (fun c91 => ?_)
              · replace h := h.1 c91
                refine And.intro sh_l109 ?_
                refine pm_C_imp h (fun v hi92 h => ?_)
                obtain ⟨rfl, h⟩ := h
                refine ⟨rfl, ?_⟩
                exact h
              · replace h := h.2 c91
                refine And.intro sh_l109 ?_
                refine v_Parser_fail (d := d)  ?_
                refine And.intro (fun c93 => ?_) (fun c93 => ?_)
                · replace h := h.1 c93
                  refine ⟨rfl, ?_⟩
                  obtain ⟨hi94, ehi94⟩ : ∃ m : pm_B, m = pm_u hi89 109 2 4 := ⟨_, rfl⟩
                  replace h := h hi94 ehi94
                  rw [← ehi94]
                  exact h
                · replace h := h.2 c93
                  intro hi95 ehi95
                  replace h := h hi95 ehi95
                  refine ⟨rfl, ?_⟩
                  exact h
            · replace h := h.2 c88
              obtain ⟨k96, hkk96, hek96, h⟩ := h
              refine ⟨k96, hkk96, hek96, ?_⟩
              refine ⟨_, rfl, ?_⟩
              refine And.intro (sh_sr (sr_lit 8 (by decide))) ?_
              refine pm_C_imp h (fun v hi97 h => ?_)
              obtain ⟨x98, rfl, h⟩ := h
              refine ⟨_, rfl, ?_⟩
              refine And.intro (fun c99 => ?_) (fun c99 => ?_)
              · replace h := h.1 c99
                refine And.intro sh_l109 ?_
                refine pm_C_imp h (fun v hi100 h => ?_)
                obtain ⟨rfl, h⟩ := h
                refine ⟨rfl, ?_⟩
                exact h
              · replace h := h.2 c99
                refine And.intro sh_l109 ?_
                refine v_Parser_fail (d := d)  ?_
                refine And.intro (fun c101 => ?_) (fun c101 => ?_)
                · replace h := h.1 c101
                  refine ⟨rfl, ?_⟩
                  obtain ⟨hi102, ehi102⟩ : ∃ m : pm_B, m = pm_u hi97 109 2 4 := ⟨_, rfl⟩
                  replace h := h hi102 ehi102
                  rw [← ehi102]
                  exact h
                · replace h := h.2 c101
                  intro hi103 ehi103
                  replace h := h hi103 ehi103
                  refine ⟨rfl, ?_⟩
                  exact h
theorem v_Parser_putLeaf {L d : Nat} {p1 : Int32} {hi : pm_B} {Q : pm_Q} (h : ∃ t1 : Nat, pm_tx t1 ∧ (hi 109 1) = nI t1 ∧ ((((hi t1 2) < 0) → ∃ t3 : Nat, pm_tx t3 ∧ (hi 109 1) = nI t3 ∧ (pm_C pm_g (SH L) HR (d + 1) m_Parser_step [.inr 109] (pm_u hi t3 1 ((hi t3 1) + 1)) (fun v hi4 => v = none ∧ (Q none hi4)))) ∧ ((¬ ((hi t1 2) < 0)) → (((hi t1 2) < 96) → ∃ k6 : Nat, k6 < 96 ∧ (hi t1 2) = nI k6 ∧ (∀ hi7 : pm_B, hi7 = pm_u (pm_u hi (t1 + 1) k6 p1) t1 2 (((pm_u hi (t1 + 1) k6 p1) t1 2) + 1) → (∃ t8 : Nat, pm_tx t8 ∧ (hi7 109 1) = nI t8 ∧ (pm_C pm_g (SH L) HR (d + 1) m_Parser_step [.inr 109] (pm_u hi7 t8 1 ((hi7 t8 1) + 1)) (fun v hi9 => v = none ∧ (Q none hi9)))))) ∧ ((¬ ((hi t1 2) < 96)) → ∃ t10 : Nat, pm_tx t10 ∧ (hi 109 1) = nI t10 ∧ (pm_C pm_g (SH L) HR (d + 1) m_Parser_step [.inr 109] (pm_u hi t10 1 ((hi t10 1) + 1)) (fun v hi11 => v = none ∧ (Q none hi11))))))) : pm_C pm_g (SH L) HR (d + 2) m_Parser_putLeaf [.inr 109, .inl p1] hi Q := by
  refine pm_C_of (maxL := 2) (t := pm_t44) rfl (Nat.le_of_ble_eq_true rfl) ?_
  refine pm_W_of 24 [] rfl ?_
  refine And.intro sh_l109 ?_
  obtain ⟨t1, hht1, het1, h⟩ := h
  rw [pm_tn_tx het1 hht1]
  refine And.intro (sh_tx hht1) ?_
  refine v_Text_put (d := d) hht1 ?_
  refine And.intro (fun c2 => ?_) (fun c2 => ?_)
  · replace h := h.1 c2
    refine ⟨rfl, ?_⟩
    refine And.intro sh_l109 ?_
    obtain ⟨t3, hht3, het3, h⟩ := h
    rw [pm_tn_tx het3 hht3]
    refine And.intro (sh_tx hht3) ?_
    refine And.intro ⟨(sh_tx hht3), trivial⟩ ?_
    refine And.intro sh_l109 ?_
    refine pm_C_imp h (fun v hi4 h => ?_)
    obtain ⟨rfl, h⟩ := h
    refine ⟨rfl, ?_⟩
    exact h
  · replace h := h.2 c2
    refine And.intro (fun c5 => ?_) (fun c5 => ?_)
    · replace h := h.1 c5
      obtain ⟨k6, hkk6, hek6, h⟩ := h
      refine ⟨k6, hkk6, hek6, ?_⟩
      intro hi7 ehi7
      replace h := h hi7 ehi7
      refine ⟨rfl, ?_⟩
      refine And.intro sh_l109 ?_
      obtain ⟨t8, hht8, het8, h⟩ := h
      rw [pm_tn_tx het8 hht8]
      refine And.intro (sh_tx hht8) ?_
      refine And.intro ⟨(sh_tx hht8), trivial⟩ ?_
      refine And.intro sh_l109 ?_
      refine pm_C_imp h (fun v hi9 h => ?_)
      obtain ⟨rfl, h⟩ := h
      refine ⟨rfl, ?_⟩
      exact h
    · replace h := h.2 c5
      refine ⟨rfl, ?_⟩
      refine And.intro sh_l109 ?_
      obtain ⟨t10, hht10, het10, h⟩ := h
      rw [pm_tn_tx het10 hht10]
      refine And.intro (sh_tx hht10) ?_
      refine And.intro ⟨(sh_tx hht10), trivial⟩ ?_
      refine And.intro sh_l109 ?_
      refine pm_C_imp h (fun v hi11 h => ?_)
      obtain ⟨rfl, h⟩ := h
      refine ⟨rfl, ?_⟩
      exact h
theorem v_Parser_readNot {L d : Nat}  {hi : pm_B} {Q : pm_Q} (h : (((hi 109 6) < 8) → pm_C pm_g (SH L) HR (d + 1) m_Parser_step [.inr 109] (pm_u hi 109 6 ((hi 109 6) + 1)) (fun v hi2 => v = none ∧ (pm_C pm_g (SH L) HR (d + 1) m_Parser_readPiece [.inr 109] hi2 (fun v hi3 => v = none ∧ (∃ t4 : Nat, pm_tx t4 ∧ (hi3 109 1) = nI t4 ∧ ((((hi3 t4 2) < 0) → Q none (pm_u hi3 109 6 ((hi3 109 6) - 1))) ∧ ((¬ ((hi3 t4 2) < 0)) → (((hi3 t4 2) < 96) → ∃ k7 : Nat, k7 < 96 ∧ (hi3 t4 2) = nI k7 ∧ (∀ hi8 : pm_B, hi8 = pm_u (pm_u hi3 (t4 + 1) k7 (-33)) t4 2 (((pm_u hi3 (t4 + 1) k7 (-33)) t4 2) + 1) → (Q none (pm_u hi8 109 6 ((hi8 109 6) - 1))))) ∧ ((¬ ((hi3 t4 2) < 96)) → Q none (pm_u hi3 109 6 ((hi3 109 6) - 1)))))))))) ∧ ((¬ ((hi 109 6) < 8)) → ((¬ (hi 109 7) = (-1000000005)) → ∀ hi10 : pm_B, hi10 = pm_u hi 109 2 4 → (Q none hi10)) ∧ ((¬ (¬ (hi 109 7) = (-1000000005))) → ∀ hi11 : pm_B, hi11 = pm_u (pm_u hi 109 7 (hi 109 3)) 109 2 4 → (Q none hi11)))) : pm_C pm_g (SH L) HR (d + 2) m_Parser_readNot [.inr 109] hi Q := by
  refine pm_C_of (maxL := 1) (t := pm_t45) rfl (Nat.le_of_ble_eq_true rfl) ?_
  refine pm_W_of 27 [] rfl ?_
  refine And.intro sh_l109 ?_
  refine And.intro (fun c1 => ?_) (fun c1 => ?_)
  · replace h := h.1 c1
    refine And.intro sh_l109 ?_
    refine And.intro ⟨sh_l109, trivial⟩ ?_
    refine And.intro sh_l109 ?_
    refine pm_C_imp h (fun v hi2 h => ?_)
    obtain ⟨rfl, h⟩ := h
    refine ⟨rfl, ?_⟩
    refine And.intro sh_l109 ?_
    refine pm_C_imp h (fun v hi3 h => ?_)
    obtain ⟨rfl, h⟩ := h
    refine ⟨rfl, ?_⟩
    refine And.intro sh_l109 ?_
    obtain ⟨t4, hht4, het4, h⟩ := h
    rw [pm_tn_tx het4 hht4]
    refine And.intro (sh_tx hht4) ?_
    refine v_Text_put (d := d) hht4 ?_
    refine And.intro (fun c5 => ?_) (fun c5 => ?_)
    · replace h := h.1 c5
      refine ⟨rfl, ?_⟩
      refine And.intro sh_l109 ?_
      refine And.intro ⟨sh_l109, trivial⟩ ?_
      exact h
    · replace h := h.2 c5
      refine And.intro (fun c6 => ?_) (fun c6 => ?_)
      · replace h := h.1 c6
        obtain ⟨k7, hkk7, hek7, h⟩ := h
        refine ⟨k7, hkk7, hek7, ?_⟩
        intro hi8 ehi8
        replace h := h hi8 ehi8
        refine ⟨rfl, ?_⟩
        refine And.intro sh_l109 ?_
        refine And.intro ⟨sh_l109, trivial⟩ ?_
        exact h
      · replace h := h.2 c6
        refine ⟨rfl, ?_⟩
        refine And.intro sh_l109 ?_
        refine And.intro ⟨sh_l109, trivial⟩ ?_
        exact h
  · replace h := h.2 c1
    refine And.intro sh_l109 ?_
    refine v_Parser_fail (d := d)  ?_
    refine And.intro (fun c9 => ?_) (fun c9 => ?_)
    · replace h := h.1 c9
      refine ⟨rfl, ?_⟩
      obtain ⟨hi10, ehi10⟩ : ∃ m : pm_B, m = pm_u hi 109 2 4 := ⟨_, rfl⟩
      replace h := h hi10 ehi10
      rw [← ehi10]
      exact h
    · replace h := h.2 c9
      intro hi11 ehi11
      replace h := h hi11 ehi11
      refine ⟨rfl, ?_⟩
      exact h
theorem v_Parser_readBrackets {L d : Nat}  {hi : pm_B} {Q : pm_Q} (h : (((hi 109 5) < 8) → pm_C pm_g (SH L) HR (d + 1) m_Parser_step [.inr 109] (pm_u hi 109 5 ((hi 109 5) + 1)) (fun v hi2 => v = none ∧ (pm_C pm_g (SH L) HR (d + 1) m_Parser_readOr [.inr 109] hi2 (fun v hi3 => v = none ∧ (pm_C pm_g (SH L) HR (d + 1) m_Parser_isSign [.inr 109, .inl 41] hi3 (fun v hi4 => ∃ x5 : Int32, v = some (.inl x5) ∧ (((x5 = 0) → ((¬ (hi4 109 7) = (-1000000005)) → ∀ hi8 : pm_B, hi8 = pm_u hi4 109 2 4 → (Q none (pm_u hi8 109 5 ((hi8 109 5) - 1)))) ∧ ((¬ (¬ (hi4 109 7) = (-1000000005))) → ∀ hi9 : pm_B, hi9 = pm_u (pm_u hi4 109 7 (hi4 109 3)) 109 2 4 → (Q none (pm_u hi9 109 5 ((hi9 109 5) - 1))))) ∧ ((¬ (x5 = 0)) → pm_C pm_g (SH L) HR (d + 1) m_Parser_step [.inr 109] hi4 (fun v hi10 => v = none ∧ (Q none (pm_u hi10 109 5 ((hi10 109 5) - 1)))))))))))) ∧ ((¬ ((hi 109 5) < 8)) → ((¬ (hi 109 7) = (-1000000005)) → ∀ hi12 : pm_B, hi12 = pm_u hi 109 2 4 → (Q none hi12)) ∧ ((¬ (¬ (hi 109 7) = (-1000000005))) → ∀ hi13 : pm_B, hi13 = pm_u (pm_u hi 109 7 (hi 109 3)) 109 2 4 → (Q none hi13)))) : pm_C pm_g (SH L) HR (d + 2) m_Parser_readBrackets [.inr 109] hi Q := by
  refine pm_C_of (maxL := 1) (t := pm_t46) rfl (Nat.le_of_ble_eq_true rfl) ?_
  refine pm_W_of 30 [] rfl ?_
  refine And.intro sh_l109 ?_
  refine And.intro (fun c1 => ?_) (fun c1 => ?_)
  · replace h := h.1 c1
    refine And.intro sh_l109 ?_
    refine And.intro ⟨sh_l109, trivial⟩ ?_
    refine And.intro sh_l109 ?_
    refine pm_C_imp h (fun v hi2 h => ?_)
    obtain ⟨rfl, h⟩ := h
    refine ⟨rfl, ?_⟩
    refine And.intro sh_l109 ?_
    refine pm_C_imp h (fun v hi3 h => ?_)
    obtain ⟨rfl, h⟩ := h
    refine ⟨rfl, ?_⟩
    refine And.intro sh_l109 ?_
    refine pm_C_imp h (fun v hi4 h => ?_)
    obtain ⟨x5, rfl, h⟩ := h
    refine ⟨_, rfl, ?_⟩
    refine And.intro (fun c6 => ?_) (fun c6 => ?_)
    · replace h := h.1 c6
      refine And.intro sh_l109 ?_
      refine v_Parser_fail (d := d)  ?_
      refine And.intro (fun c7 => ?_) (fun c7 => ?_)
      · replace h := h.1 c7
        refine ⟨rfl, ?_⟩
        obtain ⟨hi8, ehi8⟩ : ∃ m : pm_B, m = pm_u hi4 109 2 4 := ⟨_, rfl⟩
        replace h := h hi8 ehi8
        rw [← ehi8]
        refine And.intro sh_l109 ?_
        refine And.intro ⟨sh_l109, trivial⟩ ?_
        exact h
      · replace h := h.2 c7
        intro hi9 ehi9
        replace h := h hi9 ehi9
        refine ⟨rfl, ?_⟩
        refine And.intro sh_l109 ?_
        refine And.intro ⟨sh_l109, trivial⟩ ?_
        exact h
    · replace h := h.2 c6
      refine And.intro sh_l109 ?_
      refine pm_C_imp h (fun v hi10 h => ?_)
      obtain ⟨rfl, h⟩ := h
      refine ⟨rfl, ?_⟩
      refine And.intro sh_l109 ?_
      refine And.intro ⟨sh_l109, trivial⟩ ?_
      exact h
  · replace h := h.2 c1
    refine And.intro sh_l109 ?_
    refine v_Parser_fail (d := d)  ?_
    refine And.intro (fun c11 => ?_) (fun c11 => ?_)
    · replace h := h.1 c11
      refine ⟨rfl, ?_⟩
      obtain ⟨hi12, ehi12⟩ : ∃ m : pm_B, m = pm_u hi 109 2 4 := ⟨_, rfl⟩
      replace h := h hi12 ehi12
      rw [← ehi12]
      exact h
    · replace h := h.2 c11
      intro hi13 ehi13
      replace h := h hi13 ehi13
      refine ⟨rfl, ?_⟩
      exact h
theorem v_Saying_read {L d : Nat} {p1 : Nat} (h_p1 : pm_st p1) {hi : pm_B} {Q : pm_Q} (h : pm_W pm_g (SH L) HR (d + 1) pm_t48 7 [some (.inr 137), some (.inr p1), some (.inl 0)] [] (pm_u hi 137 1 0) Q) : pm_C pm_g (SH L) HR (d + 2) m_Saying_read [.inr 137, .inr p1] hi Q := by
  refine pm_C_of (maxL := 3) (t := pm_t48) rfl (Nat.le_of_ble_eq_true rfl) ?_
  refine pm_W_of 7 [7] rfl ?_
  refine And.intro ⟨sh_l137, trivial⟩ ?_
  exact h
theorem v_Saying_read_7 {L d : Nat}  {p1 : Nat} (h_p1 : pm_st p1) {y2 : Int32} {hi : pm_B} {Q : pm_Q} (h : ((12 ≤ y2) → Q none hi) ∧ ((¬ (12 ≤ y2)) → ((y2 < 0) → Q none hi) ∧ ((¬ (y2 < 0)) → (((hi p1 1) ≤ y2) → Q none hi) ∧ ((¬ ((hi p1 1) ≤ y2)) → ((24 ≤ y2) → Q none hi) ∧ ((¬ (24 ≤ y2)) → ∃ k5 : Nat, k5 < 24 ∧ y2 = nI k5 ∧ ((((hi (p1 + 1) k5) < 0) → Q none hi) ∧ ((¬ ((hi (p1 + 1) k5) < 0)) → ((20 ≤ (hi (p1 + 1) k5)) → Q none hi) ∧ ((¬ (20 ≤ (hi (p1 + 1) k5))) → ∃ k8 : Nat, k8 < 24 ∧ y2 = nI k8 ∧ (∃ k9 : Nat, k9 < 12 ∧ y2 = nI k9 ∧ (∀ hi10 : pm_B, hi10 = pm_u (pm_u hi 138 k9 (hi (p1 + 1) k8)) 137 1 (((pm_u hi 138 k9 (hi (p1 + 1) k8)) 137 1) + 1) → (pm_W pm_g (SH L) HR (d + 1) pm_t48 7 [some (.inr 137), some (.inr p1), some (.inl (y2 + 1))] [] hi10 Q))))))))))) : pm_W pm_g (SH L) HR (d + 1) pm_t48 7 [some (.inr 137), some (.inr p1), some (.inl y2)] [] hi Q := by
  refine pm_W_of 33 [7] rfl ?_
  refine And.intro sh_l137 ?_
  rw [hr_137_0]
  refine ⟨12, ⟨0, _, sh_l138⟩, ?_⟩
  rw [show nI 12 = (12 : Int32) from rfl]
  refine And.intro (fun c1 => ?_) (fun c1 => ?_)
  · replace h := h.1 c1
    exact h
  · replace h := h.2 c1
    refine And.intro (sh_st h_p1) ?_
    refine v_Sheet_hasPlace (d := d) h_p1 ?_
    refine And.intro (fun c2 => ?_) (fun c2 => ?_)
    · replace h := h.1 c2
      refine ⟨_, rfl, ?_⟩
      refine And.intro (fun _ => ?_) (fun hc => absurd (pm_cd_t (by decide)) hc)
      exact h
    · replace h := h.2 c2
      refine And.intro (fun c3 => ?_) (fun c3 => ?_)
      · replace h := h.1 c3
        refine ⟨_, rfl, ?_⟩
        refine And.intro (fun _ => ?_) (fun hc => absurd (pm_cd_t (by decide)) hc)
        exact h
      · replace h := h.2 c3
        refine And.intro (fun c4 => ?_) (fun c4 => ?_)
        · replace h := h.1 c4
          refine ⟨_, rfl, ?_⟩
          refine And.intro (fun _ => ?_) (fun hc => absurd (pm_cd_t (by decide)) hc)
          exact h
        · replace h := h.2 c4
          refine ⟨_, rfl, ?_⟩
          refine And.intro (fun hc => absurd hc (pm_cd_f (by decide))) (fun _ => ?_)
          refine And.intro (sh_st h_p1) ?_
          rw [(hr_st h_p1)]
          obtain ⟨k5, hkk5, hek5, h⟩ := h
          refine And.intro (pm_ao_of (t := 0) (sh_st1 h_p1) hkk5 hek5 (by decide)) ?_
          rw [pm_tn hek5 hkk5 (by decide)]
          refine And.intro trivial ?_
          refine v_E_isWord (d := d)  ?_
          refine And.intro (fun c6 => ?_) (fun c6 => ?_)
          · replace h := h.1 c6
            refine ⟨_, rfl, ?_⟩
            refine And.intro (fun _ => ?_) (fun hc => absurd (pm_cd_t (by decide)) hc)
            exact h
          · replace h := h.2 c6
            refine And.intro (fun c7 => ?_) (fun c7 => ?_)
            · replace h := h.1 c7
              refine ⟨_, rfl, ?_⟩
              refine And.intro (fun _ => ?_) (fun hc => absurd (pm_cd_t (by decide)) hc)
              exact h
            · replace h := h.2 c7
              refine ⟨_, rfl, ?_⟩
              refine And.intro (fun hc => absurd hc (pm_cd_f (by decide))) (fun _ => ?_)
              refine And.intro sh_l137 ?_
              rw [hr_137_0]
              refine And.intro (sh_st h_p1) ?_
              rw [(hr_st h_p1)]
              obtain ⟨k8, hkk8, hek8, h⟩ := h
              refine And.intro (pm_ao_of (t := 0) (sh_st1 h_p1) hkk8 hek8 (by decide)) ?_
              rw [pm_tn hek8 hkk8 (by decide)]
              obtain ⟨k9, hkk9, hek9, h⟩ := h
              refine And.intro ⟨pm_aw_of sh_l138 hkk9 hek9 (by decide), trivial⟩ ?_
              rw [pm_tn hek9 hkk9 (by decide)]
              refine And.intro sh_l137 ?_
              refine And.intro ⟨sh_l137, trivial⟩ ?_
              obtain ⟨hi10, ehi10⟩ : ∃ m : pm_B, m = pm_u (pm_u hi 138 k9 (hi (p1 + 1) k8)) 137 1 (((pm_u hi 138 k9 (hi (p1 + 1) k8)) 137 1) + 1) := ⟨_, rfl⟩
              replace h := h hi10 ehi10
              rw [← ehi10]
              exact h
theorem v_Saying_firstOutside {L d : Nat} {p1 : Int32} {hi : pm_B} {Q : pm_Q} (h : pm_W pm_g (SH L) HR (d) pm_t49 2 [some (.inr 137), some (.inl p1), some (.inl 0)] [] hi Q) : pm_C pm_g (SH L) HR (d + 1) m_Saying_firstOutside [.inr 137, .inl p1] hi Q := by
  refine pm_C_of (maxL := 3) (t := pm_t49) rfl (Nat.le_of_ble_eq_true rfl) ?_
  refine pm_W_of 4 [2] rfl ?_
  exact h
theorem v_Saying_firstOutside_2 {L d : Nat}  {p1 : Int32} {y2 : Int32} {hi : pm_B} {Q : pm_Q} (h : (((hi 137 1) ≤ y2) → Q (some (.inl (-1000000005))) hi) ∧ ((¬ ((hi 137 1) ≤ y2)) → ((12 ≤ y2) → Q (some (.inl (-1000000005))) hi) ∧ ((¬ (12 ≤ y2)) → ∃ k3 : Nat, k3 < 12 ∧ y2 = nI k3 ∧ (((¬ (((Int32.toUInt32 p1 >>> (Int32.toUInt32 (hi 138 k3) &&& Int32.toUInt32 31)).toInt32) &&& 1) = 0) → pm_W pm_g (SH L) HR (d) pm_t49 2 [some (.inr 137), some (.inl p1), some (.inl (y2 + 1))] [] hi Q) ∧ ((¬ (¬ (((Int32.toUInt32 p1 >>> (Int32.toUInt32 (hi 138 k3) &&& Int32.toUInt32 31)).toInt32) &&& 1) = 0)) → ∃ k5 : Nat, k5 < 12 ∧ y2 = nI k5 ∧ (Q (some (.inl (hi 138 k5))) hi)))))) : pm_W pm_g (SH L) HR (d) pm_t49 2 [some (.inr 137), some (.inl p1), some (.inl y2)] [] hi Q := by
  refine pm_W_of 25 [2] rfl ?_
  refine And.intro sh_l137 ?_
  refine And.intro (fun c1 => ?_) (fun c1 => ?_)
  · replace h := h.1 c1
    refine And.intro trivial ?_
    exact h
  · replace h := h.2 c1
    refine And.intro sh_l137 ?_
    rw [hr_137_0]
    refine ⟨12, ⟨0, _, sh_l138⟩, ?_⟩
    rw [show nI 12 = (12 : Int32) from rfl]
    refine And.intro (fun c2 => ?_) (fun c2 => ?_)
    · replace h := h.1 c2
      refine And.intro trivial ?_
      exact h
    · replace h := h.2 c2
      refine And.intro sh_l137 ?_
      rw [hr_137_0]
      obtain ⟨k3, hkk3, hek3, h⟩ := h
      refine And.intro (pm_ao_of (t := 0) sh_l138 hkk3 hek3 (by decide)) ?_
      rw [pm_tn hek3 hkk3 (by decide)]
      refine And.intro (fun c4 => ?_) (fun c4 => ?_)
      · replace h := h.1 c4
        exact h
      · replace h := h.2 c4
        refine And.intro sh_l137 ?_
        rw [hr_137_0]
        obtain ⟨k5, hkk5, hek5, h⟩ := h
        refine And.intro (pm_ao_of (t := 0) sh_l138 hkk5 hek5 (by decide)) ?_
        rw [pm_tn hek5 hkk5 (by decide)]
        refine And.intro trivial ?_
        exact h
theorem v_Saying_breathsOf {L d : Nat} {p1 : Nat} (h_p1 : pm_sk p1) {hi : pm_B} {Q : pm_Q} (h : pm_W pm_g (SH L) HR (d + 1) pm_t50 16 [some (.inr 137), some (.inr p1), some (.inl (f_Kinds_goesOf (hi p1 0))), some (.inl 0), some (.inl 0), some (.inl 0), none] [] hi Q) : pm_C pm_g (SH L) HR (d + 2) m_Saying_breathsOf [.inr 137, .inr p1] hi Q := by
  refine pm_C_of (maxL := 7) (t := pm_t50) rfl (Nat.le_of_ble_eq_true rfl) ?_
  refine pm_W_of 12 [16] rfl ?_
  refine And.intro (sh_sk h_p1) ?_
  refine And.intro trivial ?_
  refine f_Kinds_goesOf_c (d := d)  ?_
  refine ⟨_, rfl, ?_⟩
  exact h
theorem v_Saying_breathsOf_16 {L d : Nat} {o6 : Option pm_V} {p1 : Nat} (h_p1 : pm_sk p1) {y2 : Int32} {y3 : Int32} {y4 : Int32} {y5 : Int32} {hi : pm_B} {Q : pm_Q} (h : ((12 ≤ y5) → Q (some (.inl y3)) hi) ∧ ((¬ (12 ≤ y5)) → (((hi 137 1) ≤ y4) → Q (some (.inl y3)) hi) ∧ ((¬ ((hi 137 1) ≤ y4)) → pm_C pm_g (SH L) HR (d + 1) m_Saying_longestPiece [.inr 137, .inr p1, .inl y4, .inl y2] hi (fun v hi3 => ∃ x4 : Int32, v = some (.inl x4) ∧ (((¬ x4 = 0) → pm_W pm_g (SH L) HR (d + 1) pm_t50 16 [some (.inr 137), some (.inr p1), some (.inl y2), some (.inl (y3 + 1)), some (.inl (y4 + x4)), some (.inl (y5 + 1)), some (.inl x4)] [] hi3 Q) ∧ ((¬ (¬ x4 = 0)) → Q (some (.inl (-1000000005))) hi3)))))) : pm_W pm_g (SH L) HR (d + 1) pm_t50 16 [some (.inr 137), some (.inr p1), some (.inl y2), some (.inl y3), some (.inl y4), some (.inl y5), o6] [] hi Q := by
  refine pm_W_of 26 [16] rfl ?_
  refine And.intro sh_l137 ?_
  rw [hr_137_0]
  refine ⟨12, ⟨0, _, sh_l138⟩, ?_⟩
  rw [show nI 12 = (12 : Int32) from rfl]
  refine And.intro (fun c1 => ?_) (fun c1 => ?_)
  · replace h := h.1 c1
    refine And.intro trivial ?_
    exact h
  · replace h := h.2 c1
    refine And.intro sh_l137 ?_
    refine And.intro (fun c2 => ?_) (fun c2 => ?_)
    · replace h := h.1 c2
      refine And.intro trivial ?_
      exact h
    · replace h := h.2 c2
      refine And.intro sh_l137 ?_
      refine pm_C_imp h (fun v hi3 h => ?_)
      obtain ⟨x4, rfl, h⟩ := h
      refine ⟨_, rfl, ?_⟩
      refine And.intro (fun c5 => ?_) (fun c5 => ?_)
      · replace h := h.1 c5
        exact h
      · replace h := h.2 c5
        refine And.intro trivial ?_
        exact h
theorem v_Saying_longestPiece {L d : Nat} {p1 : Nat} (h_p1 : pm_sk p1) {p2 : Int32} {p3 : Int32} {hi : pm_B} {Q : pm_Q} (h : pm_W pm_g (SH L) HR (d) pm_t51 6 [some (.inr 137), some (.inr p1), some (.inl p2), some (.inl p3), some (.inl 0), some (.inl 0)] [] hi Q) : pm_C pm_g (SH L) HR (d + 1) m_Saying_longestPiece [.inr 137, .inr p1, .inl p2, .inl p3] hi Q := by
  refine pm_C_of (maxL := 6) (t := pm_t51) rfl (Nat.le_of_ble_eq_true rfl) ?_
  refine pm_W_of 6 [6] rfl ?_
  exact h
theorem v_Saying_longestPiece_6 {L d : Nat}  {p1 : Nat} (h_p1 : pm_sk p1) {p2 : Int32} {p3 : Int32} {y4 : Int32} {y5 : Int32} {hi : pm_B} {Q : pm_Q} (h : (((hi p1 4) ≤ y5) → Q (some (.inl (if p3 < y4 then p3 else y4))) hi) ∧ ((¬ ((hi p1 4) ≤ y5)) → pm_C pm_g (SH L) HR (d) m_Saying_sameWords [.inr 137, .inr p1, .inl p2, .inl y5] hi (fun v hi2 => ∃ x3 : Int32, v = some (.inl x3) ∧ (pm_W pm_g (SH L) HR (d) pm_t51 6 [some (.inr 137), some (.inr p1), some (.inl p2), some (.inl p3), some (.inl (if y4 < x3 then x3 else y4)), some (.inl (y5 + 1))] [] hi2 Q)))) : pm_W pm_g (SH L) HR (d) pm_t51 6 [some (.inr 137), some (.inr p1), some (.inl p2), some (.inl p3), some (.inl y4), some (.inl y5)] [] hi Q := by
  refine pm_W_of 16 [6] rfl ?_
  refine And.intro (sh_sk h_p1) ?_
  refine And.intro (fun c1 => ?_) (fun c1 => ?_)
  · replace h := h.1 c1
    refine And.intro trivial ?_
    exact h
  · replace h := h.2 c1
    refine And.intro sh_l137 ?_
    refine pm_C_imp h (fun v hi2 h => ?_)
    obtain ⟨x3, rfl, h⟩ := h
    refine ⟨_, rfl, ?_⟩
    exact h
theorem v_Saying_sameWords {L d : Nat} {p1 : Nat} (h_p1 : pm_sk p1) {p2 : Int32} {p3 : Int32} {hi : pm_B} {Q : pm_Q} (h : pm_W pm_g (SH L) HR (d + 1) pm_t52 6 [some (.inr 137), some (.inr p1), some (.inl p2), some (.inl p3), some (.inl 0), some (.inl 0), none] [] hi Q) : pm_C pm_g (SH L) HR (d + 2) m_Saying_sameWords [.inr 137, .inr p1, .inl p2, .inl p3] hi Q := by
  refine pm_C_of (maxL := 7) (t := pm_t52) rfl (Nat.le_of_ble_eq_true rfl) ?_
  refine pm_W_of 6 [6] rfl ?_
  exact h
theorem v_Saying_sameWords_6 {L d : Nat} {o6 : Option pm_V} {p1 : Nat} (h_p1 : pm_sk p1) {p2 : Int32} {p3 : Int32} {y4 : Int32} {y5 : Int32} {hi : pm_B} {Q : pm_Q} (h : ((12 ≤ y5) → Q (some (.inl y4)) hi) ∧ ((¬ (12 ≤ y5)) → (((p2 + y5) < 0) → Q (some (.inl y4)) hi) ∧ ((¬ ((p2 + y5) < 0)) → (((hi 137 1) ≤ (p2 + y5)) → Q (some (.inl y4)) hi) ∧ ((¬ ((hi 137 1) ≤ (p2 + y5))) → (((p2 + y5) < 12) → ∃ k5 : Nat, k5 < 12 ∧ (p2 + y5) = nI k5 ∧ ((((p3 + y5) < 0) → (((hi 138 k5) = (-1000000005)) → pm_W pm_g (SH L) HR (d + 1) pm_t52 6 [some (.inr 137), some (.inr p1), some (.inl p2), some (.inl p3), some (.inl (y4 + 1)), some (.inl (y5 + 1)), some (.inl (p2 + y5))] [] hi Q) ∧ ((¬ ((hi 138 k5) = (-1000000005))) → Q (some (.inl y4)) hi)) ∧ ((¬ ((p3 + y5) < 0)) → (((hi p1 4) ≤ (p3 + y5)) → (((hi 138 k5) = (-1000000005)) → pm_W pm_g (SH L) HR (d + 1) pm_t52 6 [some (.inr 137), some (.inr p1), some (.inl p2), some (.inl p3), some (.inl (y4 + 1)), some (.inl (y5 + 1)), some (.inl (p2 + y5))] [] hi Q) ∧ ((¬ ((hi 138 k5) = (-1000000005))) → Q (some (.inl y4)) hi)) ∧ ((¬ ((hi p1 4) ≤ (p3 + y5))) → ((24 ≤ (p3 + y5)) → (((hi 138 k5) = (-1000000005)) → pm_W pm_g (SH L) HR (d + 1) pm_t52 6 [some (.inr 137), some (.inr p1), some (.inl p2), some (.inl p3), some (.inl (y4 + 1)), some (.inl (y5 + 1)), some (.inl (p2 + y5))] [] hi Q) ∧ ((¬ ((hi 138 k5) = (-1000000005))) → Q (some (.inl y4)) hi)) ∧ ((¬ (24 ≤ (p3 + y5))) → ∃ k12 : Nat, k12 < 24 ∧ (p3 + y5) = nI k12 ∧ ((((hi 138 k5) = (hi (p1 + 1) k12)) → pm_W pm_g (SH L) HR (d + 1) pm_t52 6 [some (.inr 137), some (.inr p1), some (.inl p2), some (.inl p3), some (.inl (y4 + 1)), some (.inl (y5 + 1)), some (.inl (p2 + y5))] [] hi Q) ∧ ((¬ ((hi 138 k5) = (hi (p1 + 1) k12))) → Q (some (.inl y4)) hi))))))) ∧ ((¬ ((p2 + y5) < 12)) → Q (some (.inl y4)) hi))))) : pm_W pm_g (SH L) HR (d + 1) pm_t52 6 [some (.inr 137), some (.inr p1), some (.inl p2), some (.inl p3), some (.inl y4), some (.inl y5), o6] [] hi Q := by
  refine pm_W_of 35 [6] rfl ?_
  refine And.intro sh_l137 ?_
  rw [hr_137_0]
  refine ⟨12, ⟨0, _, sh_l138⟩, ?_⟩
  rw [show nI 12 = (12 : Int32) from rfl]
  refine And.intro (fun c1 => ?_) (fun c1 => ?_)
  · replace h := h.1 c1
    refine And.intro trivial ?_
    exact h
  · replace h := h.2 c1
    refine And.intro (fun c2 => ?_) (fun c2 => ?_)
    · replace h := h.1 c2
      refine And.intro trivial ?_
      exact h
    · replace h := h.2 c2
      refine And.intro sh_l137 ?_
      refine And.intro (fun c3 => ?_) (fun c3 => ?_)
      · replace h := h.1 c3
        refine And.intro trivial ?_
        exact h
      · replace h := h.2 c3
        refine And.intro sh_l137 ?_
        rw [hr_137_0]
        refine ⟨12, ⟨0, _, sh_l138⟩, ?_⟩
        rw [show nI 12 = (12 : Int32) from rfl]
        refine And.intro (fun c4 => ?_) (fun c4 => ?_)
        · replace h := h.1 c4
          refine And.intro sh_l137 ?_
          rw [hr_137_0]
          obtain ⟨k5, hkk5, hek5, h⟩ := h
          refine And.intro (pm_ao_of (t := 0) sh_l138 hkk5 hek5 (by decide)) ?_
          rw [pm_tn hek5 hkk5 (by decide)]
          refine And.intro (sh_sk h_p1) ?_
          refine v_Speaker_wordAt (d := d) h_p1 ?_
          refine And.intro (fun c6 => ?_) (fun c6 => ?_)
          · replace h := h.1 c6
            refine ⟨_, rfl, ?_⟩
            refine And.intro (fun c7 => ?_) (fun c7 => ?_)
            · replace h := h.1 c7
              exact h
            · replace h := h.2 c7
              refine And.intro trivial ?_
              exact h
          · replace h := h.2 c6
            refine And.intro (fun c8 => ?_) (fun c8 => ?_)
            · replace h := h.1 c8
              refine ⟨_, rfl, ?_⟩
              refine And.intro (fun c9 => ?_) (fun c9 => ?_)
              · replace h := h.1 c9
                exact h
              · replace h := h.2 c9
                refine And.intro trivial ?_
                exact h
            · replace h := h.2 c8
              refine And.intro (fun c10 => ?_) (fun c10 => ?_)
              · replace h := h.1 c10
                refine ⟨_, rfl, ?_⟩
                refine And.intro (fun c11 => ?_) (fun c11 => ?_)
                · replace h := h.1 c11
                  exact h
                · replace h := h.2 c11
                  refine And.intro trivial ?_
                  exact h
              · replace h := h.2 c10
                obtain ⟨k12, hkk12, hek12, h⟩ := h
                refine ⟨k12, hkk12, hek12, ?_⟩
                refine ⟨_, rfl, ?_⟩
                refine And.intro (fun c13 => ?_) (fun c13 => ?_)
                · replace h := h.1 c13
                  exact h
                · replace h := h.2 c13
                  refine And.intro trivial ?_
                  exact h
        · replace h := h.2 c4
          refine And.intro trivial ?_
          exact h
theorem v_Sheet_begin {L d : Nat} {this : Nat} (h_this : pm_st this) {p1 : Int32} {p2 : Int32} {hi : pm_B} {Q : pm_Q} (h : ∀ hi1 : pm_B, hi1 = pm_u (pm_u hi this 0 p1) this 1 p2 → (pm_W pm_g (SH L) HR (d) pm_t54 12 [some (.inr this), some (.inl p1), some (.inl p2), some (.inl 0)] [] hi1 Q)) : pm_C pm_g (SH L) HR (d + 1) m_Sheet_begin [.inr this, .inl p1, .inl p2] hi Q := by
  refine pm_C_of (maxL := 4) (t := pm_t54) rfl (Nat.le_of_ble_eq_true rfl) ?_
  refine pm_W_of 10 [12] rfl ?_
  refine And.intro ⟨(sh_st h_this), trivial⟩ ?_
  refine And.intro ⟨(sh_st h_this), trivial⟩ ?_
  obtain ⟨hi1, ehi1⟩ : ∃ m : pm_B, m = pm_u (pm_u hi this 0 p1) this 1 p2 := ⟨_, rfl⟩
  replace h := h hi1 ehi1
  rw [← ehi1]
  exact h
theorem v_Sheet_begin_12 {L d : Nat}  {this : Nat} (h_this : pm_st this) {p1 : Int32} {p2 : Int32} {y3 : Int32} {hi : pm_B} {Q : pm_Q} (h : ((24 ≤ y3) → Q none hi) ∧ ((¬ (24 ≤ y3)) → ∃ k2 : Nat, k2 < 24 ∧ y3 = nI k2 ∧ (pm_W pm_g (SH L) HR (d) pm_t54 12 [some (.inr this), some (.inl p1), some (.inl p2), some (.inl (y3 + 1))] [] (pm_u hi (this + 1) k2 0) Q))) : pm_W pm_g (SH L) HR (d) pm_t54 12 [some (.inr this), some (.inl p1), some (.inl p2), some (.inl y3)] [] hi Q := by
  refine pm_W_of 14 [12] rfl ?_
  refine And.intro (sh_st h_this) ?_
  rw [(hr_st h_this)]
  refine ⟨24, ⟨0, _, (sh_st1 h_this)⟩, ?_⟩
  rw [show nI 24 = (24 : Int32) from rfl]
  refine And.intro (fun c1 => ?_) (fun c1 => ?_)
  · replace h := h.1 c1
    exact h
  · replace h := h.2 c1
    refine And.intro (sh_st h_this) ?_
    rw [(hr_st h_this)]
    obtain ⟨k2, hkk2, hek2, h⟩ := h
    refine And.intro ⟨pm_aw_of (sh_st1 h_this) hkk2 hek2 (by decide), trivial⟩ ?_
    rw [pm_tn hek2 hkk2 (by decide)]
    exact h
theorem v_Sheet_become {L d : Nat} {this : Nat} (h_this : pm_st this) {p1 : Nat} (h_p1 : pm_st p1) {hi : pm_B} {Q : pm_Q} (h : ∀ hi1 : pm_B, hi1 = pm_u (pm_u hi this 0 (hi p1 0)) this 1 ((pm_u hi this 0 (hi p1 0)) p1 1) → (pm_W pm_g (SH L) HR (d) pm_t55 18 [some (.inr this), some (.inr p1), some (.inl 0)] [] hi1 Q)) : pm_C pm_g (SH L) HR (d + 1) m_Sheet_become [.inr this, .inr p1] hi Q := by
  refine pm_C_of (maxL := 3) (t := pm_t55) rfl (Nat.le_of_ble_eq_true rfl) ?_
  refine pm_W_of 12 [18] rfl ?_
  refine And.intro (sh_st h_p1) ?_
  refine And.intro ⟨(sh_st h_this), trivial⟩ ?_
  refine And.intro (sh_st h_p1) ?_
  refine And.intro ⟨(sh_st h_this), trivial⟩ ?_
  obtain ⟨hi1, ehi1⟩ : ∃ m : pm_B, m = pm_u (pm_u hi this 0 (hi p1 0)) this 1 ((pm_u hi this 0 (hi p1 0)) p1 1) := ⟨_, rfl⟩
  replace h := h hi1 ehi1
  rw [← ehi1]
  exact h
theorem v_Sheet_become_18 {L d : Nat}  {this : Nat} (h_this : pm_st this) {p1 : Nat} (h_p1 : pm_st p1) {y2 : Int32} {hi : pm_B} {Q : pm_Q} (h : ((24 ≤ y2) → Q none hi) ∧ ((¬ (24 ≤ y2)) → ∃ k2 : Nat, k2 < 24 ∧ y2 = nI k2 ∧ (∃ k3 : Nat, k3 < 24 ∧ y2 = nI k3 ∧ (pm_W pm_g (SH L) HR (d) pm_t55 18 [some (.inr this), some (.inr p1), some (.inl (y2 + 1))] [] (pm_u hi (this + 1) k3 (hi (p1 + 1) k2)) Q)))) : pm_W pm_g (SH L) HR (d) pm_t55 18 [some (.inr this), some (.inr p1), some (.inl y2)] [] hi Q := by
  refine pm_W_of 17 [18] rfl ?_
  refine And.intro (sh_st h_this) ?_
  rw [(hr_st h_this)]
  refine ⟨24, ⟨0, _, (sh_st1 h_this)⟩, ?_⟩
  rw [show nI 24 = (24 : Int32) from rfl]
  refine And.intro (fun c1 => ?_) (fun c1 => ?_)
  · replace h := h.1 c1
    exact h
  · replace h := h.2 c1
    refine And.intro (sh_st h_this) ?_
    rw [(hr_st h_this)]
    refine And.intro (sh_st h_p1) ?_
    rw [(hr_st h_p1)]
    obtain ⟨k2, hkk2, hek2, h⟩ := h
    refine And.intro (pm_ao_of (t := 0) (sh_st1 h_p1) hkk2 hek2 (by decide)) ?_
    rw [pm_tn hek2 hkk2 (by decide)]
    obtain ⟨k3, hkk3, hek3, h⟩ := h
    refine And.intro ⟨pm_aw_of (sh_st1 h_this) hkk3 hek3 (by decide), trivial⟩ ?_
    rw [pm_tn hek3 hkk3 (by decide)]
    exact h
theorem v_Speaker_become {L d : Nat} {this : Nat} (h_this : pm_sk this) {p1 : Nat} (h_p1 : pm_sk p1) {hi : pm_B} {Q : pm_Q} (h : ∀ hi1 : pm_B, hi1 = pm_u (pm_u hi this 0 (hi p1 0)) this 1 ((pm_u hi this 0 (hi p1 0)) p1 1) → (∀ hi2 : pm_B, hi2 = pm_u (pm_u hi1 this 2 (hi1 p1 2)) this 3 ((pm_u hi1 this 2 (hi1 p1 2)) p1 3) → (pm_W pm_g (SH L) HR (d) pm_t62 42 [some (.inr this), some (.inr p1), some (.inl 0)] [] (pm_u hi2 this 4 (hi2 p1 4)) Q))) : pm_C pm_g (SH L) HR (d + 1) m_Speaker_become [.inr this, .inr p1] hi Q := by
  refine pm_C_of (maxL := 3) (t := pm_t62) rfl (Nat.le_of_ble_eq_true rfl) ?_
  refine pm_W_of 24 [42] rfl ?_
  refine And.intro (sh_sk h_p1) ?_
  refine And.intro ⟨(sh_sk h_this), trivial⟩ ?_
  refine And.intro (sh_sk h_p1) ?_
  refine And.intro ⟨(sh_sk h_this), trivial⟩ ?_
  obtain ⟨hi1, ehi1⟩ : ∃ m : pm_B, m = pm_u (pm_u hi this 0 (hi p1 0)) this 1 ((pm_u hi this 0 (hi p1 0)) p1 1) := ⟨_, rfl⟩
  replace h := h hi1 ehi1
  rw [← ehi1]
  refine And.intro (sh_sk h_p1) ?_
  refine And.intro ⟨(sh_sk h_this), trivial⟩ ?_
  refine And.intro (sh_sk h_p1) ?_
  refine And.intro ⟨(sh_sk h_this), trivial⟩ ?_
  obtain ⟨hi2, ehi2⟩ : ∃ m : pm_B, m = pm_u (pm_u hi1 this 2 (hi1 p1 2)) this 3 ((pm_u hi1 this 2 (hi1 p1 2)) p1 3) := ⟨_, rfl⟩
  replace h := h hi2 ehi2
  rw [← ehi2]
  refine And.intro (sh_sk h_p1) ?_
  refine And.intro ⟨(sh_sk h_this), trivial⟩ ?_
  exact h
theorem v_Speaker_become_42 {L d : Nat}  {this : Nat} (h_this : pm_sk this) {p1 : Nat} (h_p1 : pm_sk p1) {y2 : Int32} {hi : pm_B} {Q : pm_Q} (h : (((hi this 4) ≤ y2) → Q none hi) ∧ ((¬ ((hi this 4) ≤ y2)) → ((24 ≤ y2) → Q none hi) ∧ ((¬ (24 ≤ y2)) → ∃ k3 : Nat, k3 < 24 ∧ y2 = nI k3 ∧ (∃ k4 : Nat, k4 < 24 ∧ y2 = nI k4 ∧ (pm_W pm_g (SH L) HR (d) pm_t62 42 [some (.inr this), some (.inr p1), some (.inl (y2 + 1))] [] (pm_u hi (this + 1) k4 (hi (p1 + 1) k3)) Q))))) : pm_W pm_g (SH L) HR (d) pm_t62 42 [some (.inr this), some (.inr p1), some (.inl y2)] [] hi Q := by
  refine pm_W_of 21 [42] rfl ?_
  refine And.intro (sh_sk h_this) ?_
  refine And.intro (fun c1 => ?_) (fun c1 => ?_)
  · replace h := h.1 c1
    exact h
  · replace h := h.2 c1
    refine And.intro (sh_sk h_this) ?_
    rw [(hr_sk h_this)]
    refine ⟨24, ⟨0, _, (sh_sk1 h_this)⟩, ?_⟩
    rw [show nI 24 = (24 : Int32) from rfl]
    refine And.intro (fun c2 => ?_) (fun c2 => ?_)
    · replace h := h.1 c2
      exact h
    · replace h := h.2 c2
      refine And.intro (sh_sk h_this) ?_
      rw [(hr_sk h_this)]
      refine And.intro (sh_sk h_p1) ?_
      rw [(hr_sk h_p1)]
      obtain ⟨k3, hkk3, hek3, h⟩ := h
      refine And.intro (pm_ao_of (t := 0) (sh_sk1 h_p1) hkk3 hek3 (by decide)) ?_
      rw [pm_tn hek3 hkk3 (by decide)]
      obtain ⟨k4, hkk4, hek4, h⟩ := h
      refine And.intro ⟨pm_aw_of (sh_sk1 h_this) hkk4 hek4 (by decide), trivial⟩ ?_
      rw [pm_tn hek4 hkk4 (by decide)]
      exact h
theorem v_Speaker_wordSet {L d : Nat} {this : Nat} (h_this : pm_sk this) {hi : pm_B} {Q : pm_Q} (h : pm_W pm_g (SH L) HR (d) pm_t64 4 [some (.inr this), some (.inl 0), some (.inl 0)] [] hi Q) : pm_C pm_g (SH L) HR (d + 1) m_Speaker_wordSet [.inr this] hi Q := by
  refine pm_C_of (maxL := 3) (t := pm_t64) rfl (Nat.le_of_ble_eq_true rfl) ?_
  refine pm_W_of 6 [4] rfl ?_
  exact h
theorem v_Speaker_wordSet_4 {L d : Nat}  {this : Nat} (h_this : pm_sk this) {y1 : Int32} {y2 : Int32} {hi : pm_B} {Q : pm_Q} (h : (((hi this 4) ≤ y2) → Q (some (.inl y1)) hi) ∧ ((¬ ((hi this 4) ≤ y2)) → ((24 ≤ y2) → Q (some (.inl y1)) hi) ∧ ((¬ (24 ≤ y2)) → ∃ k3 : Nat, k3 < 24 ∧ y2 = nI k3 ∧ (pm_W pm_g (SH L) HR (d) pm_t64 4 [some (.inr this), some (.inl (y1 ||| (1 <<< ((hi (this + 1) k3) &&& 31)))), some (.inl (y2 + 1))] [] hi Q)))) : pm_W pm_g (SH L) HR (d) pm_t64 4 [some (.inr this), some (.inl y1), some (.inl y2)] [] hi Q := by
  refine pm_W_of 22 [4] rfl ?_
  refine And.intro (sh_sk h_this) ?_
  refine And.intro (fun c1 => ?_) (fun c1 => ?_)
  · replace h := h.1 c1
    refine And.intro trivial ?_
    exact h
  · replace h := h.2 c1
    refine And.intro (sh_sk h_this) ?_
    rw [(hr_sk h_this)]
    refine ⟨24, ⟨0, _, (sh_sk1 h_this)⟩, ?_⟩
    rw [show nI 24 = (24 : Int32) from rfl]
    refine And.intro (fun c2 => ?_) (fun c2 => ?_)
    · replace h := h.1 c2
      refine And.intro trivial ?_
      exact h
    · replace h := h.2 c2
      refine And.intro (sh_sk h_this) ?_
      rw [(hr_sk h_this)]
      obtain ⟨k3, hkk3, hek3, h⟩ := h
      refine And.intro (pm_ao_of (t := 0) (sh_sk1 h_this) hkk3 hek3 (by decide)) ?_
      rw [pm_tn hek3 hkk3 (by decide)]
      exact h
theorem v_Speaker_putBehind {L d : Nat} {this : Nat} (h_this : pm_sk this) {p1 n_p1 : Nat} (h_p1 : (SH L)[p1]? = some (1, 0, n_p1)) (hl_p1 : n_p1 ≤ 2147483648) {p2 : Int32} {p3 : Int32} {hi : pm_B} {Q : pm_Q} (h : pm_W pm_g (SH L) HR (d) pm_t65 3 [some (.inr this), some (.inr p1), some (.inl p2), some (.inl p3), some (.inl 0), none] [] hi Q) : pm_C pm_g (SH L) HR (d + 1) m_Speaker_putBehind [.inr this, .inr p1, .inl p2, .inl p3] hi Q := by
  refine pm_C_of (maxL := 6) (t := pm_t65) rfl (Nat.le_of_ble_eq_true rfl) ?_
  refine pm_W_of 4 [3] rfl ?_
  exact h
theorem v_Speaker_putBehind_3 {L d : Nat} {o5 : Option pm_V} {this : Nat} (h_this : pm_sk this) {p1 n_p1 : Nat} (h_p1 : (SH L)[p1]? = some (1, 0, n_p1)) (hl_p1 : n_p1 ≤ 2147483648) {p2 : Int32} {p3 : Int32} {y4 : Int32} {hi : pm_B} {Q : pm_Q} (h : ((p3 ≤ y4) → Q none hi) ∧ ((¬ (p3 ≤ y4)) → (((p2 + y4) < 0) → Q none hi) ∧ ((¬ ((p2 + y4) < 0)) → (((nI n_p1) ≤ (p2 + y4)) → Q none hi) ∧ ((¬ ((nI n_p1) ≤ (p2 + y4))) → (((hi this 4) < 0) → Q none hi) ∧ ((¬ ((hi this 4) < 0)) → (((hi this 4) < 24) → ∃ k6 : Nat, k6 < n_p1 ∧ (p2 + y4) = nI k6 ∧ (∃ k7 : Nat, k7 < 24 ∧ (hi this 4) = nI k7 ∧ (∀ hi8 : pm_B, hi8 = pm_u (pm_u hi (this + 1) k7 (hi p1 k6)) this 4 (((pm_u hi (this + 1) k7 (hi p1 k6)) this 4) + 1) → (pm_W pm_g (SH L) HR (d) pm_t65 3 [some (.inr this), some (.inr p1), some (.inl p2), some (.inl p3), some (.inl (y4 + 1)), some (.inl (p2 + y4))] [] hi8 Q)))) ∧ ((¬ ((hi this 4) < 24)) → Q none hi)))))) : pm_W pm_g (SH L) HR (d) pm_t65 3 [some (.inr this), some (.inr p1), some (.inl p2), some (.inl p3), some (.inl y4), o5] [] hi Q := by
  refine pm_W_of 40 [3] rfl ?_
  refine And.intro (fun c1 => ?_) (fun c1 => ?_)
  · replace h := h.1 c1
    exact h
  · replace h := h.2 c1
    refine And.intro (fun c2 => ?_) (fun c2 => ?_)
    · replace h := h.1 c2
      exact h
    · replace h := h.2 c2
      refine ⟨n_p1, ⟨0, _, h_p1⟩, ?_⟩
      refine And.intro (fun c3 => ?_) (fun c3 => ?_)
      · replace h := h.1 c3
        exact h
      · replace h := h.2 c3
        refine And.intro (sh_sk h_this) ?_
        refine And.intro (fun c4 => ?_) (fun c4 => ?_)
        · replace h := h.1 c4
          exact h
        · replace h := h.2 c4
          refine And.intro (sh_sk h_this) ?_
          refine And.intro (sh_sk h_this) ?_
          rw [(hr_sk h_this)]
          refine ⟨24, ⟨0, _, (sh_sk1 h_this)⟩, ?_⟩
          rw [show nI 24 = (24 : Int32) from rfl]
          refine And.intro (fun c5 => ?_) (fun c5 => ?_)
          · replace h := h.1 c5
            refine And.intro (sh_sk h_this) ?_
            rw [(hr_sk h_this)]
            refine And.intro (sh_sk h_this) ?_
            obtain ⟨k6, hkk6, hek6, h⟩ := h
            refine And.intro (pm_ao_of (t := 0) h_p1 hkk6 hek6 hl_p1) ?_
            rw [pm_tn hek6 hkk6 hl_p1]
            obtain ⟨k7, hkk7, hek7, h⟩ := h
            refine And.intro ⟨pm_aw_of (sh_sk1 h_this) hkk7 hek7 (by decide), trivial⟩ ?_
            rw [pm_tn hek7 hkk7 (by decide)]
            refine And.intro (sh_sk h_this) ?_
            refine And.intro ⟨(sh_sk h_this), trivial⟩ ?_
            obtain ⟨hi8, ehi8⟩ : ∃ m : pm_B, m = pm_u (pm_u hi (this + 1) k7 (hi p1 k6)) this 4 (((pm_u hi (this + 1) k7 (hi p1 k6)) this 4) + 1) := ⟨_, rfl⟩
            replace h := h hi8 ehi8
            rw [← ehi8]
            exact h
          · replace h := h.2 c5
            exact h
theorem v_Speaker_forgetOldest {L d : Nat} {this : Nat} (h_this : pm_sk this) {p1 : Int32} {hi : pm_B} {Q : pm_Q} (h : ((p1 < 1) → Q none hi) ∧ ((¬ (p1 < 1)) → ((p1 ≤ (hi this 4)) → pm_W pm_g (SH L) HR (d) pm_t66 26 [some (.inr this), some (.inl p1), some (.inl 0)] [] (pm_u hi this 4 ((hi this 4) - p1)) Q) ∧ ((¬ (p1 ≤ (hi this 4))) → Q none hi))) : pm_C pm_g (SH L) HR (d + 1) m_Speaker_forgetOldest [.inr this, .inl p1] hi Q := by
  refine pm_C_of (maxL := 3) (t := pm_t66) rfl (Nat.le_of_ble_eq_true rfl) ?_
  refine pm_W_of 17 [26] rfl ?_
  refine And.intro (fun c1 => ?_) (fun c1 => ?_)
  · replace h := h.1 c1
    exact h
  · replace h := h.2 c1
    refine And.intro (sh_sk h_this) ?_
    refine And.intro (fun c2 => ?_) (fun c2 => ?_)
    · replace h := h.1 c2
      refine And.intro (sh_sk h_this) ?_
      refine And.intro ⟨(sh_sk h_this), trivial⟩ ?_
      exact h
    · replace h := h.2 c2
      exact h
theorem v_Speaker_forgetOldest_26 {L d : Nat}  {this : Nat} (h_this : pm_sk this) {p1 : Int32} {y2 : Int32} {hi : pm_B} {Q : pm_Q} (h : (((hi this 4) ≤ y2) → Q none hi) ∧ ((¬ ((hi this 4) ≤ y2)) → ((24 ≤ (y2 + p1)) → Q none hi) ∧ ((¬ (24 ≤ (y2 + p1))) → ∃ k3 : Nat, k3 < 24 ∧ (y2 + p1) = nI k3 ∧ (∃ k4 : Nat, k4 < 24 ∧ y2 = nI k4 ∧ (pm_W pm_g (SH L) HR (d) pm_t66 26 [some (.inr this), some (.inl p1), some (.inl (y2 + 1))] [] (pm_u hi (this + 1) k4 (hi (this + 1) k3)) Q))))) : pm_W pm_g (SH L) HR (d) pm_t66 26 [some (.inr this), some (.inl p1), some (.inl y2)] [] hi Q := by
  refine pm_W_of 25 [26] rfl ?_
  refine And.intro (sh_sk h_this) ?_
  refine And.intro (fun c1 => ?_) (fun c1 => ?_)
  · replace h := h.1 c1
    exact h
  · replace h := h.2 c1
    refine And.intro (sh_sk h_this) ?_
    rw [(hr_sk h_this)]
    refine ⟨24, ⟨0, _, (sh_sk1 h_this)⟩, ?_⟩
    rw [show nI 24 = (24 : Int32) from rfl]
    refine And.intro (fun c2 => ?_) (fun c2 => ?_)
    · replace h := h.1 c2
      exact h
    · replace h := h.2 c2
      refine And.intro (sh_sk h_this) ?_
      rw [(hr_sk h_this)]
      refine And.intro (sh_sk h_this) ?_
      rw [(hr_sk h_this)]
      obtain ⟨k3, hkk3, hek3, h⟩ := h
      refine And.intro (pm_ao_of (t := 0) (sh_sk1 h_this) hkk3 hek3 (by decide)) ?_
      rw [pm_tn hek3 hkk3 (by decide)]
      obtain ⟨k4, hkk4, hek4, h⟩ := h
      refine And.intro ⟨pm_aw_of (sh_sk1 h_this) hkk4 hek4 (by decide), trivial⟩ ?_
      rw [pm_tn hek4 hkk4 (by decide)]
      exact h
theorem v_Tape_putNumber {L d : Nat} {p1 : Int32} {hi : pm_B} {Q : pm_Q} (h : pm_W pm_g (SH L) HR (d) pm_t68 3 [some (.inr 107), some (.inl p1), some (.inl 24)] [] hi Q) : pm_C pm_g (SH L) HR (d + 1) m_Tape_putNumber [.inr 107, .inl p1] hi Q := by
  refine pm_C_of (maxL := 3) (t := pm_t68) rfl (Nat.le_of_ble_eq_true rfl) ?_
  refine pm_W_of 4 [3] rfl ?_
  exact h
theorem v_Tape_putNumber_3 {L d : Nat}  {p1 : Int32} {y2 : Int32} {hi : pm_B} {Q : pm_Q} (h : ((y2 < 0) → Q none hi) ∧ ((¬ (y2 < 0)) → (((hi 107 1) < 0) → Q none hi) ∧ ((¬ ((hi 107 1) < 0)) → (((hi 107 1) < 96) → ∃ k4 : Nat, k4 < 96 ∧ (hi 107 1) = nI k4 ∧ (∀ hi5 : pm_B, hi5 = pm_u (pm_u hi 108 k4 (((Int32.toUInt32 p1 >>> (Int32.toUInt32 y2 &&& Int32.toUInt32 31)).toInt32) &&& 255)) 107 1 (((pm_u hi 108 k4 (((Int32.toUInt32 p1 >>> (Int32.toUInt32 y2 &&& Int32.toUInt32 31)).toInt32) &&& 255)) 107 1) + 1) → (pm_W pm_g (SH L) HR (d) pm_t68 3 [some (.inr 107), some (.inl p1), some (.inl (y2 + (-8)))] [] hi5 Q))) ∧ ((¬ ((hi 107 1) < 96)) → Q none hi)))) : pm_W pm_g (SH L) HR (d) pm_t68 3 [some (.inr 107), some (.inl p1), some (.inl y2)] [] hi Q := by
  refine pm_W_of 31 [3] rfl ?_
  refine And.intro (fun c1 => ?_) (fun c1 => ?_)
  · replace h := h.1 c1
    exact h
  · replace h := h.2 c1
    refine And.intro sh_l107 ?_
    refine And.intro (fun c2 => ?_) (fun c2 => ?_)
    · replace h := h.1 c2
      exact h
    · replace h := h.2 c2
      refine And.intro sh_l107 ?_
      refine And.intro sh_l107 ?_
      rw [hr_107_0]
      refine ⟨96, ⟨0, _, sh_l108⟩, ?_⟩
      rw [show nI 96 = (96 : Int32) from rfl]
      refine And.intro (fun c3 => ?_) (fun c3 => ?_)
      · replace h := h.1 c3
        refine And.intro sh_l107 ?_
        rw [hr_107_0]
        refine And.intro sh_l107 ?_
        obtain ⟨k4, hkk4, hek4, h⟩ := h
        refine And.intro ⟨pm_aw_of sh_l108 hkk4 hek4 (by decide), trivial⟩ ?_
        rw [pm_tn hek4 hkk4 (by decide)]
        refine And.intro sh_l107 ?_
        refine And.intro ⟨sh_l107, trivial⟩ ?_
        obtain ⟨hi5, ehi5⟩ : ∃ m : pm_B, m = pm_u (pm_u hi 108 k4 (((Int32.toUInt32 p1 >>> (Int32.toUInt32 y2 &&& Int32.toUInt32 31)).toInt32) &&& 255)) 107 1 (((pm_u hi 108 k4 (((Int32.toUInt32 p1 >>> (Int32.toUInt32 y2 &&& Int32.toUInt32 31)).toInt32) &&& 255)) 107 1) + 1) := ⟨_, rfl⟩
        replace h := h hi5 ehi5
        rw [← ehi5]
        exact h
      · replace h := h.2 c3
        exact h
theorem v_Integer_bitCount {L d : Nat} {p1 : Int32} {hi : pm_B} {Q : pm_Q} (h : Q (some (.inl ((((((((p1 - (((Int32.toUInt32 p1 >>> (Int32.toUInt32 1 &&& Int32.toUInt32 31)).toInt32) &&& 1431655765)) &&& 858993459) + (((Int32.toUInt32 (p1 - (((Int32.toUInt32 p1 >>> (Int32.toUInt32 1 &&& Int32.toUInt32 31)).toInt32) &&& 1431655765)) >>> (Int32.toUInt32 2 &&& Int32.toUInt32 31)).toInt32) &&& 858993459)) + ((Int32.toUInt32 (((p1 - (((Int32.toUInt32 p1 >>> (Int32.toUInt32 1 &&& Int32.toUInt32 31)).toInt32) &&& 1431655765)) &&& 858993459) + (((Int32.toUInt32 (p1 - (((Int32.toUInt32 p1 >>> (Int32.toUInt32 1 &&& Int32.toUInt32 31)).toInt32) &&& 1431655765)) >>> (Int32.toUInt32 2 &&& Int32.toUInt32 31)).toInt32) &&& 858993459)) >>> (Int32.toUInt32 4 &&& Int32.toUInt32 31)).toInt32)) &&& 252645135) + ((Int32.toUInt32 (((((p1 - (((Int32.toUInt32 p1 >>> (Int32.toUInt32 1 &&& Int32.toUInt32 31)).toInt32) &&& 1431655765)) &&& 858993459) + (((Int32.toUInt32 (p1 - (((Int32.toUInt32 p1 >>> (Int32.toUInt32 1 &&& Int32.toUInt32 31)).toInt32) &&& 1431655765)) >>> (Int32.toUInt32 2 &&& Int32.toUInt32 31)).toInt32) &&& 858993459)) + ((Int32.toUInt32 (((p1 - (((Int32.toUInt32 p1 >>> (Int32.toUInt32 1 &&& Int32.toUInt32 31)).toInt32) &&& 1431655765)) &&& 858993459) + (((Int32.toUInt32 (p1 - (((Int32.toUInt32 p1 >>> (Int32.toUInt32 1 &&& Int32.toUInt32 31)).toInt32) &&& 1431655765)) >>> (Int32.toUInt32 2 &&& Int32.toUInt32 31)).toInt32) &&& 858993459)) >>> (Int32.toUInt32 4 &&& Int32.toUInt32 31)).toInt32)) &&& 252645135) >>> (Int32.toUInt32 8 &&& Int32.toUInt32 31)).toInt32)) + ((Int32.toUInt32 ((((((p1 - (((Int32.toUInt32 p1 >>> (Int32.toUInt32 1 &&& Int32.toUInt32 31)).toInt32) &&& 1431655765)) &&& 858993459) + (((Int32.toUInt32 (p1 - (((Int32.toUInt32 p1 >>> (Int32.toUInt32 1 &&& Int32.toUInt32 31)).toInt32) &&& 1431655765)) >>> (Int32.toUInt32 2 &&& Int32.toUInt32 31)).toInt32) &&& 858993459)) + ((Int32.toUInt32 (((p1 - (((Int32.toUInt32 p1 >>> (Int32.toUInt32 1 &&& Int32.toUInt32 31)).toInt32) &&& 1431655765)) &&& 858993459) + (((Int32.toUInt32 (p1 - (((Int32.toUInt32 p1 >>> (Int32.toUInt32 1 &&& Int32.toUInt32 31)).toInt32) &&& 1431655765)) >>> (Int32.toUInt32 2 &&& Int32.toUInt32 31)).toInt32) &&& 858993459)) >>> (Int32.toUInt32 4 &&& Int32.toUInt32 31)).toInt32)) &&& 252645135) + ((Int32.toUInt32 (((((p1 - (((Int32.toUInt32 p1 >>> (Int32.toUInt32 1 &&& Int32.toUInt32 31)).toInt32) &&& 1431655765)) &&& 858993459) + (((Int32.toUInt32 (p1 - (((Int32.toUInt32 p1 >>> (Int32.toUInt32 1 &&& Int32.toUInt32 31)).toInt32) &&& 1431655765)) >>> (Int32.toUInt32 2 &&& Int32.toUInt32 31)).toInt32) &&& 858993459)) + ((Int32.toUInt32 (((p1 - (((Int32.toUInt32 p1 >>> (Int32.toUInt32 1 &&& Int32.toUInt32 31)).toInt32) &&& 1431655765)) &&& 858993459) + (((Int32.toUInt32 (p1 - (((Int32.toUInt32 p1 >>> (Int32.toUInt32 1 &&& Int32.toUInt32 31)).toInt32) &&& 1431655765)) >>> (Int32.toUInt32 2 &&& Int32.toUInt32 31)).toInt32) &&& 858993459)) >>> (Int32.toUInt32 4 &&& Int32.toUInt32 31)).toInt32)) &&& 252645135) >>> (Int32.toUInt32 8 &&& Int32.toUInt32 31)).toInt32)) >>> (Int32.toUInt32 16 &&& Int32.toUInt32 31)).toInt32)) &&& 63))) hi) : pm_C pm_g (SH L) HR (d + 1) m_Integer_bitCount [.inl p1] hi Q := by
  refine pm_C_of (maxL := 1) (t := pm_t231) rfl (Nat.le_of_ble_eq_true rfl) ?_
  refine pm_W_of 44 [] rfl ?_
  refine And.intro trivial ?_
  exact h
theorem v_String_indexOf {L d : Nat} {this : Nat} (h_this : pm_sr this) {p1 : Int32} {hi : pm_B} {Q : pm_Q} (h : pm_C pm_g (SH L) HR (d) m_String_indexOf2 [.inr this, .inl p1, .inl 0] hi (fun v hi1 => ∃ x2 : Int32, v = some (.inl x2) ∧ (Q (some (.inl x2)) hi1))) : pm_C pm_g (SH L) HR (d + 1) m_String_indexOf [.inr this, .inl p1] hi Q := by
  refine pm_C_of (maxL := 2) (t := pm_t234) rfl (Nat.le_of_ble_eq_true rfl) ?_
  refine pm_W_of 7 [] rfl ?_
  refine And.intro (sh_sr h_this) ?_
  refine pm_C_imp h (fun v hi1 h => ?_)
  obtain ⟨x2, rfl, h⟩ := h
  refine ⟨_, rfl, ?_⟩
  refine And.intro trivial ?_
  exact h
theorem v_String_indexOf2 {L d : Nat} {this : Nat} (h_this : pm_sr this) {p1 : Int32} {p2 : Int32} {hi : pm_B} {Q : pm_Q} (h : ((¬ (hi this 1) = 0) → pm_fit 1 (hi this 1) ∧ (False)) ∧ ((¬ (¬ (hi this 1) = 0)) → pm_fit 1 (hi this 1) ∧ (pm_C pm_g (SH L) HR (d + 2) m_StringLatin1_indexOf [.inr (this + 6), .inl p1, .inl p2, .inl ((nI (slen this)) >>> ((hi this 1) &&& 31))] hi (fun v hi2 => ∃ x3 : Int32, v = some (.inl x3) ∧ (Q (some (.inl x3)) hi2))))) : pm_C pm_g (SH L) HR (d + 3) m_String_indexOf2 [.inr this, .inl p1, .inl p2] hi Q := by
  refine pm_C_of (maxL := 3) (t := pm_t235) rfl (Nat.le_of_ble_eq_true rfl) ?_
  refine pm_W_of 14 [] rfl ?_
  refine And.intro (sh_sr h_this) ?_
  refine v_String_isLatin1 (d := d + 1) h_this ?_
  refine And.intro (fun c1 => ?_) (fun c1 => ?_)
  · replace h := h.1 c1
    refine ⟨_, rfl, ?_⟩
    refine And.intro (fun _ => ?_) (fun hc => absurd (pm_cd_t (by decide)) hc)
    refine And.intro (sh_sr h_this) ?_
    rw [(hr_sr h_this)]
    refine And.intro (sh_sr h_this) ?_
    refine v_String_length (d := d) h_this ?_
    refine And.intro h.1 ?_
    replace h := h.2
    refine ⟨_, rfl, ?_⟩
    exact h.elim
  · replace h := h.2 c1
    refine ⟨_, rfl, ?_⟩
    refine And.intro (fun hc => absurd hc (pm_cd_f (by decide))) (fun _ => ?_)
    refine And.intro (sh_sr h_this) ?_
    rw [(hr_sr h_this)]
    refine And.intro (sh_sr h_this) ?_
    refine v_String_length (d := d) h_this ?_
    refine And.intro h.1 ?_
    replace h := h.2
    refine ⟨_, rfl, ?_⟩
    refine And.intro trivial ?_
    refine pm_C_imp h (fun v hi2 h => ?_)
    obtain ⟨x3, rfl, h⟩ := h
    refine ⟨_, rfl, ?_⟩
    refine And.intro trivial ?_
    exact h
theorem v_StringLatin1_indexOf {L d : Nat} {p1 n_p1 : Nat} (h_p1 : (SH L)[p1]? = some (2, 1, n_p1)) (hl_p1 : n_p1 ≤ 2147483648) {p2 : Int32} {p3 : Int32} {p4 : Int32} {hi : pm_B} {Q : pm_Q} (h : ((p2 < 0) → Q (some (.inl (-1))) hi) ∧ ((¬ (p2 < 0)) → ((255 < p2) → Q (some (.inl (-1))) hi) ∧ ((¬ (255 < p2)) → (((if p3 < 0 then 0 else p3) < (if (nI n_p1) < p4 then (nI n_p1) else p4)) → pm_C pm_g (SH L) HR (d + 1) m_StringLatin1_indexOfChar [.inr p1, .inl p2, .inl (if p3 < 0 then 0 else p3), .inl (if (nI n_p1) < p4 then (nI n_p1) else p4)] hi (fun v hi4 => ∃ x5 : Int32, v = some (.inl x5) ∧ (Q (some (.inl x5)) hi4))) ∧ ((¬ ((if p3 < 0 then 0 else p3) < (if (nI n_p1) < p4 then (nI n_p1) else p4))) → Q (some (.inl (-1))) hi)))) : pm_C pm_g (SH L) HR (d + 2) m_StringLatin1_indexOf [.inr p1, .inl p2, .inl p3, .inl p4] hi Q := by
  refine pm_C_of (maxL := 4) (t := pm_t242) rfl (Nat.le_of_ble_eq_true rfl) ?_
  refine pm_W_of 23 [] rfl ?_
  refine And.intro trivial ?_
  refine v_StringLatin1_canEncode (d := d)  ?_
  refine And.intro (fun c1 => ?_) (fun c1 => ?_)
  · replace h := h.1 c1
    refine ⟨_, rfl, ?_⟩
    refine And.intro (fun hc => absurd hc (pm_cd_f (by decide))) (fun _ => ?_)
    refine And.intro trivial ?_
    exact h
  · replace h := h.2 c1
    refine And.intro (fun c2 => ?_) (fun c2 => ?_)
    · replace h := h.1 c2
      refine ⟨_, rfl, ?_⟩
      refine And.intro (fun hc => absurd hc (pm_cd_f (by decide))) (fun _ => ?_)
      refine And.intro trivial ?_
      exact h
    · replace h := h.2 c2
      refine ⟨_, rfl, ?_⟩
      refine And.intro (fun _ => ?_) (fun hc => absurd (pm_cd_t (by decide)) hc)
      refine ⟨n_p1, ⟨1, _, h_p1⟩, ?_⟩
      refine And.intro (fun c3 => ?_) (fun c3 => ?_)
      · replace h := h.1 c3
        refine And.intro trivial ?_
        refine pm_C_imp h (fun v hi4 h => ?_)
        obtain ⟨x5, rfl, h⟩ := h
        refine ⟨_, rfl, ?_⟩
        refine And.intro trivial ?_
        exact h
      · replace h := h.2 c3
        refine And.intro trivial ?_
        exact h
theorem v_StringLatin1_indexOfChar {L d : Nat} {p1 n_p1 : Nat} (h_p1 : (SH L)[p1]? = some (2, 1, n_p1)) (hl_p1 : n_p1 ≤ 2147483648) {p2 : Int32} {p3 : Int32} {p4 : Int32} {hi : pm_B} {Q : pm_Q} (h : pm_W pm_g (SH L) HR (d) pm_t243 7 [some (.inr p1), some (.inl p2), some (.inl p3), some (.inl p4), some (.inl (Int32.toInt8 p2).toInt32), some (.inl p3)] [] hi Q) : pm_C pm_g (SH L) HR (d + 1) m_StringLatin1_indexOfChar [.inr p1, .inl p2, .inl p3, .inl p4] hi Q := by
  refine pm_C_of (maxL := 6) (t := pm_t243) rfl (Nat.le_of_ble_eq_true rfl) ?_
  refine pm_W_of 7 [7] rfl ?_
  exact h
theorem v_StringLatin1_indexOfChar_7 {L d : Nat}  {p1 n_p1 : Nat} (h_p1 : (SH L)[p1]? = some (2, 1, n_p1)) (hl_p1 : n_p1 ≤ 2147483648) {p2 : Int32} {p3 : Int32} {p4 : Int32} {y4 : Int32} {y5 : Int32} {hi : pm_B} {Q : pm_Q} (h : ((p4 ≤ y5) → Q (some (.inl (-1))) hi) ∧ ((¬ (p4 ≤ y5)) → ∃ k2 : Nat, k2 < n_p1 ∧ y5 = nI k2 ∧ (((¬ (hi p1 k2) = y4) → pm_W pm_g (SH L) HR (d) pm_t243 7 [some (.inr p1), some (.inl p2), some (.inl p3), some (.inl p4), some (.inl y4), some (.inl (y5 + 1))] [] hi Q) ∧ ((¬ (¬ (hi p1 k2) = y4)) → Q (some (.inl y5)) hi)))) : pm_W pm_g (SH L) HR (d) pm_t243 7 [some (.inr p1), some (.inl p2), some (.inl p3), some (.inl p4), some (.inl y4), some (.inl y5)] [] hi Q := by
  refine pm_W_of 12 [7] rfl ?_
  refine And.intro (fun c1 => ?_) (fun c1 => ?_)
  · replace h := h.1 c1
    refine And.intro trivial ?_
    exact h
  · replace h := h.2 c1
    obtain ⟨k2, hkk2, hek2, h⟩ := h
    refine And.intro (pm_ao_of (t := 1) h_p1 hkk2 hek2 hl_p1) ?_
    rw [pm_tn hek2 hkk2 hl_p1]
    refine And.intro (fun c3 => ?_) (fun c3 => ?_)
    · replace h := h.1 c3
      exact h
    · replace h := h.2 c3
      refine And.intro trivial ?_
      exact h
