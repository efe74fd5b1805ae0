/-! printed by program (wip/whole/vcg.py): small methods, what each needs -/
theorem v_E_isKind {L d : Nat} {p1 : Int32} {hi : pm_B} {Q : pm_Q} (h : ((p1 < 0) → Q (some (.inl 0)) hi) ∧ ((¬ (p1 < 0)) → ((6 ≤ p1) → Q (some (.inl 0)) hi) ∧ ((¬ (6 ≤ p1)) → Q (some (.inl 1)) hi))) : pm_C pm_g (SH L) HR (d + 1) m_E_isKind [.inl p1] hi Q := by
  refine pm_C_of (maxL := 1) (t := pm_t118) rfl (Nat.le_of_ble_eq_true rfl) ?_
  refine pm_W_of 10 [] rfl ?_
  refine And.intro (fun c1 => ?_) (fun c1 => ?_)
  · replace h := h.1 c1
    refine And.intro (Or.inl rfl) ?_
    exact h
  · replace h := h.2 c1
    refine And.intro (fun c2 => ?_) (fun c2 => ?_)
    · replace h := h.1 c2
      refine And.intro (Or.inl rfl) ?_
      exact h
    · replace h := h.2 c2
      refine And.intro (Or.inr rfl) ?_
      exact h
theorem v_E_isEar {L d : Nat} {p1 : Int32} {hi : pm_B} {Q : pm_Q} (h : ((p1 < 1) → Q (some (.inl 0)) hi) ∧ ((¬ (p1 < 1)) → ((9 < p1) → Q (some (.inl 0)) hi) ∧ ((¬ (9 < p1)) → Q (some (.inl 1)) hi))) : pm_C pm_g (SH L) HR (d + 1) m_E_isEar [.inl p1] hi Q := by
  refine pm_C_of (maxL := 1) (t := pm_t119) rfl (Nat.le_of_ble_eq_true rfl) ?_
  refine pm_W_of 11 [] rfl ?_
  refine And.intro (fun c1 => ?_) (fun c1 => ?_)
  · replace h := h.1 c1
    refine And.intro (Or.inl rfl) ?_
    exact h
  · replace h := h.2 c1
    refine And.intro (fun c2 => ?_) (fun c2 => ?_)
    · replace h := h.1 c2
      refine And.intro (Or.inl rfl) ?_
      exact h
    · replace h := h.2 c2
      refine And.intro (Or.inr rfl) ?_
      exact h
theorem v_E_isFame {L d : Nat} {p1 : Int32} {hi : pm_B} {Q : pm_Q} (h : ((p1 < 0) → Q (some (.inl 0)) hi) ∧ ((¬ (p1 < 0)) → ((99 < p1) → Q (some (.inl 0)) hi) ∧ ((¬ (99 < p1)) → Q (some (.inl 1)) hi))) : pm_C pm_g (SH L) HR (d + 1) m_E_isFame [.inl p1] hi Q := by
  refine pm_C_of (maxL := 1) (t := pm_t120) rfl (Nat.le_of_ble_eq_true rfl) ?_
  refine pm_W_of 10 [] rfl ?_
  refine And.intro (fun c1 => ?_) (fun c1 => ?_)
  · replace h := h.1 c1
    refine And.intro (Or.inl rfl) ?_
    exact h
  · replace h := h.2 c1
    refine And.intro (fun c2 => ?_) (fun c2 => ?_)
    · replace h := h.1 c2
      refine And.intro (Or.inl rfl) ?_
      exact h
    · replace h := h.2 c2
      refine And.intro (Or.inr rfl) ?_
      exact h
theorem v_E_isWord {L d : Nat} {p1 : Int32} {hi : pm_B} {Q : pm_Q} (h : ((p1 < 0) → Q (some (.inl 0)) hi) ∧ ((¬ (p1 < 0)) → ((20 ≤ p1) → Q (some (.inl 0)) hi) ∧ ((¬ (20 ≤ p1)) → Q (some (.inl 1)) hi))) : pm_C pm_g (SH L) HR (d + 1) m_E_isWord [.inl p1] hi Q := by
  refine pm_C_of (maxL := 1) (t := pm_t121) rfl (Nat.le_of_ble_eq_true rfl) ?_
  refine pm_W_of 10 [] rfl ?_
  refine And.intro (fun c1 => ?_) (fun c1 => ?_)
  · replace h := h.1 c1
    refine And.intro (Or.inl rfl) ?_
    exact h
  · replace h := h.2 c1
    refine And.intro (fun c2 => ?_) (fun c2 => ?_)
    · replace h := h.1 c2
      refine And.intro (Or.inl rfl) ?_
      exact h
    · replace h := h.2 c2
      refine And.intro (Or.inr rfl) ?_
      exact h
theorem v_E_isWordOrNone {L d : Nat} {p1 : Int32} {hi : pm_B} {Q : pm_Q} (h : ((p1 = (-1)) → Q (some (.inl 1)) hi) ∧ ((¬ (p1 = (-1))) → ((p1 < 0) → Q (some (.inl 0)) hi) ∧ ((¬ (p1 < 0)) → ((20 ≤ p1) → Q (some (.inl 0)) hi) ∧ ((¬ (20 ≤ p1)) → Q (some (.inl 1)) hi)))) : pm_C pm_g (SH L) HR (d + 2) m_E_isWordOrNone [.inl p1] hi Q := by
  refine pm_C_of (maxL := 1) (t := pm_t122) rfl (Nat.le_of_ble_eq_true rfl) ?_
  refine pm_W_of 11 [] rfl ?_
  refine And.intro (fun c1 => ?_) (fun c1 => ?_)
  · replace h := h.1 c1
    refine And.intro (Or.inr rfl) ?_
    exact h
  · replace h := h.2 c1
    refine And.intro trivial ?_
    refine v_E_isWord (d := d)  ?_
    refine And.intro (fun e104 => ?_) (fun e104 => ?_)
    · replace h := h.1 e104
      refine ⟨_, rfl, ?_⟩
      refine And.intro (fun _ => ?_) (fun hc => absurd (pm_cd_t (by decide)) hc)
      refine And.intro (Or.inl rfl) ?_
      exact h
    · replace h := h.2 e104
      refine And.intro (fun e105 => ?_) (fun e105 => ?_)
      · replace h := h.1 e105
        refine ⟨_, rfl, ?_⟩
        refine And.intro (fun _ => ?_) (fun hc => absurd (pm_cd_t (by decide)) hc)
        refine And.intro (Or.inl rfl) ?_
        exact h
      · replace h := h.2 e105
        refine ⟨_, rfl, ?_⟩
        refine And.intro (fun hc => absurd hc (pm_cd_f (by decide))) (fun _ => ?_)
        refine And.intro (Or.inr rfl) ?_
        exact h
theorem v_E_isHeardPlace {L d : Nat} {p1 : Int32} {hi : pm_B} {Q : pm_Q} (h : ((p1 < 0) → Q (some (.inl 0)) hi) ∧ ((¬ (p1 < 0)) → ((12 ≤ p1) → Q (some (.inl 0)) hi) ∧ ((¬ (12 ≤ p1)) → Q (some (.inl 1)) hi))) : pm_C pm_g (SH L) HR (d + 1) m_E_isHeardPlace [.inl p1] hi Q := by
  refine pm_C_of (maxL := 1) (t := pm_t123) rfl (Nat.le_of_ble_eq_true rfl) ?_
  refine pm_W_of 10 [] rfl ?_
  refine And.intro (fun c1 => ?_) (fun c1 => ?_)
  · replace h := h.1 c1
    refine And.intro (Or.inl rfl) ?_
    exact h
  · replace h := h.2 c1
    refine And.intro (fun c2 => ?_) (fun c2 => ?_)
    · replace h := h.1 c2
      refine And.intro (Or.inl rfl) ?_
      exact h
    · replace h := h.2 c2
      refine And.intro (Or.inr rfl) ?_
      exact h
theorem v_E_isZeroOrOne {L d : Nat} {p1 : Int32} {hi : pm_B} {Q : pm_Q} (h : ((p1 = 0) → Q (some (.inl 1)) hi) ∧ ((¬ (p1 = 0)) → ((¬ p1 = 1) → Q (some (.inl 0)) hi) ∧ ((¬ (¬ p1 = 1)) → Q (some (.inl 1)) hi))) : pm_C pm_g (SH L) HR (d + 1) m_E_isZeroOrOne [.inl p1] hi Q := by
  refine pm_C_of (maxL := 1) (t := pm_t124) rfl (Nat.le_of_ble_eq_true rfl) ?_
  refine pm_W_of 10 [] rfl ?_
  refine And.intro (fun c1 => ?_) (fun c1 => ?_)
  · replace h := h.1 c1
    refine And.intro (Or.inr rfl) ?_
    exact h
  · replace h := h.2 c1
    refine And.intro (fun c2 => ?_) (fun c2 => ?_)
    · replace h := h.1 c2
      refine And.intro (Or.inl rfl) ?_
      exact h
    · replace h := h.2 c2
      refine And.intro (Or.inr rfl) ?_
      exact h
theorem v_E_isDays {L d : Nat} {p1 : Int32} {p2 : Int32} {p3 : Int32} {hi : pm_B} {Q : pm_Q} (h : ((p1 < p2) → Q (some (.inl 0)) hi) ∧ ((¬ (p1 < p2)) → ((p3 < p1) → Q (some (.inl 0)) hi) ∧ ((¬ (p3 < p1)) → Q (some (.inl 1)) hi))) : pm_C pm_g (SH L) HR (d + 1) m_E_isDays [.inl p1, .inl p2, .inl p3] hi Q := by
  refine pm_C_of (maxL := 3) (t := pm_t125) rfl (Nat.le_of_ble_eq_true rfl) ?_
  refine pm_W_of 11 [] rfl ?_
  refine And.intro (fun c1 => ?_) (fun c1 => ?_)
  · replace h := h.1 c1
    refine And.intro (Or.inl rfl) ?_
    exact h
  · replace h := h.2 c1
    refine And.intro (fun c2 => ?_) (fun c2 => ?_)
    · replace h := h.1 c2
      refine And.intro (Or.inl rfl) ?_
      exact h
    · replace h := h.2 c2
      refine And.intro (Or.inr rfl) ?_
      exact h
theorem v_E_isSheet {L d : Nat} {p1 : Int32} {hi : pm_B} {Q : pm_Q} (h : ((p1 < 0) → Q (some (.inl 0)) hi) ∧ ((¬ (p1 < 0)) → ((4 ≤ p1) → Q (some (.inl 0)) hi) ∧ ((¬ (4 ≤ p1)) → Q (some (.inl 1)) hi))) : pm_C pm_g (SH L) HR (d + 1) m_E_isSheet [.inl p1] hi Q := by
  refine pm_C_of (maxL := 1) (t := pm_t126) rfl (Nat.le_of_ble_eq_true rfl) ?_
  refine pm_W_of 10 [] rfl ?_
  refine And.intro (fun c1 => ?_) (fun c1 => ?_)
  · replace h := h.1 c1
    refine And.intro (Or.inl rfl) ?_
    exact h
  · replace h := h.2 c1
    refine And.intro (fun c2 => ?_) (fun c2 => ?_)
    · replace h := h.1 c2
      refine And.intro (Or.inl rfl) ?_
      exact h
    · replace h := h.2 c2
      refine And.intro (Or.inr rfl) ?_
      exact h
theorem v_E_isSlot {L d : Nat} {p1 : Int32} {hi : pm_B} {Q : pm_Q} (h : ((p1 < 0) → Q (some (.inl 0)) hi) ∧ ((¬ (p1 < 0)) → ((5 ≤ p1) → Q (some (.inl 0)) hi) ∧ ((¬ (5 ≤ p1)) → Q (some (.inl 1)) hi))) : pm_C pm_g (SH L) HR (d + 1) m_E_isSlot [.inl p1] hi Q := by
  refine pm_C_of (maxL := 1) (t := pm_t127) rfl (Nat.le_of_ble_eq_true rfl) ?_
  refine pm_W_of 10 [] rfl ?_
  refine And.intro (fun c1 => ?_) (fun c1 => ?_)
  · replace h := h.1 c1
    refine And.intro (Or.inl rfl) ?_
    exact h
  · replace h := h.2 c1
    refine And.intro (fun c2 => ?_) (fun c2 => ?_)
    · replace h := h.1 c2
      refine And.intro (Or.inl rfl) ?_
      exact h
    · replace h := h.2 c2
      refine And.intro (Or.inr rfl) ?_
      exact h
theorem v_Folk_hasSpeaker {L d : Nat} {this : Nat} (h_this : pm_fo this) {p1 : Int32} {hi : pm_B} {Q : pm_Q} (h : ((p1 < 0) → Q (some (.inl 0)) hi) ∧ ((¬ (p1 < 0)) → (((hi this 2) ≤ p1) → Q (some (.inl 0)) hi) ∧ ((¬ ((hi this 2) ≤ p1)) → ((8 ≤ p1) → Q (some (.inl 0)) hi) ∧ ((¬ (8 ≤ p1)) → Q (some (.inl 1)) hi)))) : pm_C pm_g (SH L) HR (d + 1) m_Folk_hasSpeaker [.inr this, .inl p1] hi Q := by
  refine pm_C_of (maxL := 2) (t := pm_t2) rfl (Nat.le_of_ble_eq_true rfl) ?_
  refine pm_W_of 16 [] rfl ?_
  refine And.intro (fun c1 => ?_) (fun c1 => ?_)
  · replace h := h.1 c1
    refine And.intro (Or.inl rfl) ?_
    exact h
  · replace h := h.2 c1
    refine And.intro (sh_fo h_this) ?_
    refine And.intro (fun c2 => ?_) (fun c2 => ?_)
    · replace h := h.1 c2
      refine And.intro (Or.inl rfl) ?_
      exact h
    · replace h := h.2 c2
      refine And.intro (sh_fo h_this) ?_
      rw [(hr_fo1 h_this)]
      refine ⟨8, ⟨0, _, (sh_fo1 h_this)⟩, ?_⟩
      rw [show nI 8 = (8 : Int32) from rfl]
      refine And.intro (fun c3 => ?_) (fun c3 => ?_)
      · replace h := h.1 c3
        refine And.intro (Or.inl rfl) ?_
        exact h
      · replace h := h.2 c3
        refine And.intro (Or.inr rfl) ?_
        exact h
theorem v_Folk_hasRoom {L d : Nat} {this : Nat} (h_this : pm_fo this) {hi : pm_B} {Q : pm_Q} (h : (((hi this 2) < 0) → Q (some (.inl 0)) hi) ∧ ((¬ ((hi this 2) < 0)) → ((8 ≤ (hi this 2)) → Q (some (.inl 0)) hi) ∧ ((¬ (8 ≤ (hi this 2))) → Q (some (.inl 1)) hi))) : pm_C pm_g (SH L) HR (d + 1) m_Folk_hasRoom [.inr this] hi Q := by
  refine pm_C_of (maxL := 1) (t := pm_t3) rfl (Nat.le_of_ble_eq_true rfl) ?_
  refine pm_W_of 14 [] rfl ?_
  refine And.intro (sh_fo h_this) ?_
  refine And.intro (fun c1 => ?_) (fun c1 => ?_)
  · replace h := h.1 c1
    refine And.intro (Or.inl rfl) ?_
    exact h
  · replace h := h.2 c1
    refine And.intro (sh_fo h_this) ?_
    refine And.intro (sh_fo h_this) ?_
    rw [(hr_fo1 h_this)]
    refine ⟨8, ⟨0, _, (sh_fo1 h_this)⟩, ?_⟩
    rw [show nI 8 = (8 : Int32) from rfl]
    refine And.intro (fun c2 => ?_) (fun c2 => ?_)
    · replace h := h.1 c2
      refine And.intro (Or.inl rfl) ?_
      exact h
    · replace h := h.2 c2
      refine And.intro (Or.inr rfl) ?_
      exact h
theorem v_Sheet_hasPlace {L d : Nat} {this : Nat} (h_this : pm_st this) {p1 : Int32} {hi : pm_B} {Q : pm_Q} (h : ((p1 < 0) → Q (some (.inl 0)) hi) ∧ ((¬ (p1 < 0)) → (((hi this 1) ≤ p1) → Q (some (.inl 0)) hi) ∧ ((¬ ((hi this 1) ≤ p1)) → ((24 ≤ p1) → Q (some (.inl 0)) hi) ∧ ((¬ (24 ≤ p1)) → Q (some (.inl 1)) hi)))) : pm_C pm_g (SH L) HR (d + 1) m_Sheet_hasPlace [.inr this, .inl p1] hi Q := by
  refine pm_C_of (maxL := 2) (t := pm_t56) rfl (Nat.le_of_ble_eq_true rfl) ?_
  refine pm_W_of 16 [] rfl ?_
  refine And.intro (fun c1 => ?_) (fun c1 => ?_)
  · replace h := h.1 c1
    refine And.intro (Or.inl rfl) ?_
    exact h
  · replace h := h.2 c1
    refine And.intro (sh_st h_this) ?_
    refine And.intro (fun c2 => ?_) (fun c2 => ?_)
    · replace h := h.1 c2
      refine And.intro (Or.inl rfl) ?_
      exact h
    · replace h := h.2 c2
      refine And.intro (sh_st h_this) ?_
      rw [(hr_st h_this)]
      refine ⟨24, ⟨0, _, (sh_st1 h_this)⟩, ?_⟩
      rw [show nI 24 = (24 : Int32) from rfl]
      refine And.intro (fun c3 => ?_) (fun c3 => ?_)
      · replace h := h.1 c3
        refine And.intro (Or.inl rfl) ?_
        exact h
      · replace h := h.2 c3
        refine And.intro (Or.inr rfl) ?_
        exact h
theorem v_Sheet_hasPlaces {L d : Nat} {this : Nat} (h_this : pm_st this) {p1 : Int32} {p2 : Int32} {hi : pm_B} {Q : pm_Q} (h : ((p1 < 0) → Q (some (.inl 0)) hi) ∧ ((¬ (p1 < 0)) → ((p2 < 0) → Q (some (.inl 0)) hi) ∧ ((¬ (p2 < 0)) → (((hi this 1) < p1) → Q (some (.inl 0)) hi) ∧ ((¬ ((hi this 1) < p1)) → ((24 < (hi this 1)) → Q (some (.inl 0)) hi) ∧ ((¬ (24 < (hi this 1))) → ((((hi this 1) - p1) < p2) → Q (some (.inl 0)) hi) ∧ ((¬ (((hi this 1) - p1) < p2)) → Q (some (.inl 1)) hi)))))) : pm_C pm_g (SH L) HR (d + 1) m_Sheet_hasPlaces [.inr this, .inl p1, .inl p2] hi Q := by
  refine pm_C_of (maxL := 3) (t := pm_t57) rfl (Nat.le_of_ble_eq_true rfl) ?_
  refine pm_W_of 25 [] rfl ?_
  refine And.intro (fun c1 => ?_) (fun c1 => ?_)
  · replace h := h.1 c1
    refine And.intro (Or.inl rfl) ?_
    exact h
  · replace h := h.2 c1
    refine And.intro (fun c2 => ?_) (fun c2 => ?_)
    · replace h := h.1 c2
      refine And.intro (Or.inl rfl) ?_
      exact h
    · replace h := h.2 c2
      refine And.intro (sh_st h_this) ?_
      refine And.intro (fun c3 => ?_) (fun c3 => ?_)
      · replace h := h.1 c3
        refine And.intro (Or.inl rfl) ?_
        exact h
      · replace h := h.2 c3
        refine And.intro (sh_st h_this) ?_
        refine And.intro (sh_st h_this) ?_
        rw [(hr_st h_this)]
        refine ⟨24, ⟨0, _, (sh_st1 h_this)⟩, ?_⟩
        rw [show nI 24 = (24 : Int32) from rfl]
        refine And.intro (fun c4 => ?_) (fun c4 => ?_)
        · replace h := h.1 c4
          refine And.intro (Or.inl rfl) ?_
          exact h
        · replace h := h.2 c4
          refine And.intro (sh_st h_this) ?_
          refine And.intro (fun c5 => ?_) (fun c5 => ?_)
          · replace h := h.1 c5
            refine And.intro (Or.inl rfl) ?_
            exact h
          · replace h := h.2 c5
            refine And.intro (Or.inr rfl) ?_
            exact h
theorem v_M_in {L d : Nat} {p1 : Int32} {p2 : Int32} {p3 : Int32} {hi : pm_B} {Q : pm_Q} (h : ((p1 < p2) → Q (some (.inl 0)) hi) ∧ ((¬ (p1 < p2)) → ((p3 < p1) → Q (some (.inl 0)) hi) ∧ ((¬ (p3 < p1)) → Q (some (.inl 1)) hi))) : pm_C pm_g (SH L) HR (d + 1) m_M_in [.inl p1, .inl p2, .inl p3] hi Q := by
  refine pm_C_of (maxL := 3) (t := pm_t136) rfl (Nat.le_of_ble_eq_true rfl) ?_
  refine pm_W_of 11 [] rfl ?_
  refine And.intro (fun c1 => ?_) (fun c1 => ?_)
  · replace h := h.1 c1
    refine And.intro (Or.inl rfl) ?_
    exact h
  · replace h := h.2 c1
    refine And.intro (fun c2 => ?_) (fun c2 => ?_)
    · replace h := h.1 c2
      refine And.intro (Or.inl rfl) ?_
      exact h
    · replace h := h.2 c2
      refine And.intro (Or.inr rfl) ?_
      exact h
theorem v_M_isSpeaker {L d : Nat} {p1 : Int32} {hi : pm_B} {Q : pm_Q} (h : ((p1 < 0) → Q (some (.inl 0)) hi) ∧ ((¬ (p1 < 0)) → ((((hi 142 1) - 1) < p1) → Q (some (.inl 0)) hi) ∧ ((¬ (((hi 142 1) - 1) < p1)) → Q (some (.inl 1)) hi))) : pm_C pm_g (SH L) HR (d + 2) m_M_isSpeaker [.inr 141, .inl p1] hi Q := by
  refine pm_C_of (maxL := 2) (t := pm_t139) rfl (Nat.le_of_ble_eq_true rfl) ?_
  refine pm_W_of 12 [] rfl ?_
  refine And.intro sh_l141 ?_
  rw [hr_141_0]
  refine And.intro (pm_ao_of (t := 0) sh_l142 (by decide : 1 < 1611) (rfl : (1 : Int32) = nI 1) (by decide)) ?_
  rw [pm_tn (rfl : (1 : Int32) = nI 1) (by decide : 1 < 1611) (by decide)]
  refine And.intro trivial ?_
  refine v_M_in (d := d)  ?_
  refine And.intro (fun e103 => ?_) (fun e103 => ?_)
  · replace h := h.1 e103
    refine ⟨_, rfl, ?_⟩
    refine And.intro (Or.inl rfl) ?_
    exact h
  · replace h := h.2 e103
    refine And.intro (fun e104 => ?_) (fun e104 => ?_)
    · replace h := h.1 e104
      refine ⟨_, rfl, ?_⟩
      refine And.intro (Or.inl rfl) ?_
      exact h
    · replace h := h.2 e104
      refine ⟨_, rfl, ?_⟩
      refine And.intro (Or.inr rfl) ?_
      exact h
theorem v_M_isWord {L d : Nat} {p1 : Int32} {hi : pm_B} {Q : pm_Q} (h : ((p1 < 0) → Q (some (.inl 0)) hi) ∧ ((¬ (p1 < 0)) → ((19 < p1) → Q (some (.inl 0)) hi) ∧ ((¬ (19 < p1)) → Q (some (.inl 1)) hi))) : pm_C pm_g (SH L) HR (d + 2) m_M_isWord [.inl p1] hi Q := by
  refine pm_C_of (maxL := 1) (t := pm_t140) rfl (Nat.le_of_ble_eq_true rfl) ?_
  refine pm_W_of 7 [] rfl ?_
  refine And.intro trivial ?_
  refine v_M_in (d := d)  ?_
  refine And.intro (fun e103 => ?_) (fun e103 => ?_)
  · replace h := h.1 e103
    refine ⟨_, rfl, ?_⟩
    refine And.intro (Or.inl rfl) ?_
    exact h
  · replace h := h.2 e103
    refine And.intro (fun e104 => ?_) (fun e104 => ?_)
    · replace h := h.1 e104
      refine ⟨_, rfl, ?_⟩
      refine And.intro (Or.inl rfl) ?_
      exact h
    · replace h := h.2 e104
      refine ⟨_, rfl, ?_⟩
      refine And.intro (Or.inr rfl) ?_
      exact h
theorem v_M_isOf {L d : Nat} {p1 : Int32} {p2 : Int32} {hi : pm_B} {Q : pm_Q} (h : ((¬ p1 = 1) → ((p2 < 0) → Q (some (.inl 0)) hi) ∧ ((¬ (p2 < 0)) → ((99 < p2) → Q (some (.inl 0)) hi) ∧ ((¬ (99 < p2)) → Q (some (.inl 1)) hi))) ∧ ((¬ (¬ p1 = 1)) → ((p2 < 1) → Q (some (.inl 0)) hi) ∧ ((¬ (p2 < 1)) → ((9 < p2) → Q (some (.inl 0)) hi) ∧ ((¬ (9 < p2)) → Q (some (.inl 1)) hi)))) : pm_C pm_g (SH L) HR (d + 2) m_M_isOf [.inl p1, .inl p2] hi Q := by
  refine pm_C_of (maxL := 2) (t := pm_t145) rfl (Nat.le_of_ble_eq_true rfl) ?_
  refine pm_W_of 11 [] rfl ?_
  refine And.intro (fun c1 => ?_) (fun c1 => ?_)
  · replace h := h.1 c1
    refine And.intro trivial ?_
    refine v_M_in (d := d)  ?_
    refine And.intro (fun e104 => ?_) (fun e104 => ?_)
    · replace h := h.1 e104
      refine ⟨_, rfl, ?_⟩
      refine And.intro (Or.inl rfl) ?_
      exact h
    · replace h := h.2 e104
      refine And.intro (fun e105 => ?_) (fun e105 => ?_)
      · replace h := h.1 e105
        refine ⟨_, rfl, ?_⟩
        refine And.intro (Or.inl rfl) ?_
        exact h
      · replace h := h.2 e105
        refine ⟨_, rfl, ?_⟩
        refine And.intro (Or.inr rfl) ?_
        exact h
  · replace h := h.2 c1
    refine And.intro trivial ?_
    refine v_M_in (d := d)  ?_
    refine And.intro (fun e208 => ?_) (fun e208 => ?_)
    · replace h := h.1 e208
      refine ⟨_, rfl, ?_⟩
      refine And.intro (Or.inl rfl) ?_
      exact h
    · replace h := h.2 e208
      refine And.intro (fun e209 => ?_) (fun e209 => ?_)
      · replace h := h.1 e209
        refine ⟨_, rfl, ?_⟩
        refine And.intro (Or.inl rfl) ?_
        exact h
      · replace h := h.2 e209
        refine ⟨_, rfl, ?_⟩
        refine And.intro (Or.inr rfl) ?_
        exact h
theorem v_M_isSheet {L d : Nat} {p1 : Int32} {hi : pm_B} {Q : pm_Q} (h : ((p1 < 0) → Q (some (.inl 0)) hi) ∧ ((¬ (p1 < 0)) → ((3 < p1) → Q (some (.inl 0)) hi) ∧ ((¬ (3 < p1)) → Q (some (.inl 1)) hi))) : pm_C pm_g (SH L) HR (d + 2) m_M_isSheet [.inl p1] hi Q := by
  refine pm_C_of (maxL := 1) (t := pm_t215) rfl (Nat.le_of_ble_eq_true rfl) ?_
  refine pm_W_of 7 [] rfl ?_
  refine And.intro trivial ?_
  refine v_M_in (d := d)  ?_
  refine And.intro (fun e103 => ?_) (fun e103 => ?_)
  · replace h := h.1 e103
    refine ⟨_, rfl, ?_⟩
    refine And.intro (Or.inl rfl) ?_
    exact h
  · replace h := h.2 e103
    refine And.intro (fun e104 => ?_) (fun e104 => ?_)
    · replace h := h.1 e104
      refine ⟨_, rfl, ?_⟩
      refine And.intro (Or.inl rfl) ?_
      exact h
    · replace h := h.2 e104
      refine ⟨_, rfl, ?_⟩
      refine And.intro (Or.inr rfl) ?_
      exact h
theorem v_M_isSlot {L d : Nat} {p1 : Int32} {hi : pm_B} {Q : pm_Q} (h : ((p1 < 0) → Q (some (.inl 0)) hi) ∧ ((¬ (p1 < 0)) → ((4 < p1) → Q (some (.inl 0)) hi) ∧ ((¬ (4 < p1)) → Q (some (.inl 1)) hi))) : pm_C pm_g (SH L) HR (d + 2) m_M_isSlot [.inl p1] hi Q := by
  refine pm_C_of (maxL := 1) (t := pm_t216) rfl (Nat.le_of_ble_eq_true rfl) ?_
  refine pm_W_of 7 [] rfl ?_
  refine And.intro trivial ?_
  refine v_M_in (d := d)  ?_
  refine And.intro (fun e103 => ?_) (fun e103 => ?_)
  · replace h := h.1 e103
    refine ⟨_, rfl, ?_⟩
    refine And.intro (Or.inl rfl) ?_
    exact h
  · replace h := h.2 e103
    refine And.intro (fun e104 => ?_) (fun e104 => ?_)
    · replace h := h.1 e104
      refine ⟨_, rfl, ?_⟩
      refine And.intro (Or.inl rfl) ?_
      exact h
    · replace h := h.2 e104
      refine ⟨_, rfl, ?_⟩
      refine And.intro (Or.inr rfl) ?_
      exact h
theorem v_M_put {L d : Nat} {p1 : Int32} {p2 : Int32} {p3 : Int32} {hi : pm_B} {Q : pm_Q} (h : ∃ k1 : Nat, k1 < 1611 ∧ ((7 + (29 * p1)) + p2) = nI k1 ∧ (Q none (pm_u hi 142 k1 p3))) : pm_C pm_g (SH L) HR (d + 1) m_M_put [.inr 141, .inl p1, .inl p2, .inl p3] hi Q := by
  refine pm_C_of (maxL := 4) (t := pm_t142) rfl (Nat.le_of_ble_eq_true rfl) ?_
  refine pm_W_of 14 [] rfl ?_
  refine And.intro sh_l141 ?_
  rw [hr_141_0]
  obtain ⟨k1, hkk1, hek1, h⟩ := h
  refine And.intro ⟨pm_aw_of sh_l142 hkk1 hek1 (by decide), trivial⟩ ?_
  rw [pm_tn hek1 hkk1 (by decide)]
  exact h
theorem v_M_becomes {L d : Nat} {p1 : Int32} {p2 : Int32} {hi : pm_B} {Q : pm_Q} (h : ∃ k1 : Nat, k1 < 1611 ∧ p1 = nI k1 ∧ (∃ k2 : Nat, k2 < 1611 ∧ p1 = nI k2 ∧ (Q (some (.inl (hi 142 k1))) (pm_u hi 142 k2 p2)))) : pm_C pm_g (SH L) HR (d + 1) m_M_becomes [.inr 141, .inl p1, .inl p2] hi Q := by
  refine pm_C_of (maxL := 4) (t := pm_t143) rfl (Nat.le_of_ble_eq_true rfl) ?_
  refine pm_W_of 14 [] rfl ?_
  refine And.intro sh_l141 ?_
  rw [hr_141_0]
  obtain ⟨k1, hkk1, hek1, h⟩ := h
  refine And.intro (pm_ao_of (t := 0) sh_l142 hkk1 hek1 (by decide)) ?_
  rw [pm_tn hek1 hkk1 (by decide)]
  refine And.intro sh_l141 ?_
  rw [hr_141_0]
  obtain ⟨k2, hkk2, hek2, h⟩ := h
  refine And.intro ⟨pm_aw_of sh_l142 hkk2 hek2 (by decide), trivial⟩ ?_
  rw [pm_tn hek2 hkk2 (by decide)]
  refine And.intro trivial ?_
  exact h
