/-! printed by program (wip/whole/vcg.py): what each method needs -/
theorem v_Parser_parse {L d : Nat} {p1 : Nat} (h_p1 : pm_tx p1) {hi : pm_B} {Q : pm_Q} (h : ∃ t1 : Nat, pm_tx t1 ∧ ((pm_u hi 109 1 (nI p1)) 109 1) = nI t1 ∧ (∀ hi2 : pm_B, hi2 = pm_u (pm_u (pm_u hi 109 1 (nI p1)) t1 0 0) t1 1 0 → (∀ hi3 : pm_B, hi3 = pm_u hi2 t1 2 0 → (∀ hi4 : pm_B, hi4 = pm_u (pm_u hi3 109 2 0) 109 3 0 → (∀ hi5 : pm_B, hi5 = pm_u (pm_u hi4 109 4 0) 109 5 0 → (∀ hi6 : pm_B, hi6 = pm_u (pm_u hi5 109 6 0) 109 7 (-1000000005) → (pm_C pm_g (SH L) HR (d + 1) m_Parser_step [.inr 109] hi6 (fun v hi7 => v = none ∧ (pm_C pm_g (SH L) HR (d + 1) m_Parser_readKey [.inr 109] hi7 (fun v hi8 => v = none ∧ (pm_C pm_g (SH L) HR (d + 1) m_Parser_readOr [.inr 109] hi8 (fun v hi9 => v = none ∧ ((((hi9 109 2) = 0) → Q (some (.inl (hi9 109 7))) hi9) ∧ ((¬ ((hi9 109 2) = 0)) → ((¬ (hi9 109 7) = (-1000000005)) → ∀ hi12 : pm_B, hi12 = pm_u hi9 109 2 4 → (Q (some (.inl (hi12 109 7))) hi12)) ∧ ((¬ (¬ (hi9 109 7) = (-1000000005))) → ∀ hi13 : pm_B, hi13 = pm_u (pm_u hi9 109 7 (hi9 109 3)) 109 2 4 → (Q (some (.inl (hi13 109 7))) hi13)))))))))))))))) : pm_C pm_g (SH L) HR (d + 2) m_Parser_parse [.inr 109, .inr p1] hi Q := by
  refine pm_C_of (maxL := 2) (t := pm_t28) rfl (Nat.le_of_ble_eq_true rfl) ?_
  refine pm_W_of 40 [] rfl ?_
  refine And.intro ⟨sh_l109, (tx_lt h_p1)⟩ ?_
  refine And.intro sh_l109 ?_
  obtain ⟨t1, hht1, het1, h⟩ := h
  rw [pm_tn_tx het1 hht1]
  refine And.intro (sh_tx hht1) ?_
  refine v_Text_begin (d := d) hht1 ?_
  intro hi2 ehi2
  replace h := h hi2 ehi2
  refine ⟨rfl, ?_⟩
  obtain ⟨hi3, ehi3⟩ : ∃ m : pm_B, m = pm_u hi2 t1 2 0 := ⟨_, rfl⟩
  replace h := h hi3 ehi3
  rw [← ehi3]
  refine And.intro ⟨sh_l109, trivial⟩ ?_
  refine And.intro ⟨sh_l109, trivial⟩ ?_
  obtain ⟨hi4, ehi4⟩ : ∃ m : pm_B, m = pm_u (pm_u hi3 109 2 0) 109 3 0 := ⟨_, rfl⟩
  replace h := h hi4 ehi4
  rw [← ehi4]
  refine And.intro ⟨sh_l109, trivial⟩ ?_
  refine And.intro ⟨sh_l109, trivial⟩ ?_
  obtain ⟨hi5, ehi5⟩ : ∃ m : pm_B, m = pm_u (pm_u hi4 109 4 0) 109 5 0 := ⟨_, rfl⟩
  replace h := h hi5 ehi5
  rw [← ehi5]
  refine And.intro ⟨sh_l109, trivial⟩ ?_
  refine And.intro ⟨sh_l109, trivial⟩ ?_
  obtain ⟨hi6, ehi6⟩ : ∃ m : pm_B, m = pm_u (pm_u hi5 109 6 0) 109 7 (-1000000005) := ⟨_, rfl⟩
  replace h := h hi6 ehi6
  rw [← ehi6]
  refine And.intro sh_l109 ?_
  refine pm_C_imp h (fun v hi7 h => ?_)
  obtain ⟨rfl, h⟩ := h
  refine ⟨rfl, ?_⟩
  refine And.intro sh_l109 ?_
  refine pm_C_imp h (fun v hi8 h => ?_)
  obtain ⟨rfl, h⟩ := h
  refine ⟨rfl, ?_⟩
  refine And.intro sh_l109 ?_
  refine pm_C_imp h (fun v hi9 h => ?_)
  obtain ⟨rfl, h⟩ := h
  refine ⟨rfl, ?_⟩
  refine And.intro sh_l109 ?_
  refine And.intro (fun c10 => ?_) (fun c10 => ?_)
  · replace h := h.1 c10
    refine And.intro sh_l109 ?_
    refine And.intro trivial ?_
    exact h
  · replace h := h.2 c10
    refine And.intro sh_l109 ?_
    refine v_Parser_fail (d := d)  ?_
    refine And.intro (fun c11 => ?_) (fun c11 => ?_)
    · replace h := h.1 c11
      refine ⟨rfl, ?_⟩
      obtain ⟨hi12, ehi12⟩ : ∃ m : pm_B, m = pm_u hi9 109 2 4 := ⟨_, rfl⟩
      replace h := h hi12 ehi12
      rw [← ehi12]
      refine And.intro sh_l109 ?_
      refine And.intro trivial ?_
      exact h
    · replace h := h.2 c11
      intro hi13 ehi13
      replace h := h hi13 ehi13
      refine ⟨rfl, ?_⟩
      refine And.intro sh_l109 ?_
      refine And.intro trivial ?_
      exact h
theorem v_Parser_step {L d : Nat}  {hi : pm_B} {Q : pm_Q} (h : (((hi 109 2) = 1) → pm_W pm_g (SH L) HR (d + 1) pm_t30 34 [some (.inr 109), some (.inl 1), some (.inl (hi 109 4)), some (.inl 0)] [] (pm_u hi 109 3 (hi 109 4)) Q) ∧ ((¬ ((hi 109 2) = 1)) → ((¬ (hi 109 2) = 2) → pm_W pm_g (SH L) HR (d + 1) pm_t30 34 [some (.inr 109), some (.inl 0), some (.inl (hi 109 4)), some (.inl 0)] [] (pm_u hi 109 3 (hi 109 4)) Q) ∧ ((¬ (¬ (hi 109 2) = 2)) → pm_W pm_g (SH L) HR (d + 1) pm_t30 34 [some (.inr 109), some (.inl 1), some (.inl (hi 109 4)), some (.inl 0)] [] (pm_u hi 109 3 (hi 109 4)) Q))) : pm_C pm_g (SH L) HR (d + 2) m_Parser_step [.inr 109] hi Q := by
  refine pm_C_of (maxL := 4) (t := pm_t30) rfl (Nat.le_of_ble_eq_true rfl) ?_
  refine pm_W_of 21 [34, 127] rfl ?_
  refine And.intro sh_l109 ?_
  refine And.intro (fun c1 => ?_) (fun c1 => ?_)
  · replace h := h.1 c1
    refine And.intro sh_l109 ?_
    refine And.intro ⟨sh_l109, trivial⟩ ?_
    exact h
  · replace h := h.2 c1
    refine And.intro sh_l109 ?_
    refine And.intro (fun c2 => ?_) (fun c2 => ?_)
    · replace h := h.1 c2
      refine And.intro sh_l109 ?_
      refine And.intro ⟨sh_l109, trivial⟩ ?_
      exact h
    · replace h := h.2 c2
      refine And.intro sh_l109 ?_
      refine And.intro ⟨sh_l109, trivial⟩ ?_
      exact h
theorem v_Parser_step_34 {L d : Nat}  {y1 : Int32} {y2 : Int32} {y3 : Int32} {hi : pm_B} {Q : pm_Q} (h : ((96 ≤ y3) → (((hi 109 3) < 0) → ∀ hi3 : pm_B, hi3 = pm_u (pm_u hi 109 2 (f_Parser_sortOf (-1))) 109 4 ((pm_u hi 109 2 (f_Parser_sortOf (-1))) 109 3) → (((¬ (hi3 109 2) = 0) → ((¬ ((pm_u hi3 109 4 ((hi3 109 4) + 1)) 109 2) = 3) → pm_W pm_g (SH L) HR (d + 1) pm_t30 127 [some (.inr 109), some (.inl y1), some (.inl y2), some (.inl 0)] [] (pm_u hi3 109 4 ((hi3 109 4) + 1)) Q) ∧ ((¬ (¬ ((pm_u hi3 109 4 ((hi3 109 4) + 1)) 109 2) = 3)) → Q none (pm_u hi3 109 4 ((hi3 109 4) + 1)))) ∧ ((¬ (¬ (hi3 109 2) = 0)) → Q none hi3))) ∧ ((¬ ((hi 109 3) < 0)) → (((hi 107 1) ≤ (hi 109 3)) → ∀ hi7 : pm_B, hi7 = pm_u (pm_u hi 109 2 (f_Parser_sortOf (-1))) 109 4 ((pm_u hi 109 2 (f_Parser_sortOf (-1))) 109 3) → (((¬ (hi7 109 2) = 0) → ((¬ ((pm_u hi7 109 4 ((hi7 109 4) + 1)) 109 2) = 3) → pm_W pm_g (SH L) HR (d + 1) pm_t30 127 [some (.inr 109), some (.inl y1), some (.inl y2), some (.inl 0)] [] (pm_u hi7 109 4 ((hi7 109 4) + 1)) Q) ∧ ((¬ (¬ ((pm_u hi7 109 4 ((hi7 109 4) + 1)) 109 2) = 3)) → Q none (pm_u hi7 109 4 ((hi7 109 4) + 1)))) ∧ ((¬ (¬ (hi7 109 2) = 0)) → Q none hi7))) ∧ ((¬ ((hi 107 1) ≤ (hi 109 3))) → ((96 ≤ (hi 109 3)) → ∀ hi11 : pm_B, hi11 = pm_u (pm_u hi 109 2 (f_Parser_sortOf (-1))) 109 4 ((pm_u hi 109 2 (f_Parser_sortOf (-1))) 109 3) → (((¬ (hi11 109 2) = 0) → ((¬ ((pm_u hi11 109 4 ((hi11 109 4) + 1)) 109 2) = 3) → pm_W pm_g (SH L) HR (d + 1) pm_t30 127 [some (.inr 109), some (.inl y1), some (.inl y2), some (.inl 0)] [] (pm_u hi11 109 4 ((hi11 109 4) + 1)) Q) ∧ ((¬ (¬ ((pm_u hi11 109 4 ((hi11 109 4) + 1)) 109 2) = 3)) → Q none (pm_u hi11 109 4 ((hi11 109 4) + 1)))) ∧ ((¬ (¬ (hi11 109 2) = 0)) → Q none hi11))) ∧ ((¬ (96 ≤ (hi 109 3))) → ∃ k14 : Nat, k14 < 96 ∧ (hi 109 3) = nI k14 ∧ (∀ hi15 : pm_B, hi15 = pm_u (pm_u hi 109 2 (f_Parser_sortOf (hi 108 k14))) 109 4 ((pm_u hi 109 2 (f_Parser_sortOf (hi 108 k14))) 109 3) → (((¬ (hi15 109 2) = 0) → ((¬ ((pm_u hi15 109 4 ((hi15 109 4) + 1)) 109 2) = 3) → pm_W pm_g (SH L) HR (d + 1) pm_t30 127 [some (.inr 109), some (.inl y1), some (.inl y2), some (.inl 0)] [] (pm_u hi15 109 4 ((hi15 109 4) + 1)) Q) ∧ ((¬ (¬ ((pm_u hi15 109 4 ((hi15 109 4) + 1)) 109 2) = 3)) → Q none (pm_u hi15 109 4 ((hi15 109 4) + 1)))) ∧ ((¬ (¬ (hi15 109 2) = 0)) → Q none hi15))))))) ∧ ((¬ (96 ≤ y3)) → (((hi 109 3) < 0) → (((hi 109 3) < 0) → ∀ hi20 : pm_B, hi20 = pm_u (pm_u hi 109 2 (f_Parser_sortOf (-1))) 109 4 ((pm_u hi 109 2 (f_Parser_sortOf (-1))) 109 3) → (((¬ (hi20 109 2) = 0) → ((¬ ((pm_u hi20 109 4 ((hi20 109 4) + 1)) 109 2) = 3) → pm_W pm_g (SH L) HR (d + 1) pm_t30 127 [some (.inr 109), some (.inl y1), some (.inl y2), some (.inl 0)] [] (pm_u hi20 109 4 ((hi20 109 4) + 1)) Q) ∧ ((¬ (¬ ((pm_u hi20 109 4 ((hi20 109 4) + 1)) 109 2) = 3)) → Q none (pm_u hi20 109 4 ((hi20 109 4) + 1)))) ∧ ((¬ (¬ (hi20 109 2) = 0)) → Q none hi20))) ∧ ((¬ ((hi 109 3) < 0)) → (((hi 107 1) ≤ (hi 109 3)) → ∀ hi24 : pm_B, hi24 = pm_u (pm_u hi 109 2 (f_Parser_sortOf (-1))) 109 4 ((pm_u hi 109 2 (f_Parser_sortOf (-1))) 109 3) → (((¬ (hi24 109 2) = 0) → ((¬ ((pm_u hi24 109 4 ((hi24 109 4) + 1)) 109 2) = 3) → pm_W pm_g (SH L) HR (d + 1) pm_t30 127 [some (.inr 109), some (.inl y1), some (.inl y2), some (.inl 0)] [] (pm_u hi24 109 4 ((hi24 109 4) + 1)) Q) ∧ ((¬ (¬ ((pm_u hi24 109 4 ((hi24 109 4) + 1)) 109 2) = 3)) → Q none (pm_u hi24 109 4 ((hi24 109 4) + 1)))) ∧ ((¬ (¬ (hi24 109 2) = 0)) → Q none hi24))) ∧ ((¬ ((hi 107 1) ≤ (hi 109 3))) → ((96 ≤ (hi 109 3)) → ∀ hi28 : pm_B, hi28 = pm_u (pm_u hi 109 2 (f_Parser_sortOf (-1))) 109 4 ((pm_u hi 109 2 (f_Parser_sortOf (-1))) 109 3) → (((¬ (hi28 109 2) = 0) → ((¬ ((pm_u hi28 109 4 ((hi28 109 4) + 1)) 109 2) = 3) → pm_W pm_g (SH L) HR (d + 1) pm_t30 127 [some (.inr 109), some (.inl y1), some (.inl y2), some (.inl 0)] [] (pm_u hi28 109 4 ((hi28 109 4) + 1)) Q) ∧ ((¬ (¬ ((pm_u hi28 109 4 ((hi28 109 4) + 1)) 109 2) = 3)) → Q none (pm_u hi28 109 4 ((hi28 109 4) + 1)))) ∧ ((¬ (¬ (hi28 109 2) = 0)) → Q none hi28))) ∧ ((¬ (96 ≤ (hi 109 3))) → ∃ k31 : Nat, k31 < 96 ∧ (hi 109 3) = nI k31 ∧ (∀ hi32 : pm_B, hi32 = pm_u (pm_u hi 109 2 (f_Parser_sortOf (hi 108 k31))) 109 4 ((pm_u hi 109 2 (f_Parser_sortOf (hi 108 k31))) 109 3) → (((¬ (hi32 109 2) = 0) → ((¬ ((pm_u hi32 109 4 ((hi32 109 4) + 1)) 109 2) = 3) → pm_W pm_g (SH L) HR (d + 1) pm_t30 127 [some (.inr 109), some (.inl y1), some (.inl y2), some (.inl 0)] [] (pm_u hi32 109 4 ((hi32 109 4) + 1)) Q) ∧ ((¬ (¬ ((pm_u hi32 109 4 ((hi32 109 4) + 1)) 109 2) = 3)) → Q none (pm_u hi32 109 4 ((hi32 109 4) + 1)))) ∧ ((¬ (¬ (hi32 109 2) = 0)) → Q none hi32))))))) ∧ ((¬ ((hi 109 3) < 0)) → (((hi 107 1) ≤ (hi 109 3)) → (((hi 109 3) < 0) → ∀ hi37 : pm_B, hi37 = pm_u (pm_u hi 109 2 (f_Parser_sortOf (-1))) 109 4 ((pm_u hi 109 2 (f_Parser_sortOf (-1))) 109 3) → (((¬ (hi37 109 2) = 0) → ((¬ ((pm_u hi37 109 4 ((hi37 109 4) + 1)) 109 2) = 3) → pm_W pm_g (SH L) HR (d + 1) pm_t30 127 [some (.inr 109), some (.inl y1), some (.inl y2), some (.inl 0)] [] (pm_u hi37 109 4 ((hi37 109 4) + 1)) Q) ∧ ((¬ (¬ ((pm_u hi37 109 4 ((hi37 109 4) + 1)) 109 2) = 3)) → Q none (pm_u hi37 109 4 ((hi37 109 4) + 1)))) ∧ ((¬ (¬ (hi37 109 2) = 0)) → Q none hi37))) ∧ ((¬ ((hi 109 3) < 0)) → (((hi 107 1) ≤ (hi 109 3)) → ∀ hi41 : pm_B, hi41 = pm_u (pm_u hi 109 2 (f_Parser_sortOf (-1))) 109 4 ((pm_u hi 109 2 (f_Parser_sortOf (-1))) 109 3) → (((¬ (hi41 109 2) = 0) → ((¬ ((pm_u hi41 109 4 ((hi41 109 4) + 1)) 109 2) = 3) → pm_W pm_g (SH L) HR (d + 1) pm_t30 127 [some (.inr 109), some (.inl y1), some (.inl y2), some (.inl 0)] [] (pm_u hi41 109 4 ((hi41 109 4) + 1)) Q) ∧ ((¬ (¬ ((pm_u hi41 109 4 ((hi41 109 4) + 1)) 109 2) = 3)) → Q none (pm_u hi41 109 4 ((hi41 109 4) + 1)))) ∧ ((¬ (¬ (hi41 109 2) = 0)) → Q none hi41))) ∧ ((¬ ((hi 107 1) ≤ (hi 109 3))) → ((96 ≤ (hi 109 3)) → ∀ hi45 : pm_B, hi45 = pm_u (pm_u hi 109 2 (f_Parser_sortOf (-1))) 109 4 ((pm_u hi 109 2 (f_Parser_sortOf (-1))) 109 3) → (((¬ (hi45 109 2) = 0) → ((¬ ((pm_u hi45 109 4 ((hi45 109 4) + 1)) 109 2) = 3) → pm_W pm_g (SH L) HR (d + 1) pm_t30 127 [some (.inr 109), some (.inl y1), some (.inl y2), some (.inl 0)] [] (pm_u hi45 109 4 ((hi45 109 4) + 1)) Q) ∧ ((¬ (¬ ((pm_u hi45 109 4 ((hi45 109 4) + 1)) 109 2) = 3)) → Q none (pm_u hi45 109 4 ((hi45 109 4) + 1)))) ∧ ((¬ (¬ (hi45 109 2) = 0)) → Q none hi45))) ∧ ((¬ (96 ≤ (hi 109 3))) → ∃ k48 : Nat, k48 < 96 ∧ (hi 109 3) = nI k48 ∧ (∀ hi49 : pm_B, hi49 = pm_u (pm_u hi 109 2 (f_Parser_sortOf (hi 108 k48))) 109 4 ((pm_u hi 109 2 (f_Parser_sortOf (hi 108 k48))) 109 3) → (((¬ (hi49 109 2) = 0) → ((¬ ((pm_u hi49 109 4 ((hi49 109 4) + 1)) 109 2) = 3) → pm_W pm_g (SH L) HR (d + 1) pm_t30 127 [some (.inr 109), some (.inl y1), some (.inl y2), some (.inl 0)] [] (pm_u hi49 109 4 ((hi49 109 4) + 1)) Q) ∧ ((¬ (¬ ((pm_u hi49 109 4 ((hi49 109 4) + 1)) 109 2) = 3)) → Q none (pm_u hi49 109 4 ((hi49 109 4) + 1)))) ∧ ((¬ (¬ (hi49 109 2) = 0)) → Q none hi49))))))) ∧ ((¬ ((hi 107 1) ≤ (hi 109 3))) → ((96 ≤ (hi 109 3)) → (((hi 109 3) < 0) → ∀ hi54 : pm_B, hi54 = pm_u (pm_u hi 109 2 (f_Parser_sortOf (-1))) 109 4 ((pm_u hi 109 2 (f_Parser_sortOf (-1))) 109 3) → (((¬ (hi54 109 2) = 0) → ((¬ ((pm_u hi54 109 4 ((hi54 109 4) + 1)) 109 2) = 3) → pm_W pm_g (SH L) HR (d + 1) pm_t30 127 [some (.inr 109), some (.inl y1), some (.inl y2), some (.inl 0)] [] (pm_u hi54 109 4 ((hi54 109 4) + 1)) Q) ∧ ((¬ (¬ ((pm_u hi54 109 4 ((hi54 109 4) + 1)) 109 2) = 3)) → Q none (pm_u hi54 109 4 ((hi54 109 4) + 1)))) ∧ ((¬ (¬ (hi54 109 2) = 0)) → Q none hi54))) ∧ ((¬ ((hi 109 3) < 0)) → (((hi 107 1) ≤ (hi 109 3)) → ∀ hi58 : pm_B, hi58 = pm_u (pm_u hi 109 2 (f_Parser_sortOf (-1))) 109 4 ((pm_u hi 109 2 (f_Parser_sortOf (-1))) 109 3) → (((¬ (hi58 109 2) = 0) → ((¬ ((pm_u hi58 109 4 ((hi58 109 4) + 1)) 109 2) = 3) → pm_W pm_g (SH L) HR (d + 1) pm_t30 127 [some (.inr 109), some (.inl y1), some (.inl y2), some (.inl 0)] [] (pm_u hi58 109 4 ((hi58 109 4) + 1)) Q) ∧ ((¬ (¬ ((pm_u hi58 109 4 ((hi58 109 4) + 1)) 109 2) = 3)) → Q none (pm_u hi58 109 4 ((hi58 109 4) + 1)))) ∧ ((¬ (¬ (hi58 109 2) = 0)) → Q none hi58))) ∧ ((¬ ((hi 107 1) ≤ (hi 109 3))) → ((96 ≤ (hi 109 3)) → ∀ hi62 : pm_B, hi62 = pm_u (pm_u hi 109 2 (f_Parser_sortOf (-1))) 109 4 ((pm_u hi 109 2 (f_Parser_sortOf (-1))) 109 3) → (((¬ (hi62 109 2) = 0) → ((¬ ((pm_u hi62 109 4 ((hi62 109 4) + 1)) 109 2) = 3) → pm_W pm_g (SH L) HR (d + 1) pm_t30 127 [some (.inr 109), some (.inl y1), some (.inl y2), some (.inl 0)] [] (pm_u hi62 109 4 ((hi62 109 4) + 1)) Q) ∧ ((¬ (¬ ((pm_u hi62 109 4 ((hi62 109 4) + 1)) 109 2) = 3)) → Q none (pm_u hi62 109 4 ((hi62 109 4) + 1)))) ∧ ((¬ (¬ (hi62 109 2) = 0)) → Q none hi62))) ∧ ((¬ (96 ≤ (hi 109 3))) → ∃ k65 : Nat, k65 < 96 ∧ (hi 109 3) = nI k65 ∧ (∀ hi66 : pm_B, hi66 = pm_u (pm_u hi 109 2 (f_Parser_sortOf (hi 108 k65))) 109 4 ((pm_u hi 109 2 (f_Parser_sortOf (hi 108 k65))) 109 3) → (((¬ (hi66 109 2) = 0) → ((¬ ((pm_u hi66 109 4 ((hi66 109 4) + 1)) 109 2) = 3) → pm_W pm_g (SH L) HR (d + 1) pm_t30 127 [some (.inr 109), some (.inl y1), some (.inl y2), some (.inl 0)] [] (pm_u hi66 109 4 ((hi66 109 4) + 1)) Q) ∧ ((¬ (¬ ((pm_u hi66 109 4 ((hi66 109 4) + 1)) 109 2) = 3)) → Q none (pm_u hi66 109 4 ((hi66 109 4) + 1)))) ∧ ((¬ (¬ (hi66 109 2) = 0)) → Q none hi66))))))) ∧ ((¬ (96 ≤ (hi 109 3))) → ∃ k69 : Nat, k69 < 96 ∧ (hi 109 3) = nI k69 ∧ (((¬ (hi 108 k69) = 32) → (((hi 109 3) < 0) → ∀ hi72 : pm_B, hi72 = pm_u (pm_u hi 109 2 (f_Parser_sortOf (-1))) 109 4 ((pm_u hi 109 2 (f_Parser_sortOf (-1))) 109 3) → (((¬ (hi72 109 2) = 0) → ((¬ ((pm_u hi72 109 4 ((hi72 109 4) + 1)) 109 2) = 3) → pm_W pm_g (SH L) HR (d + 1) pm_t30 127 [some (.inr 109), some (.inl y1), some (.inl y2), some (.inl 0)] [] (pm_u hi72 109 4 ((hi72 109 4) + 1)) Q) ∧ ((¬ (¬ ((pm_u hi72 109 4 ((hi72 109 4) + 1)) 109 2) = 3)) → Q none (pm_u hi72 109 4 ((hi72 109 4) + 1)))) ∧ ((¬ (¬ (hi72 109 2) = 0)) → Q none hi72))) ∧ ((¬ ((hi 109 3) < 0)) → (((hi 107 1) ≤ (hi 109 3)) → ∀ hi76 : pm_B, hi76 = pm_u (pm_u hi 109 2 (f_Parser_sortOf (-1))) 109 4 ((pm_u hi 109 2 (f_Parser_sortOf (-1))) 109 3) → (((¬ (hi76 109 2) = 0) → ((¬ ((pm_u hi76 109 4 ((hi76 109 4) + 1)) 109 2) = 3) → pm_W pm_g (SH L) HR (d + 1) pm_t30 127 [some (.inr 109), some (.inl y1), some (.inl y2), some (.inl 0)] [] (pm_u hi76 109 4 ((hi76 109 4) + 1)) Q) ∧ ((¬ (¬ ((pm_u hi76 109 4 ((hi76 109 4) + 1)) 109 2) = 3)) → Q none (pm_u hi76 109 4 ((hi76 109 4) + 1)))) ∧ ((¬ (¬ (hi76 109 2) = 0)) → Q none hi76))) ∧ ((¬ ((hi 107 1) ≤ (hi 109 3))) → ((96 ≤ (hi 109 3)) → ∀ hi80 : pm_B, hi80 = pm_u (pm_u hi 109 2 (f_Parser_sortOf (-1))) 109 4 ((pm_u hi 109 2 (f_Parser_sortOf (-1))) 109 3) → (((¬ (hi80 109 2) = 0) → ((¬ ((pm_u hi80 109 4 ((hi80 109 4) + 1)) 109 2) = 3) → pm_W pm_g (SH L) HR (d + 1) pm_t30 127 [some (.inr 109), some (.inl y1), some (.inl y2), some (.inl 0)] [] (pm_u hi80 109 4 ((hi80 109 4) + 1)) Q) ∧ ((¬ (¬ ((pm_u hi80 109 4 ((hi80 109 4) + 1)) 109 2) = 3)) → Q none (pm_u hi80 109 4 ((hi80 109 4) + 1)))) ∧ ((¬ (¬ (hi80 109 2) = 0)) → Q none hi80))) ∧ ((¬ (96 ≤ (hi 109 3))) → ∃ k83 : Nat, k83 < 96 ∧ (hi 109 3) = nI k83 ∧ (∀ hi84 : pm_B, hi84 = pm_u (pm_u hi 109 2 (f_Parser_sortOf (hi 108 k83))) 109 4 ((pm_u hi 109 2 (f_Parser_sortOf (hi 108 k83))) 109 3) → (((¬ (hi84 109 2) = 0) → ((¬ ((pm_u hi84 109 4 ((hi84 109 4) + 1)) 109 2) = 3) → pm_W pm_g (SH L) HR (d + 1) pm_t30 127 [some (.inr 109), some (.inl y1), some (.inl y2), some (.inl 0)] [] (pm_u hi84 109 4 ((hi84 109 4) + 1)) Q) ∧ ((¬ (¬ ((pm_u hi84 109 4 ((hi84 109 4) + 1)) 109 2) = 3)) → Q none (pm_u hi84 109 4 ((hi84 109 4) + 1)))) ∧ ((¬ (¬ (hi84 109 2) = 0)) → Q none hi84))))))) ∧ ((¬ (¬ (hi 108 k69) = 32)) → pm_W pm_g (SH L) HR (d + 1) pm_t30 34 [some (.inr 109), some (.inl y1), some (.inl y2), some (.inl (y3 + 1))] [] (pm_u hi 109 3 ((hi 109 3) + 1)) Q))))))) : pm_W pm_g (SH L) HR (d + 1) pm_t30 34 [some (.inr 109), some (.inl y1), some (.inl y2), some (.inl y3)] [] hi Q := by
  refine pm_W_of 39 [34, 127] rfl ?_
  refine And.intro (fun c1 => ?_) (fun c1 => ?_)
  · replace h := h.1 c1
    refine And.intro sh_l109 ?_
    rw [hr_109_0]
    refine And.intro sh_l109 ?_
    refine And.intro sh_l107 ?_
    refine v_Tape_byteAt (d := d)  ?_
    refine And.intro (fun c2 => ?_) (fun c2 => ?_)
    · replace h := h.1 c2
      refine ⟨_, rfl, ?_⟩
      refine And.intro trivial ?_
      refine f_Parser_sortOf_c (d := d)  ?_
      refine ⟨_, rfl, ?_⟩
      refine And.intro ⟨sh_l109, trivial⟩ ?_
      refine And.intro sh_l109 ?_
      refine And.intro ⟨sh_l109, trivial⟩ ?_
      obtain ⟨hi3, ehi3⟩ : ∃ m : pm_B, m = pm_u (pm_u hi 109 2 (f_Parser_sortOf (-1))) 109 4 ((pm_u hi 109 2 (f_Parser_sortOf (-1))) 109 3) := ⟨_, rfl⟩
      replace h := h hi3 ehi3
      rw [← ehi3]
      refine And.intro sh_l109 ?_
      refine And.intro (fun c4 => ?_) (fun c4 => ?_)
      · replace h := h.1 c4
        refine And.intro sh_l109 ?_
        refine And.intro ⟨sh_l109, trivial⟩ ?_
        refine And.intro sh_l109 ?_
        refine And.intro (fun c5 => ?_) (fun c5 => ?_)
        · replace h := h.1 c5
          exact h
        · replace h := h.2 c5
          exact h
      · replace h := h.2 c4
        exact h
    · replace h := h.2 c2
      refine And.intro (fun c6 => ?_) (fun c6 => ?_)
      · replace h := h.1 c6
        refine ⟨_, rfl, ?_⟩
        refine And.intro trivial ?_
        refine f_Parser_sortOf_c (d := d)  ?_
        refine ⟨_, rfl, ?_⟩
        refine And.intro ⟨sh_l109, trivial⟩ ?_
        refine And.intro sh_l109 ?_
        refine And.intro ⟨sh_l109, trivial⟩ ?_
        obtain ⟨hi7, ehi7⟩ : ∃ m : pm_B, m = pm_u (pm_u hi 109 2 (f_Parser_sortOf (-1))) 109 4 ((pm_u hi 109 2 (f_Parser_sortOf (-1))) 109 3) := ⟨_, rfl⟩
        replace h := h hi7 ehi7
        rw [← ehi7]
        refine And.intro sh_l109 ?_
        refine And.intro (fun c8 => ?_) (fun c8 => ?_)
        · replace h := h.1 c8
          refine And.intro sh_l109 ?_
          refine And.intro ⟨sh_l109, trivial⟩ ?_
          refine And.intro sh_l109 ?_
          refine And.intro (fun c9 => ?_) (fun c9 => ?_)
          · replace h := h.1 c9
            exact h
          · replace h := h.2 c9
            exact h
        · replace h := h.2 c8
          exact h
      · replace h := h.2 c6
        refine And.intro (fun c10 => ?_) (fun c10 => ?_)
        · replace h := h.1 c10
          refine ⟨_, rfl, ?_⟩
          refine And.intro trivial ?_
          refine f_Parser_sortOf_c (d := d)  ?_
          refine ⟨_, rfl, ?_⟩
          refine And.intro ⟨sh_l109, trivial⟩ ?_
          refine And.intro sh_l109 ?_
          refine And.intro ⟨sh_l109, trivial⟩ ?_
          obtain ⟨hi11, ehi11⟩ : ∃ m : pm_B, m = pm_u (pm_u hi 109 2 (f_Parser_sortOf (-1))) 109 4 ((pm_u hi 109 2 (f_Parser_sortOf (-1))) 109 3) := ⟨_, rfl⟩
          replace h := h hi11 ehi11
          rw [← ehi11]
          refine And.intro sh_l109 ?_
          refine And.intro (fun c12 => ?_) (fun c12 => ?_)
          · replace h := h.1 c12
            refine And.intro sh_l109 ?_
            refine And.intro ⟨sh_l109, trivial⟩ ?_
            refine And.intro sh_l109 ?_
            refine And.intro (fun c13 => ?_) (fun c13 => ?_)
            · replace h := h.1 c13
              exact h
            · replace h := h.2 c13
              exact h
          · replace h := h.2 c12
            exact h
        · replace h := h.2 c10
          obtain ⟨k14, hkk14, hek14, h⟩ := h
          refine ⟨k14, hkk14, hek14, ?_⟩
          refine ⟨_, rfl, ?_⟩
          refine And.intro trivial ?_
          refine f_Parser_sortOf_c (d := d)  ?_
          refine ⟨_, rfl, ?_⟩
          refine And.intro ⟨sh_l109, trivial⟩ ?_
          refine And.intro sh_l109 ?_
          refine And.intro ⟨sh_l109, trivial⟩ ?_
          obtain ⟨hi15, ehi15⟩ : ∃ m : pm_B, m = pm_u (pm_u hi 109 2 (f_Parser_sortOf (hi 108 k14))) 109 4 ((pm_u hi 109 2 (f_Parser_sortOf (hi 108 k14))) 109 3) := ⟨_, rfl⟩
          replace h := h hi15 ehi15
          rw [← ehi15]
          refine And.intro sh_l109 ?_
          refine And.intro (fun c16 => ?_) (fun c16 => ?_)
          · replace h := h.1 c16
            refine And.intro sh_l109 ?_
            refine And.intro ⟨sh_l109, trivial⟩ ?_
            refine And.intro sh_l109 ?_
            refine And.intro (fun c17 => ?_) (fun c17 => ?_)
            · replace h := h.1 c17
              exact h
            · replace h := h.2 c17
              exact h
          · replace h := h.2 c16
            exact h
  · replace h := h.2 c1
    refine And.intro sh_l109 ?_
    rw [hr_109_0]
    refine And.intro sh_l109 ?_
    refine And.intro sh_l107 ?_
    refine v_Tape_byteAt (d := d)  ?_
    refine And.intro (fun c18 => ?_) (fun c18 => ?_)
    · replace h := h.1 c18
      refine ⟨_, rfl, ?_⟩
      refine And.intro (fun _ => ?_) (fun hc => absurd (pm_cd_t (by decide)) hc)
      refine And.intro sh_l109 ?_
      rw [hr_109_0]
      refine And.intro sh_l109 ?_
      refine And.intro sh_l107 ?_
      refine v_Tape_byteAt (d := d)  ?_
      refine And.intro (fun c19 => ?_) (fun c19 => ?_)
      · replace h := h.1 c19
        refine ⟨_, rfl, ?_⟩
        refine And.intro trivial ?_
        refine f_Parser_sortOf_c (d := d)  ?_
        refine ⟨_, rfl, ?_⟩
        refine And.intro ⟨sh_l109, trivial⟩ ?_
        refine And.intro sh_l109 ?_
        refine And.intro ⟨sh_l109, trivial⟩ ?_
        obtain ⟨hi20, ehi20⟩ : ∃ m : pm_B, m = pm_u (pm_u hi 109 2 (f_Parser_sortOf (-1))) 109 4 ((pm_u hi 109 2 (f_Parser_sortOf (-1))) 109 3) := ⟨_, rfl⟩
        replace h := h hi20 ehi20
        rw [← ehi20]
        refine And.intro sh_l109 ?_
        refine And.intro (fun c21 => ?_) (fun c21 => ?_)
        · replace h := h.1 c21
          refine And.intro sh_l109 ?_
          refine And.intro ⟨sh_l109, trivial⟩ ?_
          refine And.intro sh_l109 ?_
          refine And.intro (fun c22 => ?_) (fun c22 => ?_)
          · replace h := h.1 c22
            exact h
          · replace h := h.2 c22
            exact h
        · replace h := h.2 c21
          exact h
      · replace h := h.2 c19
        refine And.intro (fun c23 => ?_) (fun c23 => ?_)
        · replace h := h.1 c23
          refine ⟨_, rfl, ?_⟩
          refine And.intro trivial ?_
          refine f_Parser_sortOf_c (d := d)  ?_
          refine ⟨_, rfl, ?_⟩
          refine And.intro ⟨sh_l109, trivial⟩ ?_
          refine And.intro sh_l109 ?_
          refine And.intro ⟨sh_l109, trivial⟩ ?_
          obtain ⟨hi24, ehi24⟩ : ∃ m : pm_B, m = pm_u (pm_u hi 109 2 (f_Parser_sortOf (-1))) 109 4 ((pm_u hi 109 2 (f_Parser_sortOf (-1))) 109 3) := ⟨_, rfl⟩
          replace h := h hi24 ehi24
          rw [← ehi24]
          refine And.intro sh_l109 ?_
          refine And.intro (fun c25 => ?_) (fun c25 => ?_)
          · replace h := h.1 c25
            refine And.intro sh_l109 ?_
            refine And.intro ⟨sh_l109, trivial⟩ ?_
            refine And.intro sh_l109 ?_
            refine And.intro (fun c26 => ?_) (fun c26 => ?_)
            · replace h := h.1 c26
              exact h
            · replace h := h.2 c26
              exact h
          · replace h := h.2 c25
            exact h
        · replace h := h.2 c23
          refine And.intro (fun c27 => ?_) (fun c27 => ?_)
          · replace h := h.1 c27
            refine ⟨_, rfl, ?_⟩
            refine And.intro trivial ?_
            refine f_Parser_sortOf_c (d := d)  ?_
            refine ⟨_, rfl, ?_⟩
            refine And.intro ⟨sh_l109, trivial⟩ ?_
            refine And.intro sh_l109 ?_
            refine And.intro ⟨sh_l109, trivial⟩ ?_
            obtain ⟨hi28, ehi28⟩ : ∃ m : pm_B, m = pm_u (pm_u hi 109 2 (f_Parser_sortOf (-1))) 109 4 ((pm_u hi 109 2 (f_Parser_sortOf (-1))) 109 3) := ⟨_, rfl⟩
            replace h := h hi28 ehi28
            rw [← ehi28]
            refine And.intro sh_l109 ?_
            refine And.intro (fun c29 => ?_) (fun c29 => ?_)
            · replace h := h.1 c29
              refine And.intro sh_l109 ?_
              refine And.intro ⟨sh_l109, trivial⟩ ?_
              refine And.intro sh_l109 ?_
              refine And.intro (fun c30 => ?_) (fun c30 => ?_)
              · replace h := h.1 c30
                exact h
              · replace h := h.2 c30
                exact h
            · replace h := h.2 c29
              exact h
          · replace h := h.2 c27
            obtain ⟨k31, hkk31, hek31, h⟩ := h
            refine ⟨k31, hkk31, hek31, ?_⟩
            refine ⟨_, rfl, ?_⟩
            refine And.intro trivial ?_
            refine f_Parser_sortOf_c (d := d)  ?_
            refine ⟨_, rfl, ?_⟩
            refine And.intro ⟨sh_l109, trivial⟩ ?_
            refine And.intro sh_l109 ?_
            refine And.intro ⟨sh_l109, trivial⟩ ?_
            obtain ⟨hi32, ehi32⟩ : ∃ m : pm_B, m = pm_u (pm_u hi 109 2 (f_Parser_sortOf (hi 108 k31))) 109 4 ((pm_u hi 109 2 (f_Parser_sortOf (hi 108 k31))) 109 3) := ⟨_, rfl⟩
            replace h := h hi32 ehi32
            rw [← ehi32]
            refine And.intro sh_l109 ?_
            refine And.intro (fun c33 => ?_) (fun c33 => ?_)
            · replace h := h.1 c33
              refine And.intro sh_l109 ?_
              refine And.intro ⟨sh_l109, trivial⟩ ?_
              refine And.intro sh_l109 ?_
              refine And.intro (fun c34 => ?_) (fun c34 => ?_)
              · replace h := h.1 c34
                exact h
              · replace h := h.2 c34
                exact h
            · replace h := h.2 c33
              exact h
    · replace h := h.2 c18
      refine And.intro (fun c35 => ?_) (fun c35 => ?_)
      · replace h := h.1 c35
        refine ⟨_, rfl, ?_⟩
        refine And.intro (fun _ => ?_) (fun hc => absurd (pm_cd_t (by decide)) hc)
        refine And.intro sh_l109 ?_
        rw [hr_109_0]
        refine And.intro sh_l109 ?_
        refine And.intro sh_l107 ?_
        refine v_Tape_byteAt (d := d)  ?_
        refine And.intro (fun c36 => ?_) (fun c36 => ?_)
        · replace h := h.1 c36
          refine ⟨_, rfl, ?_⟩
          refine And.intro trivial ?_
          refine f_Parser_sortOf_c (d := d)  ?_
          refine ⟨_, rfl, ?_⟩
          refine And.intro ⟨sh_l109, trivial⟩ ?_
          refine And.intro sh_l109 ?_
          refine And.intro ⟨sh_l109, trivial⟩ ?_
          obtain ⟨hi37, ehi37⟩ : ∃ m : pm_B, m = pm_u (pm_u hi 109 2 (f_Parser_sortOf (-1))) 109 4 ((pm_u hi 109 2 (f_Parser_sortOf (-1))) 109 3) := ⟨_, rfl⟩
          replace h := h hi37 ehi37
          rw [← ehi37]
          refine And.intro sh_l109 ?_
          refine And.intro (fun c38 => ?_) (fun c38 => ?_)
          · replace h := h.1 c38
            refine And.intro sh_l109 ?_
            refine And.intro ⟨sh_l109, trivial⟩ ?_
            refine And.intro sh_l109 ?_
            refine And.intro (fun c39 => ?_) (fun c39 => ?_)
            · replace h := h.1 c39
              exact h
            · replace h := h.2 c39
              exact h
          · replace h := h.2 c38
            exact h
        · replace h := h.2 c36
          refine And.intro (fun c40 => ?_) (fun c40 => ?_)
          · replace h := h.1 c40
            refine ⟨_, rfl, ?_⟩
            refine And.intro trivial ?_
            refine f_Parser_sortOf_c (d := d)  ?_
            refine ⟨_, rfl, ?_⟩
            refine And.intro ⟨sh_l109, trivial⟩ ?_
            refine And.intro sh_l109 ?_
            refine And.intro ⟨sh_l109, trivial⟩ ?_
            obtain ⟨hi41, ehi41⟩ : ∃ m : pm_B, m = pm_u (pm_u hi 109 2 (f_Parser_sortOf (-1))) 109 4 ((pm_u hi 109 2 (f_Parser_sortOf (-1))) 109 3) := ⟨_, rfl⟩
            replace h := h hi41 ehi41
            rw [← ehi41]
            refine And.intro sh_l109 ?_
            refine And.intro (fun c42 => ?_) (fun c42 => ?_)
            · replace h := h.1 c42
              refine And.intro sh_l109 ?_
              refine And.intro ⟨sh_l109, trivial⟩ ?_
              refine And.intro sh_l109 ?_
              refine And.intro (fun c43 => ?_) (fun c43 => ?_)
              · replace h := h.1 c43
                exact h
              · replace h := h.2 c43
                exact h
            · replace h := h.2 c42
              exact h
          · replace h := h.2 c40
            refine And.intro (fun c44 => ?_) (fun c44 => ?_)
            · replace h := h.1 c44
              refine ⟨_, rfl, ?_⟩
              refine And.intro trivial ?_
              refine f_Parser_sortOf_c (d := d)  ?_
              refine ⟨_, rfl, ?_⟩
              refine And.intro ⟨sh_l109, trivial⟩ ?_
              refine And.intro sh_l109 ?_
              refine And.intro ⟨sh_l109, trivial⟩ ?_
              obtain ⟨hi45, ehi45⟩ : ∃ m : pm_B, m = pm_u (pm_u hi 109 2 (f_Parser_sortOf (-1))) 109 4 ((pm_u hi 109 2 (f_Parser_sortOf (-1))) 109 3) := ⟨_, rfl⟩
              replace h := h hi45 ehi45
              rw [← ehi45]
              refine And.intro sh_l109 ?_
              refine And.intro (fun c46 => ?_) (fun c46 => ?_)
              · replace h := h.1 c46
                refine And.intro sh_l109 ?_
                refine And.intro ⟨sh_l109, trivial⟩ ?_
                refine And.intro sh_l109 ?_
                refine And.intro (fun c47 => ?_) (fun c47 => ?_)
                · replace h := h.1 c47
                  exact h
                · replace h := h.2 c47
                  exact h
              · replace h := h.2 c46
                exact h
            · replace h := h.2 c44
              obtain ⟨k48, hkk48, hek48, h⟩ := h
              refine ⟨k48, hkk48, hek48, ?_⟩
              refine ⟨_, rfl, ?_⟩
              refine And.intro trivial ?_
              refine f_Parser_sortOf_c (d := d)  ?_
              refine ⟨_, rfl, ?_⟩
              refine And.intro ⟨sh_l109, trivial⟩ ?_
              refine And.intro sh_l109 ?_
              refine And.intro ⟨sh_l109, trivial⟩ ?_
              obtain ⟨hi49, ehi49⟩ : ∃ m : pm_B, m = pm_u (pm_u hi 109 2 (f_Parser_sortOf (hi 108 k48))) 109 4 ((pm_u hi 109 2 (f_Parser_sortOf (hi 108 k48))) 109 3) := ⟨_, rfl⟩
              replace h := h hi49 ehi49
              rw [← ehi49]
              refine And.intro sh_l109 ?_
              refine And.intro (fun c50 => ?_) (fun c50 => ?_)
              · replace h := h.1 c50
                refine And.intro sh_l109 ?_
                refine And.intro ⟨sh_l109, trivial⟩ ?_
                refine And.intro sh_l109 ?_
                refine And.intro (fun c51 => ?_) (fun c51 => ?_)
                · replace h := h.1 c51
                  exact h
                · replace h := h.2 c51
                  exact h
              · replace h := h.2 c50
                exact h
      · replace h := h.2 c35
        refine And.intro (fun c52 => ?_) (fun c52 => ?_)
        · replace h := h.1 c52
          refine ⟨_, rfl, ?_⟩
          refine And.intro (fun _ => ?_) (fun hc => absurd (pm_cd_t (by decide)) hc)
          refine And.intro sh_l109 ?_
          rw [hr_109_0]
          refine And.intro sh_l109 ?_
          refine And.intro sh_l107 ?_
          refine v_Tape_byteAt (d := d)  ?_
          refine And.intro (fun c53 => ?_) (fun c53 => ?_)
          · replace h := h.1 c53
            refine ⟨_, rfl, ?_⟩
            refine And.intro trivial ?_
            refine f_Parser_sortOf_c (d := d)  ?_
            refine ⟨_, rfl, ?_⟩
            refine And.intro ⟨sh_l109, trivial⟩ ?_
            refine And.intro sh_l109 ?_
            refine And.intro ⟨sh_l109, trivial⟩ ?_
            obtain ⟨hi54, ehi54⟩ : ∃ m : pm_B, m = pm_u (pm_u hi 109 2 (f_Parser_sortOf (-1))) 109 4 ((pm_u hi 109 2 (f_Parser_sortOf (-1))) 109 3) := ⟨_, rfl⟩
            replace h := h hi54 ehi54
            rw [← ehi54]
            refine And.intro sh_l109 ?_
            refine And.intro (fun c55 => ?_) (fun c55 => ?_)
            · replace h := h.1 c55
              refine And.intro sh_l109 ?_
              refine And.intro ⟨sh_l109, trivial⟩ ?_
              refine And.intro sh_l109 ?_
              refine And.intro (fun c56 => ?_) (fun c56 => ?_)
              · replace h := h.1 c56
                exact h
              · replace h := h.2 c56
                exact h
            · replace h := h.2 c55
              exact h
          · replace h := h.2 c53
            refine And.intro (fun c57 => ?_) (fun c57 => ?_)
            · replace h := h.1 c57
              refine ⟨_, rfl, ?_⟩
              refine And.intro trivial ?_
              refine f_Parser_sortOf_c (d := d)  ?_
              refine ⟨_, rfl, ?_⟩
              refine And.intro ⟨sh_l109, trivial⟩ ?_
              refine And.intro sh_l109 ?_
              refine And.intro ⟨sh_l109, trivial⟩ ?_
              obtain ⟨hi58, ehi58⟩ : ∃ m : pm_B, m = pm_u (pm_u hi 109 2 (f_Parser_sortOf (-1))) 109 4 ((pm_u hi 109 2 (f_Parser_sortOf (-1))) 109 3) := ⟨_, rfl⟩
              replace h := h hi58 ehi58
              rw [← ehi58]
              refine And.intro sh_l109 ?_
              refine And.intro (fun c59 => ?_) (fun c59 => ?_)
              · replace h := h.1 c59
                refine And.intro sh_l109 ?_
                refine And.intro ⟨sh_l109, trivial⟩ ?_
                refine And.intro sh_l109 ?_
                refine And.intro (fun c60 => ?_) (fun c60 => ?_)
                · replace h := h.1 c60
                  exact h
                · replace h := h.2 c60
                  exact h
              · replace h := h.2 c59
                exact h
            · replace h := h.2 c57
              refine And.intro (fun c61 => ?_) (fun c61 => ?_)
              · replace h := h.1 c61
                refine ⟨_, rfl, ?_⟩
                refine And.intro trivial ?_
                refine f_Parser_sortOf_c (d := d)  ?_
                refine ⟨_, rfl, ?_⟩
                refine And.intro ⟨sh_l109, trivial⟩ ?_
                refine And.intro sh_l109 ?_
                refine And.intro ⟨sh_l109, trivial⟩ ?_
                obtain ⟨hi62, ehi62⟩ : ∃ m : pm_B, m = pm_u (pm_u hi 109 2 (f_Parser_sortOf (-1))) 109 4 ((pm_u hi 109 2 (f_Parser_sortOf (-1))) 109 3) := ⟨_, rfl⟩
                replace h := h hi62 ehi62
                rw [← ehi62]
                refine And.intro sh_l109 ?_
                refine And.intro (fun c63 => ?_) (fun c63 => ?_)
                · replace h := h.1 c63
                  refine And.intro sh_l109 ?_
                  refine And.intro ⟨sh_l109, trivial⟩ ?_
                  refine And.intro sh_l109 ?_
                  refine And.intro (fun c64 => ?_) (fun c64 => ?_)
                  · replace h := h.1 c64
                    exact h
                  · replace h := h.2 c64
                    exact h
                · replace h := h.2 c63
                  exact h
              · replace h := h.2 c61
                obtain ⟨k65, hkk65, hek65, h⟩ := h
                refine ⟨k65, hkk65, hek65, ?_⟩
                refine ⟨_, rfl, ?_⟩
                refine And.intro trivial ?_
                refine f_Parser_sortOf_c (d := d)  ?_
                refine ⟨_, rfl, ?_⟩
                refine And.intro ⟨sh_l109, trivial⟩ ?_
                refine And.intro sh_l109 ?_
                refine And.intro ⟨sh_l109, trivial⟩ ?_
                obtain ⟨hi66, ehi66⟩ : ∃ m : pm_B, m = pm_u (pm_u hi 109 2 (f_Parser_sortOf (hi 108 k65))) 109 4 ((pm_u hi 109 2 (f_Parser_sortOf (hi 108 k65))) 109 3) := ⟨_, rfl⟩
                replace h := h hi66 ehi66
                rw [← ehi66]
                refine And.intro sh_l109 ?_
                refine And.intro (fun c67 => ?_) (fun c67 => ?_)
                · replace h := h.1 c67
                  refine And.intro sh_l109 ?_
                  refine And.intro ⟨sh_l109, trivial⟩ ?_
                  refine And.intro sh_l109 ?_
                  refine And.intro (fun c68 => ?_) (fun c68 => ?_)
                  · replace h := h.1 c68
                    exact h
                  · replace h := h.2 c68
                    exact h
                · replace h := h.2 c67
                  exact h
        · replace h := h.2 c52
          obtain ⟨k69, hkk69, hek69, h⟩ := h
          refine ⟨k69, hkk69, hek69, ?_⟩
          refine ⟨_, rfl, ?_⟩
          refine And.intro (fun c70 => ?_) (fun c70 => ?_)
          · replace h := h.1 c70
            refine And.intro sh_l109 ?_
            rw [hr_109_0]
            refine And.intro sh_l109 ?_
            refine And.intro sh_l107 ?_
            refine v_Tape_byteAt (d := d)  ?_
            refine And.intro (fun c71 => ?_) (fun c71 => ?_)
            · replace h := h.1 c71
              refine ⟨_, rfl, ?_⟩
              refine And.intro trivial ?_
              refine f_Parser_sortOf_c (d := d)  ?_
              refine ⟨_, rfl, ?_⟩
              refine And.intro ⟨sh_l109, trivial⟩ ?_
              refine And.intro sh_l109 ?_
              refine And.intro ⟨sh_l109, trivial⟩ ?_
              obtain ⟨hi72, ehi72⟩ : ∃ m : pm_B, m = pm_u (pm_u hi 109 2 (f_Parser_sortOf (-1))) 109 4 ((pm_u hi 109 2 (f_Parser_sortOf (-1))) 109 3) := ⟨_, rfl⟩
              replace h := h hi72 ehi72
              rw [← ehi72]
              refine And.intro sh_l109 ?_
              refine And.intro (fun c73 => ?_) (fun c73 => ?_)
              · replace h := h.1 c73
                refine And.intro sh_l109 ?_
                refine And.intro ⟨sh_l109, trivial⟩ ?_
                refine And.intro sh_l109 ?_
                refine And.intro (fun c74 => ?_) (fun c74 => ?_)
                · replace h := h.1 c74
                  exact h
                · replace h := h.2 c74
                  exact h
              · replace h := h.2 c73
                exact h
            · replace h := h.2 c71
              refine And.intro (fun c75 => ?_) (fun c75 => ?_)
              · replace h := h.1 c75
                refine ⟨_, rfl, ?_⟩
                refine And.intro trivial ?_
                refine f_Parser_sortOf_c (d := d)  ?_
                refine ⟨_, rfl, ?_⟩
                refine And.intro ⟨sh_l109, trivial⟩ ?_
                refine And.intro sh_l109 ?_
                refine And.intro ⟨sh_l109, trivial⟩ ?_
                obtain ⟨hi76, ehi76⟩ : ∃ m : pm_B, m = pm_u (pm_u hi 109 2 (f_Parser_sortOf (-1))) 109 4 ((pm_u hi 109 2 (f_Parser_sortOf (-1))) 109 3) := ⟨_, rfl⟩
                replace h := h hi76 ehi76
                rw [← ehi76]
                refine And.intro sh_l109 ?_
                refine And.intro (fun c77 => ?_) (fun c77 => ?_)
                · replace h := h.1 c77
                  refine And.intro sh_l109 ?_
                  refine And.intro ⟨sh_l109, trivial⟩ ?_
                  refine And.intro sh_l109 ?_
                  refine And.intro (fun c78 => ?_) (fun c78 => ?_)
                  · replace h := h.1 c78
                    exact h
                  · replace h := h.2 c78
                    exact h
                · replace h := h.2 c77
                  exact h
              · replace h := h.2 c75
                refine And.intro (fun c79 => ?_) (fun c79 => ?_)
                · replace h := h.1 c79
                  refine ⟨_, rfl, ?_⟩
                  refine And.intro trivial ?_
                  refine f_Parser_sortOf_c (d := d)  ?_
                  refine ⟨_, rfl, ?_⟩
                  refine And.intro ⟨sh_l109, trivial⟩ ?_
                  refine And.intro sh_l109 ?_
                  refine And.intro ⟨sh_l109, trivial⟩ ?_
                  obtain ⟨hi80, ehi80⟩ : ∃ m : pm_B, m = pm_u (pm_u hi 109 2 (f_Parser_sortOf (-1))) 109 4 ((pm_u hi 109 2 (f_Parser_sortOf (-1))) 109 3) := ⟨_, rfl⟩
                  replace h := h hi80 ehi80
                  rw [← ehi80]
                  refine And.intro sh_l109 ?_
                  refine And.intro (fun c81 => ?_) (fun c81 => ?_)
                  · replace h := h.1 c81
                    refine And.intro sh_l109 ?_
                    refine And.intro ⟨sh_l109, trivial⟩ ?_
                    refine And.intro sh_l109 ?_
                    refine And.intro (fun c82 => ?_) (fun c82 => ?_)
                    · replace h := h.1 c82
                      exact h
                    · replace h := h.2 c82
                      exact h
                  · replace h := h.2 c81
                    exact h
                · replace h := h.2 c79
                  obtain ⟨k83, hkk83, hek83, h⟩ := h
                  refine ⟨k83, hkk83, hek83, ?_⟩
                  refine ⟨_, rfl, ?_⟩
                  refine And.intro trivial ?_
                  refine f_Parser_sortOf_c (d := d)  ?_
                  refine ⟨_, rfl, ?_⟩
                  refine And.intro ⟨sh_l109, trivial⟩ ?_
                  refine And.intro sh_l109 ?_
                  refine And.intro ⟨sh_l109, trivial⟩ ?_
                  obtain ⟨hi84, ehi84⟩ : ∃ m : pm_B, m = pm_u (pm_u hi 109 2 (f_Parser_sortOf (hi 108 k83))) 109 4 ((pm_u hi 109 2 (f_Parser_sortOf (hi 108 k83))) 109 3) := ⟨_, rfl⟩
                  replace h := h hi84 ehi84
                  rw [← ehi84]
                  refine And.intro sh_l109 ?_
                  refine And.intro (fun c85 => ?_) (fun c85 => ?_)
                  · replace h := h.1 c85
                    refine And.intro sh_l109 ?_
                    refine And.intro ⟨sh_l109, trivial⟩ ?_
                    refine And.intro sh_l109 ?_
                    refine And.intro (fun c86 => ?_) (fun c86 => ?_)
                    · replace h := h.1 c86
                      exact h
                    · replace h := h.2 c86
                      exact h
                  · replace h := h.2 c85
                    exact h
          · replace h := h.2 c70
            refine And.intro sh_l109 ?_
            refine And.intro ⟨sh_l109, trivial⟩ ?_
            exact h
theorem v_Parser_step_127 {L d : Nat}  {y1 : Int32} {y2 : Int32} {y3 : Int32} {hi : pm_B} {Q : pm_Q} (h : ((96 ≤ y3) → ((y1 = 0) → Q none hi) ∧ ((¬ (y1 = 0)) → ((¬ (hi 109 3) = y2) → Q none hi) ∧ ((¬ (¬ (hi 109 3) = y2)) → Q none (pm_u hi 109 2 4)))) ∧ ((¬ (96 ≤ y3)) → (((hi 109 4) < 0) → ((¬ (f_Parser_sortOf (-1)) = (hi 109 2)) → ((y1 = 0) → Q none hi) ∧ ((¬ (y1 = 0)) → ((¬ (hi 109 3) = y2) → Q none hi) ∧ ((¬ (¬ (hi 109 3) = y2)) → Q none (pm_u hi 109 2 4)))) ∧ ((¬ (¬ (f_Parser_sortOf (-1)) = (hi 109 2))) → pm_W pm_g (SH L) HR (d + 1) pm_t30 127 [some (.inr 109), some (.inl y1), some (.inl y2), some (.inl (y3 + 1))] [] (pm_u hi 109 4 ((hi 109 4) + 1)) Q)) ∧ ((¬ ((hi 109 4) < 0)) → (((hi 107 1) ≤ (hi 109 4)) → ((¬ (f_Parser_sortOf (-1)) = (hi 109 2)) → ((y1 = 0) → Q none hi) ∧ ((¬ (y1 = 0)) → ((¬ (hi 109 3) = y2) → Q none hi) ∧ ((¬ (¬ (hi 109 3) = y2)) → Q none (pm_u hi 109 2 4)))) ∧ ((¬ (¬ (f_Parser_sortOf (-1)) = (hi 109 2))) → pm_W pm_g (SH L) HR (d + 1) pm_t30 127 [some (.inr 109), some (.inl y1), some (.inl y2), some (.inl (y3 + 1))] [] (pm_u hi 109 4 ((hi 109 4) + 1)) Q)) ∧ ((¬ ((hi 107 1) ≤ (hi 109 4))) → ((96 ≤ (hi 109 4)) → ((¬ (f_Parser_sortOf (-1)) = (hi 109 2)) → ((y1 = 0) → Q none hi) ∧ ((¬ (y1 = 0)) → ((¬ (hi 109 3) = y2) → Q none hi) ∧ ((¬ (¬ (hi 109 3) = y2)) → Q none (pm_u hi 109 2 4)))) ∧ ((¬ (¬ (f_Parser_sortOf (-1)) = (hi 109 2))) → pm_W pm_g (SH L) HR (d + 1) pm_t30 127 [some (.inr 109), some (.inl y1), some (.inl y2), some (.inl (y3 + 1))] [] (pm_u hi 109 4 ((hi 109 4) + 1)) Q)) ∧ ((¬ (96 ≤ (hi 109 4))) → ∃ k16 : Nat, k16 < 96 ∧ (hi 109 4) = nI k16 ∧ (((¬ (f_Parser_sortOf (hi 108 k16)) = (hi 109 2)) → ((y1 = 0) → Q none hi) ∧ ((¬ (y1 = 0)) → ((¬ (hi 109 3) = y2) → Q none hi) ∧ ((¬ (¬ (hi 109 3) = y2)) → Q none (pm_u hi 109 2 4)))) ∧ ((¬ (¬ (f_Parser_sortOf (hi 108 k16)) = (hi 109 2))) → pm_W pm_g (SH L) HR (d + 1) pm_t30 127 [some (.inr 109), some (.inl y1), some (.inl y2), some (.inl (y3 + 1))] [] (pm_u hi 109 4 ((hi 109 4) + 1)) Q))))))) : pm_W pm_g (SH L) HR (d + 1) pm_t30 127 [some (.inr 109), some (.inl y1), some (.inl y2), some (.inl y3)] [] hi Q := by
  refine pm_W_of 24 [34, 127] rfl ?_
  refine And.intro (fun c1 => ?_) (fun c1 => ?_)
  · replace h := h.1 c1
    refine And.intro (fun c2 => ?_) (fun c2 => ?_)
    · replace h := h.1 c2
      exact h
    · replace h := h.2 c2
      refine And.intro sh_l109 ?_
      refine And.intro (fun c3 => ?_) (fun c3 => ?_)
      · replace h := h.1 c3
        exact h
      · replace h := h.2 c3
        refine And.intro ⟨sh_l109, trivial⟩ ?_
        exact h
  · replace h := h.2 c1
    refine And.intro sh_l109 ?_
    rw [hr_109_0]
    refine And.intro sh_l109 ?_
    refine And.intro sh_l107 ?_
    refine v_Tape_byteAt (d := d)  ?_
    refine And.intro (fun c4 => ?_) (fun c4 => ?_)
    · replace h := h.1 c4
      refine ⟨_, rfl, ?_⟩
      refine And.intro trivial ?_
      refine f_Parser_sortOf_c (d := d)  ?_
      refine ⟨_, rfl, ?_⟩
      refine And.intro sh_l109 ?_
      refine And.intro (fun c5 => ?_) (fun c5 => ?_)
      · replace h := h.1 c5
        refine And.intro (fun c6 => ?_) (fun c6 => ?_)
        · replace h := h.1 c6
          exact h
        · replace h := h.2 c6
          refine And.intro sh_l109 ?_
          refine And.intro (fun c7 => ?_) (fun c7 => ?_)
          · replace h := h.1 c7
            exact h
          · replace h := h.2 c7
            refine And.intro ⟨sh_l109, trivial⟩ ?_
            exact h
      · replace h := h.2 c5
        refine And.intro sh_l109 ?_
        refine And.intro ⟨sh_l109, trivial⟩ ?_
        exact h
    · replace h := h.2 c4
      refine And.intro (fun c8 => ?_) (fun c8 => ?_)
      · replace h := h.1 c8
        refine ⟨_, rfl, ?_⟩
        refine And.intro trivial ?_
        refine f_Parser_sortOf_c (d := d)  ?_
        refine ⟨_, rfl, ?_⟩
        refine And.intro sh_l109 ?_
        refine And.intro (fun c9 => ?_) (fun c9 => ?_)
        · replace h := h.1 c9
          refine And.intro (fun c10 => ?_) (fun c10 => ?_)
          · replace h := h.1 c10
            exact h
          · replace h := h.2 c10
            refine And.intro sh_l109 ?_
            refine And.intro (fun c11 => ?_) (fun c11 => ?_)
            · replace h := h.1 c11
              exact h
            · replace h := h.2 c11
              refine And.intro ⟨sh_l109, trivial⟩ ?_
              exact h
        · replace h := h.2 c9
          refine And.intro sh_l109 ?_
          refine And.intro ⟨sh_l109, trivial⟩ ?_
          exact h
      · replace h := h.2 c8
        refine And.intro (fun c12 => ?_) (fun c12 => ?_)
        · replace h := h.1 c12
          refine ⟨_, rfl, ?_⟩
          refine And.intro trivial ?_
          refine f_Parser_sortOf_c (d := d)  ?_
          refine ⟨_, rfl, ?_⟩
          refine And.intro sh_l109 ?_
          refine And.intro (fun c13 => ?_) (fun c13 => ?_)
          · replace h := h.1 c13
            refine And.intro (fun c14 => ?_) (fun c14 => ?_)
            · replace h := h.1 c14
              exact h
            · replace h := h.2 c14
              refine And.intro sh_l109 ?_
              refine And.intro (fun c15 => ?_) (fun c15 => ?_)
              · replace h := h.1 c15
                exact h
              · replace h := h.2 c15
                refine And.intro ⟨sh_l109, trivial⟩ ?_
                exact h
          · replace h := h.2 c13
            refine And.intro sh_l109 ?_
            refine And.intro ⟨sh_l109, trivial⟩ ?_
            exact h
        · replace h := h.2 c12
          obtain ⟨k16, hkk16, hek16, h⟩ := h
          refine ⟨k16, hkk16, hek16, ?_⟩
          refine ⟨_, rfl, ?_⟩
          refine And.intro trivial ?_
          refine f_Parser_sortOf_c (d := d)  ?_
          refine ⟨_, rfl, ?_⟩
          refine And.intro sh_l109 ?_
          refine And.intro (fun c17 => ?_) (fun c17 => ?_)
          · replace h := h.1 c17
            refine And.intro (fun c18 => ?_) (fun c18 => ?_)
            · replace h := h.1 c18
              exact h
            · replace h := h.2 c18
              refine And.intro sh_l109 ?_
              refine And.intro (fun c19 => ?_) (fun c19 => ?_)
              · replace h := h.1 c19
                exact h
              · replace h := h.2 c19
                refine And.intro ⟨sh_l109, trivial⟩ ?_
                exact h
          · replace h := h.2 c17
            refine And.intro sh_l109 ?_
            refine And.intro ⟨sh_l109, trivial⟩ ?_
            exact h
theorem v_Parser_isSign {L d : Nat} {p1 : Int32} {hi : pm_B} {Q : pm_Q} (h : ((¬ (hi 109 2) = 3) → Q (some (.inl 0)) hi) ∧ ((¬ (¬ (hi 109 2) = 3)) → (((hi 109 3) < 0) → ((¬ (-1) = p1) → Q (some (.inl 0)) hi) ∧ ((¬ (¬ (-1) = p1)) → Q (some (.inl 1)) hi)) ∧ ((¬ ((hi 109 3) < 0)) → (((hi 107 1) ≤ (hi 109 3)) → ((¬ (-1) = p1) → Q (some (.inl 0)) hi) ∧ ((¬ (¬ (-1) = p1)) → Q (some (.inl 1)) hi)) ∧ ((¬ ((hi 107 1) ≤ (hi 109 3))) → ((96 ≤ (hi 109 3)) → ((¬ (-1) = p1) → Q (some (.inl 0)) hi) ∧ ((¬ (¬ (-1) = p1)) → Q (some (.inl 1)) hi)) ∧ ((¬ (96 ≤ (hi 109 3))) → ∃ k8 : Nat, k8 < 96 ∧ (hi 109 3) = nI k8 ∧ (((¬ (hi 108 k8) = p1) → Q (some (.inl 0)) hi) ∧ ((¬ (¬ (hi 108 k8) = p1)) → Q (some (.inl 1)) hi))))))) : pm_C pm_g (SH L) HR (d + 2) m_Parser_isSign [.inr 109, .inl p1] hi Q := by
  refine pm_C_of (maxL := 2) (t := pm_t32) rfl (Nat.le_of_ble_eq_true rfl) ?_
  refine pm_W_of 19 [] rfl ?_
  refine And.intro sh_l109 ?_
  refine And.intro (fun c1 => ?_) (fun c1 => ?_)
  · replace h := h.1 c1
    refine And.intro (Or.inl rfl) ?_
    exact h
  · replace h := h.2 c1
    refine And.intro sh_l109 ?_
    rw [hr_109_0]
    refine And.intro sh_l109 ?_
    refine And.intro sh_l107 ?_
    refine v_Tape_byteAt (d := d)  ?_
    refine And.intro (fun c2 => ?_) (fun c2 => ?_)
    · replace h := h.1 c2
      refine ⟨_, rfl, ?_⟩
      refine And.intro (fun c3 => ?_) (fun c3 => ?_)
      · replace h := h.1 c3
        refine And.intro (Or.inl rfl) ?_
        exact h
      · replace h := h.2 c3
        refine And.intro (Or.inr rfl) ?_
        exact h
    · replace h := h.2 c2
      refine And.intro (fun c4 => ?_) (fun c4 => ?_)
      · replace h := h.1 c4
        refine ⟨_, rfl, ?_⟩
        refine And.intro (fun c5 => ?_) (fun c5 => ?_)
        · replace h := h.1 c5
          refine And.intro (Or.inl rfl) ?_
          exact h
        · replace h := h.2 c5
          refine And.intro (Or.inr rfl) ?_
          exact h
      · replace h := h.2 c4
        refine And.intro (fun c6 => ?_) (fun c6 => ?_)
        · replace h := h.1 c6
          refine ⟨_, rfl, ?_⟩
          refine And.intro (fun c7 => ?_) (fun c7 => ?_)
          · replace h := h.1 c7
            refine And.intro (Or.inl rfl) ?_
            exact h
          · replace h := h.2 c7
            refine And.intro (Or.inr rfl) ?_
            exact h
        · replace h := h.2 c6
          obtain ⟨k8, hkk8, hek8, h⟩ := h
          refine ⟨k8, hkk8, hek8, ?_⟩
          refine ⟨_, rfl, ?_⟩
          refine And.intro (fun c9 => ?_) (fun c9 => ?_)
          · replace h := h.1 c9
            refine And.intro (Or.inl rfl) ?_
            exact h
          · replace h := h.2 c9
            refine And.intro (Or.inr rfl) ?_
            exact h
theorem v_Parser_isWordOf {L d : Nat} {p1 : Nat} (h_p1 : pm_sr p1) {hi : pm_B} {Q : pm_Q} (h : ((¬ (hi 109 2) = 1) → Q (some (.inl 0)) hi) ∧ ((¬ (¬ (hi 109 2) = 1)) → pm_fit 1 (hi p1 1) ∧ (((((hi 109 4) - (hi 109 3)) = ((nI (slen p1)) >>> ((hi p1 1) &&& 31))) → pm_W pm_g (SH L) HR (d + 4) pm_t33 28 [some (.inr 109), some (.inr p1), some (.inl 0)] [] hi Q) ∧ ((¬ (((hi 109 4) - (hi 109 3)) = ((nI (slen p1)) >>> ((hi p1 1) &&& 31)))) → Q (some (.inl 0)) hi)))) : pm_C pm_g (SH L) HR (d + 5) m_Parser_isWordOf [.inr 109, .inr p1] hi Q := by
  refine pm_C_of (maxL := 3) (t := pm_t33) rfl (Nat.le_of_ble_eq_true rfl) ?_
  refine pm_W_of 16 [28] rfl ?_
  refine And.intro sh_l109 ?_
  refine And.intro (fun c1 => ?_) (fun c1 => ?_)
  · replace h := h.1 c1
    refine And.intro (Or.inl rfl) ?_
    exact h
  · replace h := h.2 c1
    refine And.intro sh_l109 ?_
    refine And.intro sh_l109 ?_
    refine And.intro (sh_sr h_p1) ?_
    refine v_String_length (d := d + 2) h_p1 ?_
    refine And.intro h.1 ?_
    replace h := h.2
    refine ⟨_, rfl, ?_⟩
    refine And.intro (fun c2 => ?_) (fun c2 => ?_)
    · replace h := h.1 c2
      exact h
    · replace h := h.2 c2
      refine And.intro (Or.inl rfl) ?_
      exact h
theorem v_Parser_isWordOf_28 {L d : Nat}  {p1 : Nat} (h_p1 : pm_sr p1) {y2 : Int32} {hi : pm_B} {Q : pm_Q} (h : pm_fit 1 (hi p1 1) ∧ (((((nI (slen p1)) >>> ((hi p1 1) &&& 31)) ≤ y2) → Q (some (.inl 1)) hi) ∧ ((¬ (((nI (slen p1)) >>> ((hi p1 1) &&& 31)) ≤ y2)) → ((((hi 109 3) + y2) < 0) → ((¬ (hi p1 1) = 0) → False) ∧ ((¬ (¬ (hi p1 1) = 0)) → ((y2 < 0) → False) ∧ ((¬ (y2 < 0)) → ((y2 < (nI (slen p1))) → ∃ k6 : Nat, k6 < (slen p1) ∧ y2 = nI k6 ∧ (pm_fit 2 ((Int32.toUInt32 ((hi (p1 + 6) k6) &&& 255) % 65536).toInt32) ∧ (pm_fit 2 ((Int32.toUInt32 ((hi (p1 + 6) k6) &&& 255) % 65536).toInt32) ∧ ((((-1) = (Int32.toUInt32 ((hi (p1 + 6) k6) &&& 255) % 65536).toInt32) → pm_W pm_g (SH L) HR (d + 4) pm_t33 28 [some (.inr 109), some (.inr p1), some (.inl (y2 + 1))] [] hi Q) ∧ ((¬ ((-1) = (Int32.toUInt32 ((hi (p1 + 6) k6) &&& 255) % 65536).toInt32)) → Q (some (.inl 0)) hi))))) ∧ ((¬ (y2 < (nI (slen p1)))) → False)))) ∧ ((¬ (((hi 109 3) + y2) < 0)) → (((hi 107 1) ≤ ((hi 109 3) + y2)) → ((¬ (hi p1 1) = 0) → False) ∧ ((¬ (¬ (hi p1 1) = 0)) → ((y2 < 0) → False) ∧ ((¬ (y2 < 0)) → ((y2 < (nI (slen p1))) → ∃ k12 : Nat, k12 < (slen p1) ∧ y2 = nI k12 ∧ (pm_fit 2 ((Int32.toUInt32 ((hi (p1 + 6) k12) &&& 255) % 65536).toInt32) ∧ (pm_fit 2 ((Int32.toUInt32 ((hi (p1 + 6) k12) &&& 255) % 65536).toInt32) ∧ ((((-1) = (Int32.toUInt32 ((hi (p1 + 6) k12) &&& 255) % 65536).toInt32) → pm_W pm_g (SH L) HR (d + 4) pm_t33 28 [some (.inr 109), some (.inr p1), some (.inl (y2 + 1))] [] hi Q) ∧ ((¬ ((-1) = (Int32.toUInt32 ((hi (p1 + 6) k12) &&& 255) % 65536).toInt32)) → Q (some (.inl 0)) hi))))) ∧ ((¬ (y2 < (nI (slen p1)))) → False)))) ∧ ((¬ ((hi 107 1) ≤ ((hi 109 3) + y2))) → ((96 ≤ ((hi 109 3) + y2)) → ((¬ (hi p1 1) = 0) → False) ∧ ((¬ (¬ (hi p1 1) = 0)) → ((y2 < 0) → False) ∧ ((¬ (y2 < 0)) → ((y2 < (nI (slen p1))) → ∃ k18 : Nat, k18 < (slen p1) ∧ y2 = nI k18 ∧ (pm_fit 2 ((Int32.toUInt32 ((hi (p1 + 6) k18) &&& 255) % 65536).toInt32) ∧ (pm_fit 2 ((Int32.toUInt32 ((hi (p1 + 6) k18) &&& 255) % 65536).toInt32) ∧ ((((-1) = (Int32.toUInt32 ((hi (p1 + 6) k18) &&& 255) % 65536).toInt32) → pm_W pm_g (SH L) HR (d + 4) pm_t33 28 [some (.inr 109), some (.inr p1), some (.inl (y2 + 1))] [] hi Q) ∧ ((¬ ((-1) = (Int32.toUInt32 ((hi (p1 + 6) k18) &&& 255) % 65536).toInt32)) → Q (some (.inl 0)) hi))))) ∧ ((¬ (y2 < (nI (slen p1)))) → False)))) ∧ ((¬ (96 ≤ ((hi 109 3) + y2))) → ∃ k20 : Nat, k20 < 96 ∧ ((hi 109 3) + y2) = nI k20 ∧ (((¬ (hi p1 1) = 0) → False) ∧ ((¬ (¬ (hi p1 1) = 0)) → ((y2 < 0) → False) ∧ ((¬ (y2 < 0)) → ((y2 < (nI (slen p1))) → ∃ k24 : Nat, k24 < (slen p1) ∧ y2 = nI k24 ∧ (pm_fit 2 ((Int32.toUInt32 ((hi (p1 + 6) k24) &&& 255) % 65536).toInt32) ∧ (pm_fit 2 ((Int32.toUInt32 ((hi (p1 + 6) k24) &&& 255) % 65536).toInt32) ∧ ((((hi 108 k20) = (Int32.toUInt32 ((hi (p1 + 6) k24) &&& 255) % 65536).toInt32) → pm_W pm_g (SH L) HR (d + 4) pm_t33 28 [some (.inr 109), some (.inr p1), some (.inl (y2 + 1))] [] hi Q) ∧ ((¬ ((hi 108 k20) = (Int32.toUInt32 ((hi (p1 + 6) k24) &&& 255) % 65536).toInt32)) → Q (some (.inl 0)) hi))))) ∧ ((¬ (y2 < (nI (slen p1)))) → False)))))))))) : pm_W pm_g (SH L) HR (d + 4) pm_t33 28 [some (.inr 109), some (.inr p1), some (.inl y2)] [] hi Q := by
  refine pm_W_of 19 [28] rfl ?_
  refine And.intro (sh_sr h_p1) ?_
  refine v_String_length (d := d + 2) h_p1 ?_
  refine And.intro h.1 ?_
  replace h := h.2
  refine ⟨_, rfl, ?_⟩
  refine And.intro (fun c1 => ?_) (fun c1 => ?_)
  · replace h := h.1 c1
    refine And.intro (Or.inr rfl) ?_
    exact h
  · replace h := h.2 c1
    refine And.intro sh_l109 ?_
    rw [hr_109_0]
    refine And.intro sh_l109 ?_
    refine And.intro sh_l107 ?_
    refine v_Tape_byteAt (d := d + 3)  ?_
    refine And.intro (fun c2 => ?_) (fun c2 => ?_)
    · replace h := h.1 c2
      refine ⟨_, rfl, ?_⟩
      refine And.intro (sh_sr h_p1) ?_
      refine v_String_charAt (d := d) h_p1 ?_
      refine And.intro (fun c3 => ?_) (fun c3 => ?_)
      · replace h := h.1 c3
        exact h.elim
      · replace h := h.2 c3
        refine And.intro (fun c4 => ?_) (fun c4 => ?_)
        · replace h := h.1 c4
          exact h.elim
        · replace h := h.2 c4
          refine And.intro (fun c5 => ?_) (fun c5 => ?_)
          · replace h := h.1 c5
            obtain ⟨k6, hkk6, hek6, h⟩ := h
            refine ⟨k6, hkk6, hek6, ?_⟩
            refine And.intro h.1 ?_
            replace h := h.2
            refine And.intro h.1 ?_
            replace h := h.2
            refine ⟨_, rfl, ?_⟩
            refine And.intro (fun c7 => ?_) (fun c7 => ?_)
            · replace h := h.1 c7
              exact h
            · replace h := h.2 c7
              refine And.intro (Or.inl rfl) ?_
              exact h
          · replace h := h.2 c5
            exact h.elim
    · replace h := h.2 c2
      refine And.intro (fun c8 => ?_) (fun c8 => ?_)
      · replace h := h.1 c8
        refine ⟨_, rfl, ?_⟩
        refine And.intro (sh_sr h_p1) ?_
        refine v_String_charAt (d := d) h_p1 ?_
        refine And.intro (fun c9 => ?_) (fun c9 => ?_)
        · replace h := h.1 c9
          exact h.elim
        · replace h := h.2 c9
          refine And.intro (fun c10 => ?_) (fun c10 => ?_)
          · replace h := h.1 c10
            exact h.elim
          · replace h := h.2 c10
            refine And.intro (fun c11 => ?_) (fun c11 => ?_)
            · replace h := h.1 c11
              obtain ⟨k12, hkk12, hek12, h⟩ := h
              refine ⟨k12, hkk12, hek12, ?_⟩
              refine And.intro h.1 ?_
              replace h := h.2
              refine And.intro h.1 ?_
              replace h := h.2
              refine ⟨_, rfl, ?_⟩
              refine And.intro (fun c13 => ?_) (fun c13 => ?_)
              · replace h := h.1 c13
                exact h
              · replace h := h.2 c13
                refine And.intro (Or.inl rfl) ?_
                exact h
            · replace h := h.2 c11
              exact h.elim
      · replace h := h.2 c8
        refine And.intro (fun c14 => ?_) (fun c14 => ?_)
        · replace h := h.1 c14
          refine ⟨_, rfl, ?_⟩
          refine And.intro (sh_sr h_p1) ?_
          refine v_String_charAt (d := d) h_p1 ?_
          refine And.intro (fun c15 => ?_) (fun c15 => ?_)
          · replace h := h.1 c15
            exact h.elim
          · replace h := h.2 c15
            refine And.intro (fun c16 => ?_) (fun c16 => ?_)
            · replace h := h.1 c16
              exact h.elim
            · replace h := h.2 c16
              refine And.intro (fun c17 => ?_) (fun c17 => ?_)
              · replace h := h.1 c17
                obtain ⟨k18, hkk18, hek18, h⟩ := h
                refine ⟨k18, hkk18, hek18, ?_⟩
                refine And.intro h.1 ?_
                replace h := h.2
                refine And.intro h.1 ?_
                replace h := h.2
                refine ⟨_, rfl, ?_⟩
                refine And.intro (fun c19 => ?_) (fun c19 => ?_)
                · replace h := h.1 c19
                  exact h
                · replace h := h.2 c19
                  refine And.intro (Or.inl rfl) ?_
                  exact h
              · replace h := h.2 c17
                exact h.elim
        · replace h := h.2 c14
          obtain ⟨k20, hkk20, hek20, h⟩ := h
          refine ⟨k20, hkk20, hek20, ?_⟩
          refine ⟨_, rfl, ?_⟩
          refine And.intro (sh_sr h_p1) ?_
          refine v_String_charAt (d := d) h_p1 ?_
          refine And.intro (fun c21 => ?_) (fun c21 => ?_)
          · replace h := h.1 c21
            exact h.elim
          · replace h := h.2 c21
            refine And.intro (fun c22 => ?_) (fun c22 => ?_)
            · replace h := h.1 c22
              exact h.elim
            · replace h := h.2 c22
              refine And.intro (fun c23 => ?_) (fun c23 => ?_)
              · replace h := h.1 c23
                obtain ⟨k24, hkk24, hek24, h⟩ := h
                refine ⟨k24, hkk24, hek24, ?_⟩
                refine And.intro h.1 ?_
                replace h := h.2
                refine And.intro h.1 ?_
                replace h := h.2
                refine ⟨_, rfl, ?_⟩
                refine And.intro (fun c25 => ?_) (fun c25 => ?_)
                · replace h := h.1 c25
                  exact h
                · replace h := h.2 c25
                  refine And.intro (Or.inl rfl) ?_
                  exact h
              · replace h := h.2 c23
                exact h.elim
theorem v_Parser_readKey {L d : Nat}  {hi : pm_B} {Q : pm_Q} (h : pm_C pm_g (SH L) HR (d + 1) m_Parser_isWordOf [.inr 109, .inr 3] hi (fun v hi1 => ∃ x2 : Int32, v = some (.inl x2) ∧ (((x2 = 0) → pm_C pm_g (SH L) HR (d + 1) m_Parser_isWordOf [.inr 109, .inr 4] hi1 (fun v hi4 => ∃ x5 : Int32, v = some (.inl x5) ∧ (((x5 = 0) → pm_C pm_g (SH L) HR (d + 1) m_Parser_isWordOf [.inr 109, .inr 5] hi4 (fun v hi7 => ∃ x8 : Int32, v = some (.inl x8) ∧ (((x8 = 0) → ((¬ (hi7 109 7) = (-1000000005)) → ∀ hi11 : pm_B, hi11 = pm_u hi7 109 2 4 → ((((hi11 109 2) = 4) → Q none hi11) ∧ ((¬ ((hi11 109 2) = 4)) → pm_C pm_g (SH L) HR (d + 1) m_Parser_step [.inr 109] hi11 (fun v hi13 => v = none ∧ (Q none hi13))))) ∧ ((¬ (¬ (hi7 109 7) = (-1000000005))) → ∀ hi14 : pm_B, hi14 = pm_u (pm_u hi7 109 7 (hi7 109 3)) 109 2 4 → ((((hi14 109 2) = 4) → Q none hi14) ∧ ((¬ ((hi14 109 2) = 4)) → pm_C pm_g (SH L) HR (d + 1) m_Parser_step [.inr 109] hi14 (fun v hi16 => v = none ∧ (Q none hi16)))))) ∧ ((¬ (x8 = 0)) → ∃ t17 : Nat, pm_tx t17 ∧ (hi7 109 1) = nI t17 ∧ (((((pm_u hi7 t17 0 2) 109 2) = 4) → Q none (pm_u hi7 t17 0 2)) ∧ ((¬ (((pm_u hi7 t17 0 2) 109 2) = 4)) → pm_C pm_g (SH L) HR (d + 1) m_Parser_step [.inr 109] (pm_u hi7 t17 0 2) (fun v hi19 => v = none ∧ (Q none hi19)))))))) ∧ ((¬ (x5 = 0)) → ∃ t20 : Nat, pm_tx t20 ∧ (hi4 109 1) = nI t20 ∧ (((((pm_u hi4 t20 0 1) 109 2) = 4) → Q none (pm_u hi4 t20 0 1)) ∧ ((¬ (((pm_u hi4 t20 0 1) 109 2) = 4)) → pm_C pm_g (SH L) HR (d + 1) m_Parser_step [.inr 109] (pm_u hi4 t20 0 1) (fun v hi22 => v = none ∧ (Q none hi22)))))))) ∧ ((¬ (x2 = 0)) → ∃ t23 : Nat, pm_tx t23 ∧ (hi1 109 1) = nI t23 ∧ (((((pm_u hi1 t23 0 0) 109 2) = 4) → Q none (pm_u hi1 t23 0 0)) ∧ ((¬ (((pm_u hi1 t23 0 0) 109 2) = 4)) → pm_C pm_g (SH L) HR (d + 1) m_Parser_step [.inr 109] (pm_u hi1 t23 0 0) (fun v hi25 => v = none ∧ (Q none hi25)))))))) : pm_C pm_g (SH L) HR (d + 2) m_Parser_readKey [.inr 109] hi Q := by
  refine pm_C_of (maxL := 1) (t := pm_t34) rfl (Nat.le_of_ble_eq_true rfl) ?_
  refine pm_W_of 26 [] rfl ?_
  refine And.intro sh_l109 ?_
  refine pm_C_imp h (fun v hi1 h => ?_)
  obtain ⟨x2, rfl, h⟩ := h
  refine ⟨_, rfl, ?_⟩
  refine And.intro (fun c3 => ?_) (fun c3 => ?_)
  · replace h := h.1 c3
    refine And.intro sh_l109 ?_
    refine pm_C_imp h (fun v hi4 h => ?_)
    obtain ⟨x5, rfl, h⟩ := h
    refine ⟨_, rfl, ?_⟩
    refine And.intro (fun c6 => ?_) (fun c6 => ?_)
    · replace h := h.1 c6
      refine And.intro sh_l109 ?_
      refine pm_C_imp h (fun v hi7 h => ?_)
      obtain ⟨x8, rfl, h⟩ := h
      refine ⟨_, rfl, ?_⟩
      refine And.intro (fun c9 => ?_) (fun c9 => ?_)
      · replace h := h.1 c9
        refine And.intro sh_l109 ?_
        refine v_Parser_fail (d := d)  ?_
        refine And.intro (fun c10 => ?_) (fun c10 => ?_)
        · replace h := h.1 c10
          refine ⟨rfl, ?_⟩
          obtain ⟨hi11, ehi11⟩ : ∃ m : pm_B, m = pm_u hi7 109 2 4 := ⟨_, rfl⟩
          replace h := h hi11 ehi11
          rw [← ehi11]
          refine And.intro sh_l109 ?_
          refine And.intro (fun c12 => ?_) (fun c12 => ?_)
          · replace h := h.1 c12
            exact h
          · replace h := h.2 c12
            refine And.intro sh_l109 ?_
            refine pm_C_imp h (fun v hi13 h => ?_)
            obtain ⟨rfl, h⟩ := h
            refine ⟨rfl, ?_⟩
            exact h
        · replace h := h.2 c10
          intro hi14 ehi14
          replace h := h hi14 ehi14
          refine ⟨rfl, ?_⟩
          refine And.intro sh_l109 ?_
          refine And.intro (fun c15 => ?_) (fun c15 => ?_)
          · replace h := h.1 c15
            exact h
          · replace h := h.2 c15
            refine And.intro sh_l109 ?_
            refine pm_C_imp h (fun v hi16 h => ?_)
            obtain ⟨rfl, h⟩ := h
            refine ⟨rfl, ?_⟩
            exact h
      · replace h := h.2 c9
        refine And.intro sh_l109 ?_
        obtain ⟨t17, hht17, het17, h⟩ := h
        rw [pm_tn_tx het17 hht17]
        refine And.intro ⟨(sh_tx hht17), trivial⟩ ?_
        refine And.intro sh_l109 ?_
        refine And.intro (fun c18 => ?_) (fun c18 => ?_)
        · replace h := h.1 c18
          exact h
        · replace h := h.2 c18
          refine And.intro sh_l109 ?_
          refine pm_C_imp h (fun v hi19 h => ?_)
          obtain ⟨rfl, h⟩ := h
          refine ⟨rfl, ?_⟩
          exact h
    · replace h := h.2 c6
      refine And.intro sh_l109 ?_
      obtain ⟨t20, hht20, het20, h⟩ := h
      rw [pm_tn_tx het20 hht20]
      refine And.intro ⟨(sh_tx hht20), trivial⟩ ?_
      refine And.intro sh_l109 ?_
      refine And.intro (fun c21 => ?_) (fun c21 => ?_)
      · replace h := h.1 c21
        exact h
      · replace h := h.2 c21
        refine And.intro sh_l109 ?_
        refine pm_C_imp h (fun v hi22 h => ?_)
        obtain ⟨rfl, h⟩ := h
        refine ⟨rfl, ?_⟩
        exact h
  · replace h := h.2 c3
    refine And.intro sh_l109 ?_
    obtain ⟨t23, hht23, het23, h⟩ := h
    rw [pm_tn_tx het23 hht23]
    refine And.intro ⟨(sh_tx hht23), trivial⟩ ?_
    refine And.intro sh_l109 ?_
    refine And.intro (fun c24 => ?_) (fun c24 => ?_)
    · replace h := h.1 c24
      exact h
    · replace h := h.2 c24
      refine And.intro sh_l109 ?_
      refine pm_C_imp h (fun v hi25 h => ?_)
      obtain ⟨rfl, h⟩ := h
      refine ⟨rfl, ?_⟩
      exact h
theorem v_Parser_readOr {L d : Nat}  {hi : pm_B} {Q : pm_Q} (h : pm_C pm_g (SH L) HR (d + 1) m_Parser_readAnd [.inr 109] hi (fun v hi1 => v = none ∧ (pm_W pm_g (SH L) HR (d + 1) pm_t35 6 [some (.inr 109), some (.inl 0)] [] hi1 Q))) : pm_C pm_g (SH L) HR (d + 2) m_Parser_readOr [.inr 109] hi Q := by
  refine pm_C_of (maxL := 2) (t := pm_t35) rfl (Nat.le_of_ble_eq_true rfl) ?_
  refine pm_W_of 6 [6] rfl ?_
  refine And.intro sh_l109 ?_
  refine pm_C_imp h (fun v hi1 h => ?_)
  obtain ⟨rfl, h⟩ := h
  refine ⟨rfl, ?_⟩
  exact h
theorem v_Parser_readOr_6 {L d : Nat}  {y1 : Int32} {hi : pm_B} {Q : pm_Q} (h : ((96 ≤ y1) → Q none hi) ∧ ((¬ (96 ≤ y1)) → pm_C pm_g (SH L) HR (d + 1) m_Parser_isSign [.inr 109, .inl 124] hi (fun v hi2 => ∃ x3 : Int32, v = some (.inl x3) ∧ (((x3 = 0) → Q none hi2) ∧ ((¬ (x3 = 0)) → pm_C pm_g (SH L) HR (d + 1) m_Parser_step [.inr 109] hi2 (fun v hi5 => v = none ∧ (pm_C pm_g (SH L) HR (d + 1) m_Parser_readAnd [.inr 109] hi5 (fun v hi6 => v = none ∧ (∃ t7 : Nat, pm_tx t7 ∧ (hi6 109 1) = nI t7 ∧ ((((hi6 t7 2) < 0) → pm_W pm_g (SH L) HR (d + 1) pm_t35 6 [some (.inr 109), some (.inl (y1 + 1))] [] hi6 Q) ∧ ((¬ ((hi6 t7 2) < 0)) → (((hi6 t7 2) < 96) → ∃ k10 : Nat, k10 < 96 ∧ (hi6 t7 2) = nI k10 ∧ (∀ hi11 : pm_B, hi11 = pm_u (pm_u hi6 (t7 + 1) k10 (-124)) t7 2 (((pm_u hi6 (t7 + 1) k10 (-124)) t7 2) + 1) → (pm_W pm_g (SH L) HR (d + 1) pm_t35 6 [some (.inr 109), some (.inl (y1 + 1))] [] hi11 Q))) ∧ ((¬ ((hi6 t7 2) < 96)) → pm_W pm_g (SH L) HR (d + 1) pm_t35 6 [some (.inr 109), some (.inl (y1 + 1))] [] hi6 Q)))))))))))) : pm_W pm_g (SH L) HR (d + 1) pm_t35 6 [some (.inr 109), some (.inl y1)] [] hi Q := by
  refine pm_W_of 24 [6] rfl ?_
  refine And.intro (fun c1 => ?_) (fun c1 => ?_)
  · replace h := h.1 c1
    exact h
  · replace h := h.2 c1
    refine And.intro sh_l109 ?_
    refine pm_C_imp h (fun v hi2 h => ?_)
    obtain ⟨x3, rfl, h⟩ := h
    refine ⟨_, rfl, ?_⟩
    refine And.intro (fun c4 => ?_) (fun c4 => ?_)
    · replace h := h.1 c4
      exact h
    · replace h := h.2 c4
      refine And.intro sh_l109 ?_
      refine pm_C_imp h (fun v hi5 h => ?_)
      obtain ⟨rfl, h⟩ := h
      refine ⟨rfl, ?_⟩
      refine And.intro sh_l109 ?_
      refine pm_C_imp h (fun v hi6 h => ?_)
      obtain ⟨rfl, h⟩ := h
      refine ⟨rfl, ?_⟩
      refine And.intro sh_l109 ?_
      obtain ⟨t7, hht7, het7, h⟩ := h
      rw [pm_tn_tx het7 hht7]
      refine And.intro (sh_tx hht7) ?_
      refine v_Text_put (d := d) hht7 ?_
      refine And.intro (fun c8 => ?_) (fun c8 => ?_)
      · replace h := h.1 c8
        refine ⟨rfl, ?_⟩
        exact h
      · replace h := h.2 c8
        refine And.intro (fun c9 => ?_) (fun c9 => ?_)
        · replace h := h.1 c9
          obtain ⟨k10, hkk10, hek10, h⟩ := h
          refine ⟨k10, hkk10, hek10, ?_⟩
          intro hi11 ehi11
          replace h := h hi11 ehi11
          refine ⟨rfl, ?_⟩
          exact h
        · replace h := h.2 c9
          refine ⟨rfl, ?_⟩
          exact h
theorem v_Parser_readAnd {L d : Nat}  {hi : pm_B} {Q : pm_Q} (h : pm_C pm_g (SH L) HR (d + 1) m_Parser_readTest [.inr 109] hi (fun v hi1 => v = none ∧ (pm_W pm_g (SH L) HR (d + 1) pm_t36 6 [some (.inr 109), some (.inl 0)] [] hi1 Q))) : pm_C pm_g (SH L) HR (d + 2) m_Parser_readAnd [.inr 109] hi Q := by
  refine pm_C_of (maxL := 2) (t := pm_t36) rfl (Nat.le_of_ble_eq_true rfl) ?_
  refine pm_W_of 6 [6] rfl ?_
  refine And.intro sh_l109 ?_
  refine pm_C_imp h (fun v hi1 h => ?_)
  obtain ⟨rfl, h⟩ := h
  refine ⟨rfl, ?_⟩
  exact h
theorem v_Parser_readAnd_6 {L d : Nat}  {y1 : Int32} {hi : pm_B} {Q : pm_Q} (h : ((96 ≤ y1) → Q none hi) ∧ ((¬ (96 ≤ y1)) → pm_C pm_g (SH L) HR (d + 1) m_Parser_isSign [.inr 109, .inl 38] hi (fun v hi2 => ∃ x3 : Int32, v = some (.inl x3) ∧ (((x3 = 0) → Q none hi2) ∧ ((¬ (x3 = 0)) → pm_C pm_g (SH L) HR (d + 1) m_Parser_step [.inr 109] hi2 (fun v hi5 => v = none ∧ (pm_C pm_g (SH L) HR (d + 1) m_Parser_readTest [.inr 109] hi5 (fun v hi6 => v = none ∧ (∃ t7 : Nat, pm_tx t7 ∧ (hi6 109 1) = nI t7 ∧ ((((hi6 t7 2) < 0) → pm_W pm_g (SH L) HR (d + 1) pm_t36 6 [some (.inr 109), some (.inl (y1 + 1))] [] hi6 Q) ∧ ((¬ ((hi6 t7 2) < 0)) → (((hi6 t7 2) < 96) → ∃ k10 : Nat, k10 < 96 ∧ (hi6 t7 2) = nI k10 ∧ (∀ hi11 : pm_B, hi11 = pm_u (pm_u hi6 (t7 + 1) k10 (-38)) t7 2 (((pm_u hi6 (t7 + 1) k10 (-38)) t7 2) + 1) → (pm_W pm_g (SH L) HR (d + 1) pm_t36 6 [some (.inr 109), some (.inl (y1 + 1))] [] hi11 Q))) ∧ ((¬ ((hi6 t7 2) < 96)) → pm_W pm_g (SH L) HR (d + 1) pm_t36 6 [some (.inr 109), some (.inl (y1 + 1))] [] hi6 Q)))))))))))) : pm_W pm_g (SH L) HR (d + 1) pm_t36 6 [some (.inr 109), some (.inl y1)] [] hi Q := by
  refine pm_W_of 24 [6] rfl ?_
  refine And.intro (fun c1 => ?_) (fun c1 => ?_)
  · replace h := h.1 c1
    exact h
  · replace h := h.2 c1
    refine And.intro sh_l109 ?_
    refine pm_C_imp h (fun v hi2 h => ?_)
    obtain ⟨x3, rfl, h⟩ := h
    refine ⟨_, rfl, ?_⟩
    refine And.intro (fun c4 => ?_) (fun c4 => ?_)
    · replace h := h.1 c4
      exact h
    · replace h := h.2 c4
      refine And.intro sh_l109 ?_
      refine pm_C_imp h (fun v hi5 h => ?_)
      obtain ⟨rfl, h⟩ := h
      refine ⟨rfl, ?_⟩
      refine And.intro sh_l109 ?_
      refine pm_C_imp h (fun v hi6 h => ?_)
      obtain ⟨rfl, h⟩ := h
      refine ⟨rfl, ?_⟩
      refine And.intro sh_l109 ?_
      obtain ⟨t7, hht7, het7, h⟩ := h
      rw [pm_tn_tx het7 hht7]
      refine And.intro (sh_tx hht7) ?_
      refine v_Text_put (d := d) hht7 ?_
      refine And.intro (fun c8 => ?_) (fun c8 => ?_)
      · replace h := h.1 c8
        refine ⟨rfl, ?_⟩
        exact h
      · replace h := h.2 c8
        refine And.intro (fun c9 => ?_) (fun c9 => ?_)
        · replace h := h.1 c9
          obtain ⟨k10, hkk10, hek10, h⟩ := h
          refine ⟨k10, hkk10, hek10, ?_⟩
          intro hi11 ehi11
          replace h := h hi11 ehi11
          refine ⟨rfl, ?_⟩
          exact h
        · replace h := h.2 c9
          refine ⟨rfl, ?_⟩
          exact h
theorem v_Parser_readTest {L d : Nat}  {hi : pm_B} {Q : pm_Q} (h : pm_C pm_g (SH L) HR (d + 1) m_Parser_readSum [.inr 109] hi (fun v hi1 => v = none ∧ (pm_C pm_g (SH L) HR (d + 1) m_Parser_isSign [.inr 109, .inl 60] hi1 (fun v hi2 => ∃ x3 : Int32, v = some (.inl x3) ∧ (((¬ x3 = 0) → (((hi2 109 3) < 0) → pm_C pm_g (SH L) HR (d + 1) m_Parser_step [.inr 109] hi2 (fun v hi6 => v = none ∧ (pm_C pm_g (SH L) HR (d + 1) m_Parser_readSum [.inr 109] hi6 (fun v hi7 => v = none ∧ (∃ t8 : Nat, pm_tx t8 ∧ (hi7 109 1) = nI t8 ∧ ((((hi7 t8 2) < 0) → Q none hi7) ∧ ((¬ ((hi7 t8 2) < 0)) → (((hi7 t8 2) < 96) → ∃ k11 : Nat, k11 < 96 ∧ (hi7 t8 2) = nI k11 ∧ (∀ hi12 : pm_B, hi12 = pm_u (pm_u hi7 (t8 + 1) k11 (-(-1))) t8 2 (((pm_u hi7 (t8 + 1) k11 (-(-1))) t8 2) + 1) → (Q none hi12))) ∧ ((¬ ((hi7 t8 2) < 96)) → Q none hi7)))))))) ∧ ((¬ ((hi2 109 3) < 0)) → (((hi2 107 1) ≤ (hi2 109 3)) → pm_C pm_g (SH L) HR (d + 1) m_Parser_step [.inr 109] hi2 (fun v hi14 => v = none ∧ (pm_C pm_g (SH L) HR (d + 1) m_Parser_readSum [.inr 109] hi14 (fun v hi15 => v = none ∧ (∃ t16 : Nat, pm_tx t16 ∧ (hi15 109 1) = nI t16 ∧ ((((hi15 t16 2) < 0) → Q none hi15) ∧ ((¬ ((hi15 t16 2) < 0)) → (((hi15 t16 2) < 96) → ∃ k19 : Nat, k19 < 96 ∧ (hi15 t16 2) = nI k19 ∧ (∀ hi20 : pm_B, hi20 = pm_u (pm_u hi15 (t16 + 1) k19 (-(-1))) t16 2 (((pm_u hi15 (t16 + 1) k19 (-(-1))) t16 2) + 1) → (Q none hi20))) ∧ ((¬ ((hi15 t16 2) < 96)) → Q none hi15)))))))) ∧ ((¬ ((hi2 107 1) ≤ (hi2 109 3))) → ((96 ≤ (hi2 109 3)) → pm_C pm_g (SH L) HR (d + 1) m_Parser_step [.inr 109] hi2 (fun v hi22 => v = none ∧ (pm_C pm_g (SH L) HR (d + 1) m_Parser_readSum [.inr 109] hi22 (fun v hi23 => v = none ∧ (∃ t24 : Nat, pm_tx t24 ∧ (hi23 109 1) = nI t24 ∧ ((((hi23 t24 2) < 0) → Q none hi23) ∧ ((¬ ((hi23 t24 2) < 0)) → (((hi23 t24 2) < 96) → ∃ k27 : Nat, k27 < 96 ∧ (hi23 t24 2) = nI k27 ∧ (∀ hi28 : pm_B, hi28 = pm_u (pm_u hi23 (t24 + 1) k27 (-(-1))) t24 2 (((pm_u hi23 (t24 + 1) k27 (-(-1))) t24 2) + 1) → (Q none hi28))) ∧ ((¬ ((hi23 t24 2) < 96)) → Q none hi23)))))))) ∧ ((¬ (96 ≤ (hi2 109 3))) → ∃ k29 : Nat, k29 < 96 ∧ (hi2 109 3) = nI k29 ∧ (pm_C pm_g (SH L) HR (d + 1) m_Parser_step [.inr 109] hi2 (fun v hi30 => v = none ∧ (pm_C pm_g (SH L) HR (d + 1) m_Parser_readSum [.inr 109] hi30 (fun v hi31 => v = none ∧ (∃ t32 : Nat, pm_tx t32 ∧ (hi31 109 1) = nI t32 ∧ ((((hi31 t32 2) < 0) → Q none hi31) ∧ ((¬ ((hi31 t32 2) < 0)) → (((hi31 t32 2) < 96) → ∃ k35 : Nat, k35 < 96 ∧ (hi31 t32 2) = nI k35 ∧ (∀ hi36 : pm_B, hi36 = pm_u (pm_u hi31 (t32 + 1) k35 (-(hi2 108 k29))) t32 2 (((pm_u hi31 (t32 + 1) k35 (-(hi2 108 k29))) t32 2) + 1) → (Q none hi36))) ∧ ((¬ ((hi31 t32 2) < 96)) → Q none hi31)))))))))))) ∧ ((¬ (¬ x3 = 0)) → pm_C pm_g (SH L) HR (d + 1) m_Parser_isSign [.inr 109, .inl 61] hi2 (fun v hi37 => ∃ x38 : Int32, v = some (.inl x38) ∧ (((¬ x38 = 0) → (((hi37 109 3) < 0) → pm_C pm_g (SH L) HR (d + 1) m_Parser_step [.inr 109] hi37 (fun v hi41 => v = none ∧ (pm_C pm_g (SH L) HR (d + 1) m_Parser_readSum [.inr 109] hi41 (fun v hi42 => v = none ∧ (∃ t43 : Nat, pm_tx t43 ∧ (hi42 109 1) = nI t43 ∧ ((((hi42 t43 2) < 0) → Q none hi42) ∧ ((¬ ((hi42 t43 2) < 0)) → (((hi42 t43 2) < 96) → ∃ k46 : Nat, k46 < 96 ∧ (hi42 t43 2) = nI k46 ∧ (∀ hi47 : pm_B, hi47 = pm_u (pm_u hi42 (t43 + 1) k46 (-(-1))) t43 2 (((pm_u hi42 (t43 + 1) k46 (-(-1))) t43 2) + 1) → (Q none hi47))) ∧ ((¬ ((hi42 t43 2) < 96)) → Q none hi42)))))))) ∧ ((¬ ((hi37 109 3) < 0)) → (((hi37 107 1) ≤ (hi37 109 3)) → pm_C pm_g (SH L) HR (d + 1) m_Parser_step [.inr 109] hi37 (fun v hi49 => v = none ∧ (pm_C pm_g (SH L) HR (d + 1) m_Parser_readSum [.inr 109] hi49 (fun v hi50 => v = none ∧ (∃ t51 : Nat, pm_tx t51 ∧ (hi50 109 1) = nI t51 ∧ ((((hi50 t51 2) < 0) → Q none hi50) ∧ ((¬ ((hi50 t51 2) < 0)) → (((hi50 t51 2) < 96) → ∃ k54 : Nat, k54 < 96 ∧ (hi50 t51 2) = nI k54 ∧ (∀ hi55 : pm_B, hi55 = pm_u (pm_u hi50 (t51 + 1) k54 (-(-1))) t51 2 (((pm_u hi50 (t51 + 1) k54 (-(-1))) t51 2) + 1) → (Q none hi55))) ∧ ((¬ ((hi50 t51 2) < 96)) → Q none hi50)))))))) ∧ ((¬ ((hi37 107 1) ≤ (hi37 109 3))) → ((96 ≤ (hi37 109 3)) → pm_C pm_g (SH L) HR (d + 1) m_Parser_step [.inr 109] hi37 (fun v hi57 => v = none ∧ (pm_C pm_g (SH L) HR (d + 1) m_Parser_readSum [.inr 109] hi57 (fun v hi58 => v = none ∧ (∃ t59 : Nat, pm_tx t59 ∧ (hi58 109 1) = nI t59 ∧ ((((hi58 t59 2) < 0) → Q none hi58) ∧ ((¬ ((hi58 t59 2) < 0)) → (((hi58 t59 2) < 96) → ∃ k62 : Nat, k62 < 96 ∧ (hi58 t59 2) = nI k62 ∧ (∀ hi63 : pm_B, hi63 = pm_u (pm_u hi58 (t59 + 1) k62 (-(-1))) t59 2 (((pm_u hi58 (t59 + 1) k62 (-(-1))) t59 2) + 1) → (Q none hi63))) ∧ ((¬ ((hi58 t59 2) < 96)) → Q none hi58)))))))) ∧ ((¬ (96 ≤ (hi37 109 3))) → ∃ k64 : Nat, k64 < 96 ∧ (hi37 109 3) = nI k64 ∧ (pm_C pm_g (SH L) HR (d + 1) m_Parser_step [.inr 109] hi37 (fun v hi65 => v = none ∧ (pm_C pm_g (SH L) HR (d + 1) m_Parser_readSum [.inr 109] hi65 (fun v hi66 => v = none ∧ (∃ t67 : Nat, pm_tx t67 ∧ (hi66 109 1) = nI t67 ∧ ((((hi66 t67 2) < 0) → Q none hi66) ∧ ((¬ ((hi66 t67 2) < 0)) → (((hi66 t67 2) < 96) → ∃ k70 : Nat, k70 < 96 ∧ (hi66 t67 2) = nI k70 ∧ (∀ hi71 : pm_B, hi71 = pm_u (pm_u hi66 (t67 + 1) k70 (-(hi37 108 k64))) t67 2 (((pm_u hi66 (t67 + 1) k70 (-(hi37 108 k64))) t67 2) + 1) → (Q none hi71))) ∧ ((¬ ((hi66 t67 2) < 96)) → Q none hi66)))))))))))) ∧ ((¬ (¬ x38 = 0)) → pm_C pm_g (SH L) HR (d + 1) m_Parser_isSign [.inr 109, .inl 62] hi37 (fun v hi72 => ∃ x73 : Int32, v = some (.inl x73) ∧ (((x73 = 0) → Q none hi72) ∧ ((¬ (x73 = 0)) → (((hi72 109 3) < 0) → pm_C pm_g (SH L) HR (d + 1) m_Parser_step [.inr 109] hi72 (fun v hi76 => v = none ∧ (pm_C pm_g (SH L) HR (d + 1) m_Parser_readSum [.inr 109] hi76 (fun v hi77 => v = none ∧ (∃ t78 : Nat, pm_tx t78 ∧ (hi77 109 1) = nI t78 ∧ ((((hi77 t78 2) < 0) → Q none hi77) ∧ ((¬ ((hi77 t78 2) < 0)) → (((hi77 t78 2) < 96) → ∃ k81 : Nat, k81 < 96 ∧ (hi77 t78 2) = nI k81 ∧ (∀ hi82 : pm_B, hi82 = pm_u (pm_u hi77 (t78 + 1) k81 (-(-1))) t78 2 (((pm_u hi77 (t78 + 1) k81 (-(-1))) t78 2) + 1) → (Q none hi82))) ∧ ((¬ ((hi77 t78 2) < 96)) → Q none hi77)))))))) ∧ ((¬ ((hi72 109 3) < 0)) → (((hi72 107 1) ≤ (hi72 109 3)) → pm_C pm_g (SH L) HR (d + 1) m_Parser_step [.inr 109] hi72 (fun v hi84 => v = none ∧ (pm_C pm_g (SH L) HR (d + 1) m_Parser_readSum [.inr 109] hi84 (fun v hi85 => v = none ∧ (∃ t86 : Nat, pm_tx t86 ∧ (hi85 109 1) = nI t86 ∧ ((((hi85 t86 2) < 0) → Q none hi85) ∧ ((¬ ((hi85 t86 2) < 0)) → (((hi85 t86 2) < 96) → ∃ k89 : Nat, k89 < 96 ∧ (hi85 t86 2) = nI k89 ∧ (∀ hi90 : pm_B, hi90 = pm_u (pm_u hi85 (t86 + 1) k89 (-(-1))) t86 2 (((pm_u hi85 (t86 + 1) k89 (-(-1))) t86 2) + 1) → (Q none hi90))) ∧ ((¬ ((hi85 t86 2) < 96)) → Q none hi85)))))))) ∧ ((¬ ((hi72 107 1) ≤ (hi72 109 3))) → ((96 ≤ (hi72 109 3)) → pm_C pm_g (SH L) HR (d + 1) m_Parser_step [.inr 109] hi72 (fun v hi92 => v = none ∧ (pm_C pm_g (SH L) HR (d + 1) m_Parser_readSum [.inr 109] hi92 (fun v hi93 => v = none ∧ (∃ t94 : Nat, pm_tx t94 ∧ (hi93 109 1) = nI t94 ∧ ((((hi93 t94 2) < 0) → Q none hi93) ∧ ((¬ ((hi93 t94 2) < 0)) → (((hi93 t94 2) < 96) → ∃ k97 : Nat, k97 < 96 ∧ (hi93 t94 2) = nI k97 ∧ (∀ hi98 : pm_B, hi98 = pm_u (pm_u hi93 (t94 + 1) k97 (-(-1))) t94 2 (((pm_u hi93 (t94 + 1) k97 (-(-1))) t94 2) + 1) → (Q none hi98))) ∧ ((¬ ((hi93 t94 2) < 96)) → Q none hi93)))))))) ∧ ((¬ (96 ≤ (hi72 109 3))) → ∃ k99 : Nat, k99 < 96 ∧ (hi72 109 3) = nI k99 ∧ (pm_C pm_g (SH L) HR (d + 1) m_Parser_step [.inr 109] hi72 (fun v hi100 => v = none ∧ (pm_C pm_g (SH L) HR (d + 1) m_Parser_readSum [.inr 109] hi100 (fun v hi101 => v = none ∧ (∃ t102 : Nat, pm_tx t102 ∧ (hi101 109 1) = nI t102 ∧ ((((hi101 t102 2) < 0) → Q none hi101) ∧ ((¬ ((hi101 t102 2) < 0)) → (((hi101 t102 2) < 96) → ∃ k105 : Nat, k105 < 96 ∧ (hi101 t102 2) = nI k105 ∧ (∀ hi106 : pm_B, hi106 = pm_u (pm_u hi101 (t102 + 1) k105 (-(hi72 108 k99))) t102 2 (((pm_u hi101 (t102 + 1) k105 (-(hi72 108 k99))) t102 2) + 1) → (Q none hi106))) ∧ ((¬ ((hi101 t102 2) < 96)) → Q none hi101))))))))))))))))))))))) : pm_C pm_g (SH L) HR (d + 2) m_Parser_readTest [.inr 109] hi Q := by
  refine pm_C_of (maxL := 2) (t := pm_t37) rfl (Nat.le_of_ble_eq_true rfl) ?_
  refine pm_W_of 32 [] rfl ?_
  refine And.intro sh_l109 ?_
  refine pm_C_imp h (fun v hi1 h => ?_)
  obtain ⟨rfl, h⟩ := h
  refine ⟨rfl, ?_⟩
  refine And.intro sh_l109 ?_
  refine pm_C_imp h (fun v hi2 h => ?_)
  obtain ⟨x3, rfl, h⟩ := h
  refine ⟨_, rfl, ?_⟩
  refine And.intro (fun c4 => ?_) (fun c4 => ?_)
  · replace h := h.1 c4
    refine And.intro sh_l109 ?_
    rw [hr_109_0]
    refine And.intro sh_l109 ?_
    refine And.intro sh_l107 ?_
    refine v_Tape_byteAt (d := d)  ?_
    refine And.intro (fun c5 => ?_) (fun c5 => ?_)
    · replace h := h.1 c5
      refine ⟨_, rfl, ?_⟩
      refine And.intro sh_l109 ?_
      refine pm_C_imp h (fun v hi6 h => ?_)
      obtain ⟨rfl, h⟩ := h
      refine ⟨rfl, ?_⟩
      refine And.intro sh_l109 ?_
      refine pm_C_imp h (fun v hi7 h => ?_)
      obtain ⟨rfl, h⟩ := h
      refine ⟨rfl, ?_⟩
      refine And.intro sh_l109 ?_
      obtain ⟨t8, hht8, het8, h⟩ := h
      rw [pm_tn_tx het8 hht8]
      refine And.intro (sh_tx hht8) ?_
      refine v_Text_put (d := d) hht8 ?_
      refine And.intro (fun c9 => ?_) (fun c9 => ?_)
      · replace h := h.1 c9
        refine ⟨rfl, ?_⟩
        exact h
      · replace h := h.2 c9
        refine And.intro (fun c10 => ?_) (fun c10 => ?_)
        · replace h := h.1 c10
          obtain ⟨k11, hkk11, hek11, h⟩ := h
          refine ⟨k11, hkk11, hek11, ?_⟩
          intro hi12 ehi12
          replace h := h hi12 ehi12
          refine ⟨rfl, ?_⟩
          exact h
        · replace h := h.2 c10
          refine ⟨rfl, ?_⟩
          exact h
    · replace h := h.2 c5
      refine And.intro (fun c13 => ?_) (fun c13 => ?_)
      · replace h := h.1 c13
        refine ⟨_, rfl, ?_⟩
        refine And.intro sh_l109 ?_
        refine pm_C_imp h (fun v hi14 h => ?_)
        obtain ⟨rfl, h⟩ := h
        refine ⟨rfl, ?_⟩
        refine And.intro sh_l109 ?_
        refine pm_C_imp h (fun v hi15 h => ?_)
        obtain ⟨rfl, h⟩ := h
        refine ⟨rfl, ?_⟩
        refine And.intro sh_l109 ?_
        obtain ⟨t16, hht16, het16, h⟩ := h
        rw [pm_tn_tx het16 hht16]
        refine And.intro (sh_tx hht16) ?_
        refine v_Text_put (d := d) hht16 ?_
        refine And.intro (fun c17 => ?_) (fun c17 => ?_)
        · replace h := h.1 c17
          refine ⟨rfl, ?_⟩
          exact h
        · replace h := h.2 c17
          refine And.intro (fun c18 => ?_) (fun c18 => ?_)
          · replace h := h.1 c18
            obtain ⟨k19, hkk19, hek19, h⟩ := h
            refine ⟨k19, hkk19, hek19, ?_⟩
            intro hi20 ehi20
            replace h := h hi20 ehi20
            refine ⟨rfl, ?_⟩
            exact h
          · replace h := h.2 c18
            refine ⟨rfl, ?_⟩
            exact h
      · replace h := h.2 c13
        refine And.intro (fun c21 => ?_) (fun c21 => ?_)
        · replace h := h.1 c21
          refine ⟨_, rfl, ?_⟩
          refine And.intro sh_l109 ?_
          refine pm_C_imp h (fun v hi22 h => ?_)
          obtain ⟨rfl, h⟩ := h
          refine ⟨rfl, ?_⟩
          refine And.intro sh_l109 ?_
          refine pm_C_imp h (fun v hi23 h => ?_)
          obtain ⟨rfl, h⟩ := h
          refine ⟨rfl, ?_⟩
          refine And.intro sh_l109 ?_
          obtain ⟨t24, hht24, het24, h⟩ := h
          rw [pm_tn_tx het24 hht24]
          refine And.intro (sh_tx hht24) ?_
          refine v_Text_put (d := d) hht24 ?_
          refine And.intro (fun c25 => ?_) (fun c25 => ?_)
          · replace h := h.1 c25
            refine ⟨rfl, ?_⟩
            exact h
          · replace h := h.2 c25
            refine And.intro (fun c26 => ?_) (fun c26 => ?_)
            · replace h := h.1 c26
              obtain ⟨k27, hkk27, hek27, h⟩ := h
              refine ⟨k27, hkk27, hek27, ?_⟩
              intro hi28 ehi28
              replace h := h hi28 ehi28
              refine ⟨rfl, ?_⟩
              exact h
            · replace h := h.2 c26
              refine ⟨rfl, ?_⟩
              exact h
        · replace h := h.2 c21
          obtain ⟨k29, hkk29, hek29, h⟩ := h
          refine ⟨k29, hkk29, hek29, ?_⟩
          refine ⟨_, rfl, ?_⟩
          refine And.intro sh_l109 ?_
          refine pm_C_imp h (fun v hi30 h => ?_)
          obtain ⟨rfl, h⟩ := h
          refine ⟨rfl, ?_⟩
          refine And.intro sh_l109 ?_
          refine pm_C_imp h (fun v hi31 h => ?_)
          obtain ⟨rfl, h⟩ := h
          refine ⟨rfl, ?_⟩
          refine And.intro sh_l109 ?_
          obtain ⟨t32, hht32, het32, h⟩ := h
          rw [pm_tn_tx het32 hht32]
          refine And.intro (sh_tx hht32) ?_
          refine v_Text_put (d := d) hht32 ?_
          refine And.intro (fun c33 => ?_) (fun c33 => ?_)
          · replace h := h.1 c33
            refine ⟨rfl, ?_⟩
            exact h
          · replace h := h.2 c33
            refine And.intro (fun c34 => ?_) (fun c34 => ?_)
            · replace h := h.1 c34
              obtain ⟨k35, hkk35, hek35, h⟩ := h
              refine ⟨k35, hkk35, hek35, ?_⟩
              intro hi36 ehi36
              replace h := h hi36 ehi36
              refine ⟨rfl, ?_⟩
              exact h
            · replace h := h.2 c34
              refine ⟨rfl, ?_⟩
              exact h
  · replace h := h.2 c4
    refine And.intro sh_l109 ?_
    refine pm_C_imp h (fun v hi37 h => ?_)
    obtain ⟨x38, rfl, h⟩ := h
    refine ⟨_, rfl, ?_⟩
    refine And.intro (fun c39 => ?_) (fun c39 => ?_)
    · replace h := h.1 c39
      refine And.intro sh_l109 ?_
      rw [hr_109_0]
      refine And.intro sh_l109 ?_
      refine And.intro sh_l107 ?_
      refine v_Tape_byteAt (d := d)  ?_
      refine And.intro (fun c40 => ?_) (fun c40 => ?_)
      · replace h := h.1 c40
        refine ⟨_, rfl, ?_⟩
        refine And.intro sh_l109 ?_
        refine pm_C_imp h (fun v hi41 h => ?_)
        obtain ⟨rfl, h⟩ := h
        refine ⟨rfl, ?_⟩
        refine And.intro sh_l109 ?_
        refine pm_C_imp h (fun v hi42 h => ?_)
        obtain ⟨rfl, h⟩ := h
        refine ⟨rfl, ?_⟩
        refine And.intro sh_l109 ?_
        obtain ⟨t43, hht43, het43, h⟩ := h
        rw [pm_tn_tx het43 hht43]
        refine And.intro (sh_tx hht43) ?_
        refine v_Text_put (d := d) hht43 ?_
        refine And.intro (fun c44 => ?_) (fun c44 => ?_)
        · replace h := h.1 c44
          refine ⟨rfl, ?_⟩
          exact h
        · replace h := h.2 c44
          refine And.intro (fun c45 => ?_) (fun c45 => ?_)
          · replace h := h.1 c45
            obtain ⟨k46, hkk46, hek46, h⟩ := h
            refine ⟨k46, hkk46, hek46, ?_⟩
            intro hi47 ehi47
            replace h := h hi47 ehi47
            refine ⟨rfl, ?_⟩
            exact h
          · replace h := h.2 c45
            refine ⟨rfl, ?_⟩
            exact h
      · replace h := h.2 c40
        refine And.intro (fun c48 => ?_) (fun c48 => ?_)
        · replace h := h.1 c48
          refine ⟨_, rfl, ?_⟩
          refine And.intro sh_l109 ?_
          refine pm_C_imp h (fun v hi49 h => ?_)
          obtain ⟨rfl, h⟩ := h
          refine ⟨rfl, ?_⟩
          refine And.intro sh_l109 ?_
          refine pm_C_imp h (fun v hi50 h => ?_)
          obtain ⟨rfl, h⟩ := h
          refine ⟨rfl, ?_⟩
          refine And.intro sh_l109 ?_
          obtain ⟨t51, hht51, het51, h⟩ := h
          rw [pm_tn_tx het51 hht51]
          refine And.intro (sh_tx hht51) ?_
          refine v_Text_put (d := d) hht51 ?_
          refine And.intro (fun c52 => ?_) (fun c52 => ?_)
          · replace h := h.1 c52
            refine ⟨rfl, ?_⟩
            exact h
          · replace h := h.2 c52
            refine And.intro (fun c53 => ?_) (fun c53 => ?_)
            · replace h := h.1 c53
              obtain ⟨k54, hkk54, hek54, h⟩ := h
              refine ⟨k54, hkk54, hek54, ?_⟩
              intro hi55 ehi55
              replace h := h hi55 ehi55
              refine ⟨rfl, ?_⟩
              exact h
            · replace h := h.2 c53
              refine ⟨rfl, ?_⟩
              exact h
        · replace h := h.2 c48
          refine And.intro (fun c56 => ?_) (fun c56 => ?_)
          · replace h := h.1 c56
            refine ⟨_, rfl, ?_⟩
            refine And.intro sh_l109 ?_
            refine pm_C_imp h (fun v hi57 h => ?_)
            obtain ⟨rfl, h⟩ := h
            refine ⟨rfl, ?_⟩
            refine And.intro sh_l109 ?_
            refine pm_C_imp h (fun v hi58 h => ?_)
            obtain ⟨rfl, h⟩ := h
            refine ⟨rfl, ?_⟩
            refine And.intro sh_l109 ?_
            obtain ⟨t59, hht59, het59, h⟩ := h
            rw [pm_tn_tx het59 hht59]
            refine And.intro (sh_tx hht59) ?_
            refine v_Text_put (d := d) hht59 ?_
            refine And.intro (fun c60 => ?_) (fun c60 => ?_)
            · replace h := h.1 c60
              refine ⟨rfl, ?_⟩
              exact h
            · replace h := h.2 c60
              refine And.intro (fun c61 => ?_) (fun c61 => ?_)
              · replace h := h.1 c61
                obtain ⟨k62, hkk62, hek62, h⟩ := h
                refine ⟨k62, hkk62, hek62, ?_⟩
                intro hi63 ehi63
                replace h := h hi63 ehi63
                refine ⟨rfl, ?_⟩
                exact h
              · replace h := h.2 c61
                refine ⟨rfl, ?_⟩
                exact h
          · replace h := h.2 c56
            obtain ⟨k64, hkk64, hek64, h⟩ := h
            refine ⟨k64, hkk64, hek64, ?_⟩
            refine ⟨_, rfl, ?_⟩
            refine And.intro sh_l109 ?_
            refine pm_C_imp h (fun v hi65 h => ?_)
            obtain ⟨rfl, h⟩ := h
            refine ⟨rfl, ?_⟩
            refine And.intro sh_l109 ?_
            refine pm_C_imp h (fun v hi66 h => ?_)
            obtain ⟨rfl, h⟩ := h
            refine ⟨rfl, ?_⟩
            refine And.intro sh_l109 ?_
            obtain ⟨t67, hht67, het67, h⟩ := h
            rw [pm_tn_tx het67 hht67]
            refine And.intro (sh_tx hht67) ?_
            refine v_Text_put (d := d) hht67 ?_
            refine And.intro (fun c68 => ?_) (fun c68 => ?_)
            · replace h := h.1 c68
              refine ⟨rfl, ?_⟩
              exact h
            · replace h := h.2 c68
              refine And.intro (fun c69 => ?_) (fun c69 => ?_)
              · replace h := h.1 c69
                obtain ⟨k70, hkk70, hek70, h⟩ := h
                refine ⟨k70, hkk70, hek70, ?_⟩
                intro hi71 ehi71
                replace h := h hi71 ehi71
                refine ⟨rfl, ?_⟩
                exact h
              · replace h := h.2 c69
                refine ⟨rfl, ?_⟩
                exact h
    · replace h := h.2 c39
      refine And.intro sh_l109 ?_
      refine pm_C_imp h (fun v hi72 h => ?_)
      obtain ⟨x73, rfl, h⟩ := h
      refine ⟨_, rfl, ?_⟩
      refine And.intro (fun c74 => ?_) (fun c74 => ?_)
      · replace h := h.1 c74
        exact h
      · replace h := h.2 c74
        refine And.intro sh_l109 ?_
        rw [hr_109_0]
        refine And.intro sh_l109 ?_
        refine And.intro sh_l107 ?_
        refine v_Tape_byteAt (d := d)  ?_
        refine And.intro (fun c75 => ?_) (fun c75 => ?_)
        · replace h := h.1 c75
          refine ⟨_, rfl, ?_⟩
          refine And.intro sh_l109 ?_
          refine pm_C_imp h (fun v hi76 h => ?_)
          obtain ⟨rfl, h⟩ := h
          refine ⟨rfl, ?_⟩
          refine And.intro sh_l109 ?_
          refine pm_C_imp h (fun v hi77 h => ?_)
          obtain ⟨rfl, h⟩ := h
          refine ⟨rfl, ?_⟩
          refine And.intro sh_l109 ?_
          obtain ⟨t78, hht78, het78, h⟩ := h
          rw [pm_tn_tx het78 hht78]
          refine And.intro (sh_tx hht78) ?_
          refine v_Text_put (d := d) hht78 ?_
          refine And.intro (fun c79 => ?_) (fun c79 => ?_)
          · replace h := h.1 c79
            refine ⟨rfl, ?_⟩
            exact h
          · replace h := h.2 c79
            refine And.intro (fun c80 => ?_) (fun c80 => ?_)
            · replace h := h.1 c80
              obtain ⟨k81, hkk81, hek81, h⟩ := h
              refine ⟨k81, hkk81, hek81, ?_⟩
              intro hi82 ehi82
              replace h := h hi82 ehi82
              refine ⟨rfl, ?_⟩
              exact h
            · replace h := h.2 c80
              refine ⟨rfl, ?_⟩
              exact h
        · replace h := h.2 c75
          refine And.intro (fun c83 => ?_) (fun c83 => ?_)
          · replace h := h.1 c83
            refine ⟨_, rfl, ?_⟩
            refine And.intro sh_l109 ?_
            refine pm_C_imp h (fun v hi84 h => ?_)
            obtain ⟨rfl, h⟩ := h
            refine ⟨rfl, ?_⟩
            refine And.intro sh_l109 ?_
            refine pm_C_imp h (fun v hi85 h => ?_)
            obtain ⟨rfl, h⟩ := h
            refine ⟨rfl, ?_⟩
            refine And.intro sh_l109 ?_
            obtain ⟨t86, hht86, het86, h⟩ := h
            rw [pm_tn_tx het86 hht86]
            refine And.intro (sh_tx hht86) ?_
            refine v_Text_put (d := d) hht86 ?_
            refine And.intro (fun c87 => ?_) (fun c87 => ?_)
            · replace h := h.1 c87
              refine ⟨rfl, ?_⟩
              exact h
            · replace h := h.2 c87
              refine And.intro (fun c88 => ?_) (fun c88 => ?_)
              · replace h := h.1 c88
                obtain ⟨k89, hkk89, hek89, h⟩ := h
                refine ⟨k89, hkk89, hek89, ?_⟩
                intro hi90 ehi90
                replace h := h hi90 ehi90
                refine ⟨rfl, ?_⟩
                exact h
              · replace h := h.2 c88
                refine ⟨rfl, ?_⟩
                exact h
          · replace h := h.2 c83
            refine And.intro (fun c91 => ?_) (fun c91 => ?_)
            · replace h := h.1 c91
              refine ⟨_, rfl, ?_⟩
              refine And.intro sh_l109 ?_
              refine pm_C_imp h (fun v hi92 h => ?_)
              obtain ⟨rfl, h⟩ := h
              refine ⟨rfl, ?_⟩
              refine And.intro sh_l109 ?_
              refine pm_C_imp h (fun v hi93 h => ?_)
              obtain ⟨rfl, h⟩ := h
              refine ⟨rfl, ?_⟩
              refine And.intro sh_l109 ?_
              obtain ⟨t94, hht94, het94, h⟩ := h
              rw [pm_tn_tx het94 hht94]
              refine And.intro (sh_tx hht94) ?_
              refine v_Text_put (d := d) hht94 ?_
              refine And.intro (fun c95 => ?_) (fun c95 => ?_)
              · replace h := h.1 c95
                refine ⟨rfl, ?_⟩
                exact h
              · replace h := h.2 c95
                refine And.intro (fun c96 => ?_) (fun c96 => ?_)
                · replace h := h.1 c96
                  obtain ⟨k97, hkk97, hek97, h⟩ := h
                  refine ⟨k97, hkk97, hek97, ?_⟩
                  intro hi98 ehi98
                  replace h := h hi98 ehi98
                  refine ⟨rfl, ?_⟩
                  exact h
                · replace h := h.2 c96
                  refine ⟨rfl, ?_⟩
                  exact h
            · replace h := h.2 c91
              obtain ⟨k99, hkk99, hek99, h⟩ := h
              refine ⟨k99, hkk99, hek99, ?_⟩
              refine ⟨_, rfl, ?_⟩
              refine And.intro sh_l109 ?_
              refine pm_C_imp h (fun v hi100 h => ?_)
              obtain ⟨rfl, h⟩ := h
              refine ⟨rfl, ?_⟩
              refine And.intro sh_l109 ?_
              refine pm_C_imp h (fun v hi101 h => ?_)
              obtain ⟨rfl, h⟩ := h
              refine ⟨rfl, ?_⟩
              refine And.intro sh_l109 ?_
              obtain ⟨t102, hht102, het102, h⟩ := h
              rw [pm_tn_tx het102 hht102]
              refine And.intro (sh_tx hht102) ?_
              refine v_Text_put (d := d) hht102 ?_
              refine And.intro (fun c103 => ?_) (fun c103 => ?_)
              · replace h := h.1 c103
                refine ⟨rfl, ?_⟩
                exact h
              · replace h := h.2 c103
                refine And.intro (fun c104 => ?_) (fun c104 => ?_)
                · replace h := h.1 c104
                  obtain ⟨k105, hkk105, hek105, h⟩ := h
                  refine ⟨k105, hkk105, hek105, ?_⟩
                  intro hi106 ehi106
                  replace h := h hi106 ehi106
                  refine ⟨rfl, ?_⟩
                  exact h
                · replace h := h.2 c104
                  refine ⟨rfl, ?_⟩
                  exact h
theorem v_Parser_readSum {L d : Nat}  {hi : pm_B} {Q : pm_Q} (h : pm_C pm_g (SH L) HR (d + 1) m_Parser_readTerm [.inr 109] hi (fun v hi1 => v = none ∧ (pm_W pm_g (SH L) HR (d + 1) pm_t38 6 [some (.inr 109), some (.inl 0), none] [] hi1 Q))) : pm_C pm_g (SH L) HR (d + 2) m_Parser_readSum [.inr 109] hi Q := by
  refine pm_C_of (maxL := 3) (t := pm_t38) rfl (Nat.le_of_ble_eq_true rfl) ?_
  refine pm_W_of 6 [6] rfl ?_
  refine And.intro sh_l109 ?_
  refine pm_C_imp h (fun v hi1 h => ?_)
  obtain ⟨rfl, h⟩ := h
  refine ⟨rfl, ?_⟩
  exact h
theorem v_Parser_readSum_6 {L d : Nat} {o2 : Option pm_V} {y1 : Int32} {hi : pm_B} {Q : pm_Q} (h : ((96 ≤ y1) → Q none hi) ∧ ((¬ (96 ≤ y1)) → pm_C pm_g (SH L) HR (d + 1) m_Parser_isSign [.inr 109, .inl 43] hi (fun v hi2 => ∃ x3 : Int32, v = some (.inl x3) ∧ (((¬ x3 = 0) → (((hi2 109 3) < 0) → pm_C pm_g (SH L) HR (d + 1) m_Parser_step [.inr 109] hi2 (fun v hi6 => v = none ∧ (pm_C pm_g (SH L) HR (d + 1) m_Parser_readTerm [.inr 109] hi6 (fun v hi7 => v = none ∧ (∃ t8 : Nat, pm_tx t8 ∧ (hi7 109 1) = nI t8 ∧ ((((hi7 t8 2) < 0) → pm_W pm_g (SH L) HR (d + 1) pm_t38 6 [some (.inr 109), some (.inl (y1 + 1)), some (.inl (-1))] [] hi7 Q) ∧ ((¬ ((hi7 t8 2) < 0)) → (((hi7 t8 2) < 96) → ∃ k11 : Nat, k11 < 96 ∧ (hi7 t8 2) = nI k11 ∧ (∀ hi12 : pm_B, hi12 = pm_u (pm_u hi7 (t8 + 1) k11 (-(-1))) t8 2 (((pm_u hi7 (t8 + 1) k11 (-(-1))) t8 2) + 1) → (pm_W pm_g (SH L) HR (d + 1) pm_t38 6 [some (.inr 109), some (.inl (y1 + 1)), some (.inl (-1))] [] hi12 Q))) ∧ ((¬ ((hi7 t8 2) < 96)) → pm_W pm_g (SH L) HR (d + 1) pm_t38 6 [some (.inr 109), some (.inl (y1 + 1)), some (.inl (-1))] [] hi7 Q)))))))) ∧ ((¬ ((hi2 109 3) < 0)) → (((hi2 107 1) ≤ (hi2 109 3)) → pm_C pm_g (SH L) HR (d + 1) m_Parser_step [.inr 109] hi2 (fun v hi14 => v = none ∧ (pm_C pm_g (SH L) HR (d + 1) m_Parser_readTerm [.inr 109] hi14 (fun v hi15 => v = none ∧ (∃ t16 : Nat, pm_tx t16 ∧ (hi15 109 1) = nI t16 ∧ ((((hi15 t16 2) < 0) → pm_W pm_g (SH L) HR (d + 1) pm_t38 6 [some (.inr 109), some (.inl (y1 + 1)), some (.inl (-1))] [] hi15 Q) ∧ ((¬ ((hi15 t16 2) < 0)) → (((hi15 t16 2) < 96) → ∃ k19 : Nat, k19 < 96 ∧ (hi15 t16 2) = nI k19 ∧ (∀ hi20 : pm_B, hi20 = pm_u (pm_u hi15 (t16 + 1) k19 (-(-1))) t16 2 (((pm_u hi15 (t16 + 1) k19 (-(-1))) t16 2) + 1) → (pm_W pm_g (SH L) HR (d + 1) pm_t38 6 [some (.inr 109), some (.inl (y1 + 1)), some (.inl (-1))] [] hi20 Q))) ∧ ((¬ ((hi15 t16 2) < 96)) → pm_W pm_g (SH L) HR (d + 1) pm_t38 6 [some (.inr 109), some (.inl (y1 + 1)), some (.inl (-1))] [] hi15 Q)))))))) ∧ ((¬ ((hi2 107 1) ≤ (hi2 109 3))) → ((96 ≤ (hi2 109 3)) → pm_C pm_g (SH L) HR (d + 1) m_Parser_step [.inr 109] hi2 (fun v hi22 => v = none ∧ (pm_C pm_g (SH L) HR (d + 1) m_Parser_readTerm [.inr 109] hi22 (fun v hi23 => v = none ∧ (∃ t24 : Nat, pm_tx t24 ∧ (hi23 109 1) = nI t24 ∧ ((((hi23 t24 2) < 0) → pm_W pm_g (SH L) HR (d + 1) pm_t38 6 [some (.inr 109), some (.inl (y1 + 1)), some (.inl (-1))] [] hi23 Q) ∧ ((¬ ((hi23 t24 2) < 0)) → (((hi23 t24 2) < 96) → ∃ k27 : Nat, k27 < 96 ∧ (hi23 t24 2) = nI k27 ∧ (∀ hi28 : pm_B, hi28 = pm_u (pm_u hi23 (t24 + 1) k27 (-(-1))) t24 2 (((pm_u hi23 (t24 + 1) k27 (-(-1))) t24 2) + 1) → (pm_W pm_g (SH L) HR (d + 1) pm_t38 6 [some (.inr 109), some (.inl (y1 + 1)), some (.inl (-1))] [] hi28 Q))) ∧ ((¬ ((hi23 t24 2) < 96)) → pm_W pm_g (SH L) HR (d + 1) pm_t38 6 [some (.inr 109), some (.inl (y1 + 1)), some (.inl (-1))] [] hi23 Q)))))))) ∧ ((¬ (96 ≤ (hi2 109 3))) → ∃ k29 : Nat, k29 < 96 ∧ (hi2 109 3) = nI k29 ∧ (pm_C pm_g (SH L) HR (d + 1) m_Parser_step [.inr 109] hi2 (fun v hi30 => v = none ∧ (pm_C pm_g (SH L) HR (d + 1) m_Parser_readTerm [.inr 109] hi30 (fun v hi31 => v = none ∧ (∃ t32 : Nat, pm_tx t32 ∧ (hi31 109 1) = nI t32 ∧ ((((hi31 t32 2) < 0) → pm_W pm_g (SH L) HR (d + 1) pm_t38 6 [some (.inr 109), some (.inl (y1 + 1)), some (.inl (hi2 108 k29))] [] hi31 Q) ∧ ((¬ ((hi31 t32 2) < 0)) → (((hi31 t32 2) < 96) → ∃ k35 : Nat, k35 < 96 ∧ (hi31 t32 2) = nI k35 ∧ (∀ hi36 : pm_B, hi36 = pm_u (pm_u hi31 (t32 + 1) k35 (-(hi2 108 k29))) t32 2 (((pm_u hi31 (t32 + 1) k35 (-(hi2 108 k29))) t32 2) + 1) → (pm_W pm_g (SH L) HR (d + 1) pm_t38 6 [some (.inr 109), some (.inl (y1 + 1)), some (.inl (hi2 108 k29))] [] hi36 Q))) ∧ ((¬ ((hi31 t32 2) < 96)) → pm_W pm_g (SH L) HR (d + 1) pm_t38 6 [some (.inr 109), some (.inl (y1 + 1)), some (.inl (hi2 108 k29))] [] hi31 Q)))))))))))) ∧ ((¬ (¬ x3 = 0)) → pm_C pm_g (SH L) HR (d + 1) m_Parser_isSign [.inr 109, .inl 45] hi2 (fun v hi37 => ∃ x38 : Int32, v = some (.inl x38) ∧ (((x38 = 0) → Q none hi37) ∧ ((¬ (x38 = 0)) → (((hi37 109 3) < 0) → pm_C pm_g (SH L) HR (d + 1) m_Parser_step [.inr 109] hi37 (fun v hi41 => v = none ∧ (pm_C pm_g (SH L) HR (d + 1) m_Parser_readTerm [.inr 109] hi41 (fun v hi42 => v = none ∧ (∃ t43 : Nat, pm_tx t43 ∧ (hi42 109 1) = nI t43 ∧ ((((hi42 t43 2) < 0) → pm_W pm_g (SH L) HR (d + 1) pm_t38 6 [some (.inr 109), some (.inl (y1 + 1)), some (.inl (-1))] [] hi42 Q) ∧ ((¬ ((hi42 t43 2) < 0)) → (((hi42 t43 2) < 96) → ∃ k46 : Nat, k46 < 96 ∧ (hi42 t43 2) = nI k46 ∧ (∀ hi47 : pm_B, hi47 = pm_u (pm_u hi42 (t43 + 1) k46 (-(-1))) t43 2 (((pm_u hi42 (t43 + 1) k46 (-(-1))) t43 2) + 1) → (pm_W pm_g (SH L) HR (d + 1) pm_t38 6 [some (.inr 109), some (.inl (y1 + 1)), some (.inl (-1))] [] hi47 Q))) ∧ ((¬ ((hi42 t43 2) < 96)) → pm_W pm_g (SH L) HR (d + 1) pm_t38 6 [some (.inr 109), some (.inl (y1 + 1)), some (.inl (-1))] [] hi42 Q)))))))) ∧ ((¬ ((hi37 109 3) < 0)) → (((hi37 107 1) ≤ (hi37 109 3)) → pm_C pm_g (SH L) HR (d + 1) m_Parser_step [.inr 109] hi37 (fun v hi49 => v = none ∧ (pm_C pm_g (SH L) HR (d + 1) m_Parser_readTerm [.inr 109] hi49 (fun v hi50 => v = none ∧ (∃ t51 : Nat, pm_tx t51 ∧ (hi50 109 1) = nI t51 ∧ ((((hi50 t51 2) < 0) → pm_W pm_g (SH L) HR (d + 1) pm_t38 6 [some (.inr 109), some (.inl (y1 + 1)), some (.inl (-1))] [] hi50 Q) ∧ ((¬ ((hi50 t51 2) < 0)) → (((hi50 t51 2) < 96) → ∃ k54 : Nat, k54 < 96 ∧ (hi50 t51 2) = nI k54 ∧ (∀ hi55 : pm_B, hi55 = pm_u (pm_u hi50 (t51 + 1) k54 (-(-1))) t51 2 (((pm_u hi50 (t51 + 1) k54 (-(-1))) t51 2) + 1) → (pm_W pm_g (SH L) HR (d + 1) pm_t38 6 [some (.inr 109), some (.inl (y1 + 1)), some (.inl (-1))] [] hi55 Q))) ∧ ((¬ ((hi50 t51 2) < 96)) → pm_W pm_g (SH L) HR (d + 1) pm_t38 6 [some (.inr 109), some (.inl (y1 + 1)), some (.inl (-1))] [] hi50 Q)))))))) ∧ ((¬ ((hi37 107 1) ≤ (hi37 109 3))) → ((96 ≤ (hi37 109 3)) → pm_C pm_g (SH L) HR (d + 1) m_Parser_step [.inr 109] hi37 (fun v hi57 => v = none ∧ (pm_C pm_g (SH L) HR (d + 1) m_Parser_readTerm [.inr 109] hi57 (fun v hi58 => v = none ∧ (∃ t59 : Nat, pm_tx t59 ∧ (hi58 109 1) = nI t59 ∧ ((((hi58 t59 2) < 0) → pm_W pm_g (SH L) HR (d + 1) pm_t38 6 [some (.inr 109), some (.inl (y1 + 1)), some (.inl (-1))] [] hi58 Q) ∧ ((¬ ((hi58 t59 2) < 0)) → (((hi58 t59 2) < 96) → ∃ k62 : Nat, k62 < 96 ∧ (hi58 t59 2) = nI k62 ∧ (∀ hi63 : pm_B, hi63 = pm_u (pm_u hi58 (t59 + 1) k62 (-(-1))) t59 2 (((pm_u hi58 (t59 + 1) k62 (-(-1))) t59 2) + 1) → (pm_W pm_g (SH L) HR (d + 1) pm_t38 6 [some (.inr 109), some (.inl (y1 + 1)), some (.inl (-1))] [] hi63 Q))) ∧ ((¬ ((hi58 t59 2) < 96)) → pm_W pm_g (SH L) HR (d + 1) pm_t38 6 [some (.inr 109), some (.inl (y1 + 1)), some (.inl (-1))] [] hi58 Q)))))))) ∧ ((¬ (96 ≤ (hi37 109 3))) → ∃ k64 : Nat, k64 < 96 ∧ (hi37 109 3) = nI k64 ∧ (pm_C pm_g (SH L) HR (d + 1) m_Parser_step [.inr 109] hi37 (fun v hi65 => v = none ∧ (pm_C pm_g (SH L) HR (d + 1) m_Parser_readTerm [.inr 109] hi65 (fun v hi66 => v = none ∧ (∃ t67 : Nat, pm_tx t67 ∧ (hi66 109 1) = nI t67 ∧ ((((hi66 t67 2) < 0) → pm_W pm_g (SH L) HR (d + 1) pm_t38 6 [some (.inr 109), some (.inl (y1 + 1)), some (.inl (hi37 108 k64))] [] hi66 Q) ∧ ((¬ ((hi66 t67 2) < 0)) → (((hi66 t67 2) < 96) → ∃ k70 : Nat, k70 < 96 ∧ (hi66 t67 2) = nI k70 ∧ (∀ hi71 : pm_B, hi71 = pm_u (pm_u hi66 (t67 + 1) k70 (-(hi37 108 k64))) t67 2 (((pm_u hi66 (t67 + 1) k70 (-(hi37 108 k64))) t67 2) + 1) → (pm_W pm_g (SH L) HR (d + 1) pm_t38 6 [some (.inr 109), some (.inl (y1 + 1)), some (.inl (hi37 108 k64))] [] hi71 Q))) ∧ ((¬ ((hi66 t67 2) < 96)) → pm_W pm_g (SH L) HR (d + 1) pm_t38 6 [some (.inr 109), some (.inl (y1 + 1)), some (.inl (hi37 108 k64))] [] hi66 Q))))))))))))))))))) : pm_W pm_g (SH L) HR (d + 1) pm_t38 6 [some (.inr 109), some (.inl y1), o2] [] hi Q := by
  refine pm_W_of 30 [6] rfl ?_
  refine And.intro (fun c1 => ?_) (fun c1 => ?_)
  · replace h := h.1 c1
    exact h
  · replace h := h.2 c1
    refine And.intro sh_l109 ?_
    refine pm_C_imp h (fun v hi2 h => ?_)
    obtain ⟨x3, rfl, h⟩ := h
    refine ⟨_, rfl, ?_⟩
    refine And.intro (fun c4 => ?_) (fun c4 => ?_)
    · replace h := h.1 c4
      refine And.intro sh_l109 ?_
      rw [hr_109_0]
      refine And.intro sh_l109 ?_
      refine And.intro sh_l107 ?_
      refine v_Tape_byteAt (d := d)  ?_
      refine And.intro (fun c5 => ?_) (fun c5 => ?_)
      · replace h := h.1 c5
        refine ⟨_, rfl, ?_⟩
        refine And.intro sh_l109 ?_
        refine pm_C_imp h (fun v hi6 h => ?_)
        obtain ⟨rfl, h⟩ := h
        refine ⟨rfl, ?_⟩
        refine And.intro sh_l109 ?_
        refine pm_C_imp h (fun v hi7 h => ?_)
        obtain ⟨rfl, h⟩ := h
        refine ⟨rfl, ?_⟩
        refine And.intro sh_l109 ?_
        obtain ⟨t8, hht8, het8, h⟩ := h
        rw [pm_tn_tx het8 hht8]
        refine And.intro (sh_tx hht8) ?_
        refine v_Text_put (d := d) hht8 ?_
        refine And.intro (fun c9 => ?_) (fun c9 => ?_)
        · replace h := h.1 c9
          refine ⟨rfl, ?_⟩
          exact h
        · replace h := h.2 c9
          refine And.intro (fun c10 => ?_) (fun c10 => ?_)
          · replace h := h.1 c10
            obtain ⟨k11, hkk11, hek11, h⟩ := h
            refine ⟨k11, hkk11, hek11, ?_⟩
            intro hi12 ehi12
            replace h := h hi12 ehi12
            refine ⟨rfl, ?_⟩
            exact h
          · replace h := h.2 c10
            refine ⟨rfl, ?_⟩
            exact h
      · replace h := h.2 c5
        refine And.intro (fun c13 => ?_) (fun c13 => ?_)
        · replace h := h.1 c13
          refine ⟨_, rfl, ?_⟩
          refine And.intro sh_l109 ?_
          refine pm_C_imp h (fun v hi14 h => ?_)
          obtain ⟨rfl, h⟩ := h
          refine ⟨rfl, ?_⟩
          refine And.intro sh_l109 ?_
          refine pm_C_imp h (fun v hi15 h => ?_)
          obtain ⟨rfl, h⟩ := h
          refine ⟨rfl, ?_⟩
          refine And.intro sh_l109 ?_
          obtain ⟨t16, hht16, het16, h⟩ := h
          rw [pm_tn_tx het16 hht16]
          refine And.intro (sh_tx hht16) ?_
          refine v_Text_put (d := d) hht16 ?_
          refine And.intro (fun c17 => ?_) (fun c17 => ?_)
          · replace h := h.1 c17
            refine ⟨rfl, ?_⟩
            exact h
          · replace h := h.2 c17
            refine And.intro (fun c18 => ?_) (fun c18 => ?_)
            · replace h := h.1 c18
              obtain ⟨k19, hkk19, hek19, h⟩ := h
              refine ⟨k19, hkk19, hek19, ?_⟩
              intro hi20 ehi20
              replace h := h hi20 ehi20
              refine ⟨rfl, ?_⟩
              exact h
            · replace h := h.2 c18
              refine ⟨rfl, ?_⟩
              exact h
        · replace h := h.2 c13
          refine And.intro (fun c21 => ?_) (fun c21 => ?_)
          · replace h := h.1 c21
            refine ⟨_, rfl, ?_⟩
            refine And.intro sh_l109 ?_
            refine pm_C_imp h (fun v hi22 h => ?_)
            obtain ⟨rfl, h⟩ := h
            refine ⟨rfl, ?_⟩
            refine And.intro sh_l109 ?_
            refine pm_C_imp h (fun v hi23 h => ?_)
            obtain ⟨rfl, h⟩ := h
            refine ⟨rfl, ?_⟩
            refine And.intro sh_l109 ?_
            obtain ⟨t24, hht24, het24, h⟩ := h
            rw [pm_tn_tx het24 hht24]
            refine And.intro (sh_tx hht24) ?_
            refine v_Text_put (d := d) hht24 ?_
            refine And.intro (fun c25 => ?_) (fun c25 => ?_)
            · replace h := h.1 c25
              refine ⟨rfl, ?_⟩
              exact h
            · replace h := h.2 c25
              refine And.intro (fun c26 => ?_) (fun c26 => ?_)
              · replace h := h.1 c26
                obtain ⟨k27, hkk27, hek27, h⟩ := h
                refine ⟨k27, hkk27, hek27, ?_⟩
                intro hi28 ehi28
                replace h := h hi28 ehi28
                refine ⟨rfl, ?_⟩
                exact h
              · replace h := h.2 c26
                refine ⟨rfl, ?_⟩
                exact h
          · replace h := h.2 c21
            obtain ⟨k29, hkk29, hek29, h⟩ := h
            refine ⟨k29, hkk29, hek29, ?_⟩
            refine ⟨_, rfl, ?_⟩
            refine And.intro sh_l109 ?_
            refine pm_C_imp h (fun v hi30 h => ?_)
            obtain ⟨rfl, h⟩ := h
            refine ⟨rfl, ?_⟩
            refine And.intro sh_l109 ?_
            refine pm_C_imp h (fun v hi31 h => ?_)
            obtain ⟨rfl, h⟩ := h
            refine ⟨rfl, ?_⟩
            refine And.intro sh_l109 ?_
            obtain ⟨t32, hht32, het32, h⟩ := h
            rw [pm_tn_tx het32 hht32]
            refine And.intro (sh_tx hht32) ?_
            refine v_Text_put (d := d) hht32 ?_
            refine And.intro (fun c33 => ?_) (fun c33 => ?_)
            · replace h := h.1 c33
              refine ⟨rfl, ?_⟩
              exact h
            · replace h := h.2 c33
              refine And.intro (fun c34 => ?_) (fun c34 => ?_)
              · replace h := h.1 c34
                obtain ⟨k35, hkk35, hek35, h⟩ := h
                refine ⟨k35, hkk35, hek35, ?_⟩
                intro hi36 ehi36
                replace h := h hi36 ehi36
                refine ⟨rfl, ?_⟩
                exact h
              · replace h := h.2 c34
                refine ⟨rfl, ?_⟩
                exact h
    · replace h := h.2 c4
      refine And.intro sh_l109 ?_
      refine pm_C_imp h (fun v hi37 h => ?_)
      obtain ⟨x38, rfl, h⟩ := h
      refine ⟨_, rfl, ?_⟩
      refine And.intro (fun c39 => ?_) (fun c39 => ?_)
      · replace h := h.1 c39
        exact h
      · replace h := h.2 c39
        refine And.intro sh_l109 ?_
        rw [hr_109_0]
        refine And.intro sh_l109 ?_
        refine And.intro sh_l107 ?_
        refine v_Tape_byteAt (d := d)  ?_
        refine And.intro (fun c40 => ?_) (fun c40 => ?_)
        · replace h := h.1 c40
          refine ⟨_, rfl, ?_⟩
          refine And.intro sh_l109 ?_
          refine pm_C_imp h (fun v hi41 h => ?_)
          obtain ⟨rfl, h⟩ := h
          refine ⟨rfl, ?_⟩
          refine And.intro sh_l109 ?_
          refine pm_C_imp h (fun v hi42 h => ?_)
          obtain ⟨rfl, h⟩ := h
          refine ⟨rfl, ?_⟩
          refine And.intro sh_l109 ?_
          obtain ⟨t43, hht43, het43, h⟩ := h
          rw [pm_tn_tx het43 hht43]
          refine And.intro (sh_tx hht43) ?_
          refine v_Text_put (d := d) hht43 ?_
          refine And.intro (fun c44 => ?_) (fun c44 => ?_)
          · replace h := h.1 c44
            refine ⟨rfl, ?_⟩
            exact h
          · replace h := h.2 c44
            refine And.intro (fun c45 => ?_) (fun c45 => ?_)
            · replace h := h.1 c45
              obtain ⟨k46, hkk46, hek46, h⟩ := h
              refine ⟨k46, hkk46, hek46, ?_⟩
              intro hi47 ehi47
              replace h := h hi47 ehi47
              refine ⟨rfl, ?_⟩
              exact h
            · replace h := h.2 c45
              refine ⟨rfl, ?_⟩
              exact h
        · replace h := h.2 c40
          refine And.intro (fun c48 => ?_) (fun c48 => ?_)
          · replace h := h.1 c48
            refine ⟨_, rfl, ?_⟩
            refine And.intro sh_l109 ?_
            refine pm_C_imp h (fun v hi49 h => ?_)
            obtain ⟨rfl, h⟩ := h
            refine ⟨rfl, ?_⟩
            refine And.intro sh_l109 ?_
            refine pm_C_imp h (fun v hi50 h => ?_)
            obtain ⟨rfl, h⟩ := h
            refine ⟨rfl, ?_⟩
            refine And.intro sh_l109 ?_
            obtain ⟨t51, hht51, het51, h⟩ := h
            rw [pm_tn_tx het51 hht51]
            refine And.intro (sh_tx hht51) ?_
            refine v_Text_put (d := d) hht51 ?_
            refine And.intro (fun c52 => ?_) (fun c52 => ?_)
            · replace h := h.1 c52
              refine ⟨rfl, ?_⟩
              exact h
            · replace h := h.2 c52
              refine And.intro (fun c53 => ?_) (fun c53 => ?_)
              · replace h := h.1 c53
                obtain ⟨k54, hkk54, hek54, h⟩ := h
                refine ⟨k54, hkk54, hek54, ?_⟩
                intro hi55 ehi55
                replace h := h hi55 ehi55
                refine ⟨rfl, ?_⟩
                exact h
              · replace h := h.2 c53
                refine ⟨rfl, ?_⟩
                exact h
          · replace h := h.2 c48
            refine And.intro (fun c56 => ?_) (fun c56 => ?_)
            · replace h := h.1 c56
              refine ⟨_, rfl, ?_⟩
              refine And.intro sh_l109 ?_
              refine pm_C_imp h (fun v hi57 h => ?_)
              obtain ⟨rfl, h⟩ := h
              refine ⟨rfl, ?_⟩
              refine And.intro sh_l109 ?_
              refine pm_C_imp h (fun v hi58 h => ?_)
              obtain ⟨rfl, h⟩ := h
              refine ⟨rfl, ?_⟩
              refine And.intro sh_l109 ?_
              obtain ⟨t59, hht59, het59, h⟩ := h
              rw [pm_tn_tx het59 hht59]
              refine And.intro (sh_tx hht59) ?_
              refine v_Text_put (d := d) hht59 ?_
              refine And.intro (fun c60 => ?_) (fun c60 => ?_)
              · replace h := h.1 c60
                refine ⟨rfl, ?_⟩
                exact h
              · replace h := h.2 c60
                refine And.intro (fun c61 => ?_) (fun c61 => ?_)
                · replace h := h.1 c61
                  obtain ⟨k62, hkk62, hek62, h⟩ := h
                  refine ⟨k62, hkk62, hek62, ?_⟩
                  intro hi63 ehi63
                  replace h := h hi63 ehi63
                  refine ⟨rfl, ?_⟩
                  exact h
                · replace h := h.2 c61
                  refine ⟨rfl, ?_⟩
                  exact h
            · replace h := h.2 c56
              obtain ⟨k64, hkk64, hek64, h⟩ := h
              refine ⟨k64, hkk64, hek64, ?_⟩
              refine ⟨_, rfl, ?_⟩
              refine And.intro sh_l109 ?_
              refine pm_C_imp h (fun v hi65 h => ?_)
              obtain ⟨rfl, h⟩ := h
              refine ⟨rfl, ?_⟩
              refine And.intro sh_l109 ?_
              refine pm_C_imp h (fun v hi66 h => ?_)
              obtain ⟨rfl, h⟩ := h
              refine ⟨rfl, ?_⟩
              refine And.intro sh_l109 ?_
              obtain ⟨t67, hht67, het67, h⟩ := h
              rw [pm_tn_tx het67 hht67]
              refine And.intro (sh_tx hht67) ?_
              refine v_Text_put (d := d) hht67 ?_
              refine And.intro (fun c68 => ?_) (fun c68 => ?_)
              · replace h := h.1 c68
                refine ⟨rfl, ?_⟩
                exact h
              · replace h := h.2 c68
                refine And.intro (fun c69 => ?_) (fun c69 => ?_)
                · replace h := h.1 c69
                  obtain ⟨k70, hkk70, hek70, h⟩ := h
                  refine ⟨k70, hkk70, hek70, ?_⟩
                  intro hi71 ehi71
                  replace h := h hi71 ehi71
                  refine ⟨rfl, ?_⟩
                  exact h
                · replace h := h.2 c69
                  refine ⟨rfl, ?_⟩
                  exact h
theorem v_Parser_readTerm {L d : Nat}  {hi : pm_B} {Q : pm_Q} (h : pm_C pm_g (SH L) HR (d + 1) m_Parser_readPiece [.inr 109] hi (fun v hi1 => v = none ∧ (pm_W pm_g (SH L) HR (d + 1) pm_t39 6 [some (.inr 109), some (.inl 0), none] [] hi1 Q))) : pm_C pm_g (SH L) HR (d + 2) m_Parser_readTerm [.inr 109] hi Q := by
  refine pm_C_of (maxL := 3) (t := pm_t39) rfl (Nat.le_of_ble_eq_true rfl) ?_
  refine pm_W_of 6 [6] rfl ?_
  refine And.intro sh_l109 ?_
  refine pm_C_imp h (fun v hi1 h => ?_)
  obtain ⟨rfl, h⟩ := h
  refine ⟨rfl, ?_⟩
  exact h
theorem v_Parser_readTerm_6 {L d : Nat} {o2 : Option pm_V} {y1 : Int32} {hi : pm_B} {Q : pm_Q} (h : ((96 ≤ y1) → Q none hi) ∧ ((¬ (96 ≤ y1)) → pm_C pm_g (SH L) HR (d + 1) m_Parser_isSign [.inr 109, .inl 42] hi (fun v hi2 => ∃ x3 : Int32, v = some (.inl x3) ∧ (((¬ x3 = 0) → (((hi2 109 3) < 0) → pm_C pm_g (SH L) HR (d + 1) m_Parser_step [.inr 109] hi2 (fun v hi6 => v = none ∧ (pm_C pm_g (SH L) HR (d + 1) m_Parser_readPiece [.inr 109] hi6 (fun v hi7 => v = none ∧ (∃ t8 : Nat, pm_tx t8 ∧ (hi7 109 1) = nI t8 ∧ ((((hi7 t8 2) < 0) → pm_W pm_g (SH L) HR (d + 1) pm_t39 6 [some (.inr 109), some (.inl (y1 + 1)), some (.inl (-1))] [] hi7 Q) ∧ ((¬ ((hi7 t8 2) < 0)) → (((hi7 t8 2) < 96) → ∃ k11 : Nat, k11 < 96 ∧ (hi7 t8 2) = nI k11 ∧ (∀ hi12 : pm_B, hi12 = pm_u (pm_u hi7 (t8 + 1) k11 (-(-1))) t8 2 (((pm_u hi7 (t8 + 1) k11 (-(-1))) t8 2) + 1) → (pm_W pm_g (SH L) HR (d + 1) pm_t39 6 [some (.inr 109), some (.inl (y1 + 1)), some (.inl (-1))] [] hi12 Q))) ∧ ((¬ ((hi7 t8 2) < 96)) → pm_W pm_g (SH L) HR (d + 1) pm_t39 6 [some (.inr 109), some (.inl (y1 + 1)), some (.inl (-1))] [] hi7 Q)))))))) ∧ ((¬ ((hi2 109 3) < 0)) → (((hi2 107 1) ≤ (hi2 109 3)) → pm_C pm_g (SH L) HR (d + 1) m_Parser_step [.inr 109] hi2 (fun v hi14 => v = none ∧ (pm_C pm_g (SH L) HR (d + 1) m_Parser_readPiece [.inr 109] hi14 (fun v hi15 => v = none ∧ (∃ t16 : Nat, pm_tx t16 ∧ (hi15 109 1) = nI t16 ∧ ((((hi15 t16 2) < 0) → pm_W pm_g (SH L) HR (d + 1) pm_t39 6 [some (.inr 109), some (.inl (y1 + 1)), some (.inl (-1))] [] hi15 Q) ∧ ((¬ ((hi15 t16 2) < 0)) → (((hi15 t16 2) < 96) → ∃ k19 : Nat, k19 < 96 ∧ (hi15 t16 2) = nI k19 ∧ (∀ hi20 : pm_B, hi20 = pm_u (pm_u hi15 (t16 + 1) k19 (-(-1))) t16 2 (((pm_u hi15 (t16 + 1) k19 (-(-1))) t16 2) + 1) → (pm_W pm_g (SH L) HR (d + 1) pm_t39 6 [some (.inr 109), some (.inl (y1 + 1)), some (.inl (-1))] [] hi20 Q))) ∧ ((¬ ((hi15 t16 2) < 96)) → pm_W pm_g (SH L) HR (d + 1) pm_t39 6 [some (.inr 109), some (.inl (y1 + 1)), some (.inl (-1))] [] hi15 Q)))))))) ∧ ((¬ ((hi2 107 1) ≤ (hi2 109 3))) → ((96 ≤ (hi2 109 3)) → pm_C pm_g (SH L) HR (d + 1) m_Parser_step [.inr 109] hi2 (fun v hi22 => v = none ∧ (pm_C pm_g (SH L) HR (d + 1) m_Parser_readPiece [.inr 109] hi22 (fun v hi23 => v = none ∧ (∃ t24 : Nat, pm_tx t24 ∧ (hi23 109 1) = nI t24 ∧ ((((hi23 t24 2) < 0) → pm_W pm_g (SH L) HR (d + 1) pm_t39 6 [some (.inr 109), some (.inl (y1 + 1)), some (.inl (-1))] [] hi23 Q) ∧ ((¬ ((hi23 t24 2) < 0)) → (((hi23 t24 2) < 96) → ∃ k27 : Nat, k27 < 96 ∧ (hi23 t24 2) = nI k27 ∧ (∀ hi28 : pm_B, hi28 = pm_u (pm_u hi23 (t24 + 1) k27 (-(-1))) t24 2 (((pm_u hi23 (t24 + 1) k27 (-(-1))) t24 2) + 1) → (pm_W pm_g (SH L) HR (d + 1) pm_t39 6 [some (.inr 109), some (.inl (y1 + 1)), some (.inl (-1))] [] hi28 Q))) ∧ ((¬ ((hi23 t24 2) < 96)) → pm_W pm_g (SH L) HR (d + 1) pm_t39 6 [some (.inr 109), some (.inl (y1 + 1)), some (.inl (-1))] [] hi23 Q)))))))) ∧ ((¬ (96 ≤ (hi2 109 3))) → ∃ k29 : Nat, k29 < 96 ∧ (hi2 109 3) = nI k29 ∧ (pm_C pm_g (SH L) HR (d + 1) m_Parser_step [.inr 109] hi2 (fun v hi30 => v = none ∧ (pm_C pm_g (SH L) HR (d + 1) m_Parser_readPiece [.inr 109] hi30 (fun v hi31 => v = none ∧ (∃ t32 : Nat, pm_tx t32 ∧ (hi31 109 1) = nI t32 ∧ ((((hi31 t32 2) < 0) → pm_W pm_g (SH L) HR (d + 1) pm_t39 6 [some (.inr 109), some (.inl (y1 + 1)), some (.inl (hi2 108 k29))] [] hi31 Q) ∧ ((¬ ((hi31 t32 2) < 0)) → (((hi31 t32 2) < 96) → ∃ k35 : Nat, k35 < 96 ∧ (hi31 t32 2) = nI k35 ∧ (∀ hi36 : pm_B, hi36 = pm_u (pm_u hi31 (t32 + 1) k35 (-(hi2 108 k29))) t32 2 (((pm_u hi31 (t32 + 1) k35 (-(hi2 108 k29))) t32 2) + 1) → (pm_W pm_g (SH L) HR (d + 1) pm_t39 6 [some (.inr 109), some (.inl (y1 + 1)), some (.inl (hi2 108 k29))] [] hi36 Q))) ∧ ((¬ ((hi31 t32 2) < 96)) → pm_W pm_g (SH L) HR (d + 1) pm_t39 6 [some (.inr 109), some (.inl (y1 + 1)), some (.inl (hi2 108 k29))] [] hi31 Q)))))))))))) ∧ ((¬ (¬ x3 = 0)) → pm_C pm_g (SH L) HR (d + 1) m_Parser_isSign [.inr 109, .inl 47] hi2 (fun v hi37 => ∃ x38 : Int32, v = some (.inl x38) ∧ (((x38 = 0) → Q none hi37) ∧ ((¬ (x38 = 0)) → (((hi37 109 3) < 0) → pm_C pm_g (SH L) HR (d + 1) m_Parser_step [.inr 109] hi37 (fun v hi41 => v = none ∧ (pm_C pm_g (SH L) HR (d + 1) m_Parser_readPiece [.inr 109] hi41 (fun v hi42 => v = none ∧ (∃ t43 : Nat, pm_tx t43 ∧ (hi42 109 1) = nI t43 ∧ ((((hi42 t43 2) < 0) → pm_W pm_g (SH L) HR (d + 1) pm_t39 6 [some (.inr 109), some (.inl (y1 + 1)), some (.inl (-1))] [] hi42 Q) ∧ ((¬ ((hi42 t43 2) < 0)) → (((hi42 t43 2) < 96) → ∃ k46 : Nat, k46 < 96 ∧ (hi42 t43 2) = nI k46 ∧ (∀ hi47 : pm_B, hi47 = pm_u (pm_u hi42 (t43 + 1) k46 (-(-1))) t43 2 (((pm_u hi42 (t43 + 1) k46 (-(-1))) t43 2) + 1) → (pm_W pm_g (SH L) HR (d + 1) pm_t39 6 [some (.inr 109), some (.inl (y1 + 1)), some (.inl (-1))] [] hi47 Q))) ∧ ((¬ ((hi42 t43 2) < 96)) → pm_W pm_g (SH L) HR (d + 1) pm_t39 6 [some (.inr 109), some (.inl (y1 + 1)), some (.inl (-1))] [] hi42 Q)))))))) ∧ ((¬ ((hi37 109 3) < 0)) → (((hi37 107 1) ≤ (hi37 109 3)) → pm_C pm_g (SH L) HR (d + 1) m_Parser_step [.inr 109] hi37 (fun v hi49 => v = none ∧ (pm_C pm_g (SH L) HR (d + 1) m_Parser_readPiece [.inr 109] hi49 (fun v hi50 => v = none ∧ (∃ t51 : Nat, pm_tx t51 ∧ (hi50 109 1) = nI t51 ∧ ((((hi50 t51 2) < 0) → pm_W pm_g (SH L) HR (d + 1) pm_t39 6 [some (.inr 109), some (.inl (y1 + 1)), some (.inl (-1))] [] hi50 Q) ∧ ((¬ ((hi50 t51 2) < 0)) → (((hi50 t51 2) < 96) → ∃ k54 : Nat, k54 < 96 ∧ (hi50 t51 2) = nI k54 ∧ (∀ hi55 : pm_B, hi55 = pm_u (pm_u hi50 (t51 + 1) k54 (-(-1))) t51 2 (((pm_u hi50 (t51 + 1) k54 (-(-1))) t51 2) + 1) → (pm_W pm_g (SH L) HR (d + 1) pm_t39 6 [some (.inr 109), some (.inl (y1 + 1)), some (.inl (-1))] [] hi55 Q))) ∧ ((¬ ((hi50 t51 2) < 96)) → pm_W pm_g (SH L) HR (d + 1) pm_t39 6 [some (.inr 109), some (.inl (y1 + 1)), some (.inl (-1))] [] hi50 Q)))))))) ∧ ((¬ ((hi37 107 1) ≤ (hi37 109 3))) → ((96 ≤ (hi37 109 3)) → pm_C pm_g (SH L) HR (d + 1) m_Parser_step [.inr 109] hi37 (fun v hi57 => v = none ∧ (pm_C pm_g (SH L) HR (d + 1) m_Parser_readPiece [.inr 109] hi57 (fun v hi58 => v = none ∧ (∃ t59 : Nat, pm_tx t59 ∧ (hi58 109 1) = nI t59 ∧ ((((hi58 t59 2) < 0) → pm_W pm_g (SH L) HR (d + 1) pm_t39 6 [some (.inr 109), some (.inl (y1 + 1)), some (.inl (-1))] [] hi58 Q) ∧ ((¬ ((hi58 t59 2) < 0)) → (((hi58 t59 2) < 96) → ∃ k62 : Nat, k62 < 96 ∧ (hi58 t59 2) = nI k62 ∧ (∀ hi63 : pm_B, hi63 = pm_u (pm_u hi58 (t59 + 1) k62 (-(-1))) t59 2 (((pm_u hi58 (t59 + 1) k62 (-(-1))) t59 2) + 1) → (pm_W pm_g (SH L) HR (d + 1) pm_t39 6 [some (.inr 109), some (.inl (y1 + 1)), some (.inl (-1))] [] hi63 Q))) ∧ ((¬ ((hi58 t59 2) < 96)) → pm_W pm_g (SH L) HR (d + 1) pm_t39 6 [some (.inr 109), some (.inl (y1 + 1)), some (.inl (-1))] [] hi58 Q)))))))) ∧ ((¬ (96 ≤ (hi37 109 3))) → ∃ k64 : Nat, k64 < 96 ∧ (hi37 109 3) = nI k64 ∧ (pm_C pm_g (SH L) HR (d + 1) m_Parser_step [.inr 109] hi37 (fun v hi65 => v = none ∧ (pm_C pm_g (SH L) HR (d + 1) m_Parser_readPiece [.inr 109] hi65 (fun v hi66 => v = none ∧ (∃ t67 : Nat, pm_tx t67 ∧ (hi66 109 1) = nI t67 ∧ ((((hi66 t67 2) < 0) → pm_W pm_g (SH L) HR (d + 1) pm_t39 6 [some (.inr 109), some (.inl (y1 + 1)), some (.inl (hi37 108 k64))] [] hi66 Q) ∧ ((¬ ((hi66 t67 2) < 0)) → (((hi66 t67 2) < 96) → ∃ k70 : Nat, k70 < 96 ∧ (hi66 t67 2) = nI k70 ∧ (∀ hi71 : pm_B, hi71 = pm_u (pm_u hi66 (t67 + 1) k70 (-(hi37 108 k64))) t67 2 (((pm_u hi66 (t67 + 1) k70 (-(hi37 108 k64))) t67 2) + 1) → (pm_W pm_g (SH L) HR (d + 1) pm_t39 6 [some (.inr 109), some (.inl (y1 + 1)), some (.inl (hi37 108 k64))] [] hi71 Q))) ∧ ((¬ ((hi66 t67 2) < 96)) → pm_W pm_g (SH L) HR (d + 1) pm_t39 6 [some (.inr 109), some (.inl (y1 + 1)), some (.inl (hi37 108 k64))] [] hi66 Q))))))))))))))))))) : pm_W pm_g (SH L) HR (d + 1) pm_t39 6 [some (.inr 109), some (.inl y1), o2] [] hi Q := by
  refine pm_W_of 30 [6] rfl ?_
  refine And.intro (fun c1 => ?_) (fun c1 => ?_)
  · replace h := h.1 c1
    exact h
  · replace h := h.2 c1
    refine And.intro sh_l109 ?_
    refine pm_C_imp h (fun v hi2 h => ?_)
    obtain ⟨x3, rfl, h⟩ := h
    refine ⟨_, rfl, ?_⟩
    refine And.intro (fun c4 => ?_) (fun c4 => ?_)
    · replace h := h.1 c4
      refine And.intro sh_l109 ?_
      rw [hr_109_0]
      refine And.intro sh_l109 ?_
      refine And.intro sh_l107 ?_
      refine v_Tape_byteAt (d := d)  ?_
      refine And.intro (fun c5 => ?_) (fun c5 => ?_)
      · replace h := h.1 c5
        refine ⟨_, rfl, ?_⟩
        refine And.intro sh_l109 ?_
        refine pm_C_imp h (fun v hi6 h => ?_)
        obtain ⟨rfl, h⟩ := h
        refine ⟨rfl, ?_⟩
        refine And.intro sh_l109 ?_
        refine pm_C_imp h (fun v hi7 h => ?_)
        obtain ⟨rfl, h⟩ := h
        refine ⟨rfl, ?_⟩
        refine And.intro sh_l109 ?_
        obtain ⟨t8, hht8, het8, h⟩ := h
        rw [pm_tn_tx het8 hht8]
        refine And.intro (sh_tx hht8) ?_
        refine v_Text_put (d := d) hht8 ?_
        refine And.intro (fun c9 => ?_) (fun c9 => ?_)
        · replace h := h.1 c9
          refine ⟨rfl, ?_⟩
          exact h
        · replace h := h.2 c9
          refine And.intro (fun c10 => ?_) (fun c10 => ?_)
          · replace h := h.1 c10
            obtain ⟨k11, hkk11, hek11, h⟩ := h
            refine ⟨k11, hkk11, hek11, ?_⟩
            intro hi12 ehi12
            replace h := h hi12 ehi12
            refine ⟨rfl, ?_⟩
            exact h
          · replace h := h.2 c10
            refine ⟨rfl, ?_⟩
            exact h
      · replace h := h.2 c5
        refine And.intro (fun c13 => ?_) (fun c13 => ?_)
        · replace h := h.1 c13
          refine ⟨_, rfl, ?_⟩
          refine And.intro sh_l109 ?_
          refine pm_C_imp h (fun v hi14 h => ?_)
          obtain ⟨rfl, h⟩ := h
          refine ⟨rfl, ?_⟩
          refine And.intro sh_l109 ?_
          refine pm_C_imp h (fun v hi15 h => ?_)
          obtain ⟨rfl, h⟩ := h
          refine ⟨rfl, ?_⟩
          refine And.intro sh_l109 ?_
          obtain ⟨t16, hht16, het16, h⟩ := h
          rw [pm_tn_tx het16 hht16]
          refine And.intro (sh_tx hht16) ?_
          refine v_Text_put (d := d) hht16 ?_
          refine And.intro (fun c17 => ?_) (fun c17 => ?_)
          · replace h := h.1 c17
            refine ⟨rfl, ?_⟩
            exact h
          · replace h := h.2 c17
            refine And.intro (fun c18 => ?_) (fun c18 => ?_)
            · replace h := h.1 c18
              obtain ⟨k19, hkk19, hek19, h⟩ := h
              refine ⟨k19, hkk19, hek19, ?_⟩
              intro hi20 ehi20
              replace h := h hi20 ehi20
              refine ⟨rfl, ?_⟩
              exact h
            · replace h := h.2 c18
              refine ⟨rfl, ?_⟩
              exact h
        · replace h := h.2 c13
          refine And.intro (fun c21 => ?_) (fun c21 => ?_)
          · replace h := h.1 c21
            refine ⟨_, rfl, ?_⟩
            refine And.intro sh_l109 ?_
            refine pm_C_imp h (fun v hi22 h => ?_)
            obtain ⟨rfl, h⟩ := h
            refine ⟨rfl, ?_⟩
            refine And.intro sh_l109 ?_
            refine pm_C_imp h (fun v hi23 h => ?_)
            obtain ⟨rfl, h⟩ := h
            refine ⟨rfl, ?_⟩
            refine And.intro sh_l109 ?_
            obtain ⟨t24, hht24, het24, h⟩ := h
            rw [pm_tn_tx het24 hht24]
            refine And.intro (sh_tx hht24) ?_
            refine v_Text_put (d := d) hht24 ?_
            refine And.intro (fun c25 => ?_) (fun c25 => ?_)
            · replace h := h.1 c25
              refine ⟨rfl, ?_⟩
              exact h
            · replace h := h.2 c25
              refine And.intro (fun c26 => ?_) (fun c26 => ?_)
              · replace h := h.1 c26
                obtain ⟨k27, hkk27, hek27, h⟩ := h
                refine ⟨k27, hkk27, hek27, ?_⟩
                intro hi28 ehi28
                replace h := h hi28 ehi28
                refine ⟨rfl, ?_⟩
                exact h
              · replace h := h.2 c26
                refine ⟨rfl, ?_⟩
                exact h
          · replace h := h.2 c21
            obtain ⟨k29, hkk29, hek29, h⟩ := h
            refine ⟨k29, hkk29, hek29, ?_⟩
            refine ⟨_, rfl, ?_⟩
            refine And.intro sh_l109 ?_
            refine pm_C_imp h (fun v hi30 h => ?_)
            obtain ⟨rfl, h⟩ := h
            refine ⟨rfl, ?_⟩
            refine And.intro sh_l109 ?_
            refine pm_C_imp h (fun v hi31 h => ?_)
            obtain ⟨rfl, h⟩ := h
            refine ⟨rfl, ?_⟩
            refine And.intro sh_l109 ?_
            obtain ⟨t32, hht32, het32, h⟩ := h
            rw [pm_tn_tx het32 hht32]
            refine And.intro (sh_tx hht32) ?_
            refine v_Text_put (d := d) hht32 ?_
            refine And.intro (fun c33 => ?_) (fun c33 => ?_)
            · replace h := h.1 c33
              refine ⟨rfl, ?_⟩
              exact h
            · replace h := h.2 c33
              refine And.intro (fun c34 => ?_) (fun c34 => ?_)
              · replace h := h.1 c34
                obtain ⟨k35, hkk35, hek35, h⟩ := h
                refine ⟨k35, hkk35, hek35, ?_⟩
                intro hi36 ehi36
                replace h := h hi36 ehi36
                refine ⟨rfl, ?_⟩
                exact h
              · replace h := h.2 c34
                refine ⟨rfl, ?_⟩
                exact h
    · replace h := h.2 c4
      refine And.intro sh_l109 ?_
      refine pm_C_imp h (fun v hi37 h => ?_)
      obtain ⟨x38, rfl, h⟩ := h
      refine ⟨_, rfl, ?_⟩
      refine And.intro (fun c39 => ?_) (fun c39 => ?_)
      · replace h := h.1 c39
        exact h
      · replace h := h.2 c39
        refine And.intro sh_l109 ?_
        rw [hr_109_0]
        refine And.intro sh_l109 ?_
        refine And.intro sh_l107 ?_
        refine v_Tape_byteAt (d := d)  ?_
        refine And.intro (fun c40 => ?_) (fun c40 => ?_)
        · replace h := h.1 c40
          refine ⟨_, rfl, ?_⟩
          refine And.intro sh_l109 ?_
          refine pm_C_imp h (fun v hi41 h => ?_)
          obtain ⟨rfl, h⟩ := h
          refine ⟨rfl, ?_⟩
          refine And.intro sh_l109 ?_
          refine pm_C_imp h (fun v hi42 h => ?_)
          obtain ⟨rfl, h⟩ := h
          refine ⟨rfl, ?_⟩
          refine And.intro sh_l109 ?_
          obtain ⟨t43, hht43, het43, h⟩ := h
          rw [pm_tn_tx het43 hht43]
          refine And.intro (sh_tx hht43) ?_
          refine v_Text_put (d := d) hht43 ?_
          refine And.intro (fun c44 => ?_) (fun c44 => ?_)
          · replace h := h.1 c44
            refine ⟨rfl, ?_⟩
            exact h
          · replace h := h.2 c44
            refine And.intro (fun c45 => ?_) (fun c45 => ?_)
            · replace h := h.1 c45
              obtain ⟨k46, hkk46, hek46, h⟩ := h
              refine ⟨k46, hkk46, hek46, ?_⟩
              intro hi47 ehi47
              replace h := h hi47 ehi47
              refine ⟨rfl, ?_⟩
              exact h
            · replace h := h.2 c45
              refine ⟨rfl, ?_⟩
              exact h
        · replace h := h.2 c40
          refine And.intro (fun c48 => ?_) (fun c48 => ?_)
          · replace h := h.1 c48
            refine ⟨_, rfl, ?_⟩
            refine And.intro sh_l109 ?_
            refine pm_C_imp h (fun v hi49 h => ?_)
            obtain ⟨rfl, h⟩ := h
            refine ⟨rfl, ?_⟩
            refine And.intro sh_l109 ?_
            refine pm_C_imp h (fun v hi50 h => ?_)
            obtain ⟨rfl, h⟩ := h
            refine ⟨rfl, ?_⟩
            refine And.intro sh_l109 ?_
            obtain ⟨t51, hht51, het51, h⟩ := h
            rw [pm_tn_tx het51 hht51]
            refine And.intro (sh_tx hht51) ?_
            refine v_Text_put (d := d) hht51 ?_
            refine And.intro (fun c52 => ?_) (fun c52 => ?_)
            · replace h := h.1 c52
              refine ⟨rfl, ?_⟩
              exact h
            · replace h := h.2 c52
              refine And.intro (fun c53 => ?_) (fun c53 => ?_)
              · replace h := h.1 c53
                obtain ⟨k54, hkk54, hek54, h⟩ := h
                refine ⟨k54, hkk54, hek54, ?_⟩
                intro hi55 ehi55
                replace h := h hi55 ehi55
                refine ⟨rfl, ?_⟩
                exact h
              · replace h := h.2 c53
                refine ⟨rfl, ?_⟩
                exact h
          · replace h := h.2 c48
            refine And.intro (fun c56 => ?_) (fun c56 => ?_)
            · replace h := h.1 c56
              refine ⟨_, rfl, ?_⟩
              refine And.intro sh_l109 ?_
              refine pm_C_imp h (fun v hi57 h => ?_)
              obtain ⟨rfl, h⟩ := h
              refine ⟨rfl, ?_⟩
              refine And.intro sh_l109 ?_
              refine pm_C_imp h (fun v hi58 h => ?_)
              obtain ⟨rfl, h⟩ := h
              refine ⟨rfl, ?_⟩
              refine And.intro sh_l109 ?_
              obtain ⟨t59, hht59, het59, h⟩ := h
              rw [pm_tn_tx het59 hht59]
              refine And.intro (sh_tx hht59) ?_
              refine v_Text_put (d := d) hht59 ?_
              refine And.intro (fun c60 => ?_) (fun c60 => ?_)
              · replace h := h.1 c60
                refine ⟨rfl, ?_⟩
                exact h
              · replace h := h.2 c60
                refine And.intro (fun c61 => ?_) (fun c61 => ?_)
                · replace h := h.1 c61
                  obtain ⟨k62, hkk62, hek62, h⟩ := h
                  refine ⟨k62, hkk62, hek62, ?_⟩
                  intro hi63 ehi63
                  replace h := h hi63 ehi63
                  refine ⟨rfl, ?_⟩
                  exact h
                · replace h := h.2 c61
                  refine ⟨rfl, ?_⟩
                  exact h
            · replace h := h.2 c56
              obtain ⟨k64, hkk64, hek64, h⟩ := h
              refine ⟨k64, hkk64, hek64, ?_⟩
              refine ⟨_, rfl, ?_⟩
              refine And.intro sh_l109 ?_
              refine pm_C_imp h (fun v hi65 h => ?_)
              obtain ⟨rfl, h⟩ := h
              refine ⟨rfl, ?_⟩
              refine And.intro sh_l109 ?_
              refine pm_C_imp h (fun v hi66 h => ?_)
              obtain ⟨rfl, h⟩ := h
              refine ⟨rfl, ?_⟩
              refine And.intro sh_l109 ?_
              obtain ⟨t67, hht67, het67, h⟩ := h
              rw [pm_tn_tx het67 hht67]
              refine And.intro (sh_tx hht67) ?_
              refine v_Text_put (d := d) hht67 ?_
              refine And.intro (fun c68 => ?_) (fun c68 => ?_)
              · replace h := h.1 c68
                refine ⟨rfl, ?_⟩
                exact h
              · replace h := h.2 c68
                refine And.intro (fun c69 => ?_) (fun c69 => ?_)
                · replace h := h.1 c69
                  obtain ⟨k70, hkk70, hek70, h⟩ := h
                  refine ⟨k70, hkk70, hek70, ?_⟩
                  intro hi71 ehi71
                  replace h := h hi71 ehi71
                  refine ⟨rfl, ?_⟩
                  exact h
                · replace h := h.2 c69
                  refine ⟨rfl, ?_⟩
                  exact h
theorem v_Parser_readPiece {L d : Nat}  {hi : pm_B} {Q : pm_Q} (h : ((¬ (hi 109 2) = 2) → ((¬ (hi 109 2) = 1) → pm_C pm_g (SH L) HR (d + 1) m_Parser_isSign [.inr 109, .inl 33] hi (fun v hi3 => ∃ x4 : Int32, v = some (.inl x4) ∧ (((x4 = 0) → pm_C pm_g (SH L) HR (d + 1) m_Parser_isSign [.inr 109, .inl 40] hi3 (fun v hi6 => ∃ x7 : Int32, v = some (.inl x7) ∧ (((x7 = 0) → ((¬ (hi6 109 7) = (-1000000005)) → ∀ hi10 : pm_B, hi10 = pm_u hi6 109 2 4 → (Q none hi10)) ∧ ((¬ (¬ (hi6 109 7) = (-1000000005))) → ∀ hi11 : pm_B, hi11 = pm_u (pm_u hi6 109 7 (hi6 109 3)) 109 2 4 → (Q none hi11))) ∧ ((¬ (x7 = 0)) → pm_C pm_g (SH L) HR (d + 1) m_Parser_readBrackets [.inr 109] hi6 (fun v hi12 => v = none ∧ (Q none hi12)))))) ∧ ((¬ (x4 = 0)) → pm_C pm_g (SH L) HR (d + 1) m_Parser_readNot [.inr 109] hi3 (fun v hi13 => v = none ∧ (Q none hi13)))))) ∧ ((¬ (¬ (hi 109 2) = 1)) → pm_C pm_g (SH L) HR (d + 1) m_Parser_readName [.inr 109] hi (fun v hi14 => v = none ∧ (Q none hi14)))) ∧ ((¬ (¬ (hi 109 2) = 2)) → pm_C pm_g (SH L) HR (d + 1) m_Parser_readNumber [.inr 109] hi (fun v hi15 => v = none ∧ (Q none hi15)))) : pm_C pm_g (SH L) HR (d + 2) m_Parser_readPiece [.inr 109] hi Q := by
  refine pm_C_of (maxL := 1) (t := pm_t40) rfl (Nat.le_of_ble_eq_true rfl) ?_
  refine pm_W_of 22 [] rfl ?_
  refine And.intro sh_l109 ?_
  refine And.intro (fun c1 => ?_) (fun c1 => ?_)
  · replace h := h.1 c1
    refine And.intro sh_l109 ?_
    refine And.intro (fun c2 => ?_) (fun c2 => ?_)
    · replace h := h.1 c2
      refine And.intro sh_l109 ?_
      refine pm_C_imp h (fun v hi3 h => ?_)
      obtain ⟨x4, rfl, h⟩ := h
      refine ⟨_, rfl, ?_⟩
      refine And.intro (fun c5 => ?_) (fun c5 => ?_)
      · replace h := h.1 c5
        refine And.intro sh_l109 ?_
        refine pm_C_imp h (fun v hi6 h => ?_)
        obtain ⟨x7, rfl, h⟩ := h
        refine ⟨_, rfl, ?_⟩
        refine And.intro (fun c8 => ?_) (fun c8 => ?_)
        · replace h := h.1 c8
          refine And.intro sh_l109 ?_
          refine v_Parser_fail (d := d)  ?_
          refine And.intro (fun c9 => ?_) (fun c9 => ?_)
          · replace h := h.1 c9
            refine ⟨rfl, ?_⟩
            obtain ⟨hi10, ehi10⟩ : ∃ m : pm_B, m = pm_u hi6 109 2 4 := ⟨_, rfl⟩
            replace h := h hi10 ehi10
            rw [← ehi10]
            exact h
          · replace h := h.2 c9
            intro hi11 ehi11
            replace h := h hi11 ehi11
            refine ⟨rfl, ?_⟩
            exact h
        · replace h := h.2 c8
          refine And.intro sh_l109 ?_
          refine pm_C_imp h (fun v hi12 h => ?_)
          obtain ⟨rfl, h⟩ := h
          refine ⟨rfl, ?_⟩
          exact h
      · replace h := h.2 c5
        refine And.intro sh_l109 ?_
        refine pm_C_imp h (fun v hi13 h => ?_)
        obtain ⟨rfl, h⟩ := h
        refine ⟨rfl, ?_⟩
        exact h
    · replace h := h.2 c2
      refine And.intro sh_l109 ?_
      refine pm_C_imp h (fun v hi14 h => ?_)
      obtain ⟨rfl, h⟩ := h
      refine ⟨rfl, ?_⟩
      exact h
  · replace h := h.2 c1
    refine And.intro sh_l109 ?_
    refine pm_C_imp h (fun v hi15 h => ?_)
    obtain ⟨rfl, h⟩ := h
    refine ⟨rfl, ?_⟩
    exact h
theorem v_Parser_readNumber {L d : Nat}  {hi : pm_B} {Q : pm_Q} (h : ((((hi 109 4) - (hi 109 3)) ≤ 4) → pm_W pm_g (SH L) HR (d + 1) pm_t41 25 [some (.inr 109), some (.inl 0), some (.inl (hi 109 3))] [] hi Q) ∧ ((¬ (((hi 109 4) - (hi 109 3)) ≤ 4)) → ((¬ (hi 109 7) = (-1000000005)) → ∀ hi3 : pm_B, hi3 = pm_u hi 109 2 4 → (Q none hi3)) ∧ ((¬ (¬ (hi 109 7) = (-1000000005))) → ∀ hi4 : pm_B, hi4 = pm_u (pm_u hi 109 7 (hi 109 3)) 109 2 4 → (Q none hi4)))) : pm_C pm_g (SH L) HR (d + 2) m_Parser_readNumber [.inr 109] hi Q := by
  refine pm_C_of (maxL := 3) (t := pm_t41) rfl (Nat.le_of_ble_eq_true rfl) ?_
  refine pm_W_of 14 [25] rfl ?_
  refine And.intro sh_l109 ?_
  refine And.intro sh_l109 ?_
  refine And.intro (fun c1 => ?_) (fun c1 => ?_)
  · replace h := h.1 c1
    refine And.intro sh_l109 ?_
    exact h
  · replace h := h.2 c1
    refine And.intro sh_l109 ?_
    refine v_Parser_fail (d := d)  ?_
    refine And.intro (fun c2 => ?_) (fun c2 => ?_)
    · replace h := h.1 c2
      refine ⟨rfl, ?_⟩
      obtain ⟨hi3, ehi3⟩ : ∃ m : pm_B, m = pm_u hi 109 2 4 := ⟨_, rfl⟩
      replace h := h hi3 ehi3
      rw [← ehi3]
      exact h
    · replace h := h.2 c2
      intro hi4 ehi4
      replace h := h hi4 ehi4
      refine ⟨rfl, ?_⟩
      exact h
theorem v_Parser_readNumber_25 {L d : Nat}  {y1 : Int32} {y2 : Int32} {hi : pm_B} {Q : pm_Q} (h : (((hi 109 4) ≤ y2) → pm_C pm_g (SH L) HR (d + 1) m_Parser_putLeaf [.inr 109, .inl y1] hi (fun v hi2 => v = none ∧ (Q none hi2))) ∧ ((¬ ((hi 109 4) ≤ y2)) → ((y2 < 0) → pm_W pm_g (SH L) HR (d + 1) pm_t41 25 [some (.inr 109), some (.inl (((y1 * 10) + (-1)) - 48)), some (.inl (y2 + 1))] [] hi Q) ∧ ((¬ (y2 < 0)) → (((hi 107 1) ≤ y2) → pm_W pm_g (SH L) HR (d + 1) pm_t41 25 [some (.inr 109), some (.inl (((y1 * 10) + (-1)) - 48)), some (.inl (y2 + 1))] [] hi Q) ∧ ((¬ ((hi 107 1) ≤ y2)) → ((96 ≤ y2) → pm_W pm_g (SH L) HR (d + 1) pm_t41 25 [some (.inr 109), some (.inl (((y1 * 10) + (-1)) - 48)), some (.inl (y2 + 1))] [] hi Q) ∧ ((¬ (96 ≤ y2)) → ∃ k6 : Nat, k6 < 96 ∧ y2 = nI k6 ∧ (pm_W pm_g (SH L) HR (d + 1) pm_t41 25 [some (.inr 109), some (.inl (((y1 * 10) + (hi 108 k6)) - 48)), some (.inl (y2 + 1))] [] hi Q)))))) : pm_W pm_g (SH L) HR (d + 1) pm_t41 25 [some (.inr 109), some (.inl y1), some (.inl y2)] [] hi Q := by
  refine pm_W_of 19 [25] rfl ?_
  refine And.intro sh_l109 ?_
  refine And.intro (fun c1 => ?_) (fun c1 => ?_)
  · replace h := h.1 c1
    refine And.intro sh_l109 ?_
    refine pm_C_imp h (fun v hi2 h => ?_)
    obtain ⟨rfl, h⟩ := h
    refine ⟨rfl, ?_⟩
    exact h
  · replace h := h.2 c1
    refine And.intro sh_l109 ?_
    rw [hr_109_0]
    refine And.intro sh_l107 ?_
    refine v_Tape_byteAt (d := d)  ?_
    refine And.intro (fun c3 => ?_) (fun c3 => ?_)
    · replace h := h.1 c3
      refine ⟨_, rfl, ?_⟩
      exact h
    · replace h := h.2 c3
      refine And.intro (fun c4 => ?_) (fun c4 => ?_)
      · replace h := h.1 c4
        refine ⟨_, rfl, ?_⟩
        exact h
      · replace h := h.2 c4
        refine And.intro (fun c5 => ?_) (fun c5 => ?_)
        · replace h := h.1 c5
          refine ⟨_, rfl, ?_⟩
          exact h
        · replace h := h.2 c5
          obtain ⟨k6, hkk6, hek6, h⟩ := h
          refine ⟨k6, hkk6, hek6, ?_⟩
          refine ⟨_, rfl, ?_⟩
          exact h
theorem v_Parser_readName {L d : Nat}  {hi : pm_B} {Q : pm_Q} (h : ((¬ ((hi 109 4) - (hi 109 3)) = 1) → ((¬ (hi 109 7) = (-1000000005)) → ∀ hi3 : pm_B, hi3 = pm_u hi 109 2 4 → (Q none hi3)) ∧ ((¬ (¬ (hi 109 7) = (-1000000005))) → ∀ hi4 : pm_B, hi4 = pm_u (pm_u hi 109 7 (hi 109 3)) 109 2 4 → (Q none hi4))) ∧ ((¬ (¬ ((hi 109 4) - (hi 109 3)) = 1)) → ∃ t5 : Nat, pm_tx t5 ∧ (hi 109 1) = nI t5 ∧ ((((hi t5 0) = 0) → (((hi 109 3) < 0) → pm_C pm_g (SH L) HR (d + 1) m_String_indexOf [.inr 6, .inl ((Int32.toUInt32 (-1) % 65536).toInt32)] hi (fun v hi8 => ∃ x9 : Int32, v = some (.inl x9) ∧ (((0 ≤ x9) → pm_C pm_g (SH L) HR (d + 1) m_Parser_putLeaf [.inr 109, .inl ((-1) - x9)] hi8 (fun v hi11 => v = none ∧ (Q none hi11))) ∧ ((¬ (0 ≤ x9)) → ((¬ (hi8 109 7) = (-1000000005)) → ∀ hi13 : pm_B, hi13 = pm_u hi8 109 2 4 → (Q none hi13)) ∧ ((¬ (¬ (hi8 109 7) = (-1000000005))) → ∀ hi14 : pm_B, hi14 = pm_u (pm_u hi8 109 7 (hi8 109 3)) 109 2 4 → (Q none hi14)))))) ∧ ((¬ ((hi 109 3) < 0)) → (((hi 107 1) ≤ (hi 109 3)) → pm_C pm_g (SH L) HR (d + 1) m_String_indexOf [.inr 6, .inl ((Int32.toUInt32 (-1) % 65536).toInt32)] hi (fun v hi16 => ∃ x17 : Int32, v = some (.inl x17) ∧ (((0 ≤ x17) → pm_C pm_g (SH L) HR (d + 1) m_Parser_putLeaf [.inr 109, .inl ((-1) - x17)] hi16 (fun v hi19 => v = none ∧ (Q none hi19))) ∧ ((¬ (0 ≤ x17)) → ((¬ (hi16 109 7) = (-1000000005)) → ∀ hi21 : pm_B, hi21 = pm_u hi16 109 2 4 → (Q none hi21)) ∧ ((¬ (¬ (hi16 109 7) = (-1000000005))) → ∀ hi22 : pm_B, hi22 = pm_u (pm_u hi16 109 7 (hi16 109 3)) 109 2 4 → (Q none hi22)))))) ∧ ((¬ ((hi 107 1) ≤ (hi 109 3))) → ((96 ≤ (hi 109 3)) → pm_C pm_g (SH L) HR (d + 1) m_String_indexOf [.inr 6, .inl ((Int32.toUInt32 (-1) % 65536).toInt32)] hi (fun v hi24 => ∃ x25 : Int32, v = some (.inl x25) ∧ (((0 ≤ x25) → pm_C pm_g (SH L) HR (d + 1) m_Parser_putLeaf [.inr 109, .inl ((-1) - x25)] hi24 (fun v hi27 => v = none ∧ (Q none hi27))) ∧ ((¬ (0 ≤ x25)) → ((¬ (hi24 109 7) = (-1000000005)) → ∀ hi29 : pm_B, hi29 = pm_u hi24 109 2 4 → (Q none hi29)) ∧ ((¬ (¬ (hi24 109 7) = (-1000000005))) → ∀ hi30 : pm_B, hi30 = pm_u (pm_u hi24 109 7 (hi24 109 3)) 109 2 4 → (Q none hi30)))))) ∧ ((¬ (96 ≤ (hi 109 3))) → ∃ k31 : Nat, k31 < 96 ∧ (hi 109 3) = nI k31 ∧ (pm_C pm_g (SH L) HR (d + 1) m_String_indexOf [.inr 6, .inl ((Int32.toUInt32 (hi 108 k31) % 65536).toInt32)] hi (fun v hi32 => ∃ x33 : Int32, v = some (.inl x33) ∧ (((0 ≤ x33) → pm_C pm_g (SH L) HR (d + 1) m_Parser_putLeaf [.inr 109, .inl ((-1) - x33)] hi32 (fun v hi35 => v = none ∧ (Q none hi35))) ∧ ((¬ (0 ≤ x33)) → ((¬ (hi32 109 7) = (-1000000005)) → ∀ hi37 : pm_B, hi37 = pm_u hi32 109 2 4 → (Q none hi37)) ∧ ((¬ (¬ (hi32 109 7) = (-1000000005))) → ∀ hi38 : pm_B, hi38 = pm_u (pm_u hi32 109 7 (hi32 109 3)) 109 2 4 → (Q none hi38)))))))))) ∧ ((¬ (hi t5 0) = 0) → (((hi t5 0) = 1) → (((hi 109 3) < 0) → pm_C pm_g (SH L) HR (d + 1) m_String_indexOf [.inr 7, .inl ((Int32.toUInt32 (-1) % 65536).toInt32)] hi (fun v hi41 => ∃ x42 : Int32, v = some (.inl x42) ∧ (((0 ≤ x42) → pm_C pm_g (SH L) HR (d + 1) m_Parser_putLeaf [.inr 109, .inl ((-1) - x42)] hi41 (fun v hi44 => v = none ∧ (Q none hi44))) ∧ ((¬ (0 ≤ x42)) → ((¬ (hi41 109 7) = (-1000000005)) → ∀ hi46 : pm_B, hi46 = pm_u hi41 109 2 4 → (Q none hi46)) ∧ ((¬ (¬ (hi41 109 7) = (-1000000005))) → ∀ hi47 : pm_B, hi47 = pm_u (pm_u hi41 109 7 (hi41 109 3)) 109 2 4 → (Q none hi47)))))) ∧ ((¬ ((hi 109 3) < 0)) → (((hi 107 1) ≤ (hi 109 3)) → pm_C pm_g (SH L) HR (d + 1) m_String_indexOf [.inr 7, .inl ((Int32.toUInt32 (-1) % 65536).toInt32)] hi (fun v hi49 => ∃ x50 : Int32, v = some (.inl x50) ∧ (((0 ≤ x50) → pm_C pm_g (SH L) HR (d + 1) m_Parser_putLeaf [.inr 109, .inl ((-1) - x50)] hi49 (fun v hi52 => v = none ∧ (Q none hi52))) ∧ ((¬ (0 ≤ x50)) → ((¬ (hi49 109 7) = (-1000000005)) → ∀ hi54 : pm_B, hi54 = pm_u hi49 109 2 4 → (Q none hi54)) ∧ ((¬ (¬ (hi49 109 7) = (-1000000005))) → ∀ hi55 : pm_B, hi55 = pm_u (pm_u hi49 109 7 (hi49 109 3)) 109 2 4 → (Q none hi55)))))) ∧ ((¬ ((hi 107 1) ≤ (hi 109 3))) → ((96 ≤ (hi 109 3)) → pm_C pm_g (SH L) HR (d + 1) m_String_indexOf [.inr 7, .inl ((Int32.toUInt32 (-1) % 65536).toInt32)] hi (fun v hi57 => ∃ x58 : Int32, v = some (.inl x58) ∧ (((0 ≤ x58) → pm_C pm_g (SH L) HR (d + 1) m_Parser_putLeaf [.inr 109, .inl ((-1) - x58)] hi57 (fun v hi60 => v = none ∧ (Q none hi60))) ∧ ((¬ (0 ≤ x58)) → ((¬ (hi57 109 7) = (-1000000005)) → ∀ hi62 : pm_B, hi62 = pm_u hi57 109 2 4 → (Q none hi62)) ∧ ((¬ (¬ (hi57 109 7) = (-1000000005))) → ∀ hi63 : pm_B, hi63 = pm_u (pm_u hi57 109 7 (hi57 109 3)) 109 2 4 → (Q none hi63)))))) ∧ ((¬ (96 ≤ (hi 109 3))) → ∃ k64 : Nat, k64 < 96 ∧ (hi 109 3) = nI k64 ∧ (pm_C pm_g (SH L) HR (d + 1) m_String_indexOf [.inr 7, .inl ((Int32.toUInt32 (hi 108 k64) % 65536).toInt32)] hi (fun v hi65 => ∃ x66 : Int32, v = some (.inl x66) ∧ (((0 ≤ x66) → pm_C pm_g (SH L) HR (d + 1) m_Parser_putLeaf [.inr 109, .inl ((-1) - x66)] hi65 (fun v hi68 => v = none ∧ (Q none hi68))) ∧ ((¬ (0 ≤ x66)) → ((¬ (hi65 109 7) = (-1000000005)) → ∀ hi70 : pm_B, hi70 = pm_u hi65 109 2 4 → (Q none hi70)) ∧ ((¬ (¬ (hi65 109 7) = (-1000000005))) → ∀ hi71 : pm_B, hi71 = pm_u (pm_u hi65 109 7 (hi65 109 3)) 109 2 4 → (Q none hi71)))))))))) ∧ ((¬ (hi t5 0) = 1) → (((hi 109 3) < 0) → pm_C pm_g (SH L) HR (d + 1) m_String_indexOf [.inr 8, .inl ((Int32.toUInt32 (-1) % 65536).toInt32)] hi (fun v hi73 => ∃ x74 : Int32, v = some (.inl x74) ∧ (((0 ≤ x74) → pm_C pm_g (SH L) HR (d + 1) m_Parser_putLeaf [.inr 109, .inl ((-1) - x74)] hi73 (fun v hi76 => v = none ∧ (Q none hi76))) ∧ ((¬ (0 ≤ x74)) → ((¬ (hi73 109 7) = (-1000000005)) → ∀ hi78 : pm_B, hi78 = pm_u hi73 109 2 4 → (Q none hi78)) ∧ ((¬ (¬ (hi73 109 7) = (-1000000005))) → ∀ hi79 : pm_B, hi79 = pm_u (pm_u hi73 109 7 (hi73 109 3)) 109 2 4 → (Q none hi79)))))) ∧ ((¬ ((hi 109 3) < 0)) → (((hi 107 1) ≤ (hi 109 3)) → pm_C pm_g (SH L) HR (d + 1) m_String_indexOf [.inr 8, .inl ((Int32.toUInt32 (-1) % 65536).toInt32)] hi (fun v hi81 => ∃ x82 : Int32, v = some (.inl x82) ∧ (((0 ≤ x82) → pm_C pm_g (SH L) HR (d + 1) m_Parser_putLeaf [.inr 109, .inl ((-1) - x82)] hi81 (fun v hi84 => v = none ∧ (Q none hi84))) ∧ ((¬ (0 ≤ x82)) → ((¬ (hi81 109 7) = (-1000000005)) → ∀ hi86 : pm_B, hi86 = pm_u hi81 109 2 4 → (Q none hi86)) ∧ ((¬ (¬ (hi81 109 7) = (-1000000005))) → ∀ hi87 : pm_B, hi87 = pm_u (pm_u hi81 109 7 (hi81 109 3)) 109 2 4 → (Q none hi87)))))) ∧ ((¬ ((hi 107 1) ≤ (hi 109 3))) → ((96 ≤ (hi 109 3)) → pm_C pm_g (SH L) HR (d + 1) m_String_indexOf [.inr 8, .inl ((Int32.toUInt32 (-1) % 65536).toInt32)] hi (fun v hi89 => ∃ x90 : Int32, v = some (.inl x90) ∧ (((0 ≤ x90) → pm_C pm_g (SH L) HR (d + 1) m_Parser_putLeaf [.inr 109, .inl ((-1) - x90)] hi89 (fun v hi92 => v = none ∧ (Q none hi92))) ∧ ((¬ (0 ≤ x90)) → ((¬ (hi89 109 7) = (-1000000005)) → ∀ hi94 : pm_B, hi94 = pm_u hi89 109 2 4 → (Q none hi94)) ∧ ((¬ (¬ (hi89 109 7) = (-1000000005))) → ∀ hi95 : pm_B, hi95 = pm_u (pm_u hi89 109 7 (hi89 109 3)) 109 2 4 → (Q none hi95)))))) ∧ ((¬ (96 ≤ (hi 109 3))) → ∃ k96 : Nat, k96 < 96 ∧ (hi 109 3) = nI k96 ∧ (pm_C pm_g (SH L) HR (d + 1) m_String_indexOf [.inr 8, .inl ((Int32.toUInt32 (hi 108 k96) % 65536).toInt32)] hi (fun v hi97 => ∃ x98 : Int32, v = some (.inl x98) ∧ (((0 ≤ x98) → pm_C pm_g (SH L) HR (d + 1) m_Parser_putLeaf [.inr 109, .inl ((-1) - x98)] hi97 (fun v hi100 => v = none ∧ (Q none hi100))) ∧ ((¬ (0 ≤ x98)) → ((¬ (hi97 109 7) = (-1000000005)) → ∀ hi102 : pm_B, hi102 = pm_u hi97 109 2 4 → (Q none hi102)) ∧ ((¬ (¬ (hi97 109 7) = (-1000000005))) → ∀ hi103 : pm_B, hi103 = pm_u (pm_u hi97 109 7 (hi97 109 3)) 109 2 4 → (Q none hi103)))))))))))))) : pm_C pm_g (SH L) HR (d + 2) m_Parser_readName [.inr 109] hi Q := by
  refine pm_C_of (maxL := 2) (t := pm_t42) rfl (Nat.le_of_ble_eq_true rfl) ?_
  refine pm_W_of 30 [] rfl ?_
  refine And.intro sh_l109 ?_
  refine And.intro sh_l109 ?_
  refine And.intro (fun c1 => ?_) (fun c1 => ?_)
  · replace h := h.1 c1
    refine And.intro (fun hc => absurd hc (pm_cd_f (by decide))) (fun _ => ?_)
    refine And.intro sh_l109 ?_
    refine v_Parser_fail (d := d)  ?_
    refine And.intro (fun c2 => ?_) (fun c2 => ?_)
    · replace h := h.1 c2
      refine ⟨rfl, ?_⟩
      obtain ⟨hi3, ehi3⟩ : ∃ m : pm_B, m = pm_u hi 109 2 4 := ⟨_, rfl⟩
      replace h := h hi3 ehi3
      rw [← ehi3]
      exact h
    · replace h := h.2 c2
      intro hi4 ehi4
      replace h := h hi4 ehi4
      refine ⟨rfl, ?_⟩
      exact h
  · replace h := h.2 c1
    refine And.intro sh_l109 ?_
    obtain ⟨t5, hht5, het5, h⟩ := h
    rw [pm_tn_tx het5 hht5]
    refine And.intro (sh_tx hht5) ?_
    refine And.intro trivial ?_
    refine v_Parser_namesOf (d := d)  ?_
    refine And.intro (fun c6 => ?_) (fun c6 => ?_)
    · replace h := h.1 c6
      refine ⟨_, rfl, ?_⟩
      refine And.intro sh_l109 ?_
      rw [hr_109_0]
      refine And.intro sh_l109 ?_
      refine And.intro sh_l107 ?_
      refine v_Tape_byteAt (d := d)  ?_
      refine And.intro (fun c7 => ?_) (fun c7 => ?_)
      · replace h := h.1 c7
        refine ⟨_, rfl, ?_⟩
        refine And.intro (sh_sr (sr_lit 6 (by decide))) ?_
        refine pm_C_imp h (fun v hi8 h => ?_)
        obtain ⟨x9, rfl, h⟩ := h
        refine ⟨_, rfl, ?_⟩
        refine And.intro (fun c10 => ?_) (fun c10 => ?_)
        · replace h := h.1 c10
          refine And.intro sh_l109 ?_
          refine pm_C_imp h (fun v hi11 h => ?_)
          obtain ⟨rfl, h⟩ := h
          refine ⟨rfl, ?_⟩
          exact h
        · replace h := h.2 c10
          refine And.intro sh_l109 ?_
          refine v_Parser_fail (d := d)  ?_
          refine And.intro (fun c12 => ?_) (fun c12 => ?_)
          · replace h := h.1 c12
            refine ⟨rfl, ?_⟩
            obtain ⟨hi13, ehi13⟩ : ∃ m : pm_B, m = pm_u hi8 109 2 4 := ⟨_, rfl⟩
            replace h := h hi13 ehi13
            rw [← ehi13]
            exact h
          · replace h := h.2 c12
            intro hi14 ehi14
            replace h := h hi14 ehi14
            refine ⟨rfl, ?_⟩
            exact h
      · replace h := h.2 c7
        refine And.intro (fun c15 => ?_) (fun c15 => ?_)
        · replace h := h.1 c15
          refine ⟨_, rfl, ?_⟩
          refine And.intro (sh_sr (sr_lit 6 (by decide))) ?_
          refine pm_C_imp h (fun v hi16 h => ?_)
          obtain ⟨x17, rfl, h⟩ := h
          refine ⟨_, rfl, ?_⟩
          refine And.intro (fun c18 => ?_) (fun c18 => ?_)
          · replace h := h.1 c18
            refine And.intro sh_l109 ?_
            refine pm_C_imp h (fun v hi19 h => ?_)
            obtain ⟨rfl, h⟩ := h
            refine ⟨rfl, ?_⟩
            exact h
          · replace h := h.2 c18
            refine And.intro sh_l109 ?_
            refine v_Parser_fail (d := d)  ?_
            refine And.intro (fun c20 => ?_) (fun c20 => ?_)
            · replace h := h.1 c20
              refine ⟨rfl, ?_⟩
              obtain ⟨hi21, ehi21⟩ : ∃ m : pm_B, m = pm_u hi16 109 2 4 := ⟨_, rfl⟩
              replace h := h hi21 ehi21
              rw [← ehi21]
              exact h
            · replace h := h.2 c20
              intro hi22 ehi22
              replace h := h hi22 ehi22
              refine ⟨rfl, ?_⟩
              exact h
        · replace h := h.2 c15
          refine And.intro (fun c23 => ?_) (fun c23 => ?_)
          · replace h := h.1 c23
            refine ⟨_, rfl, ?_⟩
            refine And.intro (sh_sr (sr_lit 6 (by decide))) ?_
            refine pm_C_imp h (fun v hi24 h => ?_)
            obtain ⟨x25, rfl, h⟩ := h
            refine ⟨_, rfl, ?_⟩
            refine And.intro (fun c26 => ?_) (fun c26 => ?_)
            · replace h := h.1 c26
              refine And.intro sh_l109 ?_
              refine pm_C_imp h (fun v hi27 h => ?_)
              obtain ⟨rfl, h⟩ := h
              refine ⟨rfl, ?_⟩
              exact h
            · replace h := h.2 c26
              refine And.intro sh_l109 ?_
              refine v_Parser_fail (d := d)  ?_
              refine And.intro (fun c28 => ?_) (fun c28 => ?_)
              · replace h := h.1 c28
                refine ⟨rfl, ?_⟩
                obtain ⟨hi29, ehi29⟩ : ∃ m : pm_B, m = pm_u hi24 109 2 4 := ⟨_, rfl⟩
                replace h := h hi29 ehi29
                rw [← ehi29]
                exact h
              · replace h := h.2 c28
                intro hi30 ehi30
                replace h := h hi30 ehi30
                refine ⟨rfl, ?_⟩
                exact h
          · replace h := h.2 c23
            obtain ⟨k31, hkk31, hek31, h⟩ := h
            refine ⟨k31, hkk31, hek31, ?_⟩
            refine ⟨_, rfl, ?_⟩
            refine And.intro (sh_sr (sr_lit 6 (by decide))) ?_
            refine pm_C_imp h (fun v hi32 h => ?_)
            obtain ⟨x33, rfl, h⟩ := h
            refine ⟨_, rfl, ?_⟩
            refine And.intro (fun c34 => ?_) (fun c34 => ?_)
            · replace h := h.1 c34
              refine And.intro sh_l109 ?_
              refine pm_C_imp h (fun v hi35 h => ?_)
              obtain ⟨rfl, h⟩ := h
              refine ⟨rfl, ?_⟩
              exact h
            · replace h := h.2 c34
              refine And.intro sh_l109 ?_
              refine v_Parser_fail (d := d)  ?_
              refine And.intro (fun c36 => ?_) (fun c36 => ?_)
              · replace h := h.1 c36
                refine ⟨rfl, ?_⟩
                obtain ⟨hi37, ehi37⟩ : ∃ m : pm_B, m = pm_u hi32 109 2 4 := ⟨_, rfl⟩
                replace h := h hi37 ehi37
                rw [← ehi37]
                exact h
              · replace h := h.2 c36
                intro hi38 ehi38
                replace h := h hi38 ehi38
                refine ⟨rfl, ?_⟩
                exact h
    · replace h := h.2 c6
      refine And.intro (fun c39 => ?_) (fun c39 => ?_)
      · replace h := h.1 c39
        refine ⟨_, rfl, ?_⟩
        refine And.intro sh_l109 ?_
        rw [hr_109_0]
        refine And.intro sh_l109 ?_
        refine And.intro sh_l107 ?_
        refine v_Tape_byteAt (d := d)  ?_
        refine And.intro (fun c40 => ?_) (fun c40 => ?_)
        · replace h := h.1 c40
          refine ⟨_, rfl, ?_⟩
          refine And.intro (sh_sr (sr_lit 7 (by decide))) ?_
          refine pm_C_imp h (fun v hi41 h => ?_)
          obtain ⟨x42, rfl, h⟩ := h
          refine ⟨_, rfl, ?_⟩
          refine And.intro (fun c43 => ?_) (fun c43 => ?_)
          · replace h := h.1 c43
            refine And.intro sh_l109 ?_
            refine pm_C_imp h (fun v hi44 h => ?_)
            obtain ⟨rfl, h⟩ := h
            refine ⟨rfl, ?_⟩
            exact h
          · replace h := h.2 c43
            refine And.intro sh_l109 ?_
            refine v_Parser_fail (d := d)  ?_
            refine And.intro (fun c45 => ?_) (fun c45 => ?_)
            · replace h := h.1 c45
              refine ⟨rfl, ?_⟩
              obtain ⟨hi46, ehi46⟩ : ∃ m : pm_B, m = pm_u hi41 109 2 4 := ⟨_, rfl⟩
              replace h := h hi46 ehi46
              rw [← ehi46]
              exact h
            · replace h := h.2 c45
              intro hi47 ehi47
              replace h := h hi47 ehi47
              refine ⟨rfl, ?_⟩
              exact h
        · replace h := h.2 c40
          refine And.intro (fun c48 => ?_) (fun c48 => ?_)
          · replace h := h.1 c48
            refine ⟨_, rfl, ?_⟩
            refine And.intro (sh_sr (sr_lit 7 (by decide))) ?_
            refine pm_C_imp h (fun v hi49 h => ?_)
            obtain ⟨x50, rfl, h⟩ := h
            refine ⟨_, rfl, ?_⟩
            refine And.intro (fun c51 => ?_) (fun c51 => ?_)
            · replace h := h.1 c51
              refine And.intro sh_l109 ?_
              refine pm_C_imp h (fun v hi52 h => ?_)
              obtain ⟨rfl, h⟩ := h
              refine ⟨rfl, ?_⟩
              exact h
            · replace h := h.2 c51
              refine And.intro sh_l109 ?_
              refine v_Parser_fail (d := d)  ?_
              refine And.intro (fun c53 => ?_) (fun c53 => ?_)
              · replace h := h.1 c53
                refine ⟨rfl, ?_⟩
                obtain ⟨hi54, ehi54⟩ : ∃ m : pm_B, m = pm_u hi49 109 2 4 := ⟨_, rfl⟩
                replace h := h hi54 ehi54
                rw [← ehi54]
                exact h
              · replace h := h.2 c53
                intro hi55 ehi55
                replace h := h hi55 ehi55
                refine ⟨rfl, ?_⟩
                exact h
          · replace h := h.2 c48
            refine And.intro (fun c56 => ?_) (fun c56 => ?_)
            · replace h := h.1 c56
              refine ⟨_, rfl, ?_⟩
              refine And.intro (sh_sr (sr_lit 7 (by decide))) ?_
              refine pm_C_imp h (fun v hi57 h => ?_)
              obtain ⟨x58, rfl, h⟩ := h
              refine ⟨_, rfl, ?_⟩
              refine And.intro (fun c59 => ?_) (fun c59 => ?_)
              · replace h := h.1 c59
                refine And.intro sh_l109 ?_
                refine pm_C_imp h (fun v hi60 h => ?_)
                obtain ⟨rfl, h⟩ := h
                refine ⟨rfl, ?_⟩
                exact h
              · replace h := h.2 c59
                refine And.intro sh_l109 ?_
                refine v_Parser_fail (d := d)  ?_
                refine And.intro (fun c61 => ?_) (fun c61 => ?_)
                · replace h := h.1 c61
                  refine ⟨rfl, ?_⟩
                  obtain ⟨hi62, ehi62⟩ : ∃ m : pm_B, m = pm_u hi57 109 2 4 := ⟨_, rfl⟩
                  replace h := h hi62 ehi62
                  rw [← ehi62]
                  exact h
                · replace h := h.2 c61
                  intro hi63 ehi63
                  replace h := h hi63 ehi63
                  refine ⟨rfl, ?_⟩
                  exact h
            · replace h := h.2 c56
              obtain ⟨k64, hkk64, hek64, h⟩ := h
              refine ⟨k64, hkk64, hek64, ?_⟩
              refine ⟨_, rfl, ?_⟩
              refine And.intro (sh_sr (sr_lit 7 (by decide))) ?_
              refine pm_C_imp h (fun v hi65 h => ?_)
              obtain ⟨x66, rfl, h⟩ := h
              refine ⟨_, rfl, ?_⟩
              refine And.intro (fun c67 => ?_) (fun c67 => ?_)
              · replace h := h.1 c67
                refine And.intro sh_l109 ?_
                refine pm_C_imp h (fun v hi68 h => ?_)
                obtain ⟨rfl, h⟩ := h
                refine ⟨rfl, ?_⟩
                exact h
              · replace h := h.2 c67
                refine And.intro sh_l109 ?_
                refine v_Parser_fail (d := d)  ?_
                refine And.intro (fun c69 => ?_) (fun c69 => ?_)
                · replace h := h.1 c69
                  refine ⟨rfl, ?_⟩
                  obtain ⟨hi70, ehi70⟩ : ∃ m : pm_B, m = pm_u hi65 109 2 4 := ⟨_, rfl⟩
                  replace h := h hi70 ehi70
                  rw [← ehi70]
                  exact h
                · replace h := h.2 c69
                  intro hi71 ehi71
                  replace h := h hi71 ehi71
                  refine ⟨rfl, ?_⟩
                  exact h
      · replace h := h.2 c39
        refine ⟨_, rfl, ?_⟩
        refine And.intro sh_l109 ?_
        rw [hr_109_0]
        refine And.intro sh_l109 ?_
        refine And.intro sh_l107 ?_
        refine v_Tape_byteAt (d := d)  ?_
        refine And.intro (fun c72 => ?_) (fun c72 => ?_)
        · replace h := h.1 c72
          refine ⟨_, rfl, ?_⟩
          refine And.intro (sh_sr (sr_lit 8 (by decide))) ?_
          refine pm_C_imp h (fun v hi73 h => ?_)
          obtain ⟨x74, rfl, h⟩ := h
          refine ⟨_, rfl, ?_⟩
          refine And.intro (fun c75 => ?_) (fun c75 => ?_)
          · replace h := h.1 c75
            refine And.intro sh_l109 ?_
            refine pm_C_imp h (fun v hi76 h => ?_)
            obtain ⟨rfl, h⟩ := h
            refine ⟨rfl, ?_⟩
            exact h
          · replace h := h.2 c75
            refine And.intro sh_l109 ?_
            refine v_Parser_fail (d := d)  ?_
            refine And.intro (fun c77 => ?_) (fun c77 => ?_)
            · replace h := h.1 c77
              refine ⟨rfl, ?_⟩
              obtain ⟨hi78, ehi78⟩ : ∃ m : pm_B, m = pm_u hi73 109 2 4 := ⟨_, rfl⟩
              replace h := h hi78 ehi78
              rw [← ehi78]
              exact h
            · replace h := h.2 c77
              intro hi79 ehi79
              replace h := h hi79 ehi79
              refine ⟨rfl, ?_⟩
              exact h
        · replace h := h.2 c72
          refine And.intro (fun c80 => ?_) (fun c80 => ?_)
          · replace h := h.1 c80
            refine ⟨_, rfl, ?_⟩
            refine And.intro (sh_sr (sr_lit 8 (by decide))) ?_
            refine pm_C_imp h (fun v hi81 h => ?_)
            obtain ⟨x82, rfl, h⟩ := h
            refine ⟨_, rfl, ?_⟩
            refine And.intro (fun c83 => ?_) (fun c83 => ?_)
            · replace h := h.1 c83
              refine And.intro sh_l109 ?_
              refine pm_C_imp h (fun v hi84 h => ?_)
              obtain ⟨rfl, h⟩ := h
              refine ⟨rfl, ?_⟩
              exact h
            · replace h := h.2 c83
              refine And.intro sh_l109 ?_
              refine v_Parser_fail (d := d)  ?_
              refine And.intro (fun c85 => ?_) (fun c85 => ?_)
              · replace h := h.1 c85
                refine ⟨rfl, ?_⟩
                obtain ⟨hi86, ehi86⟩ : ∃ m : pm_B, m = pm_u hi81 109 2 4 := ⟨_, rfl⟩
                replace h := h hi86 ehi86
                rw [← ehi86]
                exact h
              · replace h := h.2 c85
                intro hi87 ehi87
                replace h := h hi87 ehi87
                refine ⟨rfl, ?_⟩
                exact h
          · replace h := h.2 c80
            refine And.intro (fun c88 => ?_) (fun c88 => ?_)
            · replace h := h.1 c88
              refine ⟨_, rfl, ?_⟩
              refine And.intro (sh_sr (sr_lit 8 (by decide))) ?_
              refine pm_C_imp h (fun v hi89 h => ?_)
              obtain ⟨x90, rfl, h⟩ := h
              refine ⟨_, rfl, ?_⟩
              refine And.intro (fun c91 => ?_) (fun c91 => ?_)
              · replace h := h.1 c91
                refine And.intro sh_l109 ?_
                refine pm_C_imp h (fun v hi92 h => ?_)
                obtain ⟨rfl, h⟩ := h
                refine ⟨rfl, ?_⟩
                exact h
              · replace h := h.2 c91
                refine And.intro sh_l109 ?_
                refine v_Parser_fail (d := d)  ?_
                refine And.intro (fun c93 => ?_) (fun c93 => ?_)
                · replace h := h.1 c93
                  refine ⟨rfl, ?_⟩
                  obtain ⟨hi94, ehi94⟩ : ∃ m : pm_B, m = pm_u hi89 109 2 4 := ⟨_, rfl⟩
                  replace h := h hi94 ehi94
                  rw [← ehi94]
                  exact h
                · replace h := h.2 c93
                  intro hi95 ehi95
                  replace h := h hi95 ehi95
                  refine ⟨rfl, ?_⟩
                  exact h
            · replace h := h.2 c88
              obtain ⟨k96, hkk96, hek96, h⟩ := h
              refine ⟨k96, hkk96, hek96, ?_⟩
              refine ⟨_, rfl, ?_⟩
              refine And.intro (sh_sr (sr_lit 8 (by decide))) ?_
              refine pm_C_imp h (fun v hi97 h => ?_)
              obtain ⟨x98, rfl, h⟩ := h
              refine ⟨_, rfl, ?_⟩
              refine And.intro (fun c99 => ?_) (fun c99 => ?_)
              · replace h := h.1 c99
                refine And.intro sh_l109 ?_
                refine pm_C_imp h (fun v hi100 h => ?_)
                obtain ⟨rfl, h⟩ := h
                refine ⟨rfl, ?_⟩
                exact h
              · replace h := h.2 c99
                refine And.intro sh_l109 ?_
                refine v_Parser_fail (d := d)  ?_
                refine And.intro (fun c101 => ?_) (fun c101 => ?_)
                · replace h := h.1 c101
                  refine ⟨rfl, ?_⟩
                  obtain ⟨hi102, ehi102⟩ : ∃ m : pm_B, m = pm_u hi97 109 2 4 := ⟨_, rfl⟩
                  replace h := h hi102 ehi102
                  rw [← ehi102]
                  exact h
                · replace h := h.2 c101
                  intro hi103 ehi103
                  replace h := h hi103 ehi103
                  refine ⟨rfl, ?_⟩
                  exact h
theorem v_Parser_putLeaf {L d : Nat} {p1 : Int32} {hi : pm_B} {Q : pm_Q} (h : ∃ t1 : Nat, pm_tx t1 ∧ (hi 109 1) = nI t1 ∧ ((((hi t1 2) < 0) → ∃ t3 : Nat, pm_tx t3 ∧ (hi 109 1) = nI t3 ∧ (pm_C pm_g (SH L) HR (d + 1) m_Parser_step [.inr 109] (pm_u hi t3 1 ((hi t3 1) + 1)) (fun v hi4 => v = none ∧ (Q none hi4)))) ∧ ((¬ ((hi t1 2) < 0)) → (((hi t1 2) < 96) → ∃ k6 : Nat, k6 < 96 ∧ (hi t1 2) = nI k6 ∧ (∀ hi7 : pm_B, hi7 = pm_u (pm_u hi (t1 + 1) k6 p1) t1 2 (((pm_u hi (t1 + 1) k6 p1) t1 2) + 1) → (∃ t8 : Nat, pm_tx t8 ∧ (hi7 109 1) = nI t8 ∧ (pm_C pm_g (SH L) HR (d + 1) m_Parser_step [.inr 109] (pm_u hi7 t8 1 ((hi7 t8 1) + 1)) (fun v hi9 => v = none ∧ (Q none hi9)))))) ∧ ((¬ ((hi t1 2) < 96)) → ∃ t10 : Nat, pm_tx t10 ∧ (hi 109 1) = nI t10 ∧ (pm_C pm_g (SH L) HR (d + 1) m_Parser_step [.inr 109] (pm_u hi t10 1 ((hi t10 1) + 1)) (fun v hi11 => v = none ∧ (Q none hi11))))))) : pm_C pm_g (SH L) HR (d + 2) m_Parser_putLeaf [.inr 109, .inl p1] hi Q := by
  refine pm_C_of (maxL := 2) (t := pm_t44) rfl (Nat.le_of_ble_eq_true rfl) ?_
  refine pm_W_of 24 [] rfl ?_
  refine And.intro sh_l109 ?_
  obtain ⟨t1, hht1, het1, h⟩ := h
  rw [pm_tn_tx het1 hht1]
  refine And.intro (sh_tx hht1) ?_
  refine v_Text_put (d := d) hht1 ?_
  refine And.intro (fun c2 => ?_) (fun c2 => ?_)
  · replace h := h.1 c2
    refine ⟨rfl, ?_⟩
    refine And.intro sh_l109 ?_
    obtain ⟨t3, hht3, het3, h⟩ := h
    rw [pm_tn_tx het3 hht3]
    refine And.intro (sh_tx hht3) ?_
    refine And.intro ⟨(sh_tx hht3), trivial⟩ ?_
    refine And.intro sh_l109 ?_
    refine pm_C_imp h (fun v hi4 h => ?_)
    obtain ⟨rfl, h⟩ := h
    refine ⟨rfl, ?_⟩
    exact h
  · replace h := h.2 c2
    refine And.intro (fun c5 => ?_) (fun c5 => ?_)
    · replace h := h.1 c5
      obtain ⟨k6, hkk6, hek6, h⟩ := h
      refine ⟨k6, hkk6, hek6, ?_⟩
      intro hi7 ehi7
      replace h := h hi7 ehi7
      refine ⟨rfl, ?_⟩
      refine And.intro sh_l109 ?_
      obtain ⟨t8, hht8, het8, h⟩ := h
      rw [pm_tn_tx het8 hht8]
      refine And.intro (sh_tx hht8) ?_
      refine And.intro ⟨(sh_tx hht8), trivial⟩ ?_
      refine And.intro sh_l109 ?_
      refine pm_C_imp h (fun v hi9 h => ?_)
      obtain ⟨rfl, h⟩ := h
      refine ⟨rfl, ?_⟩
      exact h
    · replace h := h.2 c5
      refine ⟨rfl, ?_⟩
      refine And.intro sh_l109 ?_
      obtain ⟨t10, hht10, het10, h⟩ := h
      rw [pm_tn_tx het10 hht10]
      refine And.intro (sh_tx hht10) ?_
      refine And.intro ⟨(sh_tx hht10), trivial⟩ ?_
      refine And.intro sh_l109 ?_
      refine pm_C_imp h (fun v hi11 h => ?_)
      obtain ⟨rfl, h⟩ := h
      refine ⟨rfl, ?_⟩
      exact h
theorem v_Parser_readNot {L d : Nat}  {hi : pm_B} {Q : pm_Q} (h : (((hi 109 6) < 8) → pm_C pm_g (SH L) HR (d + 1) m_Parser_step [.inr 109] (pm_u hi 109 6 ((hi 109 6) + 1)) (fun v hi2 => v = none ∧ (pm_C pm_g (SH L) HR (d + 1) m_Parser_readPiece [.inr 109] hi2 (fun v hi3 => v = none ∧ (∃ t4 : Nat, pm_tx t4 ∧ (hi3 109 1) = nI t4 ∧ ((((hi3 t4 2) < 0) → Q none (pm_u hi3 109 6 ((hi3 109 6) - 1))) ∧ ((¬ ((hi3 t4 2) < 0)) → (((hi3 t4 2) < 96) → ∃ k7 : Nat, k7 < 96 ∧ (hi3 t4 2) = nI k7 ∧ (∀ hi8 : pm_B, hi8 = pm_u (pm_u hi3 (t4 + 1) k7 (-33)) t4 2 (((pm_u hi3 (t4 + 1) k7 (-33)) t4 2) + 1) → (Q none (pm_u hi8 109 6 ((hi8 109 6) - 1))))) ∧ ((¬ ((hi3 t4 2) < 96)) → Q none (pm_u hi3 109 6 ((hi3 109 6) - 1)))))))))) ∧ ((¬ ((hi 109 6) < 8)) → ((¬ (hi 109 7) = (-1000000005)) → ∀ hi10 : pm_B, hi10 = pm_u hi 109 2 4 → (Q none hi10)) ∧ ((¬ (¬ (hi 109 7) = (-1000000005))) → ∀ hi11 : pm_B, hi11 = pm_u (pm_u hi 109 7 (hi 109 3)) 109 2 4 → (Q none hi11)))) : pm_C pm_g (SH L) HR (d + 2) m_Parser_readNot [.inr 109] hi Q := by
  refine pm_C_of (maxL := 1) (t := pm_t45) rfl (Nat.le_of_ble_eq_true rfl) ?_
  refine pm_W_of 27 [] rfl ?_
  refine And.intro sh_l109 ?_
  refine And.intro (fun c1 => ?_) (fun c1 => ?_)
  · replace h := h.1 c1
    refine And.intro sh_l109 ?_
    refine And.intro ⟨sh_l109, trivial⟩ ?_
    refine And.intro sh_l109 ?_
    refine pm_C_imp h (fun v hi2 h => ?_)
    obtain ⟨rfl, h⟩ := h
    refine ⟨rfl, ?_⟩
    refine And.intro sh_l109 ?_
    refine pm_C_imp h (fun v hi3 h => ?_)
    obtain ⟨rfl, h⟩ := h
    refine ⟨rfl, ?_⟩
    refine And.intro sh_l109 ?_
    obtain ⟨t4, hht4, het4, h⟩ := h
    rw [pm_tn_tx het4 hht4]
    refine And.intro (sh_tx hht4) ?_
    refine v_Text_put (d := d) hht4 ?_
    refine And.intro (fun c5 => ?_) (fun c5 => ?_)
    · replace h := h.1 c5
      refine ⟨rfl, ?_⟩
      refine And.intro sh_l109 ?_
      refine And.intro ⟨sh_l109, trivial⟩ ?_
      exact h
    · replace h := h.2 c5
      refine And.intro (fun c6 => ?_) (fun c6 => ?_)
      · replace h := h.1 c6
        obtain ⟨k7, hkk7, hek7, h⟩ := h
        refine ⟨k7, hkk7, hek7, ?_⟩
        intro hi8 ehi8
        replace h := h hi8 ehi8
        refine ⟨rfl, ?_⟩
        refine And.intro sh_l109 ?_
        refine And.intro ⟨sh_l109, trivial⟩ ?_
        exact h
      · replace h := h.2 c6
        refine ⟨rfl, ?_⟩
        refine And.intro sh_l109 ?_
        refine And.intro ⟨sh_l109, trivial⟩ ?_
        exact h
  · replace h := h.2 c1
    refine And.intro sh_l109 ?_
    refine v_Parser_fail (d := d)  ?_
    refine And.intro (fun c9 => ?_) (fun c9 => ?_)
    · replace h := h.1 c9
      refine ⟨rfl, ?_⟩
      obtain ⟨hi10, ehi10⟩ : ∃ m : pm_B, m = pm_u hi 109 2 4 := ⟨_, rfl⟩
      replace h := h hi10 ehi10
      rw [← ehi10]
      exact h
    · replace h := h.2 c9
      intro hi11 ehi11
      replace h := h hi11 ehi11
      refine ⟨rfl, ?_⟩
      exact h
theorem v_Parser_readBrackets {L d : Nat}  {hi : pm_B} {Q : pm_Q} (h : (((hi 109 5) < 8) → pm_C pm_g (SH L) HR (d + 1) m_Parser_step [.inr 109] (pm_u hi 109 5 ((hi 109 5) + 1)) (fun v hi2 => v = none ∧ (pm_C pm_g (SH L) HR (d + 1) m_Parser_readOr [.inr 109] hi2 (fun v hi3 => v = none ∧ (pm_C pm_g (SH L) HR (d + 1) m_Parser_isSign [.inr 109, .inl 41] hi3 (fun v hi4 => ∃ x5 : Int32, v = some (.inl x5) ∧ (((x5 = 0) → ((¬ (hi4 109 7) = (-1000000005)) → ∀ hi8 : pm_B, hi8 = pm_u hi4 109 2 4 → (Q none (pm_u hi8 109 5 ((hi8 109 5) - 1)))) ∧ ((¬ (¬ (hi4 109 7) = (-1000000005))) → ∀ hi9 : pm_B, hi9 = pm_u (pm_u hi4 109 7 (hi4 109 3)) 109 2 4 → (Q none (pm_u hi9 109 5 ((hi9 109 5) - 1))))) ∧ ((¬ (x5 = 0)) → pm_C pm_g (SH L) HR (d + 1) m_Parser_step [.inr 109] hi4 (fun v hi10 => v = none ∧ (Q none (pm_u hi10 109 5 ((hi10 109 5) - 1)))))))))))) ∧ ((¬ ((hi 109 5) < 8)) → ((¬ (hi 109 7) = (-1000000005)) → ∀ hi12 : pm_B, hi12 = pm_u hi 109 2 4 → (Q none hi12)) ∧ ((¬ (¬ (hi 109 7) = (-1000000005))) → ∀ hi13 : pm_B, hi13 = pm_u (pm_u hi 109 7 (hi 109 3)) 109 2 4 → (Q none hi13)))) : pm_C pm_g (SH L) HR (d + 2) m_Parser_readBrackets [.inr 109] hi Q := by
  refine pm_C_of (maxL := 1) (t := pm_t46) rfl (Nat.le_of_ble_eq_true rfl) ?_
  refine pm_W_of 30 [] rfl ?_
  refine And.intro sh_l109 ?_
  refine And.intro (fun c1 => ?_) (fun c1 => ?_)
  · replace h := h.1 c1
    refine And.intro sh_l109 ?_
    refine And.intro ⟨sh_l109, trivial⟩ ?_
    refine And.intro sh_l109 ?_
    refine pm_C_imp h (fun v hi2 h => ?_)
    obtain ⟨rfl, h⟩ := h
    refine ⟨rfl, ?_⟩
    refine And.intro sh_l109 ?_
    refine pm_C_imp h (fun v hi3 h => ?_)
    obtain ⟨rfl, h⟩ := h
    refine ⟨rfl, ?_⟩
    refine And.intro sh_l109 ?_
    refine pm_C_imp h (fun v hi4 h => ?_)
    obtain ⟨x5, rfl, h⟩ := h
    refine ⟨_, rfl, ?_⟩
    refine And.intro (fun c6 => ?_) (fun c6 => ?_)
    · replace h := h.1 c6
      refine And.intro sh_l109 ?_
      refine v_Parser_fail (d := d)  ?_
      refine And.intro (fun c7 => ?_) (fun c7 => ?_)
      · replace h := h.1 c7
        refine ⟨rfl, ?_⟩
        obtain ⟨hi8, ehi8⟩ : ∃ m : pm_B, m = pm_u hi4 109 2 4 := ⟨_, rfl⟩
        replace h := h hi8 ehi8
        rw [← ehi8]
        refine And.intro sh_l109 ?_
        refine And.intro ⟨sh_l109, trivial⟩ ?_
        exact h
      · replace h := h.2 c7
        intro hi9 ehi9
        replace h := h hi9 ehi9
        refine ⟨rfl, ?_⟩
        refine And.intro sh_l109 ?_
        refine And.intro ⟨sh_l109, trivial⟩ ?_
        exact h
    · replace h := h.2 c6
      refine And.intro sh_l109 ?_
      refine pm_C_imp h (fun v hi10 h => ?_)
      obtain ⟨rfl, h⟩ := h
      refine ⟨rfl, ?_⟩
      refine And.intro sh_l109 ?_
      refine And.intro ⟨sh_l109, trivial⟩ ?_
      exact h
  · replace h := h.2 c1
    refine And.intro sh_l109 ?_
    refine v_Parser_fail (d := d)  ?_
    refine And.intro (fun c11 => ?_) (fun c11 => ?_)
    · replace h := h.1 c11
      refine ⟨rfl, ?_⟩
      obtain ⟨hi12, ehi12⟩ : ∃ m : pm_B, m = pm_u hi 109 2 4 := ⟨_, rfl⟩
      replace h := h hi12 ehi12
      rw [← ehi12]
      exact h
    · replace h := h.2 c11
      intro hi13 ehi13
      replace h := h hi13 ehi13
      refine ⟨rfl, ?_⟩
      exact h
theorem v_M_isLetter {L d : Nat} {p1 : Int32} {hi : pm_B} {Q : pm_Q} (h : (((hi 141 11) ≤ p1) → Q (some (.inl 0)) hi) ∧ ((¬ ((hi 141 11) ≤ p1)) → ∃ k2 : Nat, k2 < 96 ∧ p1 = nI k2 ∧ ((((hi 149 k2) < 97) → Q (some (.inl 0)) hi) ∧ ((¬ ((hi 149 k2) < 97)) → ∃ k4 : Nat, k4 < 96 ∧ p1 = nI k4 ∧ (((122 < (hi 149 k4)) → Q (some (.inl 0)) hi) ∧ ((¬ (122 < (hi 149 k4))) → Q (some (.inl 1)) hi)))))) : pm_C pm_g (SH L) HR (d + 1) m_M_isLetter [.inr 141, .inl p1] hi Q := by
  refine pm_C_of (maxL := 2) (t := pm_t198) rfl (Nat.le_of_ble_eq_true rfl) ?_
  refine pm_W_of 21 [] rfl ?_
  refine And.intro sh_l141 ?_
  refine And.intro (fun c1 => ?_) (fun c1 => ?_)
  · replace h := h.1 c1
    refine And.intro (Or.inl rfl) ?_
    exact h
  · replace h := h.2 c1
    refine And.intro sh_l141 ?_
    rw [hr_141_10]
    obtain ⟨k2, hkk2, hek2, h⟩ := h
    refine And.intro (pm_ao_of (t := 0) sh_l149 hkk2 hek2 (by decide)) ?_
    rw [pm_tn hek2 hkk2 (by decide)]
    refine And.intro (fun c3 => ?_) (fun c3 => ?_)
    · replace h := h.1 c3
      refine And.intro (Or.inl rfl) ?_
      exact h
    · replace h := h.2 c3
      refine And.intro sh_l141 ?_
      rw [hr_141_10]
      obtain ⟨k4, hkk4, hek4, h⟩ := h
      refine And.intro (pm_ao_of (t := 0) sh_l149 hkk4 hek4 (by decide)) ?_
      rw [pm_tn hek4 hkk4 (by decide)]
      refine And.intro (fun c5 => ?_) (fun c5 => ?_)
      · replace h := h.1 c5
        refine And.intro (Or.inl rfl) ?_
        exact h
      · replace h := h.2 c5
        refine And.intro (Or.inr rfl) ?_
        exact h
theorem v_M_isFigure {L d : Nat} {p1 : Int32} {hi : pm_B} {Q : pm_Q} (h : (((hi 141 11) ≤ p1) → Q (some (.inl 0)) hi) ∧ ((¬ ((hi 141 11) ≤ p1)) → ∃ k2 : Nat, k2 < 96 ∧ p1 = nI k2 ∧ ((((hi 149 k2) < 48) → Q (some (.inl 0)) hi) ∧ ((¬ ((hi 149 k2) < 48)) → ∃ k4 : Nat, k4 < 96 ∧ p1 = nI k4 ∧ (((57 < (hi 149 k4)) → Q (some (.inl 0)) hi) ∧ ((¬ (57 < (hi 149 k4))) → Q (some (.inl 1)) hi)))))) : pm_C pm_g (SH L) HR (d + 1) m_M_isFigure [.inr 141, .inl p1] hi Q := by
  refine pm_C_of (maxL := 2) (t := pm_t199) rfl (Nat.le_of_ble_eq_true rfl) ?_
  refine pm_W_of 21 [] rfl ?_
  refine And.intro sh_l141 ?_
  refine And.intro (fun c1 => ?_) (fun c1 => ?_)
  · replace h := h.1 c1
    refine And.intro (Or.inl rfl) ?_
    exact h
  · replace h := h.2 c1
    refine And.intro sh_l141 ?_
    rw [hr_141_10]
    obtain ⟨k2, hkk2, hek2, h⟩ := h
    refine And.intro (pm_ao_of (t := 0) sh_l149 hkk2 hek2 (by decide)) ?_
    rw [pm_tn hek2 hkk2 (by decide)]
    refine And.intro (fun c3 => ?_) (fun c3 => ?_)
    · replace h := h.1 c3
      refine And.intro (Or.inl rfl) ?_
      exact h
    · replace h := h.2 c3
      refine And.intro sh_l141 ?_
      rw [hr_141_10]
      obtain ⟨k4, hkk4, hek4, h⟩ := h
      refine And.intro (pm_ao_of (t := 0) sh_l149 hkk4 hek4 (by decide)) ?_
      rw [pm_tn hek4 hkk4 (by decide)]
      refine And.intro (fun c5 => ?_) (fun c5 => ?_)
      · replace h := h.1 c5
        refine And.intro (Or.inl rfl) ?_
        exact h
      · replace h := h.2 c5
        refine And.intro (Or.inr rfl) ?_
        exact h
theorem v_M_go {L d : Nat}  {hi : pm_B} {Q : pm_Q} (h : (((hi 141 11) ≤ (hi 141 12)) → ((¬ ((pm_u hi 141 13 (hi 141 12)) 141 13) = ((pm_u hi 141 13 (hi 141 12)) 141 16)) → ((¬ ((pm_u hi 141 13 (hi 141 12)) 141 13) = ((pm_u hi 141 13 (hi 141 12)) 141 11)) → pm_C pm_g (SH L) HR (d) m_M_isLetter [.inr 141, .inl ((pm_u hi 141 13 (hi 141 12)) 141 13)] (pm_u hi 141 13 (hi 141 12)) (fun v hi4 => ∃ x5 : Int32, v = some (.inl x5) ∧ (((x5 = 0) → pm_C pm_g (SH L) HR (d) m_M_isFigure [.inr 141, .inl (hi4 141 13)] hi4 (fun v hi7 => ∃ x8 : Int32, v = some (.inl x8) ∧ (((x8 = 0) → ∃ k10 : Nat, k10 < 96 ∧ ((pm_u hi7 141 14 3) 141 13) = nI k10 ∧ (∀ hi11 : pm_B, hi11 = pm_u (pm_u hi7 141 14 3) 141 15 ((pm_u hi7 141 14 3) 149 k10) → (Q none (pm_u hi11 141 12 ((hi11 141 12) + 1))))) ∧ ((¬ (x8 = 0)) → pm_W pm_g (SH L) HR (d) pm_t200 170 [some (.inr 141), some (.inl 0)] [] (pm_u hi7 141 15 0) Q)))) ∧ ((¬ (x5 = 0)) → pm_W pm_g (SH L) HR (d) pm_t200 93 [some (.inr 141), some (.inl 0)] [] hi4 Q)))) ∧ ((¬ (¬ ((pm_u hi 141 13 (hi 141 12)) 141 13) = ((pm_u hi 141 13 (hi 141 12)) 141 11))) → ∀ hi12 : pm_B, hi12 = pm_u (pm_u hi 141 13 (hi 141 12)) 141 14 0 → (Q none hi12))) ∧ ((¬ (¬ ((pm_u hi 141 13 (hi 141 12)) 141 13) = ((pm_u hi 141 13 (hi 141 12)) 141 16))) → ((¬ ((pm_u hi 141 13 (hi 141 12)) 141 13) = ((pm_u hi 141 13 (hi 141 12)) 141 11)) → pm_C pm_g (SH L) HR (d) m_M_isLetter [.inr 141, .inl ((pm_u hi 141 13 (hi 141 12)) 141 13)] (pm_u hi 141 13 (hi 141 12)) (fun v hi14 => ∃ x15 : Int32, v = some (.inl x15) ∧ (((x15 = 0) → pm_C pm_g (SH L) HR (d) m_M_isFigure [.inr 141, .inl (hi14 141 13)] hi14 (fun v hi17 => ∃ x18 : Int32, v = some (.inl x18) ∧ (((x18 = 0) → ∃ k20 : Nat, k20 < 96 ∧ ((pm_u hi17 141 14 3) 141 13) = nI k20 ∧ (∀ hi21 : pm_B, hi21 = pm_u (pm_u hi17 141 14 3) 141 15 ((pm_u hi17 141 14 3) 149 k20) → (Q none (pm_u hi21 141 12 ((hi21 141 12) + 1))))) ∧ ((¬ (x18 = 0)) → pm_W pm_g (SH L) HR (d) pm_t200 170 [some (.inr 141), some (.inl 1)] [] (pm_u hi17 141 15 0) Q)))) ∧ ((¬ (x15 = 0)) → pm_W pm_g (SH L) HR (d) pm_t200 93 [some (.inr 141), some (.inl 1)] [] hi14 Q)))) ∧ ((¬ (¬ ((pm_u hi 141 13 (hi 141 12)) 141 13) = ((pm_u hi 141 13 (hi 141 12)) 141 11))) → ∀ hi22 : pm_B, hi22 = pm_u (pm_u hi 141 13 (hi 141 12)) 141 14 0 → (Q none hi22)))) ∧ ((¬ ((hi 141 11) ≤ (hi 141 12))) → ∃ k23 : Nat, k23 < 96 ∧ (hi 141 12) = nI k23 ∧ (((¬ (hi 149 k23) = 32) → ((¬ ((pm_u hi 141 13 (hi 141 12)) 141 13) = ((pm_u hi 141 13 (hi 141 12)) 141 16)) → ((¬ ((pm_u hi 141 13 (hi 141 12)) 141 13) = ((pm_u hi 141 13 (hi 141 12)) 141 11)) → pm_C pm_g (SH L) HR (d) m_M_isLetter [.inr 141, .inl ((pm_u hi 141 13 (hi 141 12)) 141 13)] (pm_u hi 141 13 (hi 141 12)) (fun v hi27 => ∃ x28 : Int32, v = some (.inl x28) ∧ (((x28 = 0) → pm_C pm_g (SH L) HR (d) m_M_isFigure [.inr 141, .inl (hi27 141 13)] hi27 (fun v hi30 => ∃ x31 : Int32, v = some (.inl x31) ∧ (((x31 = 0) → ∃ k33 : Nat, k33 < 96 ∧ ((pm_u hi30 141 14 3) 141 13) = nI k33 ∧ (∀ hi34 : pm_B, hi34 = pm_u (pm_u hi30 141 14 3) 141 15 ((pm_u hi30 141 14 3) 149 k33) → (Q none (pm_u hi34 141 12 ((hi34 141 12) + 1))))) ∧ ((¬ (x31 = 0)) → pm_W pm_g (SH L) HR (d) pm_t200 170 [some (.inr 141), some (.inl 0)] [] (pm_u hi30 141 15 0) Q)))) ∧ ((¬ (x28 = 0)) → pm_W pm_g (SH L) HR (d) pm_t200 93 [some (.inr 141), some (.inl 0)] [] hi27 Q)))) ∧ ((¬ (¬ ((pm_u hi 141 13 (hi 141 12)) 141 13) = ((pm_u hi 141 13 (hi 141 12)) 141 11))) → ∀ hi35 : pm_B, hi35 = pm_u (pm_u hi 141 13 (hi 141 12)) 141 14 0 → (Q none hi35))) ∧ ((¬ (¬ ((pm_u hi 141 13 (hi 141 12)) 141 13) = ((pm_u hi 141 13 (hi 141 12)) 141 16))) → ((¬ ((pm_u hi 141 13 (hi 141 12)) 141 13) = ((pm_u hi 141 13 (hi 141 12)) 141 11)) → pm_C pm_g (SH L) HR (d) m_M_isLetter [.inr 141, .inl ((pm_u hi 141 13 (hi 141 12)) 141 13)] (pm_u hi 141 13 (hi 141 12)) (fun v hi37 => ∃ x38 : Int32, v = some (.inl x38) ∧ (((x38 = 0) → pm_C pm_g (SH L) HR (d) m_M_isFigure [.inr 141, .inl (hi37 141 13)] hi37 (fun v hi40 => ∃ x41 : Int32, v = some (.inl x41) ∧ (((x41 = 0) → ∃ k43 : Nat, k43 < 96 ∧ ((pm_u hi40 141 14 3) 141 13) = nI k43 ∧ (∀ hi44 : pm_B, hi44 = pm_u (pm_u hi40 141 14 3) 141 15 ((pm_u hi40 141 14 3) 149 k43) → (Q none (pm_u hi44 141 12 ((hi44 141 12) + 1))))) ∧ ((¬ (x41 = 0)) → pm_W pm_g (SH L) HR (d) pm_t200 170 [some (.inr 141), some (.inl 1)] [] (pm_u hi40 141 15 0) Q)))) ∧ ((¬ (x38 = 0)) → pm_W pm_g (SH L) HR (d) pm_t200 93 [some (.inr 141), some (.inl 1)] [] hi37 Q)))) ∧ ((¬ (¬ ((pm_u hi 141 13 (hi 141 12)) 141 13) = ((pm_u hi 141 13 (hi 141 12)) 141 11))) → ∀ hi45 : pm_B, hi45 = pm_u (pm_u hi 141 13 (hi 141 12)) 141 14 0 → (Q none hi45)))) ∧ ((¬ (¬ (hi 149 k23) = 32)) → pm_W pm_g (SH L) HR (d) pm_t200 0 [some (.inr 141), none] [] (pm_u hi 141 12 ((hi 141 12) + 1)) Q)))) : pm_C pm_g (SH L) HR (d + 1) m_M_go [.inr 141] hi Q := by
  refine pm_C_of (maxL := 2) (t := pm_t200) rfl (Nat.le_of_ble_eq_true rfl) ?_
  refine pm_W_of 58 [0, 93, 170] rfl ?_
  refine And.intro sh_l141 ?_
  refine And.intro sh_l141 ?_
  refine And.intro (fun c1 => ?_) (fun c1 => ?_)
  · replace h := h.1 c1
    refine And.intro sh_l141 ?_
    refine And.intro ⟨sh_l141, trivial⟩ ?_
    refine And.intro sh_l141 ?_
    refine And.intro sh_l141 ?_
    refine And.intro (fun c2 => ?_) (fun c2 => ?_)
    · replace h := h.1 c2
      refine And.intro sh_l141 ?_
      refine And.intro sh_l141 ?_
      refine And.intro (fun c3 => ?_) (fun c3 => ?_)
      · replace h := h.1 c3
        refine And.intro sh_l141 ?_
        refine And.intro sh_l141 ?_
        refine pm_C_imp h (fun v hi4 h => ?_)
        obtain ⟨x5, rfl, h⟩ := h
        refine ⟨_, rfl, ?_⟩
        refine And.intro (fun c6 => ?_) (fun c6 => ?_)
        · replace h := h.1 c6
          refine And.intro sh_l141 ?_
          refine And.intro sh_l141 ?_
          refine pm_C_imp h (fun v hi7 h => ?_)
          obtain ⟨x8, rfl, h⟩ := h
          refine ⟨_, rfl, ?_⟩
          refine And.intro (fun c9 => ?_) (fun c9 => ?_)
          · replace h := h.1 c9
            refine And.intro ⟨sh_l141, trivial⟩ ?_
            refine And.intro sh_l141 ?_
            rw [hr_141_10]
            refine And.intro sh_l141 ?_
            obtain ⟨k10, hkk10, hek10, h⟩ := h
            refine And.intro (pm_ao_of (t := 0) sh_l149 hkk10 hek10 (by decide)) ?_
            rw [pm_tn hek10 hkk10 (by decide)]
            refine And.intro ⟨sh_l141, trivial⟩ ?_
            obtain ⟨hi11, ehi11⟩ : ∃ m : pm_B, m = pm_u (pm_u hi7 141 14 3) 141 15 ((pm_u hi7 141 14 3) 149 k10) := ⟨_, rfl⟩
            replace h := h hi11 ehi11
            rw [← ehi11]
            refine And.intro sh_l141 ?_
            refine And.intro ⟨sh_l141, trivial⟩ ?_
            exact h
          · replace h := h.2 c9
            refine And.intro ⟨sh_l141, trivial⟩ ?_
            exact h
        · replace h := h.2 c6
          exact h
      · replace h := h.2 c3
        refine And.intro ⟨sh_l141, trivial⟩ ?_
        obtain ⟨hi12, ehi12⟩ : ∃ m : pm_B, m = pm_u (pm_u hi 141 13 (hi 141 12)) 141 14 0 := ⟨_, rfl⟩
        replace h := h hi12 ehi12
        rw [← ehi12]
        exact h
    · replace h := h.2 c2
      refine And.intro sh_l141 ?_
      refine And.intro sh_l141 ?_
      refine And.intro (fun c13 => ?_) (fun c13 => ?_)
      · replace h := h.1 c13
        refine And.intro sh_l141 ?_
        refine And.intro sh_l141 ?_
        refine pm_C_imp h (fun v hi14 h => ?_)
        obtain ⟨x15, rfl, h⟩ := h
        refine ⟨_, rfl, ?_⟩
        refine And.intro (fun c16 => ?_) (fun c16 => ?_)
        · replace h := h.1 c16
          refine And.intro sh_l141 ?_
          refine And.intro sh_l141 ?_
          refine pm_C_imp h (fun v hi17 h => ?_)
          obtain ⟨x18, rfl, h⟩ := h
          refine ⟨_, rfl, ?_⟩
          refine And.intro (fun c19 => ?_) (fun c19 => ?_)
          · replace h := h.1 c19
            refine And.intro ⟨sh_l141, trivial⟩ ?_
            refine And.intro sh_l141 ?_
            rw [hr_141_10]
            refine And.intro sh_l141 ?_
            obtain ⟨k20, hkk20, hek20, h⟩ := h
            refine And.intro (pm_ao_of (t := 0) sh_l149 hkk20 hek20 (by decide)) ?_
            rw [pm_tn hek20 hkk20 (by decide)]
            refine And.intro ⟨sh_l141, trivial⟩ ?_
            obtain ⟨hi21, ehi21⟩ : ∃ m : pm_B, m = pm_u (pm_u hi17 141 14 3) 141 15 ((pm_u hi17 141 14 3) 149 k20) := ⟨_, rfl⟩
            replace h := h hi21 ehi21
            rw [← ehi21]
            refine And.intro sh_l141 ?_
            refine And.intro ⟨sh_l141, trivial⟩ ?_
            exact h
          · replace h := h.2 c19
            refine And.intro ⟨sh_l141, trivial⟩ ?_
            exact h
        · replace h := h.2 c16
          exact h
      · replace h := h.2 c13
        refine And.intro ⟨sh_l141, trivial⟩ ?_
        obtain ⟨hi22, ehi22⟩ : ∃ m : pm_B, m = pm_u (pm_u hi 141 13 (hi 141 12)) 141 14 0 := ⟨_, rfl⟩
        replace h := h hi22 ehi22
        rw [← ehi22]
        exact h
  · replace h := h.2 c1
    refine And.intro sh_l141 ?_
    rw [hr_141_10]
    refine And.intro sh_l141 ?_
    obtain ⟨k23, hkk23, hek23, h⟩ := h
    refine And.intro (pm_ao_of (t := 0) sh_l149 hkk23 hek23 (by decide)) ?_
    rw [pm_tn hek23 hkk23 (by decide)]
    refine And.intro (fun c24 => ?_) (fun c24 => ?_)
    · replace h := h.1 c24
      refine And.intro sh_l141 ?_
      refine And.intro ⟨sh_l141, trivial⟩ ?_
      refine And.intro sh_l141 ?_
      refine And.intro sh_l141 ?_
      refine And.intro (fun c25 => ?_) (fun c25 => ?_)
      · replace h := h.1 c25
        refine And.intro sh_l141 ?_
        refine And.intro sh_l141 ?_
        refine And.intro (fun c26 => ?_) (fun c26 => ?_)
        · replace h := h.1 c26
          refine And.intro sh_l141 ?_
          refine And.intro sh_l141 ?_
          refine pm_C_imp h (fun v hi27 h => ?_)
          obtain ⟨x28, rfl, h⟩ := h
          refine ⟨_, rfl, ?_⟩
          refine And.intro (fun c29 => ?_) (fun c29 => ?_)
          · replace h := h.1 c29
            refine And.intro sh_l141 ?_
            refine And.intro sh_l141 ?_
            refine pm_C_imp h (fun v hi30 h => ?_)
            obtain ⟨x31, rfl, h⟩ := h
            refine ⟨_, rfl, ?_⟩
            refine And.intro (fun c32 => ?_) (fun c32 => ?_)
            · replace h := h.1 c32
              refine And.intro ⟨sh_l141, trivial⟩ ?_
              refine And.intro sh_l141 ?_
              rw [hr_141_10]
              refine And.intro sh_l141 ?_
              obtain ⟨k33, hkk33, hek33, h⟩ := h
              refine And.intro (pm_ao_of (t := 0) sh_l149 hkk33 hek33 (by decide)) ?_
              rw [pm_tn hek33 hkk33 (by decide)]
              refine And.intro ⟨sh_l141, trivial⟩ ?_
              obtain ⟨hi34, ehi34⟩ : ∃ m : pm_B, m = pm_u (pm_u hi30 141 14 3) 141 15 ((pm_u hi30 141 14 3) 149 k33) := ⟨_, rfl⟩
              replace h := h hi34 ehi34
              rw [← ehi34]
              refine And.intro sh_l141 ?_
              refine And.intro ⟨sh_l141, trivial⟩ ?_
              exact h
            · replace h := h.2 c32
              refine And.intro ⟨sh_l141, trivial⟩ ?_
              exact h
          · replace h := h.2 c29
            exact h
        · replace h := h.2 c26
          refine And.intro ⟨sh_l141, trivial⟩ ?_
          obtain ⟨hi35, ehi35⟩ : ∃ m : pm_B, m = pm_u (pm_u hi 141 13 (hi 141 12)) 141 14 0 := ⟨_, rfl⟩
          replace h := h hi35 ehi35
          rw [← ehi35]
          exact h
      · replace h := h.2 c25
        refine And.intro sh_l141 ?_
        refine And.intro sh_l141 ?_
        refine And.intro (fun c36 => ?_) (fun c36 => ?_)
        · replace h := h.1 c36
          refine And.intro sh_l141 ?_
          refine And.intro sh_l141 ?_
          refine pm_C_imp h (fun v hi37 h => ?_)
          obtain ⟨x38, rfl, h⟩ := h
          refine ⟨_, rfl, ?_⟩
          refine And.intro (fun c39 => ?_) (fun c39 => ?_)
          · replace h := h.1 c39
            refine And.intro sh_l141 ?_
            refine And.intro sh_l141 ?_
            refine pm_C_imp h (fun v hi40 h => ?_)
            obtain ⟨x41, rfl, h⟩ := h
            refine ⟨_, rfl, ?_⟩
            refine And.intro (fun c42 => ?_) (fun c42 => ?_)
            · replace h := h.1 c42
              refine And.intro ⟨sh_l141, trivial⟩ ?_
              refine And.intro sh_l141 ?_
              rw [hr_141_10]
              refine And.intro sh_l141 ?_
              obtain ⟨k43, hkk43, hek43, h⟩ := h
              refine And.intro (pm_ao_of (t := 0) sh_l149 hkk43 hek43 (by decide)) ?_
              rw [pm_tn hek43 hkk43 (by decide)]
              refine And.intro ⟨sh_l141, trivial⟩ ?_
              obtain ⟨hi44, ehi44⟩ : ∃ m : pm_B, m = pm_u (pm_u hi40 141 14 3) 141 15 ((pm_u hi40 141 14 3) 149 k43) := ⟨_, rfl⟩
              replace h := h hi44 ehi44
              rw [← ehi44]
              refine And.intro sh_l141 ?_
              refine And.intro ⟨sh_l141, trivial⟩ ?_
              exact h
            · replace h := h.2 c42
              refine And.intro ⟨sh_l141, trivial⟩ ?_
              exact h
          · replace h := h.2 c39
            exact h
        · replace h := h.2 c36
          refine And.intro ⟨sh_l141, trivial⟩ ?_
          obtain ⟨hi45, ehi45⟩ : ∃ m : pm_B, m = pm_u (pm_u hi 141 13 (hi 141 12)) 141 14 0 := ⟨_, rfl⟩
          replace h := h hi45 ehi45
          rw [← ehi45]
          exact h
    · replace h := h.2 c24
      refine And.intro sh_l141 ?_
      refine And.intro ⟨sh_l141, trivial⟩ ?_
      exact h
theorem v_M_go_0 {L d : Nat} {o1 : Option pm_V}  {hi : pm_B} {Q : pm_Q} (h : (((hi 141 11) ≤ (hi 141 12)) → ((¬ ((pm_u hi 141 13 (hi 141 12)) 141 13) = ((pm_u hi 141 13 (hi 141 12)) 141 16)) → ((¬ ((pm_u hi 141 13 (hi 141 12)) 141 13) = ((pm_u hi 141 13 (hi 141 12)) 141 11)) → pm_C pm_g (SH L) HR (d) m_M_isLetter [.inr 141, .inl ((pm_u hi 141 13 (hi 141 12)) 141 13)] (pm_u hi 141 13 (hi 141 12)) (fun v hi4 => ∃ x5 : Int32, v = some (.inl x5) ∧ (((x5 = 0) → pm_C pm_g (SH L) HR (d) m_M_isFigure [.inr 141, .inl (hi4 141 13)] hi4 (fun v hi7 => ∃ x8 : Int32, v = some (.inl x8) ∧ (((x8 = 0) → ∃ k10 : Nat, k10 < 96 ∧ ((pm_u hi7 141 14 3) 141 13) = nI k10 ∧ (∀ hi11 : pm_B, hi11 = pm_u (pm_u hi7 141 14 3) 141 15 ((pm_u hi7 141 14 3) 149 k10) → (Q none (pm_u hi11 141 12 ((hi11 141 12) + 1))))) ∧ ((¬ (x8 = 0)) → pm_W pm_g (SH L) HR (d) pm_t200 170 [some (.inr 141), some (.inl 0)] [] (pm_u hi7 141 15 0) Q)))) ∧ ((¬ (x5 = 0)) → pm_W pm_g (SH L) HR (d) pm_t200 93 [some (.inr 141), some (.inl 0)] [] hi4 Q)))) ∧ ((¬ (¬ ((pm_u hi 141 13 (hi 141 12)) 141 13) = ((pm_u hi 141 13 (hi 141 12)) 141 11))) → ∀ hi12 : pm_B, hi12 = pm_u (pm_u hi 141 13 (hi 141 12)) 141 14 0 → (Q none hi12))) ∧ ((¬ (¬ ((pm_u hi 141 13 (hi 141 12)) 141 13) = ((pm_u hi 141 13 (hi 141 12)) 141 16))) → ((¬ ((pm_u hi 141 13 (hi 141 12)) 141 13) = ((pm_u hi 141 13 (hi 141 12)) 141 11)) → pm_C pm_g (SH L) HR (d) m_M_isLetter [.inr 141, .inl ((pm_u hi 141 13 (hi 141 12)) 141 13)] (pm_u hi 141 13 (hi 141 12)) (fun v hi14 => ∃ x15 : Int32, v = some (.inl x15) ∧ (((x15 = 0) → pm_C pm_g (SH L) HR (d) m_M_isFigure [.inr 141, .inl (hi14 141 13)] hi14 (fun v hi17 => ∃ x18 : Int32, v = some (.inl x18) ∧ (((x18 = 0) → ∃ k20 : Nat, k20 < 96 ∧ ((pm_u hi17 141 14 3) 141 13) = nI k20 ∧ (∀ hi21 : pm_B, hi21 = pm_u (pm_u hi17 141 14 3) 141 15 ((pm_u hi17 141 14 3) 149 k20) → (Q none (pm_u hi21 141 12 ((hi21 141 12) + 1))))) ∧ ((¬ (x18 = 0)) → pm_W pm_g (SH L) HR (d) pm_t200 170 [some (.inr 141), some (.inl 1)] [] (pm_u hi17 141 15 0) Q)))) ∧ ((¬ (x15 = 0)) → pm_W pm_g (SH L) HR (d) pm_t200 93 [some (.inr 141), some (.inl 1)] [] hi14 Q)))) ∧ ((¬ (¬ ((pm_u hi 141 13 (hi 141 12)) 141 13) = ((pm_u hi 141 13 (hi 141 12)) 141 11))) → ∀ hi22 : pm_B, hi22 = pm_u (pm_u hi 141 13 (hi 141 12)) 141 14 0 → (Q none hi22)))) ∧ ((¬ ((hi 141 11) ≤ (hi 141 12))) → ∃ k23 : Nat, k23 < 96 ∧ (hi 141 12) = nI k23 ∧ (((¬ (hi 149 k23) = 32) → ((¬ ((pm_u hi 141 13 (hi 141 12)) 141 13) = ((pm_u hi 141 13 (hi 141 12)) 141 16)) → ((¬ ((pm_u hi 141 13 (hi 141 12)) 141 13) = ((pm_u hi 141 13 (hi 141 12)) 141 11)) → pm_C pm_g (SH L) HR (d) m_M_isLetter [.inr 141, .inl ((pm_u hi 141 13 (hi 141 12)) 141 13)] (pm_u hi 141 13 (hi 141 12)) (fun v hi27 => ∃ x28 : Int32, v = some (.inl x28) ∧ (((x28 = 0) → pm_C pm_g (SH L) HR (d) m_M_isFigure [.inr 141, .inl (hi27 141 13)] hi27 (fun v hi30 => ∃ x31 : Int32, v = some (.inl x31) ∧ (((x31 = 0) → ∃ k33 : Nat, k33 < 96 ∧ ((pm_u hi30 141 14 3) 141 13) = nI k33 ∧ (∀ hi34 : pm_B, hi34 = pm_u (pm_u hi30 141 14 3) 141 15 ((pm_u hi30 141 14 3) 149 k33) → (Q none (pm_u hi34 141 12 ((hi34 141 12) + 1))))) ∧ ((¬ (x31 = 0)) → pm_W pm_g (SH L) HR (d) pm_t200 170 [some (.inr 141), some (.inl 0)] [] (pm_u hi30 141 15 0) Q)))) ∧ ((¬ (x28 = 0)) → pm_W pm_g (SH L) HR (d) pm_t200 93 [some (.inr 141), some (.inl 0)] [] hi27 Q)))) ∧ ((¬ (¬ ((pm_u hi 141 13 (hi 141 12)) 141 13) = ((pm_u hi 141 13 (hi 141 12)) 141 11))) → ∀ hi35 : pm_B, hi35 = pm_u (pm_u hi 141 13 (hi 141 12)) 141 14 0 → (Q none hi35))) ∧ ((¬ (¬ ((pm_u hi 141 13 (hi 141 12)) 141 13) = ((pm_u hi 141 13 (hi 141 12)) 141 16))) → ((¬ ((pm_u hi 141 13 (hi 141 12)) 141 13) = ((pm_u hi 141 13 (hi 141 12)) 141 11)) → pm_C pm_g (SH L) HR (d) m_M_isLetter [.inr 141, .inl ((pm_u hi 141 13 (hi 141 12)) 141 13)] (pm_u hi 141 13 (hi 141 12)) (fun v hi37 => ∃ x38 : Int32, v = some (.inl x38) ∧ (((x38 = 0) → pm_C pm_g (SH L) HR (d) m_M_isFigure [.inr 141, .inl (hi37 141 13)] hi37 (fun v hi40 => ∃ x41 : Int32, v = some (.inl x41) ∧ (((x41 = 0) → ∃ k43 : Nat, k43 < 96 ∧ ((pm_u hi40 141 14 3) 141 13) = nI k43 ∧ (∀ hi44 : pm_B, hi44 = pm_u (pm_u hi40 141 14 3) 141 15 ((pm_u hi40 141 14 3) 149 k43) → (Q none (pm_u hi44 141 12 ((hi44 141 12) + 1))))) ∧ ((¬ (x41 = 0)) → pm_W pm_g (SH L) HR (d) pm_t200 170 [some (.inr 141), some (.inl 1)] [] (pm_u hi40 141 15 0) Q)))) ∧ ((¬ (x38 = 0)) → pm_W pm_g (SH L) HR (d) pm_t200 93 [some (.inr 141), some (.inl 1)] [] hi37 Q)))) ∧ ((¬ (¬ ((pm_u hi 141 13 (hi 141 12)) 141 13) = ((pm_u hi 141 13 (hi 141 12)) 141 11))) → ∀ hi45 : pm_B, hi45 = pm_u (pm_u hi 141 13 (hi 141 12)) 141 14 0 → (Q none hi45)))) ∧ ((¬ (¬ (hi 149 k23) = 32)) → pm_W pm_g (SH L) HR (d) pm_t200 0 [some (.inr 141), o1] [] (pm_u hi 141 12 ((hi 141 12) + 1)) Q)))) : pm_W pm_g (SH L) HR (d) pm_t200 0 [some (.inr 141), o1] [] hi Q := by
  refine pm_W_of 58 [0, 93, 170] rfl ?_
  refine And.intro sh_l141 ?_
  refine And.intro sh_l141 ?_
  refine And.intro (fun c1 => ?_) (fun c1 => ?_)
  · replace h := h.1 c1
    refine And.intro sh_l141 ?_
    refine And.intro ⟨sh_l141, trivial⟩ ?_
    refine And.intro sh_l141 ?_
    refine And.intro sh_l141 ?_
    refine And.intro (fun c2 => ?_) (fun c2 => ?_)
    · replace h := h.1 c2
      refine And.intro sh_l141 ?_
      refine And.intro sh_l141 ?_
      refine And.intro (fun c3 => ?_) (fun c3 => ?_)
      · replace h := h.1 c3
        refine And.intro sh_l141 ?_
        refine And.intro sh_l141 ?_
        refine pm_C_imp h (fun v hi4 h => ?_)
        obtain ⟨x5, rfl, h⟩ := h
        refine ⟨_, rfl, ?_⟩
        refine And.intro (fun c6 => ?_) (fun c6 => ?_)
        · replace h := h.1 c6
          refine And.intro sh_l141 ?_
          refine And.intro sh_l141 ?_
          refine pm_C_imp h (fun v hi7 h => ?_)
          obtain ⟨x8, rfl, h⟩ := h
          refine ⟨_, rfl, ?_⟩
          refine And.intro (fun c9 => ?_) (fun c9 => ?_)
          · replace h := h.1 c9
            refine And.intro ⟨sh_l141, trivial⟩ ?_
            refine And.intro sh_l141 ?_
            rw [hr_141_10]
            refine And.intro sh_l141 ?_
            obtain ⟨k10, hkk10, hek10, h⟩ := h
            refine And.intro (pm_ao_of (t := 0) sh_l149 hkk10 hek10 (by decide)) ?_
            rw [pm_tn hek10 hkk10 (by decide)]
            refine And.intro ⟨sh_l141, trivial⟩ ?_
            obtain ⟨hi11, ehi11⟩ : ∃ m : pm_B, m = pm_u (pm_u hi7 141 14 3) 141 15 ((pm_u hi7 141 14 3) 149 k10) := ⟨_, rfl⟩
            replace h := h hi11 ehi11
            rw [← ehi11]
            refine And.intro sh_l141 ?_
            refine And.intro ⟨sh_l141, trivial⟩ ?_
            exact h
          · replace h := h.2 c9
            refine And.intro ⟨sh_l141, trivial⟩ ?_
            exact h
        · replace h := h.2 c6
          exact h
      · replace h := h.2 c3
        refine And.intro ⟨sh_l141, trivial⟩ ?_
        obtain ⟨hi12, ehi12⟩ : ∃ m : pm_B, m = pm_u (pm_u hi 141 13 (hi 141 12)) 141 14 0 := ⟨_, rfl⟩
        replace h := h hi12 ehi12
        rw [← ehi12]
        exact h
    · replace h := h.2 c2
      refine And.intro sh_l141 ?_
      refine And.intro sh_l141 ?_
      refine And.intro (fun c13 => ?_) (fun c13 => ?_)
      · replace h := h.1 c13
        refine And.intro sh_l141 ?_
        refine And.intro sh_l141 ?_
        refine pm_C_imp h (fun v hi14 h => ?_)
        obtain ⟨x15, rfl, h⟩ := h
        refine ⟨_, rfl, ?_⟩
        refine And.intro (fun c16 => ?_) (fun c16 => ?_)
        · replace h := h.1 c16
          refine And.intro sh_l141 ?_
          refine And.intro sh_l141 ?_
          refine pm_C_imp h (fun v hi17 h => ?_)
          obtain ⟨x18, rfl, h⟩ := h
          refine ⟨_, rfl, ?_⟩
          refine And.intro (fun c19 => ?_) (fun c19 => ?_)
          · replace h := h.1 c19
            refine And.intro ⟨sh_l141, trivial⟩ ?_
            refine And.intro sh_l141 ?_
            rw [hr_141_10]
            refine And.intro sh_l141 ?_
            obtain ⟨k20, hkk20, hek20, h⟩ := h
            refine And.intro (pm_ao_of (t := 0) sh_l149 hkk20 hek20 (by decide)) ?_
            rw [pm_tn hek20 hkk20 (by decide)]
            refine And.intro ⟨sh_l141, trivial⟩ ?_
            obtain ⟨hi21, ehi21⟩ : ∃ m : pm_B, m = pm_u (pm_u hi17 141 14 3) 141 15 ((pm_u hi17 141 14 3) 149 k20) := ⟨_, rfl⟩
            replace h := h hi21 ehi21
            rw [← ehi21]
            refine And.intro sh_l141 ?_
            refine And.intro ⟨sh_l141, trivial⟩ ?_
            exact h
          · replace h := h.2 c19
            refine And.intro ⟨sh_l141, trivial⟩ ?_
            exact h
        · replace h := h.2 c16
          exact h
      · replace h := h.2 c13
        refine And.intro ⟨sh_l141, trivial⟩ ?_
        obtain ⟨hi22, ehi22⟩ : ∃ m : pm_B, m = pm_u (pm_u hi 141 13 (hi 141 12)) 141 14 0 := ⟨_, rfl⟩
        replace h := h hi22 ehi22
        rw [← ehi22]
        exact h
  · replace h := h.2 c1
    refine And.intro sh_l141 ?_
    rw [hr_141_10]
    refine And.intro sh_l141 ?_
    obtain ⟨k23, hkk23, hek23, h⟩ := h
    refine And.intro (pm_ao_of (t := 0) sh_l149 hkk23 hek23 (by decide)) ?_
    rw [pm_tn hek23 hkk23 (by decide)]
    refine And.intro (fun c24 => ?_) (fun c24 => ?_)
    · replace h := h.1 c24
      refine And.intro sh_l141 ?_
      refine And.intro ⟨sh_l141, trivial⟩ ?_
      refine And.intro sh_l141 ?_
      refine And.intro sh_l141 ?_
      refine And.intro (fun c25 => ?_) (fun c25 => ?_)
      · replace h := h.1 c25
        refine And.intro sh_l141 ?_
        refine And.intro sh_l141 ?_
        refine And.intro (fun c26 => ?_) (fun c26 => ?_)
        · replace h := h.1 c26
          refine And.intro sh_l141 ?_
          refine And.intro sh_l141 ?_
          refine pm_C_imp h (fun v hi27 h => ?_)
          obtain ⟨x28, rfl, h⟩ := h
          refine ⟨_, rfl, ?_⟩
          refine And.intro (fun c29 => ?_) (fun c29 => ?_)
          · replace h := h.1 c29
            refine And.intro sh_l141 ?_
            refine And.intro sh_l141 ?_
            refine pm_C_imp h (fun v hi30 h => ?_)
            obtain ⟨x31, rfl, h⟩ := h
            refine ⟨_, rfl, ?_⟩
            refine And.intro (fun c32 => ?_) (fun c32 => ?_)
            · replace h := h.1 c32
              refine And.intro ⟨sh_l141, trivial⟩ ?_
              refine And.intro sh_l141 ?_
              rw [hr_141_10]
              refine And.intro sh_l141 ?_
              obtain ⟨k33, hkk33, hek33, h⟩ := h
              refine And.intro (pm_ao_of (t := 0) sh_l149 hkk33 hek33 (by decide)) ?_
              rw [pm_tn hek33 hkk33 (by decide)]
              refine And.intro ⟨sh_l141, trivial⟩ ?_
              obtain ⟨hi34, ehi34⟩ : ∃ m : pm_B, m = pm_u (pm_u hi30 141 14 3) 141 15 ((pm_u hi30 141 14 3) 149 k33) := ⟨_, rfl⟩
              replace h := h hi34 ehi34
              rw [← ehi34]
              refine And.intro sh_l141 ?_
              refine And.intro ⟨sh_l141, trivial⟩ ?_
              exact h
            · replace h := h.2 c32
              refine And.intro ⟨sh_l141, trivial⟩ ?_
              exact h
          · replace h := h.2 c29
            exact h
        · replace h := h.2 c26
          refine And.intro ⟨sh_l141, trivial⟩ ?_
          obtain ⟨hi35, ehi35⟩ : ∃ m : pm_B, m = pm_u (pm_u hi 141 13 (hi 141 12)) 141 14 0 := ⟨_, rfl⟩
          replace h := h hi35 ehi35
          rw [← ehi35]
          exact h
      · replace h := h.2 c25
        refine And.intro sh_l141 ?_
        refine And.intro sh_l141 ?_
        refine And.intro (fun c36 => ?_) (fun c36 => ?_)
        · replace h := h.1 c36
          refine And.intro sh_l141 ?_
          refine And.intro sh_l141 ?_
          refine pm_C_imp h (fun v hi37 h => ?_)
          obtain ⟨x38, rfl, h⟩ := h
          refine ⟨_, rfl, ?_⟩
          refine And.intro (fun c39 => ?_) (fun c39 => ?_)
          · replace h := h.1 c39
            refine And.intro sh_l141 ?_
            refine And.intro sh_l141 ?_
            refine pm_C_imp h (fun v hi40 h => ?_)
            obtain ⟨x41, rfl, h⟩ := h
            refine ⟨_, rfl, ?_⟩
            refine And.intro (fun c42 => ?_) (fun c42 => ?_)
            · replace h := h.1 c42
              refine And.intro ⟨sh_l141, trivial⟩ ?_
              refine And.intro sh_l141 ?_
              rw [hr_141_10]
              refine And.intro sh_l141 ?_
              obtain ⟨k43, hkk43, hek43, h⟩ := h
              refine And.intro (pm_ao_of (t := 0) sh_l149 hkk43 hek43 (by decide)) ?_
              rw [pm_tn hek43 hkk43 (by decide)]
              refine And.intro ⟨sh_l141, trivial⟩ ?_
              obtain ⟨hi44, ehi44⟩ : ∃ m : pm_B, m = pm_u (pm_u hi40 141 14 3) 141 15 ((pm_u hi40 141 14 3) 149 k43) := ⟨_, rfl⟩
              replace h := h hi44 ehi44
              rw [← ehi44]
              refine And.intro sh_l141 ?_
              refine And.intro ⟨sh_l141, trivial⟩ ?_
              exact h
            · replace h := h.2 c42
              refine And.intro ⟨sh_l141, trivial⟩ ?_
              exact h
          · replace h := h.2 c39
            exact h
        · replace h := h.2 c36
          refine And.intro ⟨sh_l141, trivial⟩ ?_
          obtain ⟨hi45, ehi45⟩ : ∃ m : pm_B, m = pm_u (pm_u hi 141 13 (hi 141 12)) 141 14 0 := ⟨_, rfl⟩
          replace h := h hi45 ehi45
          rw [← ehi45]
          exact h
    · replace h := h.2 c24
      refine And.intro sh_l141 ?_
      refine And.intro ⟨sh_l141, trivial⟩ ?_
      exact h
theorem v_M_go_93 {L d : Nat}  {y1 : Int32} {hi : pm_B} {Q : pm_Q} (h : pm_C pm_g (SH L) HR (d) m_M_isLetter [.inr 141, .inl (hi 141 12)] hi (fun v hi1 => ∃ x2 : Int32, v = some (.inl x2) ∧ (((x2 = 0) → ((y1 = 0) → ∃ k5 : Nat, k5 < 96 ∧ ((pm_u hi1 141 14 1) 141 13) = nI k5 ∧ (∀ hi6 : pm_B, hi6 = pm_u (pm_u hi1 141 14 1) 141 15 ((pm_u hi1 141 14 1) 149 k5) → (Q none (pm_u hi6 141 16 (hi6 141 12))))) ∧ ((¬ (y1 = 0)) → ∃ k7 : Nat, k7 < 96 ∧ ((pm_u hi1 141 14 4) 141 13) = nI k7 ∧ (∀ hi8 : pm_B, hi8 = pm_u (pm_u hi1 141 14 4) 141 15 ((pm_u hi1 141 14 4) 149 k7) → (Q none (pm_u hi8 141 16 (hi8 141 12)))))) ∧ ((¬ (x2 = 0)) → pm_W pm_g (SH L) HR (d) pm_t200 93 [some (.inr 141), some (.inl y1)] [] (pm_u hi1 141 12 ((hi1 141 12) + 1)) Q)))) : pm_W pm_g (SH L) HR (d) pm_t200 93 [some (.inr 141), some (.inl y1)] [] hi Q := by
  refine pm_W_of 26 [0, 93, 170] rfl ?_
  refine And.intro sh_l141 ?_
  refine And.intro sh_l141 ?_
  refine pm_C_imp h (fun v hi1 h => ?_)
  obtain ⟨x2, rfl, h⟩ := h
  refine ⟨_, rfl, ?_⟩
  refine And.intro (fun c3 => ?_) (fun c3 => ?_)
  · replace h := h.1 c3
    refine And.intro (fun c4 => ?_) (fun c4 => ?_)
    · replace h := h.1 c4
      refine And.intro ⟨sh_l141, trivial⟩ ?_
      refine And.intro sh_l141 ?_
      rw [hr_141_10]
      refine And.intro sh_l141 ?_
      obtain ⟨k5, hkk5, hek5, h⟩ := h
      refine And.intro (pm_ao_of (t := 0) sh_l149 hkk5 hek5 (by decide)) ?_
      rw [pm_tn hek5 hkk5 (by decide)]
      refine And.intro ⟨sh_l141, trivial⟩ ?_
      obtain ⟨hi6, ehi6⟩ : ∃ m : pm_B, m = pm_u (pm_u hi1 141 14 1) 141 15 ((pm_u hi1 141 14 1) 149 k5) := ⟨_, rfl⟩
      replace h := h hi6 ehi6
      rw [← ehi6]
      refine And.intro sh_l141 ?_
      refine And.intro ⟨sh_l141, trivial⟩ ?_
      exact h
    · replace h := h.2 c4
      refine And.intro ⟨sh_l141, trivial⟩ ?_
      refine And.intro sh_l141 ?_
      rw [hr_141_10]
      refine And.intro sh_l141 ?_
      obtain ⟨k7, hkk7, hek7, h⟩ := h
      refine And.intro (pm_ao_of (t := 0) sh_l149 hkk7 hek7 (by decide)) ?_
      rw [pm_tn hek7 hkk7 (by decide)]
      refine And.intro ⟨sh_l141, trivial⟩ ?_
      obtain ⟨hi8, ehi8⟩ : ∃ m : pm_B, m = pm_u (pm_u hi1 141 14 4) 141 15 ((pm_u hi1 141 14 4) 149 k7) := ⟨_, rfl⟩
      replace h := h hi8 ehi8
      rw [← ehi8]
      refine And.intro sh_l141 ?_
      refine And.intro ⟨sh_l141, trivial⟩ ?_
      exact h
  · replace h := h.2 c3
    refine And.intro sh_l141 ?_
    refine And.intro ⟨sh_l141, trivial⟩ ?_
    exact h
theorem v_M_go_170 {L d : Nat}  {y1 : Int32} {hi : pm_B} {Q : pm_Q} (h : pm_C pm_g (SH L) HR (d) m_M_isFigure [.inr 141, .inl (hi 141 12)] hi (fun v hi1 => ∃ x2 : Int32, v = some (.inl x2) ∧ (((x2 = 0) → ((¬ y1 = 0) → ∀ hi5 : pm_B, hi5 = pm_u (pm_u hi1 141 14 4) 141 16 ((pm_u hi1 141 14 4) 141 12) → (Q none hi5)) ∧ ((¬ (¬ y1 = 0)) → ((((hi1 141 12) - (hi1 141 13)) ≤ 4) → ∀ hi7 : pm_B, hi7 = pm_u (pm_u hi1 141 14 2) 141 16 ((pm_u hi1 141 14 2) 141 12) → (Q none hi7)) ∧ ((¬ (((hi1 141 12) - (hi1 141 13)) ≤ 4)) → ∀ hi8 : pm_B, hi8 = pm_u (pm_u hi1 141 14 4) 141 16 ((pm_u hi1 141 14 4) 141 12) → (Q none hi8)))) ∧ ((¬ (x2 = 0)) → ((4 ≤ ((hi1 141 12) - (hi1 141 13))) → ∀ hi10 : pm_B, hi10 = pm_u (pm_u hi1 141 15 (hi1 141 15)) 141 12 (((pm_u hi1 141 15 (hi1 141 15)) 141 12) + 1) → (pm_W pm_g (SH L) HR (d) pm_t200 170 [some (.inr 141), some (.inl y1)] [] hi10 Q)) ∧ ((¬ (4 ≤ ((hi1 141 12) - (hi1 141 13)))) → ∃ k11 : Nat, k11 < 96 ∧ (hi1 141 12) = nI k11 ∧ (∀ hi12 : pm_B, hi12 = pm_u (pm_u hi1 141 15 (((10 * (hi1 141 15)) + (hi1 149 k11)) - 48)) 141 12 (((pm_u hi1 141 15 (((10 * (hi1 141 15)) + (hi1 149 k11)) - 48)) 141 12) + 1) → (pm_W pm_g (SH L) HR (d) pm_t200 170 [some (.inr 141), some (.inl y1)] [] hi12 Q))))))) : pm_W pm_g (SH L) HR (d) pm_t200 170 [some (.inr 141), some (.inl y1)] [] hi Q := by
  refine pm_W_of 36 [0, 93, 170] rfl ?_
  refine And.intro sh_l141 ?_
  refine And.intro sh_l141 ?_
  refine pm_C_imp h (fun v hi1 h => ?_)
  obtain ⟨x2, rfl, h⟩ := h
  refine ⟨_, rfl, ?_⟩
  refine And.intro (fun c3 => ?_) (fun c3 => ?_)
  · replace h := h.1 c3
    refine And.intro (fun c4 => ?_) (fun c4 => ?_)
    · replace h := h.1 c4
      refine And.intro ⟨sh_l141, trivial⟩ ?_
      refine And.intro sh_l141 ?_
      refine And.intro ⟨sh_l141, trivial⟩ ?_
      obtain ⟨hi5, ehi5⟩ : ∃ m : pm_B, m = pm_u (pm_u hi1 141 14 4) 141 16 ((pm_u hi1 141 14 4) 141 12) := ⟨_, rfl⟩
      replace h := h hi5 ehi5
      rw [← ehi5]
      exact h
    · replace h := h.2 c4
      refine And.intro sh_l141 ?_
      refine And.intro sh_l141 ?_
      refine And.intro (fun c6 => ?_) (fun c6 => ?_)
      · replace h := h.1 c6
        refine And.intro ⟨sh_l141, trivial⟩ ?_
        refine And.intro sh_l141 ?_
        refine And.intro ⟨sh_l141, trivial⟩ ?_
        obtain ⟨hi7, ehi7⟩ : ∃ m : pm_B, m = pm_u (pm_u hi1 141 14 2) 141 16 ((pm_u hi1 141 14 2) 141 12) := ⟨_, rfl⟩
        replace h := h hi7 ehi7
        rw [← ehi7]
        exact h
      · replace h := h.2 c6
        refine And.intro ⟨sh_l141, trivial⟩ ?_
        refine And.intro sh_l141 ?_
        refine And.intro ⟨sh_l141, trivial⟩ ?_
        obtain ⟨hi8, ehi8⟩ : ∃ m : pm_B, m = pm_u (pm_u hi1 141 14 4) 141 16 ((pm_u hi1 141 14 4) 141 12) := ⟨_, rfl⟩
        replace h := h hi8 ehi8
        rw [← ehi8]
        exact h
  · replace h := h.2 c3
    refine And.intro sh_l141 ?_
    refine And.intro sh_l141 ?_
    refine And.intro (fun c9 => ?_) (fun c9 => ?_)
    · replace h := h.1 c9
      refine And.intro sh_l141 ?_
      refine And.intro ⟨sh_l141, trivial⟩ ?_
      refine And.intro sh_l141 ?_
      refine And.intro ⟨sh_l141, trivial⟩ ?_
      obtain ⟨hi10, ehi10⟩ : ∃ m : pm_B, m = pm_u (pm_u hi1 141 15 (hi1 141 15)) 141 12 (((pm_u hi1 141 15 (hi1 141 15)) 141 12) + 1) := ⟨_, rfl⟩
      replace h := h hi10 ehi10
      rw [← ehi10]
      exact h
    · replace h := h.2 c9
      refine And.intro sh_l141 ?_
      refine And.intro sh_l141 ?_
      rw [hr_141_10]
      refine And.intro sh_l141 ?_
      obtain ⟨k11, hkk11, hek11, h⟩ := h
      refine And.intro (pm_ao_of (t := 0) sh_l149 hkk11 hek11 (by decide)) ?_
      rw [pm_tn hek11 hkk11 (by decide)]
      refine And.intro ⟨sh_l141, trivial⟩ ?_
      refine And.intro sh_l141 ?_
      refine And.intro ⟨sh_l141, trivial⟩ ?_
      obtain ⟨hi12, ehi12⟩ : ∃ m : pm_B, m = pm_u (pm_u hi1 141 15 (((10 * (hi1 141 15)) + (hi1 149 k11)) - 48)) 141 12 (((pm_u hi1 141 15 (((10 * (hi1 141 15)) + (hi1 149 k11)) - 48)) 141 12) + 1) := ⟨_, rfl⟩
      replace h := h hi12 ehi12
      rw [← ehi12]
      exact h
theorem v_M_takesKey {L d : Nat}  {hi : pm_B} {Q : pm_Q} (h : (((hi 141 14) = 1) → pm_W pm_g (SH L) HR (d) pm_t201 12 [some (.inr 141), some (.inl 0), none, none, none] [] hi Q) ∧ ((¬ ((hi 141 14) = 1)) → Q (some (.inl 0)) hi)) : pm_C pm_g (SH L) HR (d + 1) m_M_takesKey [.inr 141] hi Q := by
  refine pm_C_of (maxL := 5) (t := pm_t201) rfl (Nat.le_of_ble_eq_true rfl) ?_
  refine pm_W_of 8 [12, 55] rfl ?_
  refine And.intro sh_l141 ?_
  refine And.intro (fun c1 => ?_) (fun c1 => ?_)
  · replace h := h.1 c1
    exact h
  · replace h := h.2 c1
    refine And.intro (Or.inl rfl) ?_
    exact h
theorem v_M_takesKey_12 {L d : Nat} {o2 : Option pm_V} {o3 : Option pm_V} {o4 : Option pm_V} {y1 : Int32} {hi : pm_B} {Q : pm_Q} (h : ((3 ≤ y1) → Q (some (.inl 0)) hi) ∧ ((¬ (3 ≤ y1)) → ∃ k2 : Nat, k2 < 4 ∧ (y1 + 1) = nI k2 ∧ (∃ k3 : Nat, k3 < 4 ∧ y1 = nI k3 ∧ (((¬ ((hi 151 k2) - (hi 151 k3)) = ((hi 141 12) - (hi 141 13))) → pm_W pm_g (SH L) HR (d) pm_t201 55 [some (.inr 141), some (.inl y1), some (.inl ((hi 151 k2) - (hi 151 k3))), some (.inl 0), some (.inl 0)] [] hi Q) ∧ ((¬ (¬ ((hi 151 k2) - (hi 151 k3)) = ((hi 141 12) - (hi 141 13)))) → pm_W pm_g (SH L) HR (d) pm_t201 55 [some (.inr 141), some (.inl y1), some (.inl ((hi 151 k2) - (hi 151 k3))), some (.inl 1), some (.inl 0)] [] hi Q))))) : pm_W pm_g (SH L) HR (d) pm_t201 12 [some (.inr 141), some (.inl y1), o2, o3, o4] [] hi Q := by
  refine pm_W_of 29 [12, 55] rfl ?_
  refine And.intro (fun c1 => ?_) (fun c1 => ?_)
  · replace h := h.1 c1
    refine And.intro (Or.inl rfl) ?_
    exact h
  · replace h := h.2 c1
    refine And.intro sh_l141 ?_
    rw [hr_141_19]
    obtain ⟨k2, hkk2, hek2, h⟩ := h
    refine And.intro (pm_ao_of (t := 0) sh_l151 hkk2 hek2 (by decide)) ?_
    rw [pm_tn hek2 hkk2 (by decide)]
    refine And.intro sh_l141 ?_
    rw [hr_141_19]
    obtain ⟨k3, hkk3, hek3, h⟩ := h
    refine And.intro (pm_ao_of (t := 0) sh_l151 hkk3 hek3 (by decide)) ?_
    rw [pm_tn hek3 hkk3 (by decide)]
    refine And.intro sh_l141 ?_
    refine And.intro sh_l141 ?_
    refine And.intro (fun c4 => ?_) (fun c4 => ?_)
    · replace h := h.1 c4
      exact h
    · replace h := h.2 c4
      exact h
theorem v_M_takesKey_55 {L d : Nat}  {y1 : Int32} {y2 : Int32} {y3 : Int32} {y4 : Int32} {hi : pm_B} {Q : pm_Q} (h : ((y2 ≤ y4) → ((y3 = 0) → pm_W pm_g (SH L) HR (d) pm_t201 12 [some (.inr 141), some (.inl (y1 + 1)), some (.inl y2), some (.inl y3), some (.inl y4)] [] hi Q) ∧ ((¬ (y3 = 0)) → pm_C pm_g (SH L) HR (d) m_M_go [.inr 141] (pm_u hi 141 17 y1) (fun v hi3 => v = none ∧ (Q (some (.inl 1)) hi3)))) ∧ ((¬ (y2 ≤ y4)) → ((y3 = 0) → ((y3 = 0) → pm_W pm_g (SH L) HR (d) pm_t201 12 [some (.inr 141), some (.inl (y1 + 1)), some (.inl y2), some (.inl y3), some (.inl y4)] [] hi Q) ∧ ((¬ (y3 = 0)) → pm_C pm_g (SH L) HR (d) m_M_go [.inr 141] (pm_u hi 141 17 y1) (fun v hi6 => v = none ∧ (Q (some (.inl 1)) hi6)))) ∧ ((¬ (y3 = 0)) → ∃ k7 : Nat, k7 < 96 ∧ ((hi 141 13) + y4) = nI k7 ∧ (∃ k8 : Nat, k8 < 4 ∧ y1 = nI k8 ∧ (∃ k9 : Nat, k9 < 11 ∧ ((hi 151 k8) + y4) = nI k9 ∧ (((¬ (hi 149 k7) = (hi 150 k9)) → pm_W pm_g (SH L) HR (d) pm_t201 55 [some (.inr 141), some (.inl y1), some (.inl y2), some (.inl 0), some (.inl (y4 + 1))] [] hi Q) ∧ ((¬ (¬ (hi 149 k7) = (hi 150 k9))) → pm_W pm_g (SH L) HR (d) pm_t201 55 [some (.inr 141), some (.inl y1), some (.inl y2), some (.inl 1), some (.inl (y4 + 1))] [] hi Q))))))) : pm_W pm_g (SH L) HR (d) pm_t201 55 [some (.inr 141), some (.inl y1), some (.inl y2), some (.inl y3), some (.inl y4)] [] hi Q := by
  refine pm_W_of 29 [12, 55] rfl ?_
  refine And.intro (fun c1 => ?_) (fun c1 => ?_)
  · replace h := h.1 c1
    refine And.intro (fun c2 => ?_) (fun c2 => ?_)
    · replace h := h.1 c2
      exact h
    · replace h := h.2 c2
      refine And.intro ⟨sh_l141, trivial⟩ ?_
      refine And.intro sh_l141 ?_
      refine pm_C_imp h (fun v hi3 h => ?_)
      obtain ⟨rfl, h⟩ := h
      refine ⟨rfl, ?_⟩
      refine And.intro (Or.inr rfl) ?_
      exact h
  · replace h := h.2 c1
    refine And.intro (fun c4 => ?_) (fun c4 => ?_)
    · replace h := h.1 c4
      refine And.intro (fun c5 => ?_) (fun c5 => ?_)
      · replace h := h.1 c5
        exact h
      · replace h := h.2 c5
        refine And.intro ⟨sh_l141, trivial⟩ ?_
        refine And.intro sh_l141 ?_
        refine pm_C_imp h (fun v hi6 h => ?_)
        obtain ⟨rfl, h⟩ := h
        refine ⟨rfl, ?_⟩
        refine And.intro (Or.inr rfl) ?_
        exact h
    · replace h := h.2 c4
      refine And.intro sh_l141 ?_
      rw [hr_141_10]
      refine And.intro sh_l141 ?_
      obtain ⟨k7, hkk7, hek7, h⟩ := h
      refine And.intro (pm_ao_of (t := 0) sh_l149 hkk7 hek7 (by decide)) ?_
      rw [pm_tn hek7 hkk7 (by decide)]
      refine And.intro sh_l141 ?_
      rw [hr_141_18]
      refine And.intro sh_l141 ?_
      rw [hr_141_19]
      obtain ⟨k8, hkk8, hek8, h⟩ := h
      refine And.intro (pm_ao_of (t := 0) sh_l151 hkk8 hek8 (by decide)) ?_
      rw [pm_tn hek8 hkk8 (by decide)]
      obtain ⟨k9, hkk9, hek9, h⟩ := h
      refine And.intro (pm_ao_of (t := 0) sh_l150 hkk9 hek9 (by decide)) ?_
      rw [pm_tn hek9 hkk9 (by decide)]
      refine And.intro (fun c10 => ?_) (fun c10 => ?_)
      · replace h := h.1 c10
        exact h
      · replace h := h.2 c10
        exact h
theorem v_M_settle {L d : Nat} {p1 : Int32} {hi : pm_B} {Q : pm_Q} (h : (((hi 141 24) ≤ 0) → Q none hi) ∧ ((¬ ((hi 141 24) ≤ 0)) → ∃ k2 : Nat, k2 < 96 ∧ ((hi 141 24) - 1) = nI k2 ∧ ((((hi 153 k2) = (-11)) → Q none hi) ∧ ((¬ ((hi 153 k2) = (-11))) → ∃ k4 : Nat, k4 < 96 ∧ ((hi 141 24) - 1) = nI k4 ∧ ((((f_M_rank (hi 153 k4)) < p1) → Q none hi) ∧ ((¬ ((f_M_rank (hi 153 k4)) < p1)) → ∃ k6 : Nat, k6 < 96 ∧ ((pm_u hi 141 24 ((hi 141 24) - 1)) 141 24) = nI k6 ∧ (∃ k7 : Nat, k7 < 96 ∧ ((pm_u hi 141 24 ((hi 141 24) - 1)) 141 21) = nI k7 ∧ (∀ hi8 : pm_B, hi8 = pm_u (pm_u hi 141 24 ((hi 141 24) - 1)) 152 k7 ((pm_u hi 141 24 ((hi 141 24) - 1)) 153 k6) → (pm_W pm_g (SH L) HR (d + 1) pm_t204 0 [some (.inr 141), some (.inl p1)] [] (pm_u hi8 141 21 ((hi8 141 21) + 1)) Q))))))))) : pm_C pm_g (SH L) HR (d + 2) m_M_settle [.inr 141, .inl p1] hi Q := by
  refine pm_C_of (maxL := 2) (t := pm_t204) rfl (Nat.le_of_ble_eq_true rfl) ?_
  refine pm_W_of 47 [0] rfl ?_
  refine And.intro sh_l141 ?_
  refine And.intro (fun c1 => ?_) (fun c1 => ?_)
  · replace h := h.1 c1
    exact h
  · replace h := h.2 c1
    refine And.intro sh_l141 ?_
    rw [hr_141_23]
    refine And.intro sh_l141 ?_
    obtain ⟨k2, hkk2, hek2, h⟩ := h
    refine And.intro (pm_ao_of (t := 0) sh_l153 hkk2 hek2 (by decide)) ?_
    rw [pm_tn hek2 hkk2 (by decide)]
    refine And.intro (fun c3 => ?_) (fun c3 => ?_)
    · replace h := h.1 c3
      exact h
    · replace h := h.2 c3
      refine And.intro sh_l141 ?_
      rw [hr_141_23]
      refine And.intro sh_l141 ?_
      obtain ⟨k4, hkk4, hek4, h⟩ := h
      refine And.intro (pm_ao_of (t := 0) sh_l153 hkk4 hek4 (by decide)) ?_
      rw [pm_tn hek4 hkk4 (by decide)]
      refine And.intro trivial ?_
      refine f_M_rank_c (d := d)  ?_
      refine ⟨_, rfl, ?_⟩
      refine And.intro (fun c5 => ?_) (fun c5 => ?_)
      · replace h := h.1 c5
        exact h
      · replace h := h.2 c5
        refine And.intro sh_l141 ?_
        refine And.intro ⟨sh_l141, trivial⟩ ?_
        refine And.intro sh_l141 ?_
        rw [hr_141_20]
        refine And.intro sh_l141 ?_
        refine And.intro sh_l141 ?_
        rw [hr_141_23]
        refine And.intro sh_l141 ?_
        obtain ⟨k6, hkk6, hek6, h⟩ := h
        refine And.intro (pm_ao_of (t := 0) sh_l153 hkk6 hek6 (by decide)) ?_
        rw [pm_tn hek6 hkk6 (by decide)]
        obtain ⟨k7, hkk7, hek7, h⟩ := h
        refine And.intro ⟨pm_aw_of sh_l152 hkk7 hek7 (by decide), trivial⟩ ?_
        rw [pm_tn hek7 hkk7 (by decide)]
        obtain ⟨hi8, ehi8⟩ : ∃ m : pm_B, m = pm_u (pm_u hi 141 24 ((hi 141 24) - 1)) 152 k7 ((pm_u hi 141 24 ((hi 141 24) - 1)) 153 k6) := ⟨_, rfl⟩
        replace h := h hi8 ehi8
        rw [← ehi8]
        refine And.intro sh_l141 ?_
        refine And.intro ⟨sh_l141, trivial⟩ ?_
        exact h
theorem v_M_settle_0 {L d : Nat}  {p1 : Int32} {hi : pm_B} {Q : pm_Q} (h : (((hi 141 24) ≤ 0) → Q none hi) ∧ ((¬ ((hi 141 24) ≤ 0)) → ∃ k2 : Nat, k2 < 96 ∧ ((hi 141 24) - 1) = nI k2 ∧ ((((hi 153 k2) = (-11)) → Q none hi) ∧ ((¬ ((hi 153 k2) = (-11))) → ∃ k4 : Nat, k4 < 96 ∧ ((hi 141 24) - 1) = nI k4 ∧ ((((f_M_rank (hi 153 k4)) < p1) → Q none hi) ∧ ((¬ ((f_M_rank (hi 153 k4)) < p1)) → ∃ k6 : Nat, k6 < 96 ∧ ((pm_u hi 141 24 ((hi 141 24) - 1)) 141 24) = nI k6 ∧ (∃ k7 : Nat, k7 < 96 ∧ ((pm_u hi 141 24 ((hi 141 24) - 1)) 141 21) = nI k7 ∧ (∀ hi8 : pm_B, hi8 = pm_u (pm_u hi 141 24 ((hi 141 24) - 1)) 152 k7 ((pm_u hi 141 24 ((hi 141 24) - 1)) 153 k6) → (pm_W pm_g (SH L) HR (d + 1) pm_t204 0 [some (.inr 141), some (.inl p1)] [] (pm_u hi8 141 21 ((hi8 141 21) + 1)) Q))))))))) : pm_W pm_g (SH L) HR (d + 1) pm_t204 0 [some (.inr 141), some (.inl p1)] [] hi Q := by
  refine pm_W_of 47 [0] rfl ?_
  refine And.intro sh_l141 ?_
  refine And.intro (fun c1 => ?_) (fun c1 => ?_)
  · replace h := h.1 c1
    exact h
  · replace h := h.2 c1
    refine And.intro sh_l141 ?_
    rw [hr_141_23]
    refine And.intro sh_l141 ?_
    obtain ⟨k2, hkk2, hek2, h⟩ := h
    refine And.intro (pm_ao_of (t := 0) sh_l153 hkk2 hek2 (by decide)) ?_
    rw [pm_tn hek2 hkk2 (by decide)]
    refine And.intro (fun c3 => ?_) (fun c3 => ?_)
    · replace h := h.1 c3
      exact h
    · replace h := h.2 c3
      refine And.intro sh_l141 ?_
      rw [hr_141_23]
      refine And.intro sh_l141 ?_
      obtain ⟨k4, hkk4, hek4, h⟩ := h
      refine And.intro (pm_ao_of (t := 0) sh_l153 hkk4 hek4 (by decide)) ?_
      rw [pm_tn hek4 hkk4 (by decide)]
      refine And.intro trivial ?_
      refine f_M_rank_c (d := d)  ?_
      refine ⟨_, rfl, ?_⟩
      refine And.intro (fun c5 => ?_) (fun c5 => ?_)
      · replace h := h.1 c5
        exact h
      · replace h := h.2 c5
        refine And.intro sh_l141 ?_
        refine And.intro ⟨sh_l141, trivial⟩ ?_
        refine And.intro sh_l141 ?_
        rw [hr_141_20]
        refine And.intro sh_l141 ?_
        refine And.intro sh_l141 ?_
        rw [hr_141_23]
        refine And.intro sh_l141 ?_
        obtain ⟨k6, hkk6, hek6, h⟩ := h
        refine And.intro (pm_ao_of (t := 0) sh_l153 hkk6 hek6 (by decide)) ?_
        rw [pm_tn hek6 hkk6 (by decide)]
        obtain ⟨k7, hkk7, hek7, h⟩ := h
        refine And.intro ⟨pm_aw_of sh_l152 hkk7 hek7 (by decide), trivial⟩ ?_
        rw [pm_tn hek7 hkk7 (by decide)]
        obtain ⟨hi8, ehi8⟩ : ∃ m : pm_B, m = pm_u (pm_u hi 141 24 ((hi 141 24) - 1)) 152 k7 ((pm_u hi 141 24 ((hi 141 24) - 1)) 153 k6) := ⟨_, rfl⟩
        replace h := h hi8 ehi8
        rw [← ehi8]
        refine And.intro sh_l141 ?_
        refine And.intro ⟨sh_l141, trivial⟩ ?_
        exact h
theorem v_M_takesPart {L d : Nat}  {hi : pm_B} {Q : pm_Q} (h : ((¬ (hi 141 14) = 1) → (((hi 141 14) = 2) → ((¬ (hi 141 14) = 2) → ∃ k4 : Nat, k4 < 96 ∧ (hi 141 21) = nI k4 ∧ (∀ hi5 : pm_B, hi5 = pm_u (pm_u hi 152 k4 (10000 + (f_M_nameOf hi (hi 141 15)))) 141 21 (((pm_u hi 152 k4 (10000 + (f_M_nameOf hi (hi 141 15)))) 141 21) + 1) → (pm_C pm_g (SH L) HR (d + 1) m_M_settle [.inr 141, .inl 6] (pm_u hi5 141 22 ((hi5 141 22) + 1)) (fun v hi6 => v = none ∧ (pm_C pm_g (SH L) HR (d + 1) m_M_go [.inr 141] hi6 (fun v hi7 => v = none ∧ (Q (some (.inl 1)) hi7))))))) ∧ ((¬ (¬ (hi 141 14) = 2)) → ∃ k8 : Nat, k8 < 96 ∧ (hi 141 21) = nI k8 ∧ (∀ hi9 : pm_B, hi9 = pm_u (pm_u hi 152 k8 (hi 141 15)) 141 21 (((pm_u hi 152 k8 (hi 141 15)) 141 21) + 1) → (pm_C pm_g (SH L) HR (d + 1) m_M_settle [.inr 141, .inl 6] (pm_u hi9 141 22 ((hi9 141 22) + 1)) (fun v hi10 => v = none ∧ (pm_C pm_g (SH L) HR (d + 1) m_M_go [.inr 141] hi10 (fun v hi11 => v = none ∧ (Q (some (.inl 1)) hi11)))))))) ∧ ((¬ ((hi 141 14) = 2)) → Q (some (.inl 0)) hi)) ∧ ((¬ (¬ (hi 141 14) = 1)) → ((¬ ((hi 141 12) - (hi 141 13)) = 1) → (((hi 141 14) = 2) → ((¬ (hi 141 14) = 2) → ∃ k15 : Nat, k15 < 96 ∧ (hi 141 21) = nI k15 ∧ (∀ hi16 : pm_B, hi16 = pm_u (pm_u hi 152 k15 (10000 + (f_M_nameOf hi (hi 141 15)))) 141 21 (((pm_u hi 152 k15 (10000 + (f_M_nameOf hi (hi 141 15)))) 141 21) + 1) → (pm_C pm_g (SH L) HR (d + 1) m_M_settle [.inr 141, .inl 6] (pm_u hi16 141 22 ((hi16 141 22) + 1)) (fun v hi17 => v = none ∧ (pm_C pm_g (SH L) HR (d + 1) m_M_go [.inr 141] hi17 (fun v hi18 => v = none ∧ (Q (some (.inl 1)) hi18))))))) ∧ ((¬ (¬ (hi 141 14) = 2)) → ∃ k19 : Nat, k19 < 96 ∧ (hi 141 21) = nI k19 ∧ (∀ hi20 : pm_B, hi20 = pm_u (pm_u hi 152 k19 (hi 141 15)) 141 21 (((pm_u hi 152 k19 (hi 141 15)) 141 21) + 1) → (pm_C pm_g (SH L) HR (d + 1) m_M_settle [.inr 141, .inl 6] (pm_u hi20 141 22 ((hi20 141 22) + 1)) (fun v hi21 => v = none ∧ (pm_C pm_g (SH L) HR (d + 1) m_M_go [.inr 141] hi21 (fun v hi22 => v = none ∧ (Q (some (.inl 1)) hi22)))))))) ∧ ((¬ ((hi 141 14) = 2)) → Q (some (.inl 0)) hi)) ∧ ((¬ (¬ ((hi 141 12) - (hi 141 13)) = 1)) → (((f_M_nameOf hi (hi 141 15)) < 0) → (((hi 141 14) = 2) → ((¬ (hi 141 14) = 2) → ∃ k26 : Nat, k26 < 96 ∧ (hi 141 21) = nI k26 ∧ (∀ hi27 : pm_B, hi27 = pm_u (pm_u hi 152 k26 (10000 + (f_M_nameOf hi (hi 141 15)))) 141 21 (((pm_u hi 152 k26 (10000 + (f_M_nameOf hi (hi 141 15)))) 141 21) + 1) → (pm_C pm_g (SH L) HR (d + 1) m_M_settle [.inr 141, .inl 6] (pm_u hi27 141 22 ((hi27 141 22) + 1)) (fun v hi28 => v = none ∧ (pm_C pm_g (SH L) HR (d + 1) m_M_go [.inr 141] hi28 (fun v hi29 => v = none ∧ (Q (some (.inl 1)) hi29))))))) ∧ ((¬ (¬ (hi 141 14) = 2)) → ∃ k30 : Nat, k30 < 96 ∧ (hi 141 21) = nI k30 ∧ (∀ hi31 : pm_B, hi31 = pm_u (pm_u hi 152 k30 (hi 141 15)) 141 21 (((pm_u hi 152 k30 (hi 141 15)) 141 21) + 1) → (pm_C pm_g (SH L) HR (d + 1) m_M_settle [.inr 141, .inl 6] (pm_u hi31 141 22 ((hi31 141 22) + 1)) (fun v hi32 => v = none ∧ (pm_C pm_g (SH L) HR (d + 1) m_M_go [.inr 141] hi32 (fun v hi33 => v = none ∧ (Q (some (.inl 1)) hi33)))))))) ∧ ((¬ ((hi 141 14) = 2)) → Q (some (.inl 0)) hi)) ∧ ((¬ ((f_M_nameOf hi (hi 141 15)) < 0)) → (((hi 141 14) = 2) → ((¬ (hi 141 14) = 2) → ∃ k36 : Nat, k36 < 96 ∧ (hi 141 21) = nI k36 ∧ (∀ hi37 : pm_B, hi37 = pm_u (pm_u hi 152 k36 (10000 + (f_M_nameOf hi (hi 141 15)))) 141 21 (((pm_u hi 152 k36 (10000 + (f_M_nameOf hi (hi 141 15)))) 141 21) + 1) → (pm_C pm_g (SH L) HR (d + 1) m_M_settle [.inr 141, .inl 6] (pm_u hi37 141 22 ((hi37 141 22) + 1)) (fun v hi38 => v = none ∧ (pm_C pm_g (SH L) HR (d + 1) m_M_go [.inr 141] hi38 (fun v hi39 => v = none ∧ (Q (some (.inl 1)) hi39))))))) ∧ ((¬ (¬ (hi 141 14) = 2)) → ∃ k40 : Nat, k40 < 96 ∧ (hi 141 21) = nI k40 ∧ (∀ hi41 : pm_B, hi41 = pm_u (pm_u hi 152 k40 (hi 141 15)) 141 21 (((pm_u hi 152 k40 (hi 141 15)) 141 21) + 1) → (pm_C pm_g (SH L) HR (d + 1) m_M_settle [.inr 141, .inl 6] (pm_u hi41 141 22 ((hi41 141 22) + 1)) (fun v hi42 => v = none ∧ (pm_C pm_g (SH L) HR (d + 1) m_M_go [.inr 141] hi42 (fun v hi43 => v = none ∧ (Q (some (.inl 1)) hi43)))))))) ∧ ((¬ ((hi 141 14) = 2)) → ((¬ (hi 141 14) = 2) → ∃ k45 : Nat, k45 < 96 ∧ (hi 141 21) = nI k45 ∧ (∀ hi46 : pm_B, hi46 = pm_u (pm_u hi 152 k45 (10000 + (f_M_nameOf hi (hi 141 15)))) 141 21 (((pm_u hi 152 k45 (10000 + (f_M_nameOf hi (hi 141 15)))) 141 21) + 1) → (pm_C pm_g (SH L) HR (d + 1) m_M_settle [.inr 141, .inl 6] (pm_u hi46 141 22 ((hi46 141 22) + 1)) (fun v hi47 => v = none ∧ (pm_C pm_g (SH L) HR (d + 1) m_M_go [.inr 141] hi47 (fun v hi48 => v = none ∧ (Q (some (.inl 1)) hi48))))))) ∧ ((¬ (¬ (hi 141 14) = 2)) → ∃ k49 : Nat, k49 < 96 ∧ (hi 141 21) = nI k49 ∧ (∀ hi50 : pm_B, hi50 = pm_u (pm_u hi 152 k49 (hi 141 15)) 141 21 (((pm_u hi 152 k49 (hi 141 15)) 141 21) + 1) → (pm_C pm_g (SH L) HR (d + 1) m_M_settle [.inr 141, .inl 6] (pm_u hi50 141 22 ((hi50 141 22) + 1)) (fun v hi51 => v = none ∧ (pm_C pm_g (SH L) HR (d + 1) m_M_go [.inr 141] hi51 (fun v hi52 => v = none ∧ (Q (some (.inl 1)) hi52)))))))))))) : pm_C pm_g (SH L) HR (d + 2) m_M_takesPart [.inr 141] hi Q := by
  refine pm_C_of (maxL := 2) (t := pm_t206) rfl (Nat.le_of_ble_eq_true rfl) ?_
  refine pm_W_of 61 [] rfl ?_
  refine And.intro sh_l141 ?_
  refine And.intro (fun c1 => ?_) (fun c1 => ?_)
  · replace h := h.1 c1
    refine And.intro sh_l141 ?_
    refine And.intro (fun c2 => ?_) (fun c2 => ?_)
    · replace h := h.1 c2
      refine And.intro sh_l141 ?_
      rw [hr_141_20]
      refine And.intro sh_l141 ?_
      refine And.intro sh_l141 ?_
      refine And.intro (fun c3 => ?_) (fun c3 => ?_)
      · replace h := h.1 c3
        refine And.intro sh_l141 ?_
        refine And.intro sh_l141 ?_
        refine f_M_nameOf_c (d := d)  ?_
        refine ⟨_, rfl, ?_⟩
        obtain ⟨k4, hkk4, hek4, h⟩ := h
        refine And.intro ⟨pm_aw_of sh_l152 hkk4 hek4 (by decide), trivial⟩ ?_
        rw [pm_tn hek4 hkk4 (by decide)]
        refine And.intro sh_l141 ?_
        refine And.intro ⟨sh_l141, trivial⟩ ?_
        obtain ⟨hi5, ehi5⟩ : ∃ m : pm_B, m = pm_u (pm_u hi 152 k4 (10000 + (f_M_nameOf hi (hi 141 15)))) 141 21 (((pm_u hi 152 k4 (10000 + (f_M_nameOf hi (hi 141 15)))) 141 21) + 1) := ⟨_, rfl⟩
        replace h := h hi5 ehi5
        rw [← ehi5]
        refine And.intro sh_l141 ?_
        refine And.intro ⟨sh_l141, trivial⟩ ?_
        refine And.intro sh_l141 ?_
        refine pm_C_imp h (fun v hi6 h => ?_)
        obtain ⟨rfl, h⟩ := h
        refine ⟨rfl, ?_⟩
        refine And.intro sh_l141 ?_
        refine pm_C_imp h (fun v hi7 h => ?_)
        obtain ⟨rfl, h⟩ := h
        refine ⟨rfl, ?_⟩
        refine And.intro (Or.inr rfl) ?_
        exact h
      · replace h := h.2 c3
        refine And.intro sh_l141 ?_
        obtain ⟨k8, hkk8, hek8, h⟩ := h
        refine And.intro ⟨pm_aw_of sh_l152 hkk8 hek8 (by decide), trivial⟩ ?_
        rw [pm_tn hek8 hkk8 (by decide)]
        refine And.intro sh_l141 ?_
        refine And.intro ⟨sh_l141, trivial⟩ ?_
        obtain ⟨hi9, ehi9⟩ : ∃ m : pm_B, m = pm_u (pm_u hi 152 k8 (hi 141 15)) 141 21 (((pm_u hi 152 k8 (hi 141 15)) 141 21) + 1) := ⟨_, rfl⟩
        replace h := h hi9 ehi9
        rw [← ehi9]
        refine And.intro sh_l141 ?_
        refine And.intro ⟨sh_l141, trivial⟩ ?_
        refine And.intro sh_l141 ?_
        refine pm_C_imp h (fun v hi10 h => ?_)
        obtain ⟨rfl, h⟩ := h
        refine ⟨rfl, ?_⟩
        refine And.intro sh_l141 ?_
        refine pm_C_imp h (fun v hi11 h => ?_)
        obtain ⟨rfl, h⟩ := h
        refine ⟨rfl, ?_⟩
        refine And.intro (Or.inr rfl) ?_
        exact h
    · replace h := h.2 c2
      refine And.intro (fun hc => absurd hc (pm_cd_f (by decide))) (fun _ => ?_)
      refine And.intro (Or.inl rfl) ?_
      exact h
  · replace h := h.2 c1
    refine And.intro sh_l141 ?_
    refine And.intro sh_l141 ?_
    refine And.intro (fun c12 => ?_) (fun c12 => ?_)
    · replace h := h.1 c12
      refine And.intro sh_l141 ?_
      refine And.intro (fun c13 => ?_) (fun c13 => ?_)
      · replace h := h.1 c13
        refine And.intro sh_l141 ?_
        rw [hr_141_20]
        refine And.intro sh_l141 ?_
        refine And.intro sh_l141 ?_
        refine And.intro (fun c14 => ?_) (fun c14 => ?_)
        · replace h := h.1 c14
          refine And.intro sh_l141 ?_
          refine And.intro sh_l141 ?_
          refine f_M_nameOf_c (d := d)  ?_
          refine ⟨_, rfl, ?_⟩
          obtain ⟨k15, hkk15, hek15, h⟩ := h
          refine And.intro ⟨pm_aw_of sh_l152 hkk15 hek15 (by decide), trivial⟩ ?_
          rw [pm_tn hek15 hkk15 (by decide)]
          refine And.intro sh_l141 ?_
          refine And.intro ⟨sh_l141, trivial⟩ ?_
          obtain ⟨hi16, ehi16⟩ : ∃ m : pm_B, m = pm_u (pm_u hi 152 k15 (10000 + (f_M_nameOf hi (hi 141 15)))) 141 21 (((pm_u hi 152 k15 (10000 + (f_M_nameOf hi (hi 141 15)))) 141 21) + 1) := ⟨_, rfl⟩
          replace h := h hi16 ehi16
          rw [← ehi16]
          refine And.intro sh_l141 ?_
          refine And.intro ⟨sh_l141, trivial⟩ ?_
          refine And.intro sh_l141 ?_
          refine pm_C_imp h (fun v hi17 h => ?_)
          obtain ⟨rfl, h⟩ := h
          refine ⟨rfl, ?_⟩
          refine And.intro sh_l141 ?_
          refine pm_C_imp h (fun v hi18 h => ?_)
          obtain ⟨rfl, h⟩ := h
          refine ⟨rfl, ?_⟩
          refine And.intro (Or.inr rfl) ?_
          exact h
        · replace h := h.2 c14
          refine And.intro sh_l141 ?_
          obtain ⟨k19, hkk19, hek19, h⟩ := h
          refine And.intro ⟨pm_aw_of sh_l152 hkk19 hek19 (by decide), trivial⟩ ?_
          rw [pm_tn hek19 hkk19 (by decide)]
          refine And.intro sh_l141 ?_
          refine And.intro ⟨sh_l141, trivial⟩ ?_
          obtain ⟨hi20, ehi20⟩ : ∃ m : pm_B, m = pm_u (pm_u hi 152 k19 (hi 141 15)) 141 21 (((pm_u hi 152 k19 (hi 141 15)) 141 21) + 1) := ⟨_, rfl⟩
          replace h := h hi20 ehi20
          rw [← ehi20]
          refine And.intro sh_l141 ?_
          refine And.intro ⟨sh_l141, trivial⟩ ?_
          refine And.intro sh_l141 ?_
          refine pm_C_imp h (fun v hi21 h => ?_)
          obtain ⟨rfl, h⟩ := h
          refine ⟨rfl, ?_⟩
          refine And.intro sh_l141 ?_
          refine pm_C_imp h (fun v hi22 h => ?_)
          obtain ⟨rfl, h⟩ := h
          refine ⟨rfl, ?_⟩
          refine And.intro (Or.inr rfl) ?_
          exact h
      · replace h := h.2 c13
        refine And.intro (fun hc => absurd hc (pm_cd_f (by decide))) (fun _ => ?_)
        refine And.intro (Or.inl rfl) ?_
        exact h
    · replace h := h.2 c12
      refine And.intro sh_l141 ?_
      refine And.intro sh_l141 ?_
      refine f_M_nameOf_c (d := d)  ?_
      refine ⟨_, rfl, ?_⟩
      refine And.intro (fun c23 => ?_) (fun c23 => ?_)
      · replace h := h.1 c23
        refine And.intro sh_l141 ?_
        refine And.intro (fun c24 => ?_) (fun c24 => ?_)
        · replace h := h.1 c24
          refine And.intro sh_l141 ?_
          rw [hr_141_20]
          refine And.intro sh_l141 ?_
          refine And.intro sh_l141 ?_
          refine And.intro (fun c25 => ?_) (fun c25 => ?_)
          · replace h := h.1 c25
            refine And.intro sh_l141 ?_
            refine And.intro sh_l141 ?_
            refine f_M_nameOf_c (d := d)  ?_
            refine ⟨_, rfl, ?_⟩
            obtain ⟨k26, hkk26, hek26, h⟩ := h
            refine And.intro ⟨pm_aw_of sh_l152 hkk26 hek26 (by decide), trivial⟩ ?_
            rw [pm_tn hek26 hkk26 (by decide)]
            refine And.intro sh_l141 ?_
            refine And.intro ⟨sh_l141, trivial⟩ ?_
            obtain ⟨hi27, ehi27⟩ : ∃ m : pm_B, m = pm_u (pm_u hi 152 k26 (10000 + (f_M_nameOf hi (hi 141 15)))) 141 21 (((pm_u hi 152 k26 (10000 + (f_M_nameOf hi (hi 141 15)))) 141 21) + 1) := ⟨_, rfl⟩
            replace h := h hi27 ehi27
            rw [← ehi27]
            refine And.intro sh_l141 ?_
            refine And.intro ⟨sh_l141, trivial⟩ ?_
            refine And.intro sh_l141 ?_
            refine pm_C_imp h (fun v hi28 h => ?_)
            obtain ⟨rfl, h⟩ := h
            refine ⟨rfl, ?_⟩
            refine And.intro sh_l141 ?_
            refine pm_C_imp h (fun v hi29 h => ?_)
            obtain ⟨rfl, h⟩ := h
            refine ⟨rfl, ?_⟩
            refine And.intro (Or.inr rfl) ?_
            exact h
          · replace h := h.2 c25
            refine And.intro sh_l141 ?_
            obtain ⟨k30, hkk30, hek30, h⟩ := h
            refine And.intro ⟨pm_aw_of sh_l152 hkk30 hek30 (by decide), trivial⟩ ?_
            rw [pm_tn hek30 hkk30 (by decide)]
            refine And.intro sh_l141 ?_
            refine And.intro ⟨sh_l141, trivial⟩ ?_
            obtain ⟨hi31, ehi31⟩ : ∃ m : pm_B, m = pm_u (pm_u hi 152 k30 (hi 141 15)) 141 21 (((pm_u hi 152 k30 (hi 141 15)) 141 21) + 1) := ⟨_, rfl⟩
            replace h := h hi31 ehi31
            rw [← ehi31]
            refine And.intro sh_l141 ?_
            refine And.intro ⟨sh_l141, trivial⟩ ?_
            refine And.intro sh_l141 ?_
            refine pm_C_imp h (fun v hi32 h => ?_)
            obtain ⟨rfl, h⟩ := h
            refine ⟨rfl, ?_⟩
            refine And.intro sh_l141 ?_
            refine pm_C_imp h (fun v hi33 h => ?_)
            obtain ⟨rfl, h⟩ := h
            refine ⟨rfl, ?_⟩
            refine And.intro (Or.inr rfl) ?_
            exact h
        · replace h := h.2 c24
          refine And.intro (fun hc => absurd hc (pm_cd_f (by decide))) (fun _ => ?_)
          refine And.intro (Or.inl rfl) ?_
          exact h
      · replace h := h.2 c23
        refine And.intro sh_l141 ?_
        refine And.intro (fun c34 => ?_) (fun c34 => ?_)
        · replace h := h.1 c34
          refine And.intro sh_l141 ?_
          rw [hr_141_20]
          refine And.intro sh_l141 ?_
          refine And.intro sh_l141 ?_
          refine And.intro (fun c35 => ?_) (fun c35 => ?_)
          · replace h := h.1 c35
            refine And.intro sh_l141 ?_
            refine And.intro sh_l141 ?_
            refine f_M_nameOf_c (d := d)  ?_
            refine ⟨_, rfl, ?_⟩
            obtain ⟨k36, hkk36, hek36, h⟩ := h
            refine And.intro ⟨pm_aw_of sh_l152 hkk36 hek36 (by decide), trivial⟩ ?_
            rw [pm_tn hek36 hkk36 (by decide)]
            refine And.intro sh_l141 ?_
            refine And.intro ⟨sh_l141, trivial⟩ ?_
            obtain ⟨hi37, ehi37⟩ : ∃ m : pm_B, m = pm_u (pm_u hi 152 k36 (10000 + (f_M_nameOf hi (hi 141 15)))) 141 21 (((pm_u hi 152 k36 (10000 + (f_M_nameOf hi (hi 141 15)))) 141 21) + 1) := ⟨_, rfl⟩
            replace h := h hi37 ehi37
            rw [← ehi37]
            refine And.intro sh_l141 ?_
            refine And.intro ⟨sh_l141, trivial⟩ ?_
            refine And.intro sh_l141 ?_
            refine pm_C_imp h (fun v hi38 h => ?_)
            obtain ⟨rfl, h⟩ := h
            refine ⟨rfl, ?_⟩
            refine And.intro sh_l141 ?_
            refine pm_C_imp h (fun v hi39 h => ?_)
            obtain ⟨rfl, h⟩ := h
            refine ⟨rfl, ?_⟩
            refine And.intro (Or.inr rfl) ?_
            exact h
          · replace h := h.2 c35
            refine And.intro sh_l141 ?_
            obtain ⟨k40, hkk40, hek40, h⟩ := h
            refine And.intro ⟨pm_aw_of sh_l152 hkk40 hek40 (by decide), trivial⟩ ?_
            rw [pm_tn hek40 hkk40 (by decide)]
            refine And.intro sh_l141 ?_
            refine And.intro ⟨sh_l141, trivial⟩ ?_
            obtain ⟨hi41, ehi41⟩ : ∃ m : pm_B, m = pm_u (pm_u hi 152 k40 (hi 141 15)) 141 21 (((pm_u hi 152 k40 (hi 141 15)) 141 21) + 1) := ⟨_, rfl⟩
            replace h := h hi41 ehi41
            rw [← ehi41]
            refine And.intro sh_l141 ?_
            refine And.intro ⟨sh_l141, trivial⟩ ?_
            refine And.intro sh_l141 ?_
            refine pm_C_imp h (fun v hi42 h => ?_)
            obtain ⟨rfl, h⟩ := h
            refine ⟨rfl, ?_⟩
            refine And.intro sh_l141 ?_
            refine pm_C_imp h (fun v hi43 h => ?_)
            obtain ⟨rfl, h⟩ := h
            refine ⟨rfl, ?_⟩
            refine And.intro (Or.inr rfl) ?_
            exact h
        · replace h := h.2 c34
          refine And.intro (fun _ => ?_) (fun hc => absurd (pm_cd_t (by decide)) hc)
          refine And.intro sh_l141 ?_
          rw [hr_141_20]
          refine And.intro sh_l141 ?_
          refine And.intro sh_l141 ?_
          refine And.intro (fun c44 => ?_) (fun c44 => ?_)
          · replace h := h.1 c44
            refine And.intro sh_l141 ?_
            refine And.intro sh_l141 ?_
            refine f_M_nameOf_c (d := d)  ?_
            refine ⟨_, rfl, ?_⟩
            obtain ⟨k45, hkk45, hek45, h⟩ := h
            refine And.intro ⟨pm_aw_of sh_l152 hkk45 hek45 (by decide), trivial⟩ ?_
            rw [pm_tn hek45 hkk45 (by decide)]
            refine And.intro sh_l141 ?_
            refine And.intro ⟨sh_l141, trivial⟩ ?_
            obtain ⟨hi46, ehi46⟩ : ∃ m : pm_B, m = pm_u (pm_u hi 152 k45 (10000 + (f_M_nameOf hi (hi 141 15)))) 141 21 (((pm_u hi 152 k45 (10000 + (f_M_nameOf hi (hi 141 15)))) 141 21) + 1) := ⟨_, rfl⟩
            replace h := h hi46 ehi46
            rw [← ehi46]
            refine And.intro sh_l141 ?_
            refine And.intro ⟨sh_l141, trivial⟩ ?_
            refine And.intro sh_l141 ?_
            refine pm_C_imp h (fun v hi47 h => ?_)
            obtain ⟨rfl, h⟩ := h
            refine ⟨rfl, ?_⟩
            refine And.intro sh_l141 ?_
            refine pm_C_imp h (fun v hi48 h => ?_)
            obtain ⟨rfl, h⟩ := h
            refine ⟨rfl, ?_⟩
            refine And.intro (Or.inr rfl) ?_
            exact h
          · replace h := h.2 c44
            refine And.intro sh_l141 ?_
            obtain ⟨k49, hkk49, hek49, h⟩ := h
            refine And.intro ⟨pm_aw_of sh_l152 hkk49 hek49 (by decide), trivial⟩ ?_
            rw [pm_tn hek49 hkk49 (by decide)]
            refine And.intro sh_l141 ?_
            refine And.intro ⟨sh_l141, trivial⟩ ?_
            obtain ⟨hi50, ehi50⟩ : ∃ m : pm_B, m = pm_u (pm_u hi 152 k49 (hi 141 15)) 141 21 (((pm_u hi 152 k49 (hi 141 15)) 141 21) + 1) := ⟨_, rfl⟩
            replace h := h hi50 ehi50
            rw [← ehi50]
            refine And.intro sh_l141 ?_
            refine And.intro ⟨sh_l141, trivial⟩ ?_
            refine And.intro sh_l141 ?_
            refine pm_C_imp h (fun v hi51 h => ?_)
            obtain ⟨rfl, h⟩ := h
            refine ⟨rfl, ?_⟩
            refine And.intro sh_l141 ?_
            refine pm_C_imp h (fun v hi52 h => ?_)
            obtain ⟨rfl, h⟩ := h
            refine ⟨rfl, ?_⟩
            refine And.intro (Or.inr rfl) ?_
            exact h
theorem v_M_takesE {L d : Nat}  {hi : pm_B} {Q : pm_Q} (h : ∀ hi1 : pm_B, hi1 = pm_u (pm_u hi 141 21 0) 141 22 0 → (∀ hi2 : pm_B, hi2 = pm_u (pm_u hi1 141 24 0) 154 0 0 → (pm_W pm_g (SH L) HR (d + 1) pm_t207 28 [some (.inr 141), some (.inl 0), some (.inl 0), some (.inl 1), none] [] hi2 Q))) : pm_C pm_g (SH L) HR (d + 2) m_M_takesE [.inr 141] hi Q := by
  refine pm_C_of (maxL := 5) (t := pm_t207) rfl (Nat.le_of_ble_eq_true rfl) ?_
  refine pm_W_of 22 [28] rfl ?_
  refine And.intro ⟨sh_l141, trivial⟩ ?_
  refine And.intro ⟨sh_l141, trivial⟩ ?_
  obtain ⟨hi1, ehi1⟩ : ∃ m : pm_B, m = pm_u (pm_u hi 141 21 0) 141 22 0 := ⟨_, rfl⟩
  replace h := h hi1 ehi1
  rw [← ehi1]
  refine And.intro ⟨sh_l141, trivial⟩ ?_
  refine And.intro sh_l141 ?_
  rw [hr_141_25]
  refine And.intro ⟨pm_aw_of sh_l154 (by decide : 0 < 10) (rfl : (0 : Int32) = nI 0) (by decide), (Or.inl rfl)⟩ ?_
  rw [pm_tn (rfl : (0 : Int32) = nI 0) (by decide : 0 < 10) (by decide)]
  obtain ⟨hi2, ehi2⟩ : ∃ m : pm_B, m = pm_u (pm_u hi1 141 24 0) 154 0 0 := ⟨_, rfl⟩
  replace h := h hi2 ehi2
  rw [← ehi2]
  exact h
theorem v_M_takesE_28 {L d : Nat} {o4 : Option pm_V} {y1 : Int32} {y2 : Int32} {y3 : Int32} {hi : pm_B} {Q : pm_Q} (h : ((¬ y3 = 0) → ((y3 = 0) → ((¬ (hi 141 14) = 3) → (((f_M_signHere hi ) = 0) → Q (some (.inl 0)) hi) ∧ ((¬ ((f_M_signHere hi ) = 0)) → ((¬ (f_M_rank (f_M_signHere hi )) = 3) → (((f_M_rank (f_M_signHere hi )) = 3) → ∃ k7 : Nat, k7 < 10 ∧ y1 = nI k7 ∧ (pm_C pm_g (SH L) HR (d + 1) m_M_settle [.inr 141, .inl (f_M_rank (f_M_signHere hi ))] (pm_u hi 154 k7 1) (fun v hi8 => v = none ∧ (∃ k9 : Nat, k9 < 96 ∧ (hi8 141 24) = nI k9 ∧ (∀ hi10 : pm_B, hi10 = pm_u (pm_u hi8 153 k9 (f_M_signHere hi )) 141 24 (((pm_u hi8 153 k9 (f_M_signHere hi )) 141 24) + 1) → (pm_C pm_g (SH L) HR (d + 1) m_M_go [.inr 141] hi10 (fun v hi11 => v = none ∧ (pm_W pm_g (SH L) HR (d + 1) pm_t207 28 [some (.inr 141), some (.inl y1), some (.inl y2), some (.inl 1), some (.inl (f_M_signHere hi ))] [] hi11 Q)))))))) ∧ ((¬ ((f_M_rank (f_M_signHere hi )) = 3)) → (((f_M_rank (f_M_signHere hi )) ≤ 3) → ∃ k13 : Nat, k13 < 10 ∧ y1 = nI k13 ∧ (pm_C pm_g (SH L) HR (d + 1) m_M_settle [.inr 141, .inl (f_M_rank (f_M_signHere hi ))] (pm_u hi 154 k13 0) (fun v hi14 => v = none ∧ (∃ k15 : Nat, k15 < 96 ∧ (hi14 141 24) = nI k15 ∧ (∀ hi16 : pm_B, hi16 = pm_u (pm_u hi14 153 k15 (f_M_signHere hi )) 141 24 (((pm_u hi14 153 k15 (f_M_signHere hi )) 141 24) + 1) → (pm_C pm_g (SH L) HR (d + 1) m_M_go [.inr 141] hi16 (fun v hi17 => v = none ∧ (pm_W pm_g (SH L) HR (d + 1) pm_t207 28 [some (.inr 141), some (.inl y1), some (.inl y2), some (.inl 1), some (.inl (f_M_signHere hi ))] [] hi17 Q)))))))) ∧ ((¬ ((f_M_rank (f_M_signHere hi )) ≤ 3)) → ∃ k18 : Nat, k18 < 10 ∧ y1 = nI k18 ∧ ((((hi 154 k18) = 0) → ∃ k20 : Nat, k20 < 10 ∧ y1 = nI k20 ∧ (pm_C pm_g (SH L) HR (d + 1) m_M_settle [.inr 141, .inl (f_M_rank (f_M_signHere hi ))] (pm_u hi 154 k20 0) (fun v hi21 => v = none ∧ (∃ k22 : Nat, k22 < 96 ∧ (hi21 141 24) = nI k22 ∧ (∀ hi23 : pm_B, hi23 = pm_u (pm_u hi21 153 k22 (f_M_signHere hi )) 141 24 (((pm_u hi21 153 k22 (f_M_signHere hi )) 141 24) + 1) → (pm_C pm_g (SH L) HR (d + 1) m_M_go [.inr 141] hi23 (fun v hi24 => v = none ∧ (pm_W pm_g (SH L) HR (d + 1) pm_t207 28 [some (.inr 141), some (.inl y1), some (.inl y2), some (.inl 1), some (.inl (f_M_signHere hi ))] [] hi24 Q)))))))) ∧ ((¬ ((hi 154 k18) = 0)) → ∃ k25 : Nat, k25 < 10 ∧ y1 = nI k25 ∧ (pm_C pm_g (SH L) HR (d + 1) m_M_settle [.inr 141, .inl (f_M_rank (f_M_signHere hi ))] (pm_u hi 154 k25 1) (fun v hi26 => v = none ∧ (∃ k27 : Nat, k27 < 96 ∧ (hi26 141 24) = nI k27 ∧ (∀ hi28 : pm_B, hi28 = pm_u (pm_u hi26 153 k27 (f_M_signHere hi )) 141 24 (((pm_u hi26 153 k27 (f_M_signHere hi )) 141 24) + 1) → (pm_C pm_g (SH L) HR (d + 1) m_M_go [.inr 141] hi28 (fun v hi29 => v = none ∧ (pm_W pm_g (SH L) HR (d + 1) pm_t207 28 [some (.inr 141), some (.inl y1), some (.inl y2), some (.inl 1), some (.inl (f_M_signHere hi ))] [] hi29 Q)))))))))))) ∧ ((¬ (¬ (f_M_rank (f_M_signHere hi )) = 3)) → ∃ k30 : Nat, k30 < 10 ∧ y1 = nI k30 ∧ ((((hi 154 k30) = 0) → (((f_M_rank (f_M_signHere hi )) = 3) → ∃ k33 : Nat, k33 < 10 ∧ y1 = nI k33 ∧ (pm_C pm_g (SH L) HR (d + 1) m_M_settle [.inr 141, .inl (f_M_rank (f_M_signHere hi ))] (pm_u hi 154 k33 1) (fun v hi34 => v = none ∧ (∃ k35 : Nat, k35 < 96 ∧ (hi34 141 24) = nI k35 ∧ (∀ hi36 : pm_B, hi36 = pm_u (pm_u hi34 153 k35 (f_M_signHere hi )) 141 24 (((pm_u hi34 153 k35 (f_M_signHere hi )) 141 24) + 1) → (pm_C pm_g (SH L) HR (d + 1) m_M_go [.inr 141] hi36 (fun v hi37 => v = none ∧ (pm_W pm_g (SH L) HR (d + 1) pm_t207 28 [some (.inr 141), some (.inl y1), some (.inl y2), some (.inl 1), some (.inl (f_M_signHere hi ))] [] hi37 Q)))))))) ∧ ((¬ ((f_M_rank (f_M_signHere hi )) = 3)) → (((f_M_rank (f_M_signHere hi )) ≤ 3) → ∃ k39 : Nat, k39 < 10 ∧ y1 = nI k39 ∧ (pm_C pm_g (SH L) HR (d + 1) m_M_settle [.inr 141, .inl (f_M_rank (f_M_signHere hi ))] (pm_u hi 154 k39 0) (fun v hi40 => v = none ∧ (∃ k41 : Nat, k41 < 96 ∧ (hi40 141 24) = nI k41 ∧ (∀ hi42 : pm_B, hi42 = pm_u (pm_u hi40 153 k41 (f_M_signHere hi )) 141 24 (((pm_u hi40 153 k41 (f_M_signHere hi )) 141 24) + 1) → (pm_C pm_g (SH L) HR (d + 1) m_M_go [.inr 141] hi42 (fun v hi43 => v = none ∧ (pm_W pm_g (SH L) HR (d + 1) pm_t207 28 [some (.inr 141), some (.inl y1), some (.inl y2), some (.inl 1), some (.inl (f_M_signHere hi ))] [] hi43 Q)))))))) ∧ ((¬ ((f_M_rank (f_M_signHere hi )) ≤ 3)) → ∃ k44 : Nat, k44 < 10 ∧ y1 = nI k44 ∧ ((((hi 154 k44) = 0) → ∃ k46 : Nat, k46 < 10 ∧ y1 = nI k46 ∧ (pm_C pm_g (SH L) HR (d + 1) m_M_settle [.inr 141, .inl (f_M_rank (f_M_signHere hi ))] (pm_u hi 154 k46 0) (fun v hi47 => v = none ∧ (∃ k48 : Nat, k48 < 96 ∧ (hi47 141 24) = nI k48 ∧ (∀ hi49 : pm_B, hi49 = pm_u (pm_u hi47 153 k48 (f_M_signHere hi )) 141 24 (((pm_u hi47 153 k48 (f_M_signHere hi )) 141 24) + 1) → (pm_C pm_g (SH L) HR (d + 1) m_M_go [.inr 141] hi49 (fun v hi50 => v = none ∧ (pm_W pm_g (SH L) HR (d + 1) pm_t207 28 [some (.inr 141), some (.inl y1), some (.inl y2), some (.inl 1), some (.inl (f_M_signHere hi ))] [] hi50 Q)))))))) ∧ ((¬ ((hi 154 k44) = 0)) → ∃ k51 : Nat, k51 < 10 ∧ y1 = nI k51 ∧ (pm_C pm_g (SH L) HR (d + 1) m_M_settle [.inr 141, .inl (f_M_rank (f_M_signHere hi ))] (pm_u hi 154 k51 1) (fun v hi52 => v = none ∧ (∃ k53 : Nat, k53 < 96 ∧ (hi52 141 24) = nI k53 ∧ (∀ hi54 : pm_B, hi54 = pm_u (pm_u hi52 153 k53 (f_M_signHere hi )) 141 24 (((pm_u hi52 153 k53 (f_M_signHere hi )) 141 24) + 1) → (pm_C pm_g (SH L) HR (d + 1) m_M_go [.inr 141] hi54 (fun v hi55 => v = none ∧ (pm_W pm_g (SH L) HR (d + 1) pm_t207 28 [some (.inr 141), some (.inl y1), some (.inl y2), some (.inl 1), some (.inl (f_M_signHere hi ))] [] hi55 Q)))))))))))) ∧ ((¬ ((hi 154 k30) = 0)) → Q (some (.inl 0)) hi))))) ∧ ((¬ (¬ (hi 141 14) = 3)) → ((¬ (hi 141 15) = 41) → (((f_M_signHere hi ) = 0) → Q (some (.inl 0)) hi) ∧ ((¬ ((f_M_signHere hi ) = 0)) → ((¬ (f_M_rank (f_M_signHere hi )) = 3) → (((f_M_rank (f_M_signHere hi )) = 3) → ∃ k60 : Nat, k60 < 10 ∧ y1 = nI k60 ∧ (pm_C pm_g (SH L) HR (d + 1) m_M_settle [.inr 141, .inl (f_M_rank (f_M_signHere hi ))] (pm_u hi 154 k60 1) (fun v hi61 => v = none ∧ (∃ k62 : Nat, k62 < 96 ∧ (hi61 141 24) = nI k62 ∧ (∀ hi63 : pm_B, hi63 = pm_u (pm_u hi61 153 k62 (f_M_signHere hi )) 141 24 (((pm_u hi61 153 k62 (f_M_signHere hi )) 141 24) + 1) → (pm_C pm_g (SH L) HR (d + 1) m_M_go [.inr 141] hi63 (fun v hi64 => v = none ∧ (pm_W pm_g (SH L) HR (d + 1) pm_t207 28 [some (.inr 141), some (.inl y1), some (.inl y2), some (.inl 1), some (.inl (f_M_signHere hi ))] [] hi64 Q)))))))) ∧ ((¬ ((f_M_rank (f_M_signHere hi )) = 3)) → (((f_M_rank (f_M_signHere hi )) ≤ 3) → ∃ k66 : Nat, k66 < 10 ∧ y1 = nI k66 ∧ (pm_C pm_g (SH L) HR (d + 1) m_M_settle [.inr 141, .inl (f_M_rank (f_M_signHere hi ))] (pm_u hi 154 k66 0) (fun v hi67 => v = none ∧ (∃ k68 : Nat, k68 < 96 ∧ (hi67 141 24) = nI k68 ∧ (∀ hi69 : pm_B, hi69 = pm_u (pm_u hi67 153 k68 (f_M_signHere hi )) 141 24 (((pm_u hi67 153 k68 (f_M_signHere hi )) 141 24) + 1) → (pm_C pm_g (SH L) HR (d + 1) m_M_go [.inr 141] hi69 (fun v hi70 => v = none ∧ (pm_W pm_g (SH L) HR (d + 1) pm_t207 28 [some (.inr 141), some (.inl y1), some (.inl y2), some (.inl 1), some (.inl (f_M_signHere hi ))] [] hi70 Q)))))))) ∧ ((¬ ((f_M_rank (f_M_signHere hi )) ≤ 3)) → ∃ k71 : Nat, k71 < 10 ∧ y1 = nI k71 ∧ ((((hi 154 k71) = 0) → ∃ k73 : Nat, k73 < 10 ∧ y1 = nI k73 ∧ (pm_C pm_g (SH L) HR (d + 1) m_M_settle [.inr 141, .inl (f_M_rank (f_M_signHere hi ))] (pm_u hi 154 k73 0) (fun v hi74 => v = none ∧ (∃ k75 : Nat, k75 < 96 ∧ (hi74 141 24) = nI k75 ∧ (∀ hi76 : pm_B, hi76 = pm_u (pm_u hi74 153 k75 (f_M_signHere hi )) 141 24 (((pm_u hi74 153 k75 (f_M_signHere hi )) 141 24) + 1) → (pm_C pm_g (SH L) HR (d + 1) m_M_go [.inr 141] hi76 (fun v hi77 => v = none ∧ (pm_W pm_g (SH L) HR (d + 1) pm_t207 28 [some (.inr 141), some (.inl y1), some (.inl y2), some (.inl 1), some (.inl (f_M_signHere hi ))] [] hi77 Q)))))))) ∧ ((¬ ((hi 154 k71) = 0)) → ∃ k78 : Nat, k78 < 10 ∧ y1 = nI k78 ∧ (pm_C pm_g (SH L) HR (d + 1) m_M_settle [.inr 141, .inl (f_M_rank (f_M_signHere hi ))] (pm_u hi 154 k78 1) (fun v hi79 => v = none ∧ (∃ k80 : Nat, k80 < 96 ∧ (hi79 141 24) = nI k80 ∧ (∀ hi81 : pm_B, hi81 = pm_u (pm_u hi79 153 k80 (f_M_signHere hi )) 141 24 (((pm_u hi79 153 k80 (f_M_signHere hi )) 141 24) + 1) → (pm_C pm_g (SH L) HR (d + 1) m_M_go [.inr 141] hi81 (fun v hi82 => v = none ∧ (pm_W pm_g (SH L) HR (d + 1) pm_t207 28 [some (.inr 141), some (.inl y1), some (.inl y2), some (.inl 1), some (.inl (f_M_signHere hi ))] [] hi82 Q)))))))))))) ∧ ((¬ (¬ (f_M_rank (f_M_signHere hi )) = 3)) → ∃ k83 : Nat, k83 < 10 ∧ y1 = nI k83 ∧ ((((hi 154 k83) = 0) → (((f_M_rank (f_M_signHere hi )) = 3) → ∃ k86 : Nat, k86 < 10 ∧ y1 = nI k86 ∧ (pm_C pm_g (SH L) HR (d + 1) m_M_settle [.inr 141, .inl (f_M_rank (f_M_signHere hi ))] (pm_u hi 154 k86 1) (fun v hi87 => v = none ∧ (∃ k88 : Nat, k88 < 96 ∧ (hi87 141 24) = nI k88 ∧ (∀ hi89 : pm_B, hi89 = pm_u (pm_u hi87 153 k88 (f_M_signHere hi )) 141 24 (((pm_u hi87 153 k88 (f_M_signHere hi )) 141 24) + 1) → (pm_C pm_g (SH L) HR (d + 1) m_M_go [.inr 141] hi89 (fun v hi90 => v = none ∧ (pm_W pm_g (SH L) HR (d + 1) pm_t207 28 [some (.inr 141), some (.inl y1), some (.inl y2), some (.inl 1), some (.inl (f_M_signHere hi ))] [] hi90 Q)))))))) ∧ ((¬ ((f_M_rank (f_M_signHere hi )) = 3)) → (((f_M_rank (f_M_signHere hi )) ≤ 3) → ∃ k92 : Nat, k92 < 10 ∧ y1 = nI k92 ∧ (pm_C pm_g (SH L) HR (d + 1) m_M_settle [.inr 141, .inl (f_M_rank (f_M_signHere hi ))] (pm_u hi 154 k92 0) (fun v hi93 => v = none ∧ (∃ k94 : Nat, k94 < 96 ∧ (hi93 141 24) = nI k94 ∧ (∀ hi95 : pm_B, hi95 = pm_u (pm_u hi93 153 k94 (f_M_signHere hi )) 141 24 (((pm_u hi93 153 k94 (f_M_signHere hi )) 141 24) + 1) → (pm_C pm_g (SH L) HR (d + 1) m_M_go [.inr 141] hi95 (fun v hi96 => v = none ∧ (pm_W pm_g (SH L) HR (d + 1) pm_t207 28 [some (.inr 141), some (.inl y1), some (.inl y2), some (.inl 1), some (.inl (f_M_signHere hi ))] [] hi96 Q)))))))) ∧ ((¬ ((f_M_rank (f_M_signHere hi )) ≤ 3)) → ∃ k97 : Nat, k97 < 10 ∧ y1 = nI k97 ∧ ((((hi 154 k97) = 0) → ∃ k99 : Nat, k99 < 10 ∧ y1 = nI k99 ∧ (pm_C pm_g (SH L) HR (d + 1) m_M_settle [.inr 141, .inl (f_M_rank (f_M_signHere hi ))] (pm_u hi 154 k99 0) (fun v hi100 => v = none ∧ (∃ k101 : Nat, k101 < 96 ∧ (hi100 141 24) = nI k101 ∧ (∀ hi102 : pm_B, hi102 = pm_u (pm_u hi100 153 k101 (f_M_signHere hi )) 141 24 (((pm_u hi100 153 k101 (f_M_signHere hi )) 141 24) + 1) → (pm_C pm_g (SH L) HR (d + 1) m_M_go [.inr 141] hi102 (fun v hi103 => v = none ∧ (pm_W pm_g (SH L) HR (d + 1) pm_t207 28 [some (.inr 141), some (.inl y1), some (.inl y2), some (.inl 1), some (.inl (f_M_signHere hi ))] [] hi103 Q)))))))) ∧ ((¬ ((hi 154 k97) = 0)) → ∃ k104 : Nat, k104 < 10 ∧ y1 = nI k104 ∧ (pm_C pm_g (SH L) HR (d + 1) m_M_settle [.inr 141, .inl (f_M_rank (f_M_signHere hi ))] (pm_u hi 154 k104 1) (fun v hi105 => v = none ∧ (∃ k106 : Nat, k106 < 96 ∧ (hi105 141 24) = nI k106 ∧ (∀ hi107 : pm_B, hi107 = pm_u (pm_u hi105 153 k106 (f_M_signHere hi )) 141 24 (((pm_u hi105 153 k106 (f_M_signHere hi )) 141 24) + 1) → (pm_C pm_g (SH L) HR (d + 1) m_M_go [.inr 141] hi107 (fun v hi108 => v = none ∧ (pm_W pm_g (SH L) HR (d + 1) pm_t207 28 [some (.inr 141), some (.inl y1), some (.inl y2), some (.inl 1), some (.inl (f_M_signHere hi ))] [] hi108 Q)))))))))))) ∧ ((¬ ((hi 154 k83) = 0)) → Q (some (.inl 0)) hi))))) ∧ ((¬ (¬ (hi 141 15) = 41)) → ((y1 ≤ 0) → (((f_M_signHere hi ) = 0) → Q (some (.inl 0)) hi) ∧ ((¬ ((f_M_signHere hi ) = 0)) → ((¬ (f_M_rank (f_M_signHere hi )) = 3) → (((f_M_rank (f_M_signHere hi )) = 3) → ∃ k113 : Nat, k113 < 10 ∧ y1 = nI k113 ∧ (pm_C pm_g (SH L) HR (d + 1) m_M_settle [.inr 141, .inl (f_M_rank (f_M_signHere hi ))] (pm_u hi 154 k113 1) (fun v hi114 => v = none ∧ (∃ k115 : Nat, k115 < 96 ∧ (hi114 141 24) = nI k115 ∧ (∀ hi116 : pm_B, hi116 = pm_u (pm_u hi114 153 k115 (f_M_signHere hi )) 141 24 (((pm_u hi114 153 k115 (f_M_signHere hi )) 141 24) + 1) → (pm_C pm_g (SH L) HR (d + 1) m_M_go [.inr 141] hi116 (fun v hi117 => v = none ∧ (pm_W pm_g (SH L) HR (d + 1) pm_t207 28 [some (.inr 141), some (.inl y1), some (.inl y2), some (.inl 1), some (.inl (f_M_signHere hi ))] [] hi117 Q)))))))) ∧ ((¬ ((f_M_rank (f_M_signHere hi )) = 3)) → (((f_M_rank (f_M_signHere hi )) ≤ 3) → ∃ k119 : Nat, k119 < 10 ∧ y1 = nI k119 ∧ (pm_C pm_g (SH L) HR (d + 1) m_M_settle [.inr 141, .inl (f_M_rank (f_M_signHere hi ))] (pm_u hi 154 k119 0) (fun v hi120 => v = none ∧ (∃ k121 : Nat, k121 < 96 ∧ (hi120 141 24) = nI k121 ∧ (∀ hi122 : pm_B, hi122 = pm_u (pm_u hi120 153 k121 (f_M_signHere hi )) 141 24 (((pm_u hi120 153 k121 (f_M_signHere hi )) 141 24) + 1) → (pm_C pm_g (SH L) HR (d + 1) m_M_go [.inr 141] hi122 (fun v hi123 => v = none ∧ (pm_W pm_g (SH L) HR (d + 1) pm_t207 28 [some (.inr 141), some (.inl y1), some (.inl y2), some (.inl 1), some (.inl (f_M_signHere hi ))] [] hi123 Q)))))))) ∧ ((¬ ((f_M_rank (f_M_signHere hi )) ≤ 3)) → ∃ k124 : Nat, k124 < 10 ∧ y1 = nI k124 ∧ ((((hi 154 k124) = 0) → ∃ k126 : Nat, k126 < 10 ∧ y1 = nI k126 ∧ (pm_C pm_g (SH L) HR (d + 1) m_M_settle [.inr 141, .inl (f_M_rank (f_M_signHere hi ))] (pm_u hi 154 k126 0) (fun v hi127 => v = none ∧ (∃ k128 : Nat, k128 < 96 ∧ (hi127 141 24) = nI k128 ∧ (∀ hi129 : pm_B, hi129 = pm_u (pm_u hi127 153 k128 (f_M_signHere hi )) 141 24 (((pm_u hi127 153 k128 (f_M_signHere hi )) 141 24) + 1) → (pm_C pm_g (SH L) HR (d + 1) m_M_go [.inr 141] hi129 (fun v hi130 => v = none ∧ (pm_W pm_g (SH L) HR (d + 1) pm_t207 28 [some (.inr 141), some (.inl y1), some (.inl y2), some (.inl 1), some (.inl (f_M_signHere hi ))] [] hi130 Q)))))))) ∧ ((¬ ((hi 154 k124) = 0)) → ∃ k131 : Nat, k131 < 10 ∧ y1 = nI k131 ∧ (pm_C pm_g (SH L) HR (d + 1) m_M_settle [.inr 141, .inl (f_M_rank (f_M_signHere hi ))] (pm_u hi 154 k131 1) (fun v hi132 => v = none ∧ (∃ k133 : Nat, k133 < 96 ∧ (hi132 141 24) = nI k133 ∧ (∀ hi134 : pm_B, hi134 = pm_u (pm_u hi132 153 k133 (f_M_signHere hi )) 141 24 (((pm_u hi132 153 k133 (f_M_signHere hi )) 141 24) + 1) → (pm_C pm_g (SH L) HR (d + 1) m_M_go [.inr 141] hi134 (fun v hi135 => v = none ∧ (pm_W pm_g (SH L) HR (d + 1) pm_t207 28 [some (.inr 141), some (.inl y1), some (.inl y2), some (.inl 1), some (.inl (f_M_signHere hi ))] [] hi135 Q)))))))))))) ∧ ((¬ (¬ (f_M_rank (f_M_signHere hi )) = 3)) → ∃ k136 : Nat, k136 < 10 ∧ y1 = nI k136 ∧ ((((hi 154 k136) = 0) → (((f_M_rank (f_M_signHere hi )) = 3) → ∃ k139 : Nat, k139 < 10 ∧ y1 = nI k139 ∧ (pm_C pm_g (SH L) HR (d + 1) m_M_settle [.inr 141, .inl (f_M_rank (f_M_signHere hi ))] (pm_u hi 154 k139 1) (fun v hi140 => v = none ∧ (∃ k141 : Nat, k141 < 96 ∧ (hi140 141 24) = nI k141 ∧ (∀ hi142 : pm_B, hi142 = pm_u (pm_u hi140 153 k141 (f_M_signHere hi )) 141 24 (((pm_u hi140 153 k141 (f_M_signHere hi )) 141 24) + 1) → (pm_C pm_g (SH L) HR (d + 1) m_M_go [.inr 141] hi142 (fun v hi143 => v = none ∧ (pm_W pm_g (SH L) HR (d + 1) pm_t207 28 [some (.inr 141), some (.inl y1), some (.inl y2), some (.inl 1), some (.inl (f_M_signHere hi ))] [] hi143 Q)))))))) ∧ ((¬ ((f_M_rank (f_M_signHere hi )) = 3)) → (((f_M_rank (f_M_signHere hi )) ≤ 3) → ∃ k145 : Nat, k145 < 10 ∧ y1 = nI k145 ∧ (pm_C pm_g (SH L) HR (d + 1) m_M_settle [.inr 141, .inl (f_M_rank (f_M_signHere hi ))] (pm_u hi 154 k145 0) (fun v hi146 => v = none ∧ (∃ k147 : Nat, k147 < 96 ∧ (hi146 141 24) = nI k147 ∧ (∀ hi148 : pm_B, hi148 = pm_u (pm_u hi146 153 k147 (f_M_signHere hi )) 141 24 (((pm_u hi146 153 k147 (f_M_signHere hi )) 141 24) + 1) → (pm_C pm_g (SH L) HR (d + 1) m_M_go [.inr 141] hi148 (fun v hi149 => v = none ∧ (pm_W pm_g (SH L) HR (d + 1) pm_t207 28 [some (.inr 141), some (.inl y1), some (.inl y2), some (.inl 1), some (.inl (f_M_signHere hi ))] [] hi149 Q)))))))) ∧ ((¬ ((f_M_rank (f_M_signHere hi )) ≤ 3)) → ∃ k150 : Nat, k150 < 10 ∧ y1 = nI k150 ∧ ((((hi 154 k150) = 0) → ∃ k152 : Nat, k152 < 10 ∧ y1 = nI k152 ∧ (pm_C pm_g (SH L) HR (d + 1) m_M_settle [.inr 141, .inl (f_M_rank (f_M_signHere hi ))] (pm_u hi 154 k152 0) (fun v hi153 => v = none ∧ (∃ k154 : Nat, k154 < 96 ∧ (hi153 141 24) = nI k154 ∧ (∀ hi155 : pm_B, hi155 = pm_u (pm_u hi153 153 k154 (f_M_signHere hi )) 141 24 (((pm_u hi153 153 k154 (f_M_signHere hi )) 141 24) + 1) → (pm_C pm_g (SH L) HR (d + 1) m_M_go [.inr 141] hi155 (fun v hi156 => v = none ∧ (pm_W pm_g (SH L) HR (d + 1) pm_t207 28 [some (.inr 141), some (.inl y1), some (.inl y2), some (.inl 1), some (.inl (f_M_signHere hi ))] [] hi156 Q)))))))) ∧ ((¬ ((hi 154 k150) = 0)) → ∃ k157 : Nat, k157 < 10 ∧ y1 = nI k157 ∧ (pm_C pm_g (SH L) HR (d + 1) m_M_settle [.inr 141, .inl (f_M_rank (f_M_signHere hi ))] (pm_u hi 154 k157 1) (fun v hi158 => v = none ∧ (∃ k159 : Nat, k159 < 96 ∧ (hi158 141 24) = nI k159 ∧ (∀ hi160 : pm_B, hi160 = pm_u (pm_u hi158 153 k159 (f_M_signHere hi )) 141 24 (((pm_u hi158 153 k159 (f_M_signHere hi )) 141 24) + 1) → (pm_C pm_g (SH L) HR (d + 1) m_M_go [.inr 141] hi160 (fun v hi161 => v = none ∧ (pm_W pm_g (SH L) HR (d + 1) pm_t207 28 [some (.inr 141), some (.inl y1), some (.inl y2), some (.inl 1), some (.inl (f_M_signHere hi ))] [] hi161 Q)))))))))))) ∧ ((¬ ((hi 154 k136) = 0)) → Q (some (.inl 0)) hi))))) ∧ ((¬ (y1 ≤ 0)) → pm_C pm_g (SH L) HR (d + 1) m_M_settle [.inr 141, .inl 0] hi (fun v hi162 => v = none ∧ (pm_C pm_g (SH L) HR (d + 1) m_M_settle [.inr 141, .inl 6] (pm_u hi162 141 24 ((hi162 141 24) - 1)) (fun v hi163 => v = none ∧ (pm_C pm_g (SH L) HR (d + 1) m_M_notsOpen [.inr 141] hi163 (fun v hi164 => ∃ x165 : Int32, v = some (.inl x165) ∧ (pm_C pm_g (SH L) HR (d + 1) m_M_go [.inr 141] hi164 (fun v hi166 => v = none ∧ (pm_W pm_g (SH L) HR (d + 1) pm_t207 28 [some (.inr 141), some (.inl (y1 + (-1))), some (.inl x165), some (.inl y3), o4] [] hi166 Q)))))))))))) ∧ ((¬ (y3 = 0)) → ((¬ (hi 141 14) = 3) → ((¬ (hi 141 14) = 3) → pm_C pm_g (SH L) HR (d + 1) m_M_takesPart [.inr 141] hi (fun v hi169 => ∃ x170 : Int32, v = some (.inl x170) ∧ (((x170 = 0) → Q (some (.inl 0)) hi169) ∧ ((¬ (x170 = 0)) → pm_C pm_g (SH L) HR (d + 1) m_M_notsOpen [.inr 141] hi169 (fun v hi172 => ∃ x173 : Int32, v = some (.inl x173) ∧ (pm_W pm_g (SH L) HR (d + 1) pm_t207 28 [some (.inr 141), some (.inl y1), some (.inl x173), some (.inl 0), o4] [] hi172 Q)))))) ∧ ((¬ (¬ (hi 141 14) = 3)) → ((¬ (hi 141 15) = 40) → pm_C pm_g (SH L) HR (d + 1) m_M_takesPart [.inr 141] hi (fun v hi175 => ∃ x176 : Int32, v = some (.inl x176) ∧ (((x176 = 0) → Q (some (.inl 0)) hi175) ∧ ((¬ (x176 = 0)) → pm_C pm_g (SH L) HR (d + 1) m_M_notsOpen [.inr 141] hi175 (fun v hi178 => ∃ x179 : Int32, v = some (.inl x179) ∧ (pm_W pm_g (SH L) HR (d + 1) pm_t207 28 [some (.inr 141), some (.inl y1), some (.inl x179), some (.inl 0), o4] [] hi178 Q)))))) ∧ ((¬ (¬ (hi 141 15) = 40)) → ((8 ≤ y1) → pm_C pm_g (SH L) HR (d + 1) m_M_takesPart [.inr 141] hi (fun v hi181 => ∃ x182 : Int32, v = some (.inl x182) ∧ (((x182 = 0) → Q (some (.inl 0)) hi181) ∧ ((¬ (x182 = 0)) → pm_C pm_g (SH L) HR (d + 1) m_M_notsOpen [.inr 141] hi181 (fun v hi184 => ∃ x185 : Int32, v = some (.inl x185) ∧ (pm_W pm_g (SH L) HR (d + 1) pm_t207 28 [some (.inr 141), some (.inl y1), some (.inl x185), some (.inl 0), o4] [] hi184 Q)))))) ∧ ((¬ (8 ≤ y1)) → ∃ k186 : Nat, k186 < 96 ∧ (hi 141 24) = nI k186 ∧ (∀ hi187 : pm_B, hi187 = pm_u (pm_u hi 153 k186 (-11)) 141 24 (((pm_u hi 153 k186 (-11)) 141 24) + 1) → (∃ k188 : Nat, k188 < 10 ∧ (y1 + 1) = nI k188 ∧ (pm_C pm_g (SH L) HR (d + 1) m_M_go [.inr 141] (pm_u hi187 154 k188 0) (fun v hi189 => v = none ∧ (pm_C pm_g (SH L) HR (d + 1) m_M_notsOpen [.inr 141] hi189 (fun v hi190 => ∃ x191 : Int32, v = some (.inl x191) ∧ (pm_W pm_g (SH L) HR (d + 1) pm_t207 28 [some (.inr 141), some (.inl (y1 + 1)), some (.inl x191), some (.inl y3), o4] [] hi190 Q))))))))))) ∧ ((¬ (¬ (hi 141 14) = 3)) → ((¬ (hi 141 15) = 33) → ((¬ (hi 141 14) = 3) → pm_C pm_g (SH L) HR (d + 1) m_M_takesPart [.inr 141] hi (fun v hi194 => ∃ x195 : Int32, v = some (.inl x195) ∧ (((x195 = 0) → Q (some (.inl 0)) hi194) ∧ ((¬ (x195 = 0)) → pm_C pm_g (SH L) HR (d + 1) m_M_notsOpen [.inr 141] hi194 (fun v hi197 => ∃ x198 : Int32, v = some (.inl x198) ∧ (pm_W pm_g (SH L) HR (d + 1) pm_t207 28 [some (.inr 141), some (.inl y1), some (.inl x198), some (.inl 0), o4] [] hi197 Q)))))) ∧ ((¬ (¬ (hi 141 14) = 3)) → ((¬ (hi 141 15) = 40) → pm_C pm_g (SH L) HR (d + 1) m_M_takesPart [.inr 141] hi (fun v hi200 => ∃ x201 : Int32, v = some (.inl x201) ∧ (((x201 = 0) → Q (some (.inl 0)) hi200) ∧ ((¬ (x201 = 0)) → pm_C pm_g (SH L) HR (d + 1) m_M_notsOpen [.inr 141] hi200 (fun v hi203 => ∃ x204 : Int32, v = some (.inl x204) ∧ (pm_W pm_g (SH L) HR (d + 1) pm_t207 28 [some (.inr 141), some (.inl y1), some (.inl x204), some (.inl 0), o4] [] hi203 Q)))))) ∧ ((¬ (¬ (hi 141 15) = 40)) → ((8 ≤ y1) → pm_C pm_g (SH L) HR (d + 1) m_M_takesPart [.inr 141] hi (fun v hi206 => ∃ x207 : Int32, v = some (.inl x207) ∧ (((x207 = 0) → Q (some (.inl 0)) hi206) ∧ ((¬ (x207 = 0)) → pm_C pm_g (SH L) HR (d + 1) m_M_notsOpen [.inr 141] hi206 (fun v hi209 => ∃ x210 : Int32, v = some (.inl x210) ∧ (pm_W pm_g (SH L) HR (d + 1) pm_t207 28 [some (.inr 141), some (.inl y1), some (.inl x210), some (.inl 0), o4] [] hi209 Q)))))) ∧ ((¬ (8 ≤ y1)) → ∃ k211 : Nat, k211 < 96 ∧ (hi 141 24) = nI k211 ∧ (∀ hi212 : pm_B, hi212 = pm_u (pm_u hi 153 k211 (-11)) 141 24 (((pm_u hi 153 k211 (-11)) 141 24) + 1) → (∃ k213 : Nat, k213 < 10 ∧ (y1 + 1) = nI k213 ∧ (pm_C pm_g (SH L) HR (d + 1) m_M_go [.inr 141] (pm_u hi212 154 k213 0) (fun v hi214 => v = none ∧ (pm_C pm_g (SH L) HR (d + 1) m_M_notsOpen [.inr 141] hi214 (fun v hi215 => ∃ x216 : Int32, v = some (.inl x216) ∧ (pm_W pm_g (SH L) HR (d + 1) pm_t207 28 [some (.inr 141), some (.inl (y1 + 1)), some (.inl x216), some (.inl y3), o4] [] hi215 Q))))))))))) ∧ ((¬ (¬ (hi 141 15) = 33)) → ((8 ≤ y2) → ((¬ (hi 141 14) = 3) → pm_C pm_g (SH L) HR (d + 1) m_M_takesPart [.inr 141] hi (fun v hi219 => ∃ x220 : Int32, v = some (.inl x220) ∧ (((x220 = 0) → Q (some (.inl 0)) hi219) ∧ ((¬ (x220 = 0)) → pm_C pm_g (SH L) HR (d + 1) m_M_notsOpen [.inr 141] hi219 (fun v hi222 => ∃ x223 : Int32, v = some (.inl x223) ∧ (pm_W pm_g (SH L) HR (d + 1) pm_t207 28 [some (.inr 141), some (.inl y1), some (.inl x223), some (.inl 0), o4] [] hi222 Q)))))) ∧ ((¬ (¬ (hi 141 14) = 3)) → ((¬ (hi 141 15) = 40) → pm_C pm_g (SH L) HR (d + 1) m_M_takesPart [.inr 141] hi (fun v hi225 => ∃ x226 : Int32, v = some (.inl x226) ∧ (((x226 = 0) → Q (some (.inl 0)) hi225) ∧ ((¬ (x226 = 0)) → pm_C pm_g (SH L) HR (d + 1) m_M_notsOpen [.inr 141] hi225 (fun v hi228 => ∃ x229 : Int32, v = some (.inl x229) ∧ (pm_W pm_g (SH L) HR (d + 1) pm_t207 28 [some (.inr 141), some (.inl y1), some (.inl x229), some (.inl 0), o4] [] hi228 Q)))))) ∧ ((¬ (¬ (hi 141 15) = 40)) → ((8 ≤ y1) → pm_C pm_g (SH L) HR (d + 1) m_M_takesPart [.inr 141] hi (fun v hi231 => ∃ x232 : Int32, v = some (.inl x232) ∧ (((x232 = 0) → Q (some (.inl 0)) hi231) ∧ ((¬ (x232 = 0)) → pm_C pm_g (SH L) HR (d + 1) m_M_notsOpen [.inr 141] hi231 (fun v hi234 => ∃ x235 : Int32, v = some (.inl x235) ∧ (pm_W pm_g (SH L) HR (d + 1) pm_t207 28 [some (.inr 141), some (.inl y1), some (.inl x235), some (.inl 0), o4] [] hi234 Q)))))) ∧ ((¬ (8 ≤ y1)) → ∃ k236 : Nat, k236 < 96 ∧ (hi 141 24) = nI k236 ∧ (∀ hi237 : pm_B, hi237 = pm_u (pm_u hi 153 k236 (-11)) 141 24 (((pm_u hi 153 k236 (-11)) 141 24) + 1) → (∃ k238 : Nat, k238 < 10 ∧ (y1 + 1) = nI k238 ∧ (pm_C pm_g (SH L) HR (d + 1) m_M_go [.inr 141] (pm_u hi237 154 k238 0) (fun v hi239 => v = none ∧ (pm_C pm_g (SH L) HR (d + 1) m_M_notsOpen [.inr 141] hi239 (fun v hi240 => ∃ x241 : Int32, v = some (.inl x241) ∧ (pm_W pm_g (SH L) HR (d + 1) pm_t207 28 [some (.inr 141), some (.inl (y1 + 1)), some (.inl x241), some (.inl y3), o4] [] hi240 Q))))))))))) ∧ ((¬ (8 ≤ y2)) → ∃ k242 : Nat, k242 < 96 ∧ (hi 141 24) = nI k242 ∧ (∀ hi243 : pm_B, hi243 = pm_u (pm_u hi 153 k242 (-10)) 141 24 (((pm_u hi 153 k242 (-10)) 141 24) + 1) → (pm_C pm_g (SH L) HR (d + 1) m_M_go [.inr 141] hi243 (fun v hi244 => v = none ∧ (pm_C pm_g (SH L) HR (d + 1) m_M_notsOpen [.inr 141] hi244 (fun v hi245 => ∃ x246 : Int32, v = some (.inl x246) ∧ (pm_W pm_g (SH L) HR (d + 1) pm_t207 28 [some (.inr 141), some (.inl y1), some (.inl x246), some (.inl y3), o4] [] hi245 Q))))))))))) ∧ ((¬ (¬ y3 = 0)) → (((hi 141 14) = 0) → pm_C pm_g (SH L) HR (d + 1) m_M_settle [.inr 141, .inl 0] hi (fun v hi248 => v = none ∧ (((¬ y1 = 0) → Q (some (.inl 0)) hi248) ∧ ((¬ (¬ y1 = 0)) → Q (some (.inl 1)) hi248)))) ∧ ((¬ ((hi 141 14) = 0)) → ((y3 = 0) → ((¬ (hi 141 14) = 3) → (((f_M_signHere hi ) = 0) → Q (some (.inl 0)) hi) ∧ ((¬ ((f_M_signHere hi ) = 0)) → ((¬ (f_M_rank (f_M_signHere hi )) = 3) → (((f_M_rank (f_M_signHere hi )) = 3) → ∃ k255 : Nat, k255 < 10 ∧ y1 = nI k255 ∧ (pm_C pm_g (SH L) HR (d + 1) m_M_settle [.inr 141, .inl (f_M_rank (f_M_signHere hi ))] (pm_u hi 154 k255 1) (fun v hi256 => v = none ∧ (∃ k257 : Nat, k257 < 96 ∧ (hi256 141 24) = nI k257 ∧ (∀ hi258 : pm_B, hi258 = pm_u (pm_u hi256 153 k257 (f_M_signHere hi )) 141 24 (((pm_u hi256 153 k257 (f_M_signHere hi )) 141 24) + 1) → (pm_C pm_g (SH L) HR (d + 1) m_M_go [.inr 141] hi258 (fun v hi259 => v = none ∧ (pm_W pm_g (SH L) HR (d + 1) pm_t207 28 [some (.inr 141), some (.inl y1), some (.inl y2), some (.inl 1), some (.inl (f_M_signHere hi ))] [] hi259 Q)))))))) ∧ ((¬ ((f_M_rank (f_M_signHere hi )) = 3)) → (((f_M_rank (f_M_signHere hi )) ≤ 3) → ∃ k261 : Nat, k261 < 10 ∧ y1 = nI k261 ∧ (pm_C pm_g (SH L) HR (d + 1) m_M_settle [.inr 141, .inl (f_M_rank (f_M_signHere hi ))] (pm_u hi 154 k261 0) (fun v hi262 => v = none ∧ (∃ k263 : Nat, k263 < 96 ∧ (hi262 141 24) = nI k263 ∧ (∀ hi264 : pm_B, hi264 = pm_u (pm_u hi262 153 k263 (f_M_signHere hi )) 141 24 (((pm_u hi262 153 k263 (f_M_signHere hi )) 141 24) + 1) → (pm_C pm_g (SH L) HR (d + 1) m_M_go [.inr 141] hi264 (fun v hi265 => v = none ∧ (pm_W pm_g (SH L) HR (d + 1) pm_t207 28 [some (.inr 141), some (.inl y1), some (.inl y2), some (.inl 1), some (.inl (f_M_signHere hi ))] [] hi265 Q)))))))) ∧ ((¬ ((f_M_rank (f_M_signHere hi )) ≤ 3)) → ∃ k266 : Nat, k266 < 10 ∧ y1 = nI k266 ∧ ((((hi 154 k266) = 0) → ∃ k268 : Nat, k268 < 10 ∧ y1 = nI k268 ∧ (pm_C pm_g (SH L) HR (d + 1) m_M_settle [.inr 141, .inl (f_M_rank (f_M_signHere hi ))] (pm_u hi 154 k268 0) (fun v hi269 => v = none ∧ (∃ k270 : Nat, k270 < 96 ∧ (hi269 141 24) = nI k270 ∧ (∀ hi271 : pm_B, hi271 = pm_u (pm_u hi269 153 k270 (f_M_signHere hi )) 141 24 (((pm_u hi269 153 k270 (f_M_signHere hi )) 141 24) + 1) → (pm_C pm_g (SH L) HR (d + 1) m_M_go [.inr 141] hi271 (fun v hi272 => v = none ∧ (pm_W pm_g (SH L) HR (d + 1) pm_t207 28 [some (.inr 141), some (.inl y1), some (.inl y2), some (.inl 1), some (.inl (f_M_signHere hi ))] [] hi272 Q)))))))) ∧ ((¬ ((hi 154 k266) = 0)) → ∃ k273 : Nat, k273 < 10 ∧ y1 = nI k273 ∧ (pm_C pm_g (SH L) HR (d + 1) m_M_settle [.inr 141, .inl (f_M_rank (f_M_signHere hi ))] (pm_u hi 154 k273 1) (fun v hi274 => v = none ∧ (∃ k275 : Nat, k275 < 96 ∧ (hi274 141 24) = nI k275 ∧ (∀ hi276 : pm_B, hi276 = pm_u (pm_u hi274 153 k275 (f_M_signHere hi )) 141 24 (((pm_u hi274 153 k275 (f_M_signHere hi )) 141 24) + 1) → (pm_C pm_g (SH L) HR (d + 1) m_M_go [.inr 141] hi276 (fun v hi277 => v = none ∧ (pm_W pm_g (SH L) HR (d + 1) pm_t207 28 [some (.inr 141), some (.inl y1), some (.inl y2), some (.inl 1), some (.inl (f_M_signHere hi ))] [] hi277 Q)))))))))))) ∧ ((¬ (¬ (f_M_rank (f_M_signHere hi )) = 3)) → ∃ k278 : Nat, k278 < 10 ∧ y1 = nI k278 ∧ ((((hi 154 k278) = 0) → (((f_M_rank (f_M_signHere hi )) = 3) → ∃ k281 : Nat, k281 < 10 ∧ y1 = nI k281 ∧ (pm_C pm_g (SH L) HR (d + 1) m_M_settle [.inr 141, .inl (f_M_rank (f_M_signHere hi ))] (pm_u hi 154 k281 1) (fun v hi282 => v = none ∧ (∃ k283 : Nat, k283 < 96 ∧ (hi282 141 24) = nI k283 ∧ (∀ hi284 : pm_B, hi284 = pm_u (pm_u hi282 153 k283 (f_M_signHere hi )) 141 24 (((pm_u hi282 153 k283 (f_M_signHere hi )) 141 24) + 1) → (pm_C pm_g (SH L) HR (d + 1) m_M_go [.inr 141] hi284 (fun v hi285 => v = none ∧ (pm_W pm_g (SH L) HR (d + 1) pm_t207 28 [some (.inr 141), some (.inl y1), some (.inl y2), some (.inl 1), some (.inl (f_M_signHere hi ))] [] hi285 Q)))))))) ∧ ((¬ ((f_M_rank (f_M_signHere hi )) = 3)) → (((f_M_rank (f_M_signHere hi )) ≤ 3) → ∃ k287 : Nat, k287 < 10 ∧ y1 = nI k287 ∧ (pm_C pm_g (SH L) HR (d + 1) m_M_settle [.inr 141, .inl (f_M_rank (f_M_signHere hi ))] (pm_u hi 154 k287 0) (fun v hi288 => v = none ∧ (∃ k289 : Nat, k289 < 96 ∧ (hi288 141 24) = nI k289 ∧ (∀ hi290 : pm_B, hi290 = pm_u (pm_u hi288 153 k289 (f_M_signHere hi )) 141 24 (((pm_u hi288 153 k289 (f_M_signHere hi )) 141 24) + 1) → (pm_C pm_g (SH L) HR (d + 1) m_M_go [.inr 141] hi290 (fun v hi291 => v = none ∧ (pm_W pm_g (SH L) HR (d + 1) pm_t207 28 [some (.inr 141), some (.inl y1), some (.inl y2), some (.inl 1), some (.inl (f_M_signHere hi ))] [] hi291 Q)))))))) ∧ ((¬ ((f_M_rank (f_M_signHere hi )) ≤ 3)) → ∃ k292 : Nat, k292 < 10 ∧ y1 = nI k292 ∧ ((((hi 154 k292) = 0) → ∃ k294 : Nat, k294 < 10 ∧ y1 = nI k294 ∧ (pm_C pm_g (SH L) HR (d + 1) m_M_settle [.inr 141, .inl (f_M_rank (f_M_signHere hi ))] (pm_u hi 154 k294 0) (fun v hi295 => v = none ∧ (∃ k296 : Nat, k296 < 96 ∧ (hi295 141 24) = nI k296 ∧ (∀ hi297 : pm_B, hi297 = pm_u (pm_u hi295 153 k296 (f_M_signHere hi )) 141 24 (((pm_u hi295 153 k296 (f_M_signHere hi )) 141 24) + 1) → (pm_C pm_g (SH L) HR (d + 1) m_M_go [.inr 141] hi297 (fun v hi298 => v = none ∧ (pm_W pm_g (SH L) HR (d + 1) pm_t207 28 [some (.inr 141), some (.inl y1), some (.inl y2), some (.inl 1), some (.inl (f_M_signHere hi ))] [] hi298 Q)))))))) ∧ ((¬ ((hi 154 k292) = 0)) → ∃ k299 : Nat, k299 < 10 ∧ y1 = nI k299 ∧ (pm_C pm_g (SH L) HR (d + 1) m_M_settle [.inr 141, .inl (f_M_rank (f_M_signHere hi ))] (pm_u hi 154 k299 1) (fun v hi300 => v = none ∧ (∃ k301 : Nat, k301 < 96 ∧ (hi300 141 24) = nI k301 ∧ (∀ hi302 : pm_B, hi302 = pm_u (pm_u hi300 153 k301 (f_M_signHere hi )) 141 24 (((pm_u hi300 153 k301 (f_M_signHere hi )) 141 24) + 1) → (pm_C pm_g (SH L) HR (d + 1) m_M_go [.inr 141] hi302 (fun v hi303 => v = none ∧ (pm_W pm_g (SH L) HR (d + 1) pm_t207 28 [some (.inr 141), some (.inl y1), some (.inl y2), some (.inl 1), some (.inl (f_M_signHere hi ))] [] hi303 Q)))))))))))) ∧ ((¬ ((hi 154 k278) = 0)) → Q (some (.inl 0)) hi))))) ∧ ((¬ (¬ (hi 141 14) = 3)) → ((¬ (hi 141 15) = 41) → (((f_M_signHere hi ) = 0) → Q (some (.inl 0)) hi) ∧ ((¬ ((f_M_signHere hi ) = 0)) → ((¬ (f_M_rank (f_M_signHere hi )) = 3) → (((f_M_rank (f_M_signHere hi )) = 3) → ∃ k308 : Nat, k308 < 10 ∧ y1 = nI k308 ∧ (pm_C pm_g (SH L) HR (d + 1) m_M_settle [.inr 141, .inl (f_M_rank (f_M_signHere hi ))] (pm_u hi 154 k308 1) (fun v hi309 => v = none ∧ (∃ k310 : Nat, k310 < 96 ∧ (hi309 141 24) = nI k310 ∧ (∀ hi311 : pm_B, hi311 = pm_u (pm_u hi309 153 k310 (f_M_signHere hi )) 141 24 (((pm_u hi309 153 k310 (f_M_signHere hi )) 141 24) + 1) → (pm_C pm_g (SH L) HR (d + 1) m_M_go [.inr 141] hi311 (fun v hi312 => v = none ∧ (pm_W pm_g (SH L) HR (d + 1) pm_t207 28 [some (.inr 141), some (.inl y1), some (.inl y2), some (.inl 1), some (.inl (f_M_signHere hi ))] [] hi312 Q)))))))) ∧ ((¬ ((f_M_rank (f_M_signHere hi )) = 3)) → (((f_M_rank (f_M_signHere hi )) ≤ 3) → ∃ k314 : Nat, k314 < 10 ∧ y1 = nI k314 ∧ (pm_C pm_g (SH L) HR (d + 1) m_M_settle [.inr 141, .inl (f_M_rank (f_M_signHere hi ))] (pm_u hi 154 k314 0) (fun v hi315 => v = none ∧ (∃ k316 : Nat, k316 < 96 ∧ (hi315 141 24) = nI k316 ∧ (∀ hi317 : pm_B, hi317 = pm_u (pm_u hi315 153 k316 (f_M_signHere hi )) 141 24 (((pm_u hi315 153 k316 (f_M_signHere hi )) 141 24) + 1) → (pm_C pm_g (SH L) HR (d + 1) m_M_go [.inr 141] hi317 (fun v hi318 => v = none ∧ (pm_W pm_g (SH L) HR (d + 1) pm_t207 28 [some (.inr 141), some (.inl y1), some (.inl y2), some (.inl 1), some (.inl (f_M_signHere hi ))] [] hi318 Q)))))))) ∧ ((¬ ((f_M_rank (f_M_signHere hi )) ≤ 3)) → ∃ k319 : Nat, k319 < 10 ∧ y1 = nI k319 ∧ ((((hi 154 k319) = 0) → ∃ k321 : Nat, k321 < 10 ∧ y1 = nI k321 ∧ (pm_C pm_g (SH L) HR (d + 1) m_M_settle [.inr 141, .inl (f_M_rank (f_M_signHere hi ))] (pm_u hi 154 k321 0) (fun v hi322 => v = none ∧ (∃ k323 : Nat, k323 < 96 ∧ (hi322 141 24) = nI k323 ∧ (∀ hi324 : pm_B, hi324 = pm_u (pm_u hi322 153 k323 (f_M_signHere hi )) 141 24 (((pm_u hi322 153 k323 (f_M_signHere hi )) 141 24) + 1) → (pm_C pm_g (SH L) HR (d + 1) m_M_go [.inr 141] hi324 (fun v hi325 => v = none ∧ (pm_W pm_g (SH L) HR (d + 1) pm_t207 28 [some (.inr 141), some (.inl y1), some (.inl y2), some (.inl 1), some (.inl (f_M_signHere hi ))] [] hi325 Q)))))))) ∧ ((¬ ((hi 154 k319) = 0)) → ∃ k326 : Nat, k326 < 10 ∧ y1 = nI k326 ∧ (pm_C pm_g (SH L) HR (d + 1) m_M_settle [.inr 141, .inl (f_M_rank (f_M_signHere hi ))] (pm_u hi 154 k326 1) (fun v hi327 => v = none ∧ (∃ k328 : Nat, k328 < 96 ∧ (hi327 141 24) = nI k328 ∧ (∀ hi329 : pm_B, hi329 = pm_u (pm_u hi327 153 k328 (f_M_signHere hi )) 141 24 (((pm_u hi327 153 k328 (f_M_signHere hi )) 141 24) + 1) → (pm_C pm_g (SH L) HR (d + 1) m_M_go [.inr 141] hi329 (fun v hi330 => v = none ∧ (pm_W pm_g (SH L) HR (d + 1) pm_t207 28 [some (.inr 141), some (.inl y1), some (.inl y2), some (.inl 1), some (.inl (f_M_signHere hi ))] [] hi330 Q)))))))))))) ∧ ((¬ (¬ (f_M_rank (f_M_signHere hi )) = 3)) → ∃ k331 : Nat, k331 < 10 ∧ y1 = nI k331 ∧ ((((hi 154 k331) = 0) → (((f_M_rank (f_M_signHere hi )) = 3) → ∃ k334 : Nat, k334 < 10 ∧ y1 = nI k334 ∧ (pm_C pm_g (SH L) HR (d + 1) m_M_settle [.inr 141, .inl (f_M_rank (f_M_signHere hi ))] (pm_u hi 154 k334 1) (fun v hi335 => v = none ∧ (∃ k336 : Nat, k336 < 96 ∧ (hi335 141 24) = nI k336 ∧ (∀ hi337 : pm_B, hi337 = pm_u (pm_u hi335 153 k336 (f_M_signHere hi )) 141 24 (((pm_u hi335 153 k336 (f_M_signHere hi )) 141 24) + 1) → (pm_C pm_g (SH L) HR (d + 1) m_M_go [.inr 141] hi337 (fun v hi338 => v = none ∧ (pm_W pm_g (SH L) HR (d + 1) pm_t207 28 [some (.inr 141), some (.inl y1), some (.inl y2), some (.inl 1), some (.inl (f_M_signHere hi ))] [] hi338 Q)))))))) ∧ ((¬ ((f_M_rank (f_M_signHere hi )) = 3)) → (((f_M_rank (f_M_signHere hi )) ≤ 3) → ∃ k340 : Nat, k340 < 10 ∧ y1 = nI k340 ∧ (pm_C pm_g (SH L) HR (d + 1) m_M_settle [.inr 141, .inl (f_M_rank (f_M_signHere hi ))] (pm_u hi 154 k340 0) (fun v hi341 => v = none ∧ (∃ k342 : Nat, k342 < 96 ∧ (hi341 141 24) = nI k342 ∧ (∀ hi343 : pm_B, hi343 = pm_u (pm_u hi341 153 k342 (f_M_signHere hi )) 141 24 (((pm_u hi341 153 k342 (f_M_signHere hi )) 141 24) + 1) → (pm_C pm_g (SH L) HR (d + 1) m_M_go [.inr 141] hi343 (fun v hi344 => v = none ∧ (pm_W pm_g (SH L) HR (d + 1) pm_t207 28 [some (.inr 141), some (.inl y1), some (.inl y2), some (.inl 1), some (.inl (f_M_signHere hi ))] [] hi344 Q)))))))) ∧ ((¬ ((f_M_rank (f_M_signHere hi )) ≤ 3)) → ∃ k345 : Nat, k345 < 10 ∧ y1 = nI k345 ∧ ((((hi 154 k345) = 0) → ∃ k347 : Nat, k347 < 10 ∧ y1 = nI k347 ∧ (pm_C pm_g (SH L) HR (d + 1) m_M_settle [.inr 141, .inl (f_M_rank (f_M_signHere hi ))] (pm_u hi 154 k347 0) (fun v hi348 => v = none ∧ (∃ k349 : Nat, k349 < 96 ∧ (hi348 141 24) = nI k349 ∧ (∀ hi350 : pm_B, hi350 = pm_u (pm_u hi348 153 k349 (f_M_signHere hi )) 141 24 (((pm_u hi348 153 k349 (f_M_signHere hi )) 141 24) + 1) → (pm_C pm_g (SH L) HR (d + 1) m_M_go [.inr 141] hi350 (fun v hi351 => v = none ∧ (pm_W pm_g (SH L) HR (d + 1) pm_t207 28 [some (.inr 141), some (.inl y1), some (.inl y2), some (.inl 1), some (.inl (f_M_signHere hi ))] [] hi351 Q)))))))) ∧ ((¬ ((hi 154 k345) = 0)) → ∃ k352 : Nat, k352 < 10 ∧ y1 = nI k352 ∧ (pm_C pm_g (SH L) HR (d + 1) m_M_settle [.inr 141, .inl (f_M_rank (f_M_signHere hi ))] (pm_u hi 154 k352 1) (fun v hi353 => v = none ∧ (∃ k354 : Nat, k354 < 96 ∧ (hi353 141 24) = nI k354 ∧ (∀ hi355 : pm_B, hi355 = pm_u (pm_u hi353 153 k354 (f_M_signHere hi )) 141 24 (((pm_u hi353 153 k354 (f_M_signHere hi )) 141 24) + 1) → (pm_C pm_g (SH L) HR (d + 1) m_M_go [.inr 141] hi355 (fun v hi356 => v = none ∧ (pm_W pm_g (SH L) HR (d + 1) pm_t207 28 [some (.inr 141), some (.inl y1), some (.inl y2), some (.inl 1), some (.inl (f_M_signHere hi ))] [] hi356 Q)))))))))))) ∧ ((¬ ((hi 154 k331) = 0)) → Q (some (.inl 0)) hi))))) ∧ ((¬ (¬ (hi 141 15) = 41)) → ((y1 ≤ 0) → (((f_M_signHere hi ) = 0) → Q (some (.inl 0)) hi) ∧ ((¬ ((f_M_signHere hi ) = 0)) → ((¬ (f_M_rank (f_M_signHere hi )) = 3) → (((f_M_rank (f_M_signHere hi )) = 3) → ∃ k361 : Nat, k361 < 10 ∧ y1 = nI k361 ∧ (pm_C pm_g (SH L) HR (d + 1) m_M_settle [.inr 141, .inl (f_M_rank (f_M_signHere hi ))] (pm_u hi 154 k361 1) (fun v hi362 => v = none ∧ (∃ k363 : Nat, k363 < 96 ∧ (hi362 141 24) = nI k363 ∧ (∀ hi364 : pm_B, hi364 = pm_u (pm_u hi362 153 k363 (f_M_signHere hi )) 141 24 (((pm_u hi362 153 k363 (f_M_signHere hi )) 141 24) + 1) → (pm_C pm_g (SH L) HR (d + 1) m_M_go [.inr 141] hi364 (fun v hi365 => v = none ∧ (pm_W pm_g (SH L) HR (d + 1) pm_t207 28 [some (.inr 141), some (.inl y1), some (.inl y2), some (.inl 1), some (.inl (f_M_signHere hi ))] [] hi365 Q)))))))) ∧ ((¬ ((f_M_rank (f_M_signHere hi )) = 3)) → (((f_M_rank (f_M_signHere hi )) ≤ 3) → ∃ k367 : Nat, k367 < 10 ∧ y1 = nI k367 ∧ (pm_C pm_g (SH L) HR (d + 1) m_M_settle [.inr 141, .inl (f_M_rank (f_M_signHere hi ))] (pm_u hi 154 k367 0) (fun v hi368 => v = none ∧ (∃ k369 : Nat, k369 < 96 ∧ (hi368 141 24) = nI k369 ∧ (∀ hi370 : pm_B, hi370 = pm_u (pm_u hi368 153 k369 (f_M_signHere hi )) 141 24 (((pm_u hi368 153 k369 (f_M_signHere hi )) 141 24) + 1) → (pm_C pm_g (SH L) HR (d + 1) m_M_go [.inr 141] hi370 (fun v hi371 => v = none ∧ (pm_W pm_g (SH L) HR (d + 1) pm_t207 28 [some (.inr 141), some (.inl y1), some (.inl y2), some (.inl 1), some (.inl (f_M_signHere hi ))] [] hi371 Q)))))))) ∧ ((¬ ((f_M_rank (f_M_signHere hi )) ≤ 3)) → ∃ k372 : Nat, k372 < 10 ∧ y1 = nI k372 ∧ ((((hi 154 k372) = 0) → ∃ k374 : Nat, k374 < 10 ∧ y1 = nI k374 ∧ (pm_C pm_g (SH L) HR (d + 1) m_M_settle [.inr 141, .inl (f_M_rank (f_M_signHere hi ))] (pm_u hi 154 k374 0) (fun v hi375 => v = none ∧ (∃ k376 : Nat, k376 < 96 ∧ (hi375 141 24) = nI k376 ∧ (∀ hi377 : pm_B, hi377 = pm_u (pm_u hi375 153 k376 (f_M_signHere hi )) 141 24 (((pm_u hi375 153 k376 (f_M_signHere hi )) 141 24) + 1) → (pm_C pm_g (SH L) HR (d + 1) m_M_go [.inr 141] hi377 (fun v hi378 => v = none ∧ (pm_W pm_g (SH L) HR (d + 1) pm_t207 28 [some (.inr 141), some (.inl y1), some (.inl y2), some (.inl 1), some (.inl (f_M_signHere hi ))] [] hi378 Q)))))))) ∧ ((¬ ((hi 154 k372) = 0)) → ∃ k379 : Nat, k379 < 10 ∧ y1 = nI k379 ∧ (pm_C pm_g (SH L) HR (d + 1) m_M_settle [.inr 141, .inl (f_M_rank (f_M_signHere hi ))] (pm_u hi 154 k379 1) (fun v hi380 => v = none ∧ (∃ k381 : Nat, k381 < 96 ∧ (hi380 141 24) = nI k381 ∧ (∀ hi382 : pm_B, hi382 = pm_u (pm_u hi380 153 k381 (f_M_signHere hi )) 141 24 (((pm_u hi380 153 k381 (f_M_signHere hi )) 141 24) + 1) → (pm_C pm_g (SH L) HR (d + 1) m_M_go [.inr 141] hi382 (fun v hi383 => v = none ∧ (pm_W pm_g (SH L) HR (d + 1) pm_t207 28 [some (.inr 141), some (.inl y1), some (.inl y2), some (.inl 1), some (.inl (f_M_signHere hi ))] [] hi383 Q)))))))))))) ∧ ((¬ (¬ (f_M_rank (f_M_signHere hi )) = 3)) → ∃ k384 : Nat, k384 < 10 ∧ y1 = nI k384 ∧ ((((hi 154 k384) = 0) → (((f_M_rank (f_M_signHere hi )) = 3) → ∃ k387 : Nat, k387 < 10 ∧ y1 = nI k387 ∧ (pm_C pm_g (SH L) HR (d + 1) m_M_settle [.inr 141, .inl (f_M_rank (f_M_signHere hi ))] (pm_u hi 154 k387 1) (fun v hi388 => v = none ∧ (∃ k389 : Nat, k389 < 96 ∧ (hi388 141 24) = nI k389 ∧ (∀ hi390 : pm_B, hi390 = pm_u (pm_u hi388 153 k389 (f_M_signHere hi )) 141 24 (((pm_u hi388 153 k389 (f_M_signHere hi )) 141 24) + 1) → (pm_C pm_g (SH L) HR (d + 1) m_M_go [.inr 141] hi390 (fun v hi391 => v = none ∧ (pm_W pm_g (SH L) HR (d + 1) pm_t207 28 [some (.inr 141), some (.inl y1), some (.inl y2), some (.inl 1), some (.inl (f_M_signHere hi ))] [] hi391 Q)))))))) ∧ ((¬ ((f_M_rank (f_M_signHere hi )) = 3)) → (((f_M_rank (f_M_signHere hi )) ≤ 3) → ∃ k393 : Nat, k393 < 10 ∧ y1 = nI k393 ∧ (pm_C pm_g (SH L) HR (d + 1) m_M_settle [.inr 141, .inl (f_M_rank (f_M_signHere hi ))] (pm_u hi 154 k393 0) (fun v hi394 => v = none ∧ (∃ k395 : Nat, k395 < 96 ∧ (hi394 141 24) = nI k395 ∧ (∀ hi396 : pm_B, hi396 = pm_u (pm_u hi394 153 k395 (f_M_signHere hi )) 141 24 (((pm_u hi394 153 k395 (f_M_signHere hi )) 141 24) + 1) → (pm_C pm_g (SH L) HR (d + 1) m_M_go [.inr 141] hi396 (fun v hi397 => v = none ∧ (pm_W pm_g (SH L) HR (d + 1) pm_t207 28 [some (.inr 141), some (.inl y1), some (.inl y2), some (.inl 1), some (.inl (f_M_signHere hi ))] [] hi397 Q)))))))) ∧ ((¬ ((f_M_rank (f_M_signHere hi )) ≤ 3)) → ∃ k398 : Nat, k398 < 10 ∧ y1 = nI k398 ∧ ((((hi 154 k398) = 0) → ∃ k400 : Nat, k400 < 10 ∧ y1 = nI k400 ∧ (pm_C pm_g (SH L) HR (d + 1) m_M_settle [.inr 141, .inl (f_M_rank (f_M_signHere hi ))] (pm_u hi 154 k400 0) (fun v hi401 => v = none ∧ (∃ k402 : Nat, k402 < 96 ∧ (hi401 141 24) = nI k402 ∧ (∀ hi403 : pm_B, hi403 = pm_u (pm_u hi401 153 k402 (f_M_signHere hi )) 141 24 (((pm_u hi401 153 k402 (f_M_signHere hi )) 141 24) + 1) → (pm_C pm_g (SH L) HR (d + 1) m_M_go [.inr 141] hi403 (fun v hi404 => v = none ∧ (pm_W pm_g (SH L) HR (d + 1) pm_t207 28 [some (.inr 141), some (.inl y1), some (.inl y2), some (.inl 1), some (.inl (f_M_signHere hi ))] [] hi404 Q)))))))) ∧ ((¬ ((hi 154 k398) = 0)) → ∃ k405 : Nat, k405 < 10 ∧ y1 = nI k405 ∧ (pm_C pm_g (SH L) HR (d + 1) m_M_settle [.inr 141, .inl (f_M_rank (f_M_signHere hi ))] (pm_u hi 154 k405 1) (fun v hi406 => v = none ∧ (∃ k407 : Nat, k407 < 96 ∧ (hi406 141 24) = nI k407 ∧ (∀ hi408 : pm_B, hi408 = pm_u (pm_u hi406 153 k407 (f_M_signHere hi )) 141 24 (((pm_u hi406 153 k407 (f_M_signHere hi )) 141 24) + 1) → (pm_C pm_g (SH L) HR (d + 1) m_M_go [.inr 141] hi408 (fun v hi409 => v = none ∧ (pm_W pm_g (SH L) HR (d + 1) pm_t207 28 [some (.inr 141), some (.inl y1), some (.inl y2), some (.inl 1), some (.inl (f_M_signHere hi ))] [] hi409 Q)))))))))))) ∧ ((¬ ((hi 154 k384) = 0)) → Q (some (.inl 0)) hi))))) ∧ ((¬ (y1 ≤ 0)) → pm_C pm_g (SH L) HR (d + 1) m_M_settle [.inr 141, .inl 0] hi (fun v hi410 => v = none ∧ (pm_C pm_g (SH L) HR (d + 1) m_M_settle [.inr 141, .inl 6] (pm_u hi410 141 24 ((hi410 141 24) - 1)) (fun v hi411 => v = none ∧ (pm_C pm_g (SH L) HR (d + 1) m_M_notsOpen [.inr 141] hi411 (fun v hi412 => ∃ x413 : Int32, v = some (.inl x413) ∧ (pm_C pm_g (SH L) HR (d + 1) m_M_go [.inr 141] hi412 (fun v hi414 => v = none ∧ (pm_W pm_g (SH L) HR (d + 1) pm_t207 28 [some (.inr 141), some (.inl (y1 + (-1))), some (.inl x413), some (.inl y3), o4] [] hi414 Q)))))))))))) ∧ ((¬ (y3 = 0)) → ((¬ (hi 141 14) = 3) → ((¬ (hi 141 14) = 3) → pm_C pm_g (SH L) HR (d + 1) m_M_takesPart [.inr 141] hi (fun v hi417 => ∃ x418 : Int32, v = some (.inl x418) ∧ (((x418 = 0) → Q (some (.inl 0)) hi417) ∧ ((¬ (x418 = 0)) → pm_C pm_g (SH L) HR (d + 1) m_M_notsOpen [.inr 141] hi417 (fun v hi420 => ∃ x421 : Int32, v = some (.inl x421) ∧ (pm_W pm_g (SH L) HR (d + 1) pm_t207 28 [some (.inr 141), some (.inl y1), some (.inl x421), some (.inl 0), o4] [] hi420 Q)))))) ∧ ((¬ (¬ (hi 141 14) = 3)) → ((¬ (hi 141 15) = 40) → pm_C pm_g (SH L) HR (d + 1) m_M_takesPart [.inr 141] hi (fun v hi423 => ∃ x424 : Int32, v = some (.inl x424) ∧ (((x424 = 0) → Q (some (.inl 0)) hi423) ∧ ((¬ (x424 = 0)) → pm_C pm_g (SH L) HR (d + 1) m_M_notsOpen [.inr 141] hi423 (fun v hi426 => ∃ x427 : Int32, v = some (.inl x427) ∧ (pm_W pm_g (SH L) HR (d + 1) pm_t207 28 [some (.inr 141), some (.inl y1), some (.inl x427), some (.inl 0), o4] [] hi426 Q)))))) ∧ ((¬ (¬ (hi 141 15) = 40)) → ((8 ≤ y1) → pm_C pm_g (SH L) HR (d + 1) m_M_takesPart [.inr 141] hi (fun v hi429 => ∃ x430 : Int32, v = some (.inl x430) ∧ (((x430 = 0) → Q (some (.inl 0)) hi429) ∧ ((¬ (x430 = 0)) → pm_C pm_g (SH L) HR (d + 1) m_M_notsOpen [.inr 141] hi429 (fun v hi432 => ∃ x433 : Int32, v = some (.inl x433) ∧ (pm_W pm_g (SH L) HR (d + 1) pm_t207 28 [some (.inr 141), some (.inl y1), some (.inl x433), some (.inl 0), o4] [] hi432 Q)))))) ∧ ((¬ (8 ≤ y1)) → ∃ k434 : Nat, k434 < 96 ∧ (hi 141 24) = nI k434 ∧ (∀ hi435 : pm_B, hi435 = pm_u (pm_u hi 153 k434 (-11)) 141 24 (((pm_u hi 153 k434 (-11)) 141 24) + 1) → (∃ k436 : Nat, k436 < 10 ∧ (y1 + 1) = nI k436 ∧ (pm_C pm_g (SH L) HR (d + 1) m_M_go [.inr 141] (pm_u hi435 154 k436 0) (fun v hi437 => v = none ∧ (pm_C pm_g (SH L) HR (d + 1) m_M_notsOpen [.inr 141] hi437 (fun v hi438 => ∃ x439 : Int32, v = some (.inl x439) ∧ (pm_W pm_g (SH L) HR (d + 1) pm_t207 28 [some (.inr 141), some (.inl (y1 + 1)), some (.inl x439), some (.inl y3), o4] [] hi438 Q))))))))))) ∧ ((¬ (¬ (hi 141 14) = 3)) → ((¬ (hi 141 15) = 33) → ((¬ (hi 141 14) = 3) → pm_C pm_g (SH L) HR (d + 1) m_M_takesPart [.inr 141] hi (fun v hi442 => ∃ x443 : Int32, v = some (.inl x443) ∧ (((x443 = 0) → Q (some (.inl 0)) hi442) ∧ ((¬ (x443 = 0)) → pm_C pm_g (SH L) HR (d + 1) m_M_notsOpen [.inr 141] hi442 (fun v hi445 => ∃ x446 : Int32, v = some (.inl x446) ∧ (pm_W pm_g (SH L) HR (d + 1) pm_t207 28 [some (.inr 141), some (.inl y1), some (.inl x446), some (.inl 0), o4] [] hi445 Q)))))) ∧ ((¬ (¬ (hi 141 14) = 3)) → ((¬ (hi 141 15) = 40) → pm_C pm_g (SH L) HR (d + 1) m_M_takesPart [.inr 141] hi (fun v hi448 => ∃ x449 : Int32, v = some (.inl x449) ∧ (((x449 = 0) → Q (some (.inl 0)) hi448) ∧ ((¬ (x449 = 0)) → pm_C pm_g (SH L) HR (d + 1) m_M_notsOpen [.inr 141] hi448 (fun v hi451 => ∃ x452 : Int32, v = some (.inl x452) ∧ (pm_W pm_g (SH L) HR (d + 1) pm_t207 28 [some (.inr 141), some (.inl y1), some (.inl x452), some (.inl 0), o4] [] hi451 Q)))))) ∧ ((¬ (¬ (hi 141 15) = 40)) → ((8 ≤ y1) → pm_C pm_g (SH L) HR (d + 1) m_M_takesPart [.inr 141] hi (fun v hi454 => ∃ x455 : Int32, v = some (.inl x455) ∧ (((x455 = 0) → Q (some (.inl 0)) hi454) ∧ ((¬ (x455 = 0)) → pm_C pm_g (SH L) HR (d + 1) m_M_notsOpen [.inr 141] hi454 (fun v hi457 => ∃ x458 : Int32, v = some (.inl x458) ∧ (pm_W pm_g (SH L) HR (d + 1) pm_t207 28 [some (.inr 141), some (.inl y1), some (.inl x458), some (.inl 0), o4] [] hi457 Q)))))) ∧ ((¬ (8 ≤ y1)) → ∃ k459 : Nat, k459 < 96 ∧ (hi 141 24) = nI k459 ∧ (∀ hi460 : pm_B, hi460 = pm_u (pm_u hi 153 k459 (-11)) 141 24 (((pm_u hi 153 k459 (-11)) 141 24) + 1) → (∃ k461 : Nat, k461 < 10 ∧ (y1 + 1) = nI k461 ∧ (pm_C pm_g (SH L) HR (d + 1) m_M_go [.inr 141] (pm_u hi460 154 k461 0) (fun v hi462 => v = none ∧ (pm_C pm_g (SH L) HR (d + 1) m_M_notsOpen [.inr 141] hi462 (fun v hi463 => ∃ x464 : Int32, v = some (.inl x464) ∧ (pm_W pm_g (SH L) HR (d + 1) pm_t207 28 [some (.inr 141), some (.inl (y1 + 1)), some (.inl x464), some (.inl y3), o4] [] hi463 Q))))))))))) ∧ ((¬ (¬ (hi 141 15) = 33)) → ((8 ≤ y2) → ((¬ (hi 141 14) = 3) → pm_C pm_g (SH L) HR (d + 1) m_M_takesPart [.inr 141] hi (fun v hi467 => ∃ x468 : Int32, v = some (.inl x468) ∧ (((x468 = 0) → Q (some (.inl 0)) hi467) ∧ ((¬ (x468 = 0)) → pm_C pm_g (SH L) HR (d + 1) m_M_notsOpen [.inr 141] hi467 (fun v hi470 => ∃ x471 : Int32, v = some (.inl x471) ∧ (pm_W pm_g (SH L) HR (d + 1) pm_t207 28 [some (.inr 141), some (.inl y1), some (.inl x471), some (.inl 0), o4] [] hi470 Q)))))) ∧ ((¬ (¬ (hi 141 14) = 3)) → ((¬ (hi 141 15) = 40) → pm_C pm_g (SH L) HR (d + 1) m_M_takesPart [.inr 141] hi (fun v hi473 => ∃ x474 : Int32, v = some (.inl x474) ∧ (((x474 = 0) → Q (some (.inl 0)) hi473) ∧ ((¬ (x474 = 0)) → pm_C pm_g (SH L) HR (d + 1) m_M_notsOpen [.inr 141] hi473 (fun v hi476 => ∃ x477 : Int32, v = some (.inl x477) ∧ (pm_W pm_g (SH L) HR (d + 1) pm_t207 28 [some (.inr 141), some (.inl y1), some (.inl x477), some (.inl 0), o4] [] hi476 Q)))))) ∧ ((¬ (¬ (hi 141 15) = 40)) → ((8 ≤ y1) → pm_C pm_g (SH L) HR (d + 1) m_M_takesPart [.inr 141] hi (fun v hi479 => ∃ x480 : Int32, v = some (.inl x480) ∧ (((x480 = 0) → Q (some (.inl 0)) hi479) ∧ ((¬ (x480 = 0)) → pm_C pm_g (SH L) HR (d + 1) m_M_notsOpen [.inr 141] hi479 (fun v hi482 => ∃ x483 : Int32, v = some (.inl x483) ∧ (pm_W pm_g (SH L) HR (d + 1) pm_t207 28 [some (.inr 141), some (.inl y1), some (.inl x483), some (.inl 0), o4] [] hi482 Q)))))) ∧ ((¬ (8 ≤ y1)) → ∃ k484 : Nat, k484 < 96 ∧ (hi 141 24) = nI k484 ∧ (∀ hi485 : pm_B, hi485 = pm_u (pm_u hi 153 k484 (-11)) 141 24 (((pm_u hi 153 k484 (-11)) 141 24) + 1) → (∃ k486 : Nat, k486 < 10 ∧ (y1 + 1) = nI k486 ∧ (pm_C pm_g (SH L) HR (d + 1) m_M_go [.inr 141] (pm_u hi485 154 k486 0) (fun v hi487 => v = none ∧ (pm_C pm_g (SH L) HR (d + 1) m_M_notsOpen [.inr 141] hi487 (fun v hi488 => ∃ x489 : Int32, v = some (.inl x489) ∧ (pm_W pm_g (SH L) HR (d + 1) pm_t207 28 [some (.inr 141), some (.inl (y1 + 1)), some (.inl x489), some (.inl y3), o4] [] hi488 Q))))))))))) ∧ ((¬ (8 ≤ y2)) → ∃ k490 : Nat, k490 < 96 ∧ (hi 141 24) = nI k490 ∧ (∀ hi491 : pm_B, hi491 = pm_u (pm_u hi 153 k490 (-10)) 141 24 (((pm_u hi 153 k490 (-10)) 141 24) + 1) → (pm_C pm_g (SH L) HR (d + 1) m_M_go [.inr 141] hi491 (fun v hi492 => v = none ∧ (pm_C pm_g (SH L) HR (d + 1) m_M_notsOpen [.inr 141] hi492 (fun v hi493 => ∃ x494 : Int32, v = some (.inl x494) ∧ (pm_W pm_g (SH L) HR (d + 1) pm_t207 28 [some (.inr 141), some (.inl y1), some (.inl x494), some (.inl y3), o4] [] hi493 Q))))))))))))) : pm_W pm_g (SH L) HR (d + 1) pm_t207 28 [some (.inr 141), some (.inl y1), some (.inl y2), some (.inl y3), o4] [] hi Q := by
  refine pm_W_of 73 [28] rfl ?_
  refine And.intro (fun c1 => ?_) (fun c1 => ?_)
  · replace h := h.1 c1
    refine And.intro (fun c2 => ?_) (fun c2 => ?_)
    · replace h := h.1 c2
      refine And.intro sh_l141 ?_
      refine And.intro (fun c3 => ?_) (fun c3 => ?_)
      · replace h := h.1 c3
        refine And.intro sh_l141 ?_
        refine f_M_signHere_c (d := d)  ?_
        refine ⟨_, rfl, ?_⟩
        refine And.intro (fun c4 => ?_) (fun c4 => ?_)
        · replace h := h.1 c4
          refine And.intro (Or.inl rfl) ?_
          exact h
        · replace h := h.2 c4
          refine And.intro trivial ?_
          refine f_M_rank_c (d := d)  ?_
          refine ⟨_, rfl, ?_⟩
          refine And.intro (fun c5 => ?_) (fun c5 => ?_)
          · replace h := h.1 c5
            refine And.intro sh_l141 ?_
            rw [hr_141_25]
            refine And.intro trivial ?_
            refine f_M_rank_c (d := d)  ?_
            refine ⟨_, rfl, ?_⟩
            refine And.intro (fun c6 => ?_) (fun c6 => ?_)
            · replace h := h.1 c6
              obtain ⟨k7, hkk7, hek7, h⟩ := h
              refine And.intro ⟨pm_aw_of sh_l154 hkk7 hek7 (by decide), (Or.inr rfl)⟩ ?_
              rw [pm_tn hek7 hkk7 (by decide)]
              refine And.intro trivial ?_
              refine f_M_rank_c (d := d)  ?_
              refine ⟨_, rfl, ?_⟩
              refine And.intro sh_l141 ?_
              refine pm_C_imp h (fun v hi8 h => ?_)
              obtain ⟨rfl, h⟩ := h
              refine ⟨rfl, ?_⟩
              refine And.intro sh_l141 ?_
              rw [hr_141_23]
              refine And.intro sh_l141 ?_
              obtain ⟨k9, hkk9, hek9, h⟩ := h
              refine And.intro ⟨pm_aw_of sh_l153 hkk9 hek9 (by decide), trivial⟩ ?_
              rw [pm_tn hek9 hkk9 (by decide)]
              refine And.intro sh_l141 ?_
              refine And.intro ⟨sh_l141, trivial⟩ ?_
              obtain ⟨hi10, ehi10⟩ : ∃ m : pm_B, m = pm_u (pm_u hi8 153 k9 (f_M_signHere hi )) 141 24 (((pm_u hi8 153 k9 (f_M_signHere hi )) 141 24) + 1) := ⟨_, rfl⟩
              replace h := h hi10 ehi10
              rw [← ehi10]
              refine And.intro sh_l141 ?_
              refine pm_C_imp h (fun v hi11 h => ?_)
              obtain ⟨rfl, h⟩ := h
              refine ⟨rfl, ?_⟩
              exact h
            · replace h := h.2 c6
              refine And.intro trivial ?_
              refine f_M_rank_c (d := d)  ?_
              refine ⟨_, rfl, ?_⟩
              refine And.intro (fun c12 => ?_) (fun c12 => ?_)
              · replace h := h.1 c12
                obtain ⟨k13, hkk13, hek13, h⟩ := h
                refine And.intro ⟨pm_aw_of sh_l154 hkk13 hek13 (by decide), (Or.inl rfl)⟩ ?_
                rw [pm_tn hek13 hkk13 (by decide)]
                refine And.intro trivial ?_
                refine f_M_rank_c (d := d)  ?_
                refine ⟨_, rfl, ?_⟩
                refine And.intro sh_l141 ?_
                refine pm_C_imp h (fun v hi14 h => ?_)
                obtain ⟨rfl, h⟩ := h
                refine ⟨rfl, ?_⟩
                refine And.intro sh_l141 ?_
                rw [hr_141_23]
                refine And.intro sh_l141 ?_
                obtain ⟨k15, hkk15, hek15, h⟩ := h
                refine And.intro ⟨pm_aw_of sh_l153 hkk15 hek15 (by decide), trivial⟩ ?_
                rw [pm_tn hek15 hkk15 (by decide)]
                refine And.intro sh_l141 ?_
                refine And.intro ⟨sh_l141, trivial⟩ ?_
                obtain ⟨hi16, ehi16⟩ : ∃ m : pm_B, m = pm_u (pm_u hi14 153 k15 (f_M_signHere hi )) 141 24 (((pm_u hi14 153 k15 (f_M_signHere hi )) 141 24) + 1) := ⟨_, rfl⟩
                replace h := h hi16 ehi16
                rw [← ehi16]
                refine And.intro sh_l141 ?_
                refine pm_C_imp h (fun v hi17 h => ?_)
                obtain ⟨rfl, h⟩ := h
                refine ⟨rfl, ?_⟩
                exact h
              · replace h := h.2 c12
                refine And.intro sh_l141 ?_
                rw [hr_141_25]
                obtain ⟨k18, hkk18, hek18, h⟩ := h
                refine And.intro (pm_ao_of (t := 0) sh_l154 hkk18 hek18 (by decide)) ?_
                rw [pm_tn hek18 hkk18 (by decide)]
                refine And.intro (fun c19 => ?_) (fun c19 => ?_)
                · replace h := h.1 c19
                  obtain ⟨k20, hkk20, hek20, h⟩ := h
                  refine And.intro ⟨pm_aw_of sh_l154 hkk20 hek20 (by decide), (Or.inl rfl)⟩ ?_
                  rw [pm_tn hek20 hkk20 (by decide)]
                  refine And.intro trivial ?_
                  refine f_M_rank_c (d := d)  ?_
                  refine ⟨_, rfl, ?_⟩
                  refine And.intro sh_l141 ?_
                  refine pm_C_imp h (fun v hi21 h => ?_)
                  obtain ⟨rfl, h⟩ := h
                  refine ⟨rfl, ?_⟩
                  refine And.intro sh_l141 ?_
                  rw [hr_141_23]
                  refine And.intro sh_l141 ?_
                  obtain ⟨k22, hkk22, hek22, h⟩ := h
                  refine And.intro ⟨pm_aw_of sh_l153 hkk22 hek22 (by decide), trivial⟩ ?_
                  rw [pm_tn hek22 hkk22 (by decide)]
                  refine And.intro sh_l141 ?_
                  refine And.intro ⟨sh_l141, trivial⟩ ?_
                  obtain ⟨hi23, ehi23⟩ : ∃ m : pm_B, m = pm_u (pm_u hi21 153 k22 (f_M_signHere hi )) 141 24 (((pm_u hi21 153 k22 (f_M_signHere hi )) 141 24) + 1) := ⟨_, rfl⟩
                  replace h := h hi23 ehi23
                  rw [← ehi23]
                  refine And.intro sh_l141 ?_
                  refine pm_C_imp h (fun v hi24 h => ?_)
                  obtain ⟨rfl, h⟩ := h
                  refine ⟨rfl, ?_⟩
                  exact h
                · replace h := h.2 c19
                  obtain ⟨k25, hkk25, hek25, h⟩ := h
                  refine And.intro ⟨pm_aw_of sh_l154 hkk25 hek25 (by decide), (Or.inr rfl)⟩ ?_
                  rw [pm_tn hek25 hkk25 (by decide)]
                  refine And.intro trivial ?_
                  refine f_M_rank_c (d := d)  ?_
                  refine ⟨_, rfl, ?_⟩
                  refine And.intro sh_l141 ?_
                  refine pm_C_imp h (fun v hi26 h => ?_)
                  obtain ⟨rfl, h⟩ := h
                  refine ⟨rfl, ?_⟩
                  refine And.intro sh_l141 ?_
                  rw [hr_141_23]
                  refine And.intro sh_l141 ?_
                  obtain ⟨k27, hkk27, hek27, h⟩ := h
                  refine And.intro ⟨pm_aw_of sh_l153 hkk27 hek27 (by decide), trivial⟩ ?_
                  rw [pm_tn hek27 hkk27 (by decide)]
                  refine And.intro sh_l141 ?_
                  refine And.intro ⟨sh_l141, trivial⟩ ?_
                  obtain ⟨hi28, ehi28⟩ : ∃ m : pm_B, m = pm_u (pm_u hi26 153 k27 (f_M_signHere hi )) 141 24 (((pm_u hi26 153 k27 (f_M_signHere hi )) 141 24) + 1) := ⟨_, rfl⟩
                  replace h := h hi28 ehi28
                  rw [← ehi28]
                  refine And.intro sh_l141 ?_
                  refine pm_C_imp h (fun v hi29 h => ?_)
                  obtain ⟨rfl, h⟩ := h
                  refine ⟨rfl, ?_⟩
                  exact h
          · replace h := h.2 c5
            refine And.intro sh_l141 ?_
            rw [hr_141_25]
            obtain ⟨k30, hkk30, hek30, h⟩ := h
            refine And.intro (pm_ao_of (t := 0) sh_l154 hkk30 hek30 (by decide)) ?_
            rw [pm_tn hek30 hkk30 (by decide)]
            refine And.intro (fun c31 => ?_) (fun c31 => ?_)
            · replace h := h.1 c31
              refine And.intro sh_l141 ?_
              rw [hr_141_25]
              refine And.intro trivial ?_
              refine f_M_rank_c (d := d)  ?_
              refine ⟨_, rfl, ?_⟩
              refine And.intro (fun c32 => ?_) (fun c32 => ?_)
              · replace h := h.1 c32
                obtain ⟨k33, hkk33, hek33, h⟩ := h
                refine And.intro ⟨pm_aw_of sh_l154 hkk33 hek33 (by decide), (Or.inr rfl)⟩ ?_
                rw [pm_tn hek33 hkk33 (by decide)]
                refine And.intro trivial ?_
                refine f_M_rank_c (d := d)  ?_
                refine ⟨_, rfl, ?_⟩
                refine And.intro sh_l141 ?_
                refine pm_C_imp h (fun v hi34 h => ?_)
                obtain ⟨rfl, h⟩ := h
                refine ⟨rfl, ?_⟩
                refine And.intro sh_l141 ?_
                rw [hr_141_23]
                refine And.intro sh_l141 ?_
                obtain ⟨k35, hkk35, hek35, h⟩ := h
                refine And.intro ⟨pm_aw_of sh_l153 hkk35 hek35 (by decide), trivial⟩ ?_
                rw [pm_tn hek35 hkk35 (by decide)]
                refine And.intro sh_l141 ?_
                refine And.intro ⟨sh_l141, trivial⟩ ?_
                obtain ⟨hi36, ehi36⟩ : ∃ m : pm_B, m = pm_u (pm_u hi34 153 k35 (f_M_signHere hi )) 141 24 (((pm_u hi34 153 k35 (f_M_signHere hi )) 141 24) + 1) := ⟨_, rfl⟩
                replace h := h hi36 ehi36
                rw [← ehi36]
                refine And.intro sh_l141 ?_
                refine pm_C_imp h (fun v hi37 h => ?_)
                obtain ⟨rfl, h⟩ := h
                refine ⟨rfl, ?_⟩
                exact h
              · replace h := h.2 c32
                refine And.intro trivial ?_
                refine f_M_rank_c (d := d)  ?_
                refine ⟨_, rfl, ?_⟩
                refine And.intro (fun c38 => ?_) (fun c38 => ?_)
                · replace h := h.1 c38
                  obtain ⟨k39, hkk39, hek39, h⟩ := h
                  refine And.intro ⟨pm_aw_of sh_l154 hkk39 hek39 (by decide), (Or.inl rfl)⟩ ?_
                  rw [pm_tn hek39 hkk39 (by decide)]
                  refine And.intro trivial ?_
                  refine f_M_rank_c (d := d)  ?_
                  refine ⟨_, rfl, ?_⟩
                  refine And.intro sh_l141 ?_
                  refine pm_C_imp h (fun v hi40 h => ?_)
                  obtain ⟨rfl, h⟩ := h
                  refine ⟨rfl, ?_⟩
                  refine And.intro sh_l141 ?_
                  rw [hr_141_23]
                  refine And.intro sh_l141 ?_
                  obtain ⟨k41, hkk41, hek41, h⟩ := h
                  refine And.intro ⟨pm_aw_of sh_l153 hkk41 hek41 (by decide), trivial⟩ ?_
                  rw [pm_tn hek41 hkk41 (by decide)]
                  refine And.intro sh_l141 ?_
                  refine And.intro ⟨sh_l141, trivial⟩ ?_
                  obtain ⟨hi42, ehi42⟩ : ∃ m : pm_B, m = pm_u (pm_u hi40 153 k41 (f_M_signHere hi )) 141 24 (((pm_u hi40 153 k41 (f_M_signHere hi )) 141 24) + 1) := ⟨_, rfl⟩
                  replace h := h hi42 ehi42
                  rw [← ehi42]
                  refine And.intro sh_l141 ?_
                  refine pm_C_imp h (fun v hi43 h => ?_)
                  obtain ⟨rfl, h⟩ := h
                  refine ⟨rfl, ?_⟩
                  exact h
                · replace h := h.2 c38
                  refine And.intro sh_l141 ?_
                  rw [hr_141_25]
                  obtain ⟨k44, hkk44, hek44, h⟩ := h
                  refine And.intro (pm_ao_of (t := 0) sh_l154 hkk44 hek44 (by decide)) ?_
                  rw [pm_tn hek44 hkk44 (by decide)]
                  refine And.intro (fun c45 => ?_) (fun c45 => ?_)
                  · replace h := h.1 c45
                    obtain ⟨k46, hkk46, hek46, h⟩ := h
                    refine And.intro ⟨pm_aw_of sh_l154 hkk46 hek46 (by decide), (Or.inl rfl)⟩ ?_
                    rw [pm_tn hek46 hkk46 (by decide)]
                    refine And.intro trivial ?_
                    refine f_M_rank_c (d := d)  ?_
                    refine ⟨_, rfl, ?_⟩
                    refine And.intro sh_l141 ?_
                    refine pm_C_imp h (fun v hi47 h => ?_)
                    obtain ⟨rfl, h⟩ := h
                    refine ⟨rfl, ?_⟩
                    refine And.intro sh_l141 ?_
                    rw [hr_141_23]
                    refine And.intro sh_l141 ?_
                    obtain ⟨k48, hkk48, hek48, h⟩ := h
                    refine And.intro ⟨pm_aw_of sh_l153 hkk48 hek48 (by decide), trivial⟩ ?_
                    rw [pm_tn hek48 hkk48 (by decide)]
                    refine And.intro sh_l141 ?_
                    refine And.intro ⟨sh_l141, trivial⟩ ?_
                    obtain ⟨hi49, ehi49⟩ : ∃ m : pm_B, m = pm_u (pm_u hi47 153 k48 (f_M_signHere hi )) 141 24 (((pm_u hi47 153 k48 (f_M_signHere hi )) 141 24) + 1) := ⟨_, rfl⟩
                    replace h := h hi49 ehi49
                    rw [← ehi49]
                    refine And.intro sh_l141 ?_
                    refine pm_C_imp h (fun v hi50 h => ?_)
                    obtain ⟨rfl, h⟩ := h
                    refine ⟨rfl, ?_⟩
                    exact h
                  · replace h := h.2 c45
                    obtain ⟨k51, hkk51, hek51, h⟩ := h
                    refine And.intro ⟨pm_aw_of sh_l154 hkk51 hek51 (by decide), (Or.inr rfl)⟩ ?_
                    rw [pm_tn hek51 hkk51 (by decide)]
                    refine And.intro trivial ?_
                    refine f_M_rank_c (d := d)  ?_
                    refine ⟨_, rfl, ?_⟩
                    refine And.intro sh_l141 ?_
                    refine pm_C_imp h (fun v hi52 h => ?_)
                    obtain ⟨rfl, h⟩ := h
                    refine ⟨rfl, ?_⟩
                    refine And.intro sh_l141 ?_
                    rw [hr_141_23]
                    refine And.intro sh_l141 ?_
                    obtain ⟨k53, hkk53, hek53, h⟩ := h
                    refine And.intro ⟨pm_aw_of sh_l153 hkk53 hek53 (by decide), trivial⟩ ?_
                    rw [pm_tn hek53 hkk53 (by decide)]
                    refine And.intro sh_l141 ?_
                    refine And.intro ⟨sh_l141, trivial⟩ ?_
                    obtain ⟨hi54, ehi54⟩ : ∃ m : pm_B, m = pm_u (pm_u hi52 153 k53 (f_M_signHere hi )) 141 24 (((pm_u hi52 153 k53 (f_M_signHere hi )) 141 24) + 1) := ⟨_, rfl⟩
                    replace h := h hi54 ehi54
                    rw [← ehi54]
                    refine And.intro sh_l141 ?_
                    refine pm_C_imp h (fun v hi55 h => ?_)
                    obtain ⟨rfl, h⟩ := h
                    refine ⟨rfl, ?_⟩
                    exact h
            · replace h := h.2 c31
              refine And.intro (Or.inl rfl) ?_
              exact h
      · replace h := h.2 c3
        refine And.intro sh_l141 ?_
        refine And.intro (fun c56 => ?_) (fun c56 => ?_)
        · replace h := h.1 c56
          refine And.intro sh_l141 ?_
          refine f_M_signHere_c (d := d)  ?_
          refine ⟨_, rfl, ?_⟩
          refine And.intro (fun c57 => ?_) (fun c57 => ?_)
          · replace h := h.1 c57
            refine And.intro (Or.inl rfl) ?_
            exact h
          · replace h := h.2 c57
            refine And.intro trivial ?_
            refine f_M_rank_c (d := d)  ?_
            refine ⟨_, rfl, ?_⟩
            refine And.intro (fun c58 => ?_) (fun c58 => ?_)
            · replace h := h.1 c58
              refine And.intro sh_l141 ?_
              rw [hr_141_25]
              refine And.intro trivial ?_
              refine f_M_rank_c (d := d)  ?_
              refine ⟨_, rfl, ?_⟩
              refine And.intro (fun c59 => ?_) (fun c59 => ?_)
              · replace h := h.1 c59
                obtain ⟨k60, hkk60, hek60, h⟩ := h
                refine And.intro ⟨pm_aw_of sh_l154 hkk60 hek60 (by decide), (Or.inr rfl)⟩ ?_
                rw [pm_tn hek60 hkk60 (by decide)]
                refine And.intro trivial ?_
                refine f_M_rank_c (d := d)  ?_
                refine ⟨_, rfl, ?_⟩
                refine And.intro sh_l141 ?_
                refine pm_C_imp h (fun v hi61 h => ?_)
                obtain ⟨rfl, h⟩ := h
                refine ⟨rfl, ?_⟩
                refine And.intro sh_l141 ?_
                rw [hr_141_23]
                refine And.intro sh_l141 ?_
                obtain ⟨k62, hkk62, hek62, h⟩ := h
                refine And.intro ⟨pm_aw_of sh_l153 hkk62 hek62 (by decide), trivial⟩ ?_
                rw [pm_tn hek62 hkk62 (by decide)]
                refine And.intro sh_l141 ?_
                refine And.intro ⟨sh_l141, trivial⟩ ?_
                obtain ⟨hi63, ehi63⟩ : ∃ m : pm_B, m = pm_u (pm_u hi61 153 k62 (f_M_signHere hi )) 141 24 (((pm_u hi61 153 k62 (f_M_signHere hi )) 141 24) + 1) := ⟨_, rfl⟩
                replace h := h hi63 ehi63
                rw [← ehi63]
                refine And.intro sh_l141 ?_
                refine pm_C_imp h (fun v hi64 h => ?_)
                obtain ⟨rfl, h⟩ := h
                refine ⟨rfl, ?_⟩
                exact h
              · replace h := h.2 c59
                refine And.intro trivial ?_
                refine f_M_rank_c (d := d)  ?_
                refine ⟨_, rfl, ?_⟩
                refine And.intro (fun c65 => ?_) (fun c65 => ?_)
                · replace h := h.1 c65
                  obtain ⟨k66, hkk66, hek66, h⟩ := h
                  refine And.intro ⟨pm_aw_of sh_l154 hkk66 hek66 (by decide), (Or.inl rfl)⟩ ?_
                  rw [pm_tn hek66 hkk66 (by decide)]
                  refine And.intro trivial ?_
                  refine f_M_rank_c (d := d)  ?_
                  refine ⟨_, rfl, ?_⟩
                  refine And.intro sh_l141 ?_
                  refine pm_C_imp h (fun v hi67 h => ?_)
                  obtain ⟨rfl, h⟩ := h
                  refine ⟨rfl, ?_⟩
                  refine And.intro sh_l141 ?_
                  rw [hr_141_23]
                  refine And.intro sh_l141 ?_
                  obtain ⟨k68, hkk68, hek68, h⟩ := h
                  refine And.intro ⟨pm_aw_of sh_l153 hkk68 hek68 (by decide), trivial⟩ ?_
                  rw [pm_tn hek68 hkk68 (by decide)]
                  refine And.intro sh_l141 ?_
                  refine And.intro ⟨sh_l141, trivial⟩ ?_
                  obtain ⟨hi69, ehi69⟩ : ∃ m : pm_B, m = pm_u (pm_u hi67 153 k68 (f_M_signHere hi )) 141 24 (((pm_u hi67 153 k68 (f_M_signHere hi )) 141 24) + 1) := ⟨_, rfl⟩
                  replace h := h hi69 ehi69
                  rw [← ehi69]
                  refine And.intro sh_l141 ?_
                  refine pm_C_imp h (fun v hi70 h => ?_)
                  obtain ⟨rfl, h⟩ := h
                  refine ⟨rfl, ?_⟩
                  exact h
                · replace h := h.2 c65
                  refine And.intro sh_l141 ?_
                  rw [hr_141_25]
                  obtain ⟨k71, hkk71, hek71, h⟩ := h
                  refine And.intro (pm_ao_of (t := 0) sh_l154 hkk71 hek71 (by decide)) ?_
                  rw [pm_tn hek71 hkk71 (by decide)]
                  refine And.intro (fun c72 => ?_) (fun c72 => ?_)
                  · replace h := h.1 c72
                    obtain ⟨k73, hkk73, hek73, h⟩ := h
                    refine And.intro ⟨pm_aw_of sh_l154 hkk73 hek73 (by decide), (Or.inl rfl)⟩ ?_
                    rw [pm_tn hek73 hkk73 (by decide)]
                    refine And.intro trivial ?_
                    refine f_M_rank_c (d := d)  ?_
                    refine ⟨_, rfl, ?_⟩
                    refine And.intro sh_l141 ?_
                    refine pm_C_imp h (fun v hi74 h => ?_)
                    obtain ⟨rfl, h⟩ := h
                    refine ⟨rfl, ?_⟩
                    refine And.intro sh_l141 ?_
                    rw [hr_141_23]
                    refine And.intro sh_l141 ?_
                    obtain ⟨k75, hkk75, hek75, h⟩ := h
                    refine And.intro ⟨pm_aw_of sh_l153 hkk75 hek75 (by decide), trivial⟩ ?_
                    rw [pm_tn hek75 hkk75 (by decide)]
                    refine And.intro sh_l141 ?_
                    refine And.intro ⟨sh_l141, trivial⟩ ?_
                    obtain ⟨hi76, ehi76⟩ : ∃ m : pm_B, m = pm_u (pm_u hi74 153 k75 (f_M_signHere hi )) 141 24 (((pm_u hi74 153 k75 (f_M_signHere hi )) 141 24) + 1) := ⟨_, rfl⟩
                    replace h := h hi76 ehi76
                    rw [← ehi76]
                    refine And.intro sh_l141 ?_
                    refine pm_C_imp h (fun v hi77 h => ?_)
                    obtain ⟨rfl, h⟩ := h
                    refine ⟨rfl, ?_⟩
                    exact h
                  · replace h := h.2 c72
                    obtain ⟨k78, hkk78, hek78, h⟩ := h
                    refine And.intro ⟨pm_aw_of sh_l154 hkk78 hek78 (by decide), (Or.inr rfl)⟩ ?_
                    rw [pm_tn hek78 hkk78 (by decide)]
                    refine And.intro trivial ?_
                    refine f_M_rank_c (d := d)  ?_
                    refine ⟨_, rfl, ?_⟩
                    refine And.intro sh_l141 ?_
                    refine pm_C_imp h (fun v hi79 h => ?_)
                    obtain ⟨rfl, h⟩ := h
                    refine ⟨rfl, ?_⟩
                    refine And.intro sh_l141 ?_
                    rw [hr_141_23]
                    refine And.intro sh_l141 ?_
                    obtain ⟨k80, hkk80, hek80, h⟩ := h
                    refine And.intro ⟨pm_aw_of sh_l153 hkk80 hek80 (by decide), trivial⟩ ?_
                    rw [pm_tn hek80 hkk80 (by decide)]
                    refine And.intro sh_l141 ?_
                    refine And.intro ⟨sh_l141, trivial⟩ ?_
                    obtain ⟨hi81, ehi81⟩ : ∃ m : pm_B, m = pm_u (pm_u hi79 153 k80 (f_M_signHere hi )) 141 24 (((pm_u hi79 153 k80 (f_M_signHere hi )) 141 24) + 1) := ⟨_, rfl⟩
                    replace h := h hi81 ehi81
                    rw [← ehi81]
                    refine And.intro sh_l141 ?_
                    refine pm_C_imp h (fun v hi82 h => ?_)
                    obtain ⟨rfl, h⟩ := h
                    refine ⟨rfl, ?_⟩
                    exact h
            · replace h := h.2 c58
              refine And.intro sh_l141 ?_
              rw [hr_141_25]
              obtain ⟨k83, hkk83, hek83, h⟩ := h
              refine And.intro (pm_ao_of (t := 0) sh_l154 hkk83 hek83 (by decide)) ?_
              rw [pm_tn hek83 hkk83 (by decide)]
              refine And.intro (fun c84 => ?_) (fun c84 => ?_)
              · replace h := h.1 c84
                refine And.intro sh_l141 ?_
                rw [hr_141_25]
                refine And.intro trivial ?_
                refine f_M_rank_c (d := d)  ?_
                refine ⟨_, rfl, ?_⟩
                refine And.intro (fun c85 => ?_) (fun c85 => ?_)
                · replace h := h.1 c85
                  obtain ⟨k86, hkk86, hek86, h⟩ := h
                  refine And.intro ⟨pm_aw_of sh_l154 hkk86 hek86 (by decide), (Or.inr rfl)⟩ ?_
                  rw [pm_tn hek86 hkk86 (by decide)]
                  refine And.intro trivial ?_
                  refine f_M_rank_c (d := d)  ?_
                  refine ⟨_, rfl, ?_⟩
                  refine And.intro sh_l141 ?_
                  refine pm_C_imp h (fun v hi87 h => ?_)
                  obtain ⟨rfl, h⟩ := h
                  refine ⟨rfl, ?_⟩
                  refine And.intro sh_l141 ?_
                  rw [hr_141_23]
                  refine And.intro sh_l141 ?_
                  obtain ⟨k88, hkk88, hek88, h⟩ := h
                  refine And.intro ⟨pm_aw_of sh_l153 hkk88 hek88 (by decide), trivial⟩ ?_
                  rw [pm_tn hek88 hkk88 (by decide)]
                  refine And.intro sh_l141 ?_
                  refine And.intro ⟨sh_l141, trivial⟩ ?_
                  obtain ⟨hi89, ehi89⟩ : ∃ m : pm_B, m = pm_u (pm_u hi87 153 k88 (f_M_signHere hi )) 141 24 (((pm_u hi87 153 k88 (f_M_signHere hi )) 141 24) + 1) := ⟨_, rfl⟩
                  replace h := h hi89 ehi89
                  rw [← ehi89]
                  refine And.intro sh_l141 ?_
                  refine pm_C_imp h (fun v hi90 h => ?_)
                  obtain ⟨rfl, h⟩ := h
                  refine ⟨rfl, ?_⟩
                  exact h
                · replace h := h.2 c85
                  refine And.intro trivial ?_
                  refine f_M_rank_c (d := d)  ?_
                  refine ⟨_, rfl, ?_⟩
                  refine And.intro (fun c91 => ?_) (fun c91 => ?_)
                  · replace h := h.1 c91
                    obtain ⟨k92, hkk92, hek92, h⟩ := h
                    refine And.intro ⟨pm_aw_of sh_l154 hkk92 hek92 (by decide), (Or.inl rfl)⟩ ?_
                    rw [pm_tn hek92 hkk92 (by decide)]
                    refine And.intro trivial ?_
                    refine f_M_rank_c (d := d)  ?_
                    refine ⟨_, rfl, ?_⟩
                    refine And.intro sh_l141 ?_
                    refine pm_C_imp h (fun v hi93 h => ?_)
                    obtain ⟨rfl, h⟩ := h
                    refine ⟨rfl, ?_⟩
                    refine And.intro sh_l141 ?_
                    rw [hr_141_23]
                    refine And.intro sh_l141 ?_
                    obtain ⟨k94, hkk94, hek94, h⟩ := h
                    refine And.intro ⟨pm_aw_of sh_l153 hkk94 hek94 (by decide), trivial⟩ ?_
                    rw [pm_tn hek94 hkk94 (by decide)]
                    refine And.intro sh_l141 ?_
                    refine And.intro ⟨sh_l141, trivial⟩ ?_
                    obtain ⟨hi95, ehi95⟩ : ∃ m : pm_B, m = pm_u (pm_u hi93 153 k94 (f_M_signHere hi )) 141 24 (((pm_u hi93 153 k94 (f_M_signHere hi )) 141 24) + 1) := ⟨_, rfl⟩
                    replace h := h hi95 ehi95
                    rw [← ehi95]
                    refine And.intro sh_l141 ?_
                    refine pm_C_imp h (fun v hi96 h => ?_)
                    obtain ⟨rfl, h⟩ := h
                    refine ⟨rfl, ?_⟩
                    exact h
                  · replace h := h.2 c91
                    refine And.intro sh_l141 ?_
                    rw [hr_141_25]
                    obtain ⟨k97, hkk97, hek97, h⟩ := h
                    refine And.intro (pm_ao_of (t := 0) sh_l154 hkk97 hek97 (by decide)) ?_
                    rw [pm_tn hek97 hkk97 (by decide)]
                    refine And.intro (fun c98 => ?_) (fun c98 => ?_)
                    · replace h := h.1 c98
                      obtain ⟨k99, hkk99, hek99, h⟩ := h
                      refine And.intro ⟨pm_aw_of sh_l154 hkk99 hek99 (by decide), (Or.inl rfl)⟩ ?_
                      rw [pm_tn hek99 hkk99 (by decide)]
                      refine And.intro trivial ?_
                      refine f_M_rank_c (d := d)  ?_
                      refine ⟨_, rfl, ?_⟩
                      refine And.intro sh_l141 ?_
                      refine pm_C_imp h (fun v hi100 h => ?_)
                      obtain ⟨rfl, h⟩ := h
                      refine ⟨rfl, ?_⟩
                      refine And.intro sh_l141 ?_
                      rw [hr_141_23]
                      refine And.intro sh_l141 ?_
                      obtain ⟨k101, hkk101, hek101, h⟩ := h
                      refine And.intro ⟨pm_aw_of sh_l153 hkk101 hek101 (by decide), trivial⟩ ?_
                      rw [pm_tn hek101 hkk101 (by decide)]
                      refine And.intro sh_l141 ?_
                      refine And.intro ⟨sh_l141, trivial⟩ ?_
                      obtain ⟨hi102, ehi102⟩ : ∃ m : pm_B, m = pm_u (pm_u hi100 153 k101 (f_M_signHere hi )) 141 24 (((pm_u hi100 153 k101 (f_M_signHere hi )) 141 24) + 1) := ⟨_, rfl⟩
                      replace h := h hi102 ehi102
                      rw [← ehi102]
                      refine And.intro sh_l141 ?_
                      refine pm_C_imp h (fun v hi103 h => ?_)
                      obtain ⟨rfl, h⟩ := h
                      refine ⟨rfl, ?_⟩
                      exact h
                    · replace h := h.2 c98
                      obtain ⟨k104, hkk104, hek104, h⟩ := h
                      refine And.intro ⟨pm_aw_of sh_l154 hkk104 hek104 (by decide), (Or.inr rfl)⟩ ?_
                      rw [pm_tn hek104 hkk104 (by decide)]
                      refine And.intro trivial ?_
                      refine f_M_rank_c (d := d)  ?_
                      refine ⟨_, rfl, ?_⟩
                      refine And.intro sh_l141 ?_
                      refine pm_C_imp h (fun v hi105 h => ?_)
                      obtain ⟨rfl, h⟩ := h
                      refine ⟨rfl, ?_⟩
                      refine And.intro sh_l141 ?_
                      rw [hr_141_23]
                      refine And.intro sh_l141 ?_
                      obtain ⟨k106, hkk106, hek106, h⟩ := h
                      refine And.intro ⟨pm_aw_of sh_l153 hkk106 hek106 (by decide), trivial⟩ ?_
                      rw [pm_tn hek106 hkk106 (by decide)]
                      refine And.intro sh_l141 ?_
                      refine And.intro ⟨sh_l141, trivial⟩ ?_
                      obtain ⟨hi107, ehi107⟩ : ∃ m : pm_B, m = pm_u (pm_u hi105 153 k106 (f_M_signHere hi )) 141 24 (((pm_u hi105 153 k106 (f_M_signHere hi )) 141 24) + 1) := ⟨_, rfl⟩
                      replace h := h hi107 ehi107
                      rw [← ehi107]
                      refine And.intro sh_l141 ?_
                      refine pm_C_imp h (fun v hi108 h => ?_)
                      obtain ⟨rfl, h⟩ := h
                      refine ⟨rfl, ?_⟩
                      exact h
              · replace h := h.2 c84
                refine And.intro (Or.inl rfl) ?_
                exact h
        · replace h := h.2 c56
          refine And.intro (fun c109 => ?_) (fun c109 => ?_)
          · replace h := h.1 c109
            refine And.intro sh_l141 ?_
            refine f_M_signHere_c (d := d)  ?_
            refine ⟨_, rfl, ?_⟩
            refine And.intro (fun c110 => ?_) (fun c110 => ?_)
            · replace h := h.1 c110
              refine And.intro (Or.inl rfl) ?_
              exact h
            · replace h := h.2 c110
              refine And.intro trivial ?_
              refine f_M_rank_c (d := d)  ?_
              refine ⟨_, rfl, ?_⟩
              refine And.intro (fun c111 => ?_) (fun c111 => ?_)
              · replace h := h.1 c111
                refine And.intro sh_l141 ?_
                rw [hr_141_25]
                refine And.intro trivial ?_
                refine f_M_rank_c (d := d)  ?_
                refine ⟨_, rfl, ?_⟩
                refine And.intro (fun c112 => ?_) (fun c112 => ?_)
                · replace h := h.1 c112
                  obtain ⟨k113, hkk113, hek113, h⟩ := h
                  refine And.intro ⟨pm_aw_of sh_l154 hkk113 hek113 (by decide), (Or.inr rfl)⟩ ?_
                  rw [pm_tn hek113 hkk113 (by decide)]
                  refine And.intro trivial ?_
                  refine f_M_rank_c (d := d)  ?_
                  refine ⟨_, rfl, ?_⟩
                  refine And.intro sh_l141 ?_
                  refine pm_C_imp h (fun v hi114 h => ?_)
                  obtain ⟨rfl, h⟩ := h
                  refine ⟨rfl, ?_⟩
                  refine And.intro sh_l141 ?_
                  rw [hr_141_23]
                  refine And.intro sh_l141 ?_
                  obtain ⟨k115, hkk115, hek115, h⟩ := h
                  refine And.intro ⟨pm_aw_of sh_l153 hkk115 hek115 (by decide), trivial⟩ ?_
                  rw [pm_tn hek115 hkk115 (by decide)]
                  refine And.intro sh_l141 ?_
                  refine And.intro ⟨sh_l141, trivial⟩ ?_
                  obtain ⟨hi116, ehi116⟩ : ∃ m : pm_B, m = pm_u (pm_u hi114 153 k115 (f_M_signHere hi )) 141 24 (((pm_u hi114 153 k115 (f_M_signHere hi )) 141 24) + 1) := ⟨_, rfl⟩
                  replace h := h hi116 ehi116
                  rw [← ehi116]
                  refine And.intro sh_l141 ?_
                  refine pm_C_imp h (fun v hi117 h => ?_)
                  obtain ⟨rfl, h⟩ := h
                  refine ⟨rfl, ?_⟩
                  exact h
                · replace h := h.2 c112
                  refine And.intro trivial ?_
                  refine f_M_rank_c (d := d)  ?_
                  refine ⟨_, rfl, ?_⟩
                  refine And.intro (fun c118 => ?_) (fun c118 => ?_)
                  · replace h := h.1 c118
                    obtain ⟨k119, hkk119, hek119, h⟩ := h
                    refine And.intro ⟨pm_aw_of sh_l154 hkk119 hek119 (by decide), (Or.inl rfl)⟩ ?_
                    rw [pm_tn hek119 hkk119 (by decide)]
                    refine And.intro trivial ?_
                    refine f_M_rank_c (d := d)  ?_
                    refine ⟨_, rfl, ?_⟩
                    refine And.intro sh_l141 ?_
                    refine pm_C_imp h (fun v hi120 h => ?_)
                    obtain ⟨rfl, h⟩ := h
                    refine ⟨rfl, ?_⟩
                    refine And.intro sh_l141 ?_
                    rw [hr_141_23]
                    refine And.intro sh_l141 ?_
                    obtain ⟨k121, hkk121, hek121, h⟩ := h
                    refine And.intro ⟨pm_aw_of sh_l153 hkk121 hek121 (by decide), trivial⟩ ?_
                    rw [pm_tn hek121 hkk121 (by decide)]
                    refine And.intro sh_l141 ?_
                    refine And.intro ⟨sh_l141, trivial⟩ ?_
                    obtain ⟨hi122, ehi122⟩ : ∃ m : pm_B, m = pm_u (pm_u hi120 153 k121 (f_M_signHere hi )) 141 24 (((pm_u hi120 153 k121 (f_M_signHere hi )) 141 24) + 1) := ⟨_, rfl⟩
                    replace h := h hi122 ehi122
                    rw [← ehi122]
                    refine And.intro sh_l141 ?_
                    refine pm_C_imp h (fun v hi123 h => ?_)
                    obtain ⟨rfl, h⟩ := h
                    refine ⟨rfl, ?_⟩
                    exact h
                  · replace h := h.2 c118
                    refine And.intro sh_l141 ?_
                    rw [hr_141_25]
                    obtain ⟨k124, hkk124, hek124, h⟩ := h
                    refine And.intro (pm_ao_of (t := 0) sh_l154 hkk124 hek124 (by decide)) ?_
                    rw [pm_tn hek124 hkk124 (by decide)]
                    refine And.intro (fun c125 => ?_) (fun c125 => ?_)
                    · replace h := h.1 c125
                      obtain ⟨k126, hkk126, hek126, h⟩ := h
                      refine And.intro ⟨pm_aw_of sh_l154 hkk126 hek126 (by decide), (Or.inl rfl)⟩ ?_
                      rw [pm_tn hek126 hkk126 (by decide)]
                      refine And.intro trivial ?_
                      refine f_M_rank_c (d := d)  ?_
                      refine ⟨_, rfl, ?_⟩
                      refine And.intro sh_l141 ?_
                      refine pm_C_imp h (fun v hi127 h => ?_)
                      obtain ⟨rfl, h⟩ := h
                      refine ⟨rfl, ?_⟩
                      refine And.intro sh_l141 ?_
                      rw [hr_141_23]
                      refine And.intro sh_l141 ?_
                      obtain ⟨k128, hkk128, hek128, h⟩ := h
                      refine And.intro ⟨pm_aw_of sh_l153 hkk128 hek128 (by decide), trivial⟩ ?_
                      rw [pm_tn hek128 hkk128 (by decide)]
                      refine And.intro sh_l141 ?_
                      refine And.intro ⟨sh_l141, trivial⟩ ?_
                      obtain ⟨hi129, ehi129⟩ : ∃ m : pm_B, m = pm_u (pm_u hi127 153 k128 (f_M_signHere hi )) 141 24 (((pm_u hi127 153 k128 (f_M_signHere hi )) 141 24) + 1) := ⟨_, rfl⟩
                      replace h := h hi129 ehi129
                      rw [← ehi129]
                      refine And.intro sh_l141 ?_
                      refine pm_C_imp h (fun v hi130 h => ?_)
                      obtain ⟨rfl, h⟩ := h
                      refine ⟨rfl, ?_⟩
                      exact h
                    · replace h := h.2 c125
                      obtain ⟨k131, hkk131, hek131, h⟩ := h
                      refine And.intro ⟨pm_aw_of sh_l154 hkk131 hek131 (by decide), (Or.inr rfl)⟩ ?_
                      rw [pm_tn hek131 hkk131 (by decide)]
                      refine And.intro trivial ?_
                      refine f_M_rank_c (d := d)  ?_
                      refine ⟨_, rfl, ?_⟩
                      refine And.intro sh_l141 ?_
                      refine pm_C_imp h (fun v hi132 h => ?_)
                      obtain ⟨rfl, h⟩ := h
                      refine ⟨rfl, ?_⟩
                      refine And.intro sh_l141 ?_
                      rw [hr_141_23]
                      refine And.intro sh_l141 ?_
                      obtain ⟨k133, hkk133, hek133, h⟩ := h
                      refine And.intro ⟨pm_aw_of sh_l153 hkk133 hek133 (by decide), trivial⟩ ?_
                      rw [pm_tn hek133 hkk133 (by decide)]
                      refine And.intro sh_l141 ?_
                      refine And.intro ⟨sh_l141, trivial⟩ ?_
                      obtain ⟨hi134, ehi134⟩ : ∃ m : pm_B, m = pm_u (pm_u hi132 153 k133 (f_M_signHere hi )) 141 24 (((pm_u hi132 153 k133 (f_M_signHere hi )) 141 24) + 1) := ⟨_, rfl⟩
                      replace h := h hi134 ehi134
                      rw [← ehi134]
                      refine And.intro sh_l141 ?_
                      refine pm_C_imp h (fun v hi135 h => ?_)
                      obtain ⟨rfl, h⟩ := h
                      refine ⟨rfl, ?_⟩
                      exact h
              · replace h := h.2 c111
                refine And.intro sh_l141 ?_
                rw [hr_141_25]
                obtain ⟨k136, hkk136, hek136, h⟩ := h
                refine And.intro (pm_ao_of (t := 0) sh_l154 hkk136 hek136 (by decide)) ?_
                rw [pm_tn hek136 hkk136 (by decide)]
                refine And.intro (fun c137 => ?_) (fun c137 => ?_)
                · replace h := h.1 c137
                  refine And.intro sh_l141 ?_
                  rw [hr_141_25]
                  refine And.intro trivial ?_
                  refine f_M_rank_c (d := d)  ?_
                  refine ⟨_, rfl, ?_⟩
                  refine And.intro (fun c138 => ?_) (fun c138 => ?_)
                  · replace h := h.1 c138
                    obtain ⟨k139, hkk139, hek139, h⟩ := h
                    refine And.intro ⟨pm_aw_of sh_l154 hkk139 hek139 (by decide), (Or.inr rfl)⟩ ?_
                    rw [pm_tn hek139 hkk139 (by decide)]
                    refine And.intro trivial ?_
                    refine f_M_rank_c (d := d)  ?_
                    refine ⟨_, rfl, ?_⟩
                    refine And.intro sh_l141 ?_
                    refine pm_C_imp h (fun v hi140 h => ?_)
                    obtain ⟨rfl, h⟩ := h
                    refine ⟨rfl, ?_⟩
                    refine And.intro sh_l141 ?_
                    rw [hr_141_23]
                    refine And.intro sh_l141 ?_
                    obtain ⟨k141, hkk141, hek141, h⟩ := h
                    refine And.intro ⟨pm_aw_of sh_l153 hkk141 hek141 (by decide), trivial⟩ ?_
                    rw [pm_tn hek141 hkk141 (by decide)]
                    refine And.intro sh_l141 ?_
                    refine And.intro ⟨sh_l141, trivial⟩ ?_
                    obtain ⟨hi142, ehi142⟩ : ∃ m : pm_B, m = pm_u (pm_u hi140 153 k141 (f_M_signHere hi )) 141 24 (((pm_u hi140 153 k141 (f_M_signHere hi )) 141 24) + 1) := ⟨_, rfl⟩
                    replace h := h hi142 ehi142
                    rw [← ehi142]
                    refine And.intro sh_l141 ?_
                    refine pm_C_imp h (fun v hi143 h => ?_)
                    obtain ⟨rfl, h⟩ := h
                    refine ⟨rfl, ?_⟩
                    exact h
                  · replace h := h.2 c138
                    refine And.intro trivial ?_
                    refine f_M_rank_c (d := d)  ?_
                    refine ⟨_, rfl, ?_⟩
                    refine And.intro (fun c144 => ?_) (fun c144 => ?_)
                    · replace h := h.1 c144
                      obtain ⟨k145, hkk145, hek145, h⟩ := h
                      refine And.intro ⟨pm_aw_of sh_l154 hkk145 hek145 (by decide), (Or.inl rfl)⟩ ?_
                      rw [pm_tn hek145 hkk145 (by decide)]
                      refine And.intro trivial ?_
                      refine f_M_rank_c (d := d)  ?_
                      refine ⟨_, rfl, ?_⟩
                      refine And.intro sh_l141 ?_
                      refine pm_C_imp h (fun v hi146 h => ?_)
                      obtain ⟨rfl, h⟩ := h
                      refine ⟨rfl, ?_⟩
                      refine And.intro sh_l141 ?_
                      rw [hr_141_23]
                      refine And.intro sh_l141 ?_
                      obtain ⟨k147, hkk147, hek147, h⟩ := h
                      refine And.intro ⟨pm_aw_of sh_l153 hkk147 hek147 (by decide), trivial⟩ ?_
                      rw [pm_tn hek147 hkk147 (by decide)]
                      refine And.intro sh_l141 ?_
                      refine And.intro ⟨sh_l141, trivial⟩ ?_
                      obtain ⟨hi148, ehi148⟩ : ∃ m : pm_B, m = pm_u (pm_u hi146 153 k147 (f_M_signHere hi )) 141 24 (((pm_u hi146 153 k147 (f_M_signHere hi )) 141 24) + 1) := ⟨_, rfl⟩
                      replace h := h hi148 ehi148
                      rw [← ehi148]
                      refine And.intro sh_l141 ?_
                      refine pm_C_imp h (fun v hi149 h => ?_)
                      obtain ⟨rfl, h⟩ := h
                      refine ⟨rfl, ?_⟩
                      exact h
                    · replace h := h.2 c144
                      refine And.intro sh_l141 ?_
                      rw [hr_141_25]
                      obtain ⟨k150, hkk150, hek150, h⟩ := h
                      refine And.intro (pm_ao_of (t := 0) sh_l154 hkk150 hek150 (by decide)) ?_
                      rw [pm_tn hek150 hkk150 (by decide)]
                      refine And.intro (fun c151 => ?_) (fun c151 => ?_)
                      · replace h := h.1 c151
                        obtain ⟨k152, hkk152, hek152, h⟩ := h
                        refine And.intro ⟨pm_aw_of sh_l154 hkk152 hek152 (by decide), (Or.inl rfl)⟩ ?_
                        rw [pm_tn hek152 hkk152 (by decide)]
                        refine And.intro trivial ?_
                        refine f_M_rank_c (d := d)  ?_
                        refine ⟨_, rfl, ?_⟩
                        refine And.intro sh_l141 ?_
                        refine pm_C_imp h (fun v hi153 h => ?_)
                        obtain ⟨rfl, h⟩ := h
                        refine ⟨rfl, ?_⟩
                        refine And.intro sh_l141 ?_
                        rw [hr_141_23]
                        refine And.intro sh_l141 ?_
                        obtain ⟨k154, hkk154, hek154, h⟩ := h
                        refine And.intro ⟨pm_aw_of sh_l153 hkk154 hek154 (by decide), trivial⟩ ?_
                        rw [pm_tn hek154 hkk154 (by decide)]
                        refine And.intro sh_l141 ?_
                        refine And.intro ⟨sh_l141, trivial⟩ ?_
                        obtain ⟨hi155, ehi155⟩ : ∃ m : pm_B, m = pm_u (pm_u hi153 153 k154 (f_M_signHere hi )) 141 24 (((pm_u hi153 153 k154 (f_M_signHere hi )) 141 24) + 1) := ⟨_, rfl⟩
                        replace h := h hi155 ehi155
                        rw [← ehi155]
                        refine And.intro sh_l141 ?_
                        refine pm_C_imp h (fun v hi156 h => ?_)
                        obtain ⟨rfl, h⟩ := h
                        refine ⟨rfl, ?_⟩
                        exact h
                      · replace h := h.2 c151
                        obtain ⟨k157, hkk157, hek157, h⟩ := h
                        refine And.intro ⟨pm_aw_of sh_l154 hkk157 hek157 (by decide), (Or.inr rfl)⟩ ?_
                        rw [pm_tn hek157 hkk157 (by decide)]
                        refine And.intro trivial ?_
                        refine f_M_rank_c (d := d)  ?_
                        refine ⟨_, rfl, ?_⟩
                        refine And.intro sh_l141 ?_
                        refine pm_C_imp h (fun v hi158 h => ?_)
                        obtain ⟨rfl, h⟩ := h
                        refine ⟨rfl, ?_⟩
                        refine And.intro sh_l141 ?_
                        rw [hr_141_23]
                        refine And.intro sh_l141 ?_
                        obtain ⟨k159, hkk159, hek159, h⟩ := h
                        refine And.intro ⟨pm_aw_of sh_l153 hkk159 hek159 (by decide), trivial⟩ ?_
                        rw [pm_tn hek159 hkk159 (by decide)]
                        refine And.intro sh_l141 ?_
                        refine And.intro ⟨sh_l141, trivial⟩ ?_
                        obtain ⟨hi160, ehi160⟩ : ∃ m : pm_B, m = pm_u (pm_u hi158 153 k159 (f_M_signHere hi )) 141 24 (((pm_u hi158 153 k159 (f_M_signHere hi )) 141 24) + 1) := ⟨_, rfl⟩
                        replace h := h hi160 ehi160
                        rw [← ehi160]
                        refine And.intro sh_l141 ?_
                        refine pm_C_imp h (fun v hi161 h => ?_)
                        obtain ⟨rfl, h⟩ := h
                        refine ⟨rfl, ?_⟩
                        exact h
                · replace h := h.2 c137
                  refine And.intro (Or.inl rfl) ?_
                  exact h
          · replace h := h.2 c109
            refine And.intro sh_l141 ?_
            refine pm_C_imp h (fun v hi162 h => ?_)
            obtain ⟨rfl, h⟩ := h
            refine ⟨rfl, ?_⟩
            refine And.intro sh_l141 ?_
            refine And.intro ⟨sh_l141, trivial⟩ ?_
            refine And.intro sh_l141 ?_
            refine pm_C_imp h (fun v hi163 h => ?_)
            obtain ⟨rfl, h⟩ := h
            refine ⟨rfl, ?_⟩
            refine And.intro sh_l141 ?_
            refine pm_C_imp h (fun v hi164 h => ?_)
            obtain ⟨x165, rfl, h⟩ := h
            refine ⟨_, rfl, ?_⟩
            refine And.intro sh_l141 ?_
            refine pm_C_imp h (fun v hi166 h => ?_)
            obtain ⟨rfl, h⟩ := h
            refine ⟨rfl, ?_⟩
            exact h
    · replace h := h.2 c2
      refine And.intro sh_l141 ?_
      refine And.intro (fun c167 => ?_) (fun c167 => ?_)
      · replace h := h.1 c167
        refine And.intro sh_l141 ?_
        refine And.intro (fun c168 => ?_) (fun c168 => ?_)
        · replace h := h.1 c168
          refine And.intro sh_l141 ?_
          refine pm_C_imp h (fun v hi169 h => ?_)
          obtain ⟨x170, rfl, h⟩ := h
          refine ⟨_, rfl, ?_⟩
          refine And.intro (fun c171 => ?_) (fun c171 => ?_)
          · replace h := h.1 c171
            refine And.intro (Or.inl rfl) ?_
            exact h
          · replace h := h.2 c171
            refine And.intro sh_l141 ?_
            refine pm_C_imp h (fun v hi172 h => ?_)
            obtain ⟨x173, rfl, h⟩ := h
            refine ⟨_, rfl, ?_⟩
            exact h
        · replace h := h.2 c168
          refine And.intro sh_l141 ?_
          refine And.intro (fun c174 => ?_) (fun c174 => ?_)
          · replace h := h.1 c174
            refine And.intro sh_l141 ?_
            refine pm_C_imp h (fun v hi175 h => ?_)
            obtain ⟨x176, rfl, h⟩ := h
            refine ⟨_, rfl, ?_⟩
            refine And.intro (fun c177 => ?_) (fun c177 => ?_)
            · replace h := h.1 c177
              refine And.intro (Or.inl rfl) ?_
              exact h
            · replace h := h.2 c177
              refine And.intro sh_l141 ?_
              refine pm_C_imp h (fun v hi178 h => ?_)
              obtain ⟨x179, rfl, h⟩ := h
              refine ⟨_, rfl, ?_⟩
              exact h
          · replace h := h.2 c174
            refine And.intro (fun c180 => ?_) (fun c180 => ?_)
            · replace h := h.1 c180
              refine And.intro sh_l141 ?_
              refine pm_C_imp h (fun v hi181 h => ?_)
              obtain ⟨x182, rfl, h⟩ := h
              refine ⟨_, rfl, ?_⟩
              refine And.intro (fun c183 => ?_) (fun c183 => ?_)
              · replace h := h.1 c183
                refine And.intro (Or.inl rfl) ?_
                exact h
              · replace h := h.2 c183
                refine And.intro sh_l141 ?_
                refine pm_C_imp h (fun v hi184 h => ?_)
                obtain ⟨x185, rfl, h⟩ := h
                refine ⟨_, rfl, ?_⟩
                exact h
            · replace h := h.2 c180
              refine And.intro sh_l141 ?_
              rw [hr_141_23]
              refine And.intro sh_l141 ?_
              obtain ⟨k186, hkk186, hek186, h⟩ := h
              refine And.intro ⟨pm_aw_of sh_l153 hkk186 hek186 (by decide), trivial⟩ ?_
              rw [pm_tn hek186 hkk186 (by decide)]
              refine And.intro sh_l141 ?_
              refine And.intro ⟨sh_l141, trivial⟩ ?_
              obtain ⟨hi187, ehi187⟩ : ∃ m : pm_B, m = pm_u (pm_u hi 153 k186 (-11)) 141 24 (((pm_u hi 153 k186 (-11)) 141 24) + 1) := ⟨_, rfl⟩
              replace h := h hi187 ehi187
              rw [← ehi187]
              refine And.intro sh_l141 ?_
              rw [hr_141_25]
              obtain ⟨k188, hkk188, hek188, h⟩ := h
              refine And.intro ⟨pm_aw_of sh_l154 hkk188 hek188 (by decide), (Or.inl rfl)⟩ ?_
              rw [pm_tn hek188 hkk188 (by decide)]
              refine And.intro sh_l141 ?_
              refine pm_C_imp h (fun v hi189 h => ?_)
              obtain ⟨rfl, h⟩ := h
              refine ⟨rfl, ?_⟩
              refine And.intro sh_l141 ?_
              refine pm_C_imp h (fun v hi190 h => ?_)
              obtain ⟨x191, rfl, h⟩ := h
              refine ⟨_, rfl, ?_⟩
              exact h
      · replace h := h.2 c167
        refine And.intro sh_l141 ?_
        refine And.intro (fun c192 => ?_) (fun c192 => ?_)
        · replace h := h.1 c192
          refine And.intro sh_l141 ?_
          refine And.intro (fun c193 => ?_) (fun c193 => ?_)
          · replace h := h.1 c193
            refine And.intro sh_l141 ?_
            refine pm_C_imp h (fun v hi194 h => ?_)
            obtain ⟨x195, rfl, h⟩ := h
            refine ⟨_, rfl, ?_⟩
            refine And.intro (fun c196 => ?_) (fun c196 => ?_)
            · replace h := h.1 c196
              refine And.intro (Or.inl rfl) ?_
              exact h
            · replace h := h.2 c196
              refine And.intro sh_l141 ?_
              refine pm_C_imp h (fun v hi197 h => ?_)
              obtain ⟨x198, rfl, h⟩ := h
              refine ⟨_, rfl, ?_⟩
              exact h
          · replace h := h.2 c193
            refine And.intro sh_l141 ?_
            refine And.intro (fun c199 => ?_) (fun c199 => ?_)
            · replace h := h.1 c199
              refine And.intro sh_l141 ?_
              refine pm_C_imp h (fun v hi200 h => ?_)
              obtain ⟨x201, rfl, h⟩ := h
              refine ⟨_, rfl, ?_⟩
              refine And.intro (fun c202 => ?_) (fun c202 => ?_)
              · replace h := h.1 c202
                refine And.intro (Or.inl rfl) ?_
                exact h
              · replace h := h.2 c202
                refine And.intro sh_l141 ?_
                refine pm_C_imp h (fun v hi203 h => ?_)
                obtain ⟨x204, rfl, h⟩ := h
                refine ⟨_, rfl, ?_⟩
                exact h
            · replace h := h.2 c199
              refine And.intro (fun c205 => ?_) (fun c205 => ?_)
              · replace h := h.1 c205
                refine And.intro sh_l141 ?_
                refine pm_C_imp h (fun v hi206 h => ?_)
                obtain ⟨x207, rfl, h⟩ := h
                refine ⟨_, rfl, ?_⟩
                refine And.intro (fun c208 => ?_) (fun c208 => ?_)
                · replace h := h.1 c208
                  refine And.intro (Or.inl rfl) ?_
                  exact h
                · replace h := h.2 c208
                  refine And.intro sh_l141 ?_
                  refine pm_C_imp h (fun v hi209 h => ?_)
                  obtain ⟨x210, rfl, h⟩ := h
                  refine ⟨_, rfl, ?_⟩
                  exact h
              · replace h := h.2 c205
                refine And.intro sh_l141 ?_
                rw [hr_141_23]
                refine And.intro sh_l141 ?_
                obtain ⟨k211, hkk211, hek211, h⟩ := h
                refine And.intro ⟨pm_aw_of sh_l153 hkk211 hek211 (by decide), trivial⟩ ?_
                rw [pm_tn hek211 hkk211 (by decide)]
                refine And.intro sh_l141 ?_
                refine And.intro ⟨sh_l141, trivial⟩ ?_
                obtain ⟨hi212, ehi212⟩ : ∃ m : pm_B, m = pm_u (pm_u hi 153 k211 (-11)) 141 24 (((pm_u hi 153 k211 (-11)) 141 24) + 1) := ⟨_, rfl⟩
                replace h := h hi212 ehi212
                rw [← ehi212]
                refine And.intro sh_l141 ?_
                rw [hr_141_25]
                obtain ⟨k213, hkk213, hek213, h⟩ := h
                refine And.intro ⟨pm_aw_of sh_l154 hkk213 hek213 (by decide), (Or.inl rfl)⟩ ?_
                rw [pm_tn hek213 hkk213 (by decide)]
                refine And.intro sh_l141 ?_
                refine pm_C_imp h (fun v hi214 h => ?_)
                obtain ⟨rfl, h⟩ := h
                refine ⟨rfl, ?_⟩
                refine And.intro sh_l141 ?_
                refine pm_C_imp h (fun v hi215 h => ?_)
                obtain ⟨x216, rfl, h⟩ := h
                refine ⟨_, rfl, ?_⟩
                exact h
        · replace h := h.2 c192
          refine And.intro (fun c217 => ?_) (fun c217 => ?_)
          · replace h := h.1 c217
            refine And.intro sh_l141 ?_
            refine And.intro (fun c218 => ?_) (fun c218 => ?_)
            · replace h := h.1 c218
              refine And.intro sh_l141 ?_
              refine pm_C_imp h (fun v hi219 h => ?_)
              obtain ⟨x220, rfl, h⟩ := h
              refine ⟨_, rfl, ?_⟩
              refine And.intro (fun c221 => ?_) (fun c221 => ?_)
              · replace h := h.1 c221
                refine And.intro (Or.inl rfl) ?_
                exact h
              · replace h := h.2 c221
                refine And.intro sh_l141 ?_
                refine pm_C_imp h (fun v hi222 h => ?_)
                obtain ⟨x223, rfl, h⟩ := h
                refine ⟨_, rfl, ?_⟩
                exact h
            · replace h := h.2 c218
              refine And.intro sh_l141 ?_
              refine And.intro (fun c224 => ?_) (fun c224 => ?_)
              · replace h := h.1 c224
                refine And.intro sh_l141 ?_
                refine pm_C_imp h (fun v hi225 h => ?_)
                obtain ⟨x226, rfl, h⟩ := h
                refine ⟨_, rfl, ?_⟩
                refine And.intro (fun c227 => ?_) (fun c227 => ?_)
                · replace h := h.1 c227
                  refine And.intro (Or.inl rfl) ?_
                  exact h
                · replace h := h.2 c227
                  refine And.intro sh_l141 ?_
                  refine pm_C_imp h (fun v hi228 h => ?_)
                  obtain ⟨x229, rfl, h⟩ := h
                  refine ⟨_, rfl, ?_⟩
                  exact h
              · replace h := h.2 c224
                refine And.intro (fun c230 => ?_) (fun c230 => ?_)
                · replace h := h.1 c230
                  refine And.intro sh_l141 ?_
                  refine pm_C_imp h (fun v hi231 h => ?_)
                  obtain ⟨x232, rfl, h⟩ := h
                  refine ⟨_, rfl, ?_⟩
                  refine And.intro (fun c233 => ?_) (fun c233 => ?_)
                  · replace h := h.1 c233
                    refine And.intro (Or.inl rfl) ?_
                    exact h
                  · replace h := h.2 c233
                    refine And.intro sh_l141 ?_
                    refine pm_C_imp h (fun v hi234 h => ?_)
                    obtain ⟨x235, rfl, h⟩ := h
                    refine ⟨_, rfl, ?_⟩
                    exact h
                · replace h := h.2 c230
                  refine And.intro sh_l141 ?_
                  rw [hr_141_23]
                  refine And.intro sh_l141 ?_
                  obtain ⟨k236, hkk236, hek236, h⟩ := h
                  refine And.intro ⟨pm_aw_of sh_l153 hkk236 hek236 (by decide), trivial⟩ ?_
                  rw [pm_tn hek236 hkk236 (by decide)]
                  refine And.intro sh_l141 ?_
                  refine And.intro ⟨sh_l141, trivial⟩ ?_
                  obtain ⟨hi237, ehi237⟩ : ∃ m : pm_B, m = pm_u (pm_u hi 153 k236 (-11)) 141 24 (((pm_u hi 153 k236 (-11)) 141 24) + 1) := ⟨_, rfl⟩
                  replace h := h hi237 ehi237
                  rw [← ehi237]
                  refine And.intro sh_l141 ?_
                  rw [hr_141_25]
                  obtain ⟨k238, hkk238, hek238, h⟩ := h
                  refine And.intro ⟨pm_aw_of sh_l154 hkk238 hek238 (by decide), (Or.inl rfl)⟩ ?_
                  rw [pm_tn hek238 hkk238 (by decide)]
                  refine And.intro sh_l141 ?_
                  refine pm_C_imp h (fun v hi239 h => ?_)
                  obtain ⟨rfl, h⟩ := h
                  refine ⟨rfl, ?_⟩
                  refine And.intro sh_l141 ?_
                  refine pm_C_imp h (fun v hi240 h => ?_)
                  obtain ⟨x241, rfl, h⟩ := h
                  refine ⟨_, rfl, ?_⟩
                  exact h
          · replace h := h.2 c217
            refine And.intro sh_l141 ?_
            rw [hr_141_23]
            refine And.intro sh_l141 ?_
            obtain ⟨k242, hkk242, hek242, h⟩ := h
            refine And.intro ⟨pm_aw_of sh_l153 hkk242 hek242 (by decide), trivial⟩ ?_
            rw [pm_tn hek242 hkk242 (by decide)]
            refine And.intro sh_l141 ?_
            refine And.intro ⟨sh_l141, trivial⟩ ?_
            obtain ⟨hi243, ehi243⟩ : ∃ m : pm_B, m = pm_u (pm_u hi 153 k242 (-10)) 141 24 (((pm_u hi 153 k242 (-10)) 141 24) + 1) := ⟨_, rfl⟩
            replace h := h hi243 ehi243
            rw [← ehi243]
            refine And.intro sh_l141 ?_
            refine pm_C_imp h (fun v hi244 h => ?_)
            obtain ⟨rfl, h⟩ := h
            refine ⟨rfl, ?_⟩
            refine And.intro sh_l141 ?_
            refine pm_C_imp h (fun v hi245 h => ?_)
            obtain ⟨x246, rfl, h⟩ := h
            refine ⟨_, rfl, ?_⟩
            exact h
  · replace h := h.2 c1
    refine And.intro sh_l141 ?_
    refine And.intro (fun c247 => ?_) (fun c247 => ?_)
    · replace h := h.1 c247
      refine And.intro sh_l141 ?_
      refine pm_C_imp h (fun v hi248 h => ?_)
      obtain ⟨rfl, h⟩ := h
      refine ⟨rfl, ?_⟩
      refine And.intro (fun c249 => ?_) (fun c249 => ?_)
      · replace h := h.1 c249
        refine And.intro (Or.inl rfl) ?_
        exact h
      · replace h := h.2 c249
        refine And.intro (Or.inr rfl) ?_
        exact h
    · replace h := h.2 c247
      refine And.intro (fun c250 => ?_) (fun c250 => ?_)
      · replace h := h.1 c250
        refine And.intro sh_l141 ?_
        refine And.intro (fun c251 => ?_) (fun c251 => ?_)
        · replace h := h.1 c251
          refine And.intro sh_l141 ?_
          refine f_M_signHere_c (d := d)  ?_
          refine ⟨_, rfl, ?_⟩
          refine And.intro (fun c252 => ?_) (fun c252 => ?_)
          · replace h := h.1 c252
            refine And.intro (Or.inl rfl) ?_
            exact h
          · replace h := h.2 c252
            refine And.intro trivial ?_
            refine f_M_rank_c (d := d)  ?_
            refine ⟨_, rfl, ?_⟩
            refine And.intro (fun c253 => ?_) (fun c253 => ?_)
            · replace h := h.1 c253
              refine And.intro sh_l141 ?_
              rw [hr_141_25]
              refine And.intro trivial ?_
              refine f_M_rank_c (d := d)  ?_
              refine ⟨_, rfl, ?_⟩
              refine And.intro (fun c254 => ?_) (fun c254 => ?_)
              · replace h := h.1 c254
                obtain ⟨k255, hkk255, hek255, h⟩ := h
                refine And.intro ⟨pm_aw_of sh_l154 hkk255 hek255 (by decide), (Or.inr rfl)⟩ ?_
                rw [pm_tn hek255 hkk255 (by decide)]
                refine And.intro trivial ?_
                refine f_M_rank_c (d := d)  ?_
                refine ⟨_, rfl, ?_⟩
                refine And.intro sh_l141 ?_
                refine pm_C_imp h (fun v hi256 h => ?_)
                obtain ⟨rfl, h⟩ := h
                refine ⟨rfl, ?_⟩
                refine And.intro sh_l141 ?_
                rw [hr_141_23]
                refine And.intro sh_l141 ?_
                obtain ⟨k257, hkk257, hek257, h⟩ := h
                refine And.intro ⟨pm_aw_of sh_l153 hkk257 hek257 (by decide), trivial⟩ ?_
                rw [pm_tn hek257 hkk257 (by decide)]
                refine And.intro sh_l141 ?_
                refine And.intro ⟨sh_l141, trivial⟩ ?_
                obtain ⟨hi258, ehi258⟩ : ∃ m : pm_B, m = pm_u (pm_u hi256 153 k257 (f_M_signHere hi )) 141 24 (((pm_u hi256 153 k257 (f_M_signHere hi )) 141 24) + 1) := ⟨_, rfl⟩
                replace h := h hi258 ehi258
                rw [← ehi258]
                refine And.intro sh_l141 ?_
                refine pm_C_imp h (fun v hi259 h => ?_)
                obtain ⟨rfl, h⟩ := h
                refine ⟨rfl, ?_⟩
                exact h
              · replace h := h.2 c254
                refine And.intro trivial ?_
                refine f_M_rank_c (d := d)  ?_
                refine ⟨_, rfl, ?_⟩
                refine And.intro (fun c260 => ?_) (fun c260 => ?_)
                · replace h := h.1 c260
                  obtain ⟨k261, hkk261, hek261, h⟩ := h
                  refine And.intro ⟨pm_aw_of sh_l154 hkk261 hek261 (by decide), (Or.inl rfl)⟩ ?_
                  rw [pm_tn hek261 hkk261 (by decide)]
                  refine And.intro trivial ?_
                  refine f_M_rank_c (d := d)  ?_
                  refine ⟨_, rfl, ?_⟩
                  refine And.intro sh_l141 ?_
                  refine pm_C_imp h (fun v hi262 h => ?_)
                  obtain ⟨rfl, h⟩ := h
                  refine ⟨rfl, ?_⟩
                  refine And.intro sh_l141 ?_
                  rw [hr_141_23]
                  refine And.intro sh_l141 ?_
                  obtain ⟨k263, hkk263, hek263, h⟩ := h
                  refine And.intro ⟨pm_aw_of sh_l153 hkk263 hek263 (by decide), trivial⟩ ?_
                  rw [pm_tn hek263 hkk263 (by decide)]
                  refine And.intro sh_l141 ?_
                  refine And.intro ⟨sh_l141, trivial⟩ ?_
                  obtain ⟨hi264, ehi264⟩ : ∃ m : pm_B, m = pm_u (pm_u hi262 153 k263 (f_M_signHere hi )) 141 24 (((pm_u hi262 153 k263 (f_M_signHere hi )) 141 24) + 1) := ⟨_, rfl⟩
                  replace h := h hi264 ehi264
                  rw [← ehi264]
                  refine And.intro sh_l141 ?_
                  refine pm_C_imp h (fun v hi265 h => ?_)
                  obtain ⟨rfl, h⟩ := h
                  refine ⟨rfl, ?_⟩
                  exact h
                · replace h := h.2 c260
                  refine And.intro sh_l141 ?_
                  rw [hr_141_25]
                  obtain ⟨k266, hkk266, hek266, h⟩ := h
                  refine And.intro (pm_ao_of (t := 0) sh_l154 hkk266 hek266 (by decide)) ?_
                  rw [pm_tn hek266 hkk266 (by decide)]
                  refine And.intro (fun c267 => ?_) (fun c267 => ?_)
                  · replace h := h.1 c267
                    obtain ⟨k268, hkk268, hek268, h⟩ := h
                    refine And.intro ⟨pm_aw_of sh_l154 hkk268 hek268 (by decide), (Or.inl rfl)⟩ ?_
                    rw [pm_tn hek268 hkk268 (by decide)]
                    refine And.intro trivial ?_
                    refine f_M_rank_c (d := d)  ?_
                    refine ⟨_, rfl, ?_⟩
                    refine And.intro sh_l141 ?_
                    refine pm_C_imp h (fun v hi269 h => ?_)
                    obtain ⟨rfl, h⟩ := h
                    refine ⟨rfl, ?_⟩
                    refine And.intro sh_l141 ?_
                    rw [hr_141_23]
                    refine And.intro sh_l141 ?_
                    obtain ⟨k270, hkk270, hek270, h⟩ := h
                    refine And.intro ⟨pm_aw_of sh_l153 hkk270 hek270 (by decide), trivial⟩ ?_
                    rw [pm_tn hek270 hkk270 (by decide)]
                    refine And.intro sh_l141 ?_
                    refine And.intro ⟨sh_l141, trivial⟩ ?_
                    obtain ⟨hi271, ehi271⟩ : ∃ m : pm_B, m = pm_u (pm_u hi269 153 k270 (f_M_signHere hi )) 141 24 (((pm_u hi269 153 k270 (f_M_signHere hi )) 141 24) + 1) := ⟨_, rfl⟩
                    replace h := h hi271 ehi271
                    rw [← ehi271]
                    refine And.intro sh_l141 ?_
                    refine pm_C_imp h (fun v hi272 h => ?_)
                    obtain ⟨rfl, h⟩ := h
                    refine ⟨rfl, ?_⟩
                    exact h
                  · replace h := h.2 c267
                    obtain ⟨k273, hkk273, hek273, h⟩ := h
                    refine And.intro ⟨pm_aw_of sh_l154 hkk273 hek273 (by decide), (Or.inr rfl)⟩ ?_
                    rw [pm_tn hek273 hkk273 (by decide)]
                    refine And.intro trivial ?_
                    refine f_M_rank_c (d := d)  ?_
                    refine ⟨_, rfl, ?_⟩
                    refine And.intro sh_l141 ?_
                    refine pm_C_imp h (fun v hi274 h => ?_)
                    obtain ⟨rfl, h⟩ := h
                    refine ⟨rfl, ?_⟩
                    refine And.intro sh_l141 ?_
                    rw [hr_141_23]
                    refine And.intro sh_l141 ?_
                    obtain ⟨k275, hkk275, hek275, h⟩ := h
                    refine And.intro ⟨pm_aw_of sh_l153 hkk275 hek275 (by decide), trivial⟩ ?_
                    rw [pm_tn hek275 hkk275 (by decide)]
                    refine And.intro sh_l141 ?_
                    refine And.intro ⟨sh_l141, trivial⟩ ?_
                    obtain ⟨hi276, ehi276⟩ : ∃ m : pm_B, m = pm_u (pm_u hi274 153 k275 (f_M_signHere hi )) 141 24 (((pm_u hi274 153 k275 (f_M_signHere hi )) 141 24) + 1) := ⟨_, rfl⟩
                    replace h := h hi276 ehi276
                    rw [← ehi276]
                    refine And.intro sh_l141 ?_
                    refine pm_C_imp h (fun v hi277 h => ?_)
                    obtain ⟨rfl, h⟩ := h
                    refine ⟨rfl, ?_⟩
                    exact h
            · replace h := h.2 c253
              refine And.intro sh_l141 ?_
              rw [hr_141_25]
              obtain ⟨k278, hkk278, hek278, h⟩ := h
              refine And.intro (pm_ao_of (t := 0) sh_l154 hkk278 hek278 (by decide)) ?_
              rw [pm_tn hek278 hkk278 (by decide)]
              refine And.intro (fun c279 => ?_) (fun c279 => ?_)
              · replace h := h.1 c279
                refine And.intro sh_l141 ?_
                rw [hr_141_25]
                refine And.intro trivial ?_
                refine f_M_rank_c (d := d)  ?_
                refine ⟨_, rfl, ?_⟩
                refine And.intro (fun c280 => ?_) (fun c280 => ?_)
                · replace h := h.1 c280
                  obtain ⟨k281, hkk281, hek281, h⟩ := h
                  refine And.intro ⟨pm_aw_of sh_l154 hkk281 hek281 (by decide), (Or.inr rfl)⟩ ?_
                  rw [pm_tn hek281 hkk281 (by decide)]
                  refine And.intro trivial ?_
                  refine f_M_rank_c (d := d)  ?_
                  refine ⟨_, rfl, ?_⟩
                  refine And.intro sh_l141 ?_
                  refine pm_C_imp h (fun v hi282 h => ?_)
                  obtain ⟨rfl, h⟩ := h
                  refine ⟨rfl, ?_⟩
                  refine And.intro sh_l141 ?_
                  rw [hr_141_23]
                  refine And.intro sh_l141 ?_
                  obtain ⟨k283, hkk283, hek283, h⟩ := h
                  refine And.intro ⟨pm_aw_of sh_l153 hkk283 hek283 (by decide), trivial⟩ ?_
                  rw [pm_tn hek283 hkk283 (by decide)]
                  refine And.intro sh_l141 ?_
                  refine And.intro ⟨sh_l141, trivial⟩ ?_
                  obtain ⟨hi284, ehi284⟩ : ∃ m : pm_B, m = pm_u (pm_u hi282 153 k283 (f_M_signHere hi )) 141 24 (((pm_u hi282 153 k283 (f_M_signHere hi )) 141 24) + 1) := ⟨_, rfl⟩
                  replace h := h hi284 ehi284
                  rw [← ehi284]
                  refine And.intro sh_l141 ?_
                  refine pm_C_imp h (fun v hi285 h => ?_)
                  obtain ⟨rfl, h⟩ := h
                  refine ⟨rfl, ?_⟩
                  exact h
                · replace h := h.2 c280
                  refine And.intro trivial ?_
                  refine f_M_rank_c (d := d)  ?_
                  refine ⟨_, rfl, ?_⟩
                  refine And.intro (fun c286 => ?_) (fun c286 => ?_)
                  · replace h := h.1 c286
                    obtain ⟨k287, hkk287, hek287, h⟩ := h
                    refine And.intro ⟨pm_aw_of sh_l154 hkk287 hek287 (by decide), (Or.inl rfl)⟩ ?_
                    rw [pm_tn hek287 hkk287 (by decide)]
                    refine And.intro trivial ?_
                    refine f_M_rank_c (d := d)  ?_
                    refine ⟨_, rfl, ?_⟩
                    refine And.intro sh_l141 ?_
                    refine pm_C_imp h (fun v hi288 h => ?_)
                    obtain ⟨rfl, h⟩ := h
                    refine ⟨rfl, ?_⟩
                    refine And.intro sh_l141 ?_
                    rw [hr_141_23]
                    refine And.intro sh_l141 ?_
                    obtain ⟨k289, hkk289, hek289, h⟩ := h
                    refine And.intro ⟨pm_aw_of sh_l153 hkk289 hek289 (by decide), trivial⟩ ?_
                    rw [pm_tn hek289 hkk289 (by decide)]
                    refine And.intro sh_l141 ?_
                    refine And.intro ⟨sh_l141, trivial⟩ ?_
                    obtain ⟨hi290, ehi290⟩ : ∃ m : pm_B, m = pm_u (pm_u hi288 153 k289 (f_M_signHere hi )) 141 24 (((pm_u hi288 153 k289 (f_M_signHere hi )) 141 24) + 1) := ⟨_, rfl⟩
                    replace h := h hi290 ehi290
                    rw [← ehi290]
                    refine And.intro sh_l141 ?_
                    refine pm_C_imp h (fun v hi291 h => ?_)
                    obtain ⟨rfl, h⟩ := h
                    refine ⟨rfl, ?_⟩
                    exact h
                  · replace h := h.2 c286
                    refine And.intro sh_l141 ?_
                    rw [hr_141_25]
                    obtain ⟨k292, hkk292, hek292, h⟩ := h
                    refine And.intro (pm_ao_of (t := 0) sh_l154 hkk292 hek292 (by decide)) ?_
                    rw [pm_tn hek292 hkk292 (by decide)]
                    refine And.intro (fun c293 => ?_) (fun c293 => ?_)
                    · replace h := h.1 c293
                      obtain ⟨k294, hkk294, hek294, h⟩ := h
                      refine And.intro ⟨pm_aw_of sh_l154 hkk294 hek294 (by decide), (Or.inl rfl)⟩ ?_
                      rw [pm_tn hek294 hkk294 (by decide)]
                      refine And.intro trivial ?_
                      refine f_M_rank_c (d := d)  ?_
                      refine ⟨_, rfl, ?_⟩
                      refine And.intro sh_l141 ?_
                      refine pm_C_imp h (fun v hi295 h => ?_)
                      obtain ⟨rfl, h⟩ := h
                      refine ⟨rfl, ?_⟩
                      refine And.intro sh_l141 ?_
                      rw [hr_141_23]
                      refine And.intro sh_l141 ?_
                      obtain ⟨k296, hkk296, hek296, h⟩ := h
                      refine And.intro ⟨pm_aw_of sh_l153 hkk296 hek296 (by decide), trivial⟩ ?_
                      rw [pm_tn hek296 hkk296 (by decide)]
                      refine And.intro sh_l141 ?_
                      refine And.intro ⟨sh_l141, trivial⟩ ?_
                      obtain ⟨hi297, ehi297⟩ : ∃ m : pm_B, m = pm_u (pm_u hi295 153 k296 (f_M_signHere hi )) 141 24 (((pm_u hi295 153 k296 (f_M_signHere hi )) 141 24) + 1) := ⟨_, rfl⟩
                      replace h := h hi297 ehi297
                      rw [← ehi297]
                      refine And.intro sh_l141 ?_
                      refine pm_C_imp h (fun v hi298 h => ?_)
                      obtain ⟨rfl, h⟩ := h
                      refine ⟨rfl, ?_⟩
                      exact h
                    · replace h := h.2 c293
                      obtain ⟨k299, hkk299, hek299, h⟩ := h
                      refine And.intro ⟨pm_aw_of sh_l154 hkk299 hek299 (by decide), (Or.inr rfl)⟩ ?_
                      rw [pm_tn hek299 hkk299 (by decide)]
                      refine And.intro trivial ?_
                      refine f_M_rank_c (d := d)  ?_
                      refine ⟨_, rfl, ?_⟩
                      refine And.intro sh_l141 ?_
                      refine pm_C_imp h (fun v hi300 h => ?_)
                      obtain ⟨rfl, h⟩ := h
                      refine ⟨rfl, ?_⟩
                      refine And.intro sh_l141 ?_
                      rw [hr_141_23]
                      refine And.intro sh_l141 ?_
                      obtain ⟨k301, hkk301, hek301, h⟩ := h
                      refine And.intro ⟨pm_aw_of sh_l153 hkk301 hek301 (by decide), trivial⟩ ?_
                      rw [pm_tn hek301 hkk301 (by decide)]
                      refine And.intro sh_l141 ?_
                      refine And.intro ⟨sh_l141, trivial⟩ ?_
                      obtain ⟨hi302, ehi302⟩ : ∃ m : pm_B, m = pm_u (pm_u hi300 153 k301 (f_M_signHere hi )) 141 24 (((pm_u hi300 153 k301 (f_M_signHere hi )) 141 24) + 1) := ⟨_, rfl⟩
                      replace h := h hi302 ehi302
                      rw [← ehi302]
                      refine And.intro sh_l141 ?_
                      refine pm_C_imp h (fun v hi303 h => ?_)
                      obtain ⟨rfl, h⟩ := h
                      refine ⟨rfl, ?_⟩
                      exact h
              · replace h := h.2 c279
                refine And.intro (Or.inl rfl) ?_
                exact h
        · replace h := h.2 c251
          refine And.intro sh_l141 ?_
          refine And.intro (fun c304 => ?_) (fun c304 => ?_)
          · replace h := h.1 c304
            refine And.intro sh_l141 ?_
            refine f_M_signHere_c (d := d)  ?_
            refine ⟨_, rfl, ?_⟩
            refine And.intro (fun c305 => ?_) (fun c305 => ?_)
            · replace h := h.1 c305
              refine And.intro (Or.inl rfl) ?_
              exact h
            · replace h := h.2 c305
              refine And.intro trivial ?_
              refine f_M_rank_c (d := d)  ?_
              refine ⟨_, rfl, ?_⟩
              refine And.intro (fun c306 => ?_) (fun c306 => ?_)
              · replace h := h.1 c306
                refine And.intro sh_l141 ?_
                rw [hr_141_25]
                refine And.intro trivial ?_
                refine f_M_rank_c (d := d)  ?_
                refine ⟨_, rfl, ?_⟩
                refine And.intro (fun c307 => ?_) (fun c307 => ?_)
                · replace h := h.1 c307
                  obtain ⟨k308, hkk308, hek308, h⟩ := h
                  refine And.intro ⟨pm_aw_of sh_l154 hkk308 hek308 (by decide), (Or.inr rfl)⟩ ?_
                  rw [pm_tn hek308 hkk308 (by decide)]
                  refine And.intro trivial ?_
                  refine f_M_rank_c (d := d)  ?_
                  refine ⟨_, rfl, ?_⟩
                  refine And.intro sh_l141 ?_
                  refine pm_C_imp h (fun v hi309 h => ?_)
                  obtain ⟨rfl, h⟩ := h
                  refine ⟨rfl, ?_⟩
                  refine And.intro sh_l141 ?_
                  rw [hr_141_23]
                  refine And.intro sh_l141 ?_
                  obtain ⟨k310, hkk310, hek310, h⟩ := h
                  refine And.intro ⟨pm_aw_of sh_l153 hkk310 hek310 (by decide), trivial⟩ ?_
                  rw [pm_tn hek310 hkk310 (by decide)]
                  refine And.intro sh_l141 ?_
                  refine And.intro ⟨sh_l141, trivial⟩ ?_
                  obtain ⟨hi311, ehi311⟩ : ∃ m : pm_B, m = pm_u (pm_u hi309 153 k310 (f_M_signHere hi )) 141 24 (((pm_u hi309 153 k310 (f_M_signHere hi )) 141 24) + 1) := ⟨_, rfl⟩
                  replace h := h hi311 ehi311
                  rw [← ehi311]
                  refine And.intro sh_l141 ?_
                  refine pm_C_imp h (fun v hi312 h => ?_)
                  obtain ⟨rfl, h⟩ := h
                  refine ⟨rfl, ?_⟩
                  exact h
                · replace h := h.2 c307
                  refine And.intro trivial ?_
                  refine f_M_rank_c (d := d)  ?_
                  refine ⟨_, rfl, ?_⟩
                  refine And.intro (fun c313 => ?_) (fun c313 => ?_)
                  · replace h := h.1 c313
                    obtain ⟨k314, hkk314, hek314, h⟩ := h
                    refine And.intro ⟨pm_aw_of sh_l154 hkk314 hek314 (by decide), (Or.inl rfl)⟩ ?_
                    rw [pm_tn hek314 hkk314 (by decide)]
                    refine And.intro trivial ?_
                    refine f_M_rank_c (d := d)  ?_
                    refine ⟨_, rfl, ?_⟩
                    refine And.intro sh_l141 ?_
                    refine pm_C_imp h (fun v hi315 h => ?_)
                    obtain ⟨rfl, h⟩ := h
                    refine ⟨rfl, ?_⟩
                    refine And.intro sh_l141 ?_
                    rw [hr_141_23]
                    refine And.intro sh_l141 ?_
                    obtain ⟨k316, hkk316, hek316, h⟩ := h
                    refine And.intro ⟨pm_aw_of sh_l153 hkk316 hek316 (by decide), trivial⟩ ?_
                    rw [pm_tn hek316 hkk316 (by decide)]
                    refine And.intro sh_l141 ?_
                    refine And.intro ⟨sh_l141, trivial⟩ ?_
                    obtain ⟨hi317, ehi317⟩ : ∃ m : pm_B, m = pm_u (pm_u hi315 153 k316 (f_M_signHere hi )) 141 24 (((pm_u hi315 153 k316 (f_M_signHere hi )) 141 24) + 1) := ⟨_, rfl⟩
                    replace h := h hi317 ehi317
                    rw [← ehi317]
                    refine And.intro sh_l141 ?_
                    refine pm_C_imp h (fun v hi318 h => ?_)
                    obtain ⟨rfl, h⟩ := h
                    refine ⟨rfl, ?_⟩
                    exact h
                  · replace h := h.2 c313
                    refine And.intro sh_l141 ?_
                    rw [hr_141_25]
                    obtain ⟨k319, hkk319, hek319, h⟩ := h
                    refine And.intro (pm_ao_of (t := 0) sh_l154 hkk319 hek319 (by decide)) ?_
                    rw [pm_tn hek319 hkk319 (by decide)]
                    refine And.intro (fun c320 => ?_) (fun c320 => ?_)
                    · replace h := h.1 c320
                      obtain ⟨k321, hkk321, hek321, h⟩ := h
                      refine And.intro ⟨pm_aw_of sh_l154 hkk321 hek321 (by decide), (Or.inl rfl)⟩ ?_
                      rw [pm_tn hek321 hkk321 (by decide)]
                      refine And.intro trivial ?_
                      refine f_M_rank_c (d := d)  ?_
                      refine ⟨_, rfl, ?_⟩
                      refine And.intro sh_l141 ?_
                      refine pm_C_imp h (fun v hi322 h => ?_)
                      obtain ⟨rfl, h⟩ := h
                      refine ⟨rfl, ?_⟩
                      refine And.intro sh_l141 ?_
                      rw [hr_141_23]
                      refine And.intro sh_l141 ?_
                      obtain ⟨k323, hkk323, hek323, h⟩ := h
                      refine And.intro ⟨pm_aw_of sh_l153 hkk323 hek323 (by decide), trivial⟩ ?_
                      rw [pm_tn hek323 hkk323 (by decide)]
                      refine And.intro sh_l141 ?_
                      refine And.intro ⟨sh_l141, trivial⟩ ?_
                      obtain ⟨hi324, ehi324⟩ : ∃ m : pm_B, m = pm_u (pm_u hi322 153 k323 (f_M_signHere hi )) 141 24 (((pm_u hi322 153 k323 (f_M_signHere hi )) 141 24) + 1) := ⟨_, rfl⟩
                      replace h := h hi324 ehi324
                      rw [← ehi324]
                      refine And.intro sh_l141 ?_
                      refine pm_C_imp h (fun v hi325 h => ?_)
                      obtain ⟨rfl, h⟩ := h
                      refine ⟨rfl, ?_⟩
                      exact h
                    · replace h := h.2 c320
                      obtain ⟨k326, hkk326, hek326, h⟩ := h
                      refine And.intro ⟨pm_aw_of sh_l154 hkk326 hek326 (by decide), (Or.inr rfl)⟩ ?_
                      rw [pm_tn hek326 hkk326 (by decide)]
                      refine And.intro trivial ?_
                      refine f_M_rank_c (d := d)  ?_
                      refine ⟨_, rfl, ?_⟩
                      refine And.intro sh_l141 ?_
                      refine pm_C_imp h (fun v hi327 h => ?_)
                      obtain ⟨rfl, h⟩ := h
                      refine ⟨rfl, ?_⟩
                      refine And.intro sh_l141 ?_
                      rw [hr_141_23]
                      refine And.intro sh_l141 ?_
                      obtain ⟨k328, hkk328, hek328, h⟩ := h
                      refine And.intro ⟨pm_aw_of sh_l153 hkk328 hek328 (by decide), trivial⟩ ?_
                      rw [pm_tn hek328 hkk328 (by decide)]
                      refine And.intro sh_l141 ?_
                      refine And.intro ⟨sh_l141, trivial⟩ ?_
                      obtain ⟨hi329, ehi329⟩ : ∃ m : pm_B, m = pm_u (pm_u hi327 153 k328 (f_M_signHere hi )) 141 24 (((pm_u hi327 153 k328 (f_M_signHere hi )) 141 24) + 1) := ⟨_, rfl⟩
                      replace h := h hi329 ehi329
                      rw [← ehi329]
                      refine And.intro sh_l141 ?_
                      refine pm_C_imp h (fun v hi330 h => ?_)
                      obtain ⟨rfl, h⟩ := h
                      refine ⟨rfl, ?_⟩
                      exact h
              · replace h := h.2 c306
                refine And.intro sh_l141 ?_
                rw [hr_141_25]
                obtain ⟨k331, hkk331, hek331, h⟩ := h
                refine And.intro (pm_ao_of (t := 0) sh_l154 hkk331 hek331 (by decide)) ?_
                rw [pm_tn hek331 hkk331 (by decide)]
                refine And.intro (fun c332 => ?_) (fun c332 => ?_)
                · replace h := h.1 c332
                  refine And.intro sh_l141 ?_
                  rw [hr_141_25]
                  refine And.intro trivial ?_
                  refine f_M_rank_c (d := d)  ?_
                  refine ⟨_, rfl, ?_⟩
                  refine And.intro (fun c333 => ?_) (fun c333 => ?_)
                  · replace h := h.1 c333
                    obtain ⟨k334, hkk334, hek334, h⟩ := h
                    refine And.intro ⟨pm_aw_of sh_l154 hkk334 hek334 (by decide), (Or.inr rfl)⟩ ?_
                    rw [pm_tn hek334 hkk334 (by decide)]
                    refine And.intro trivial ?_
                    refine f_M_rank_c (d := d)  ?_
                    refine ⟨_, rfl, ?_⟩
                    refine And.intro sh_l141 ?_
                    refine pm_C_imp h (fun v hi335 h => ?_)
                    obtain ⟨rfl, h⟩ := h
                    refine ⟨rfl, ?_⟩
                    refine And.intro sh_l141 ?_
                    rw [hr_141_23]
                    refine And.intro sh_l141 ?_
                    obtain ⟨k336, hkk336, hek336, h⟩ := h
                    refine And.intro ⟨pm_aw_of sh_l153 hkk336 hek336 (by decide), trivial⟩ ?_
                    rw [pm_tn hek336 hkk336 (by decide)]
                    refine And.intro sh_l141 ?_
                    refine And.intro ⟨sh_l141, trivial⟩ ?_
                    obtain ⟨hi337, ehi337⟩ : ∃ m : pm_B, m = pm_u (pm_u hi335 153 k336 (f_M_signHere hi )) 141 24 (((pm_u hi335 153 k336 (f_M_signHere hi )) 141 24) + 1) := ⟨_, rfl⟩
                    replace h := h hi337 ehi337
                    rw [← ehi337]
                    refine And.intro sh_l141 ?_
                    refine pm_C_imp h (fun v hi338 h => ?_)
                    obtain ⟨rfl, h⟩ := h
                    refine ⟨rfl, ?_⟩
                    exact h
                  · replace h := h.2 c333
                    refine And.intro trivial ?_
                    refine f_M_rank_c (d := d)  ?_
                    refine ⟨_, rfl, ?_⟩
                    refine And.intro (fun c339 => ?_) (fun c339 => ?_)
                    · replace h := h.1 c339
                      obtain ⟨k340, hkk340, hek340, h⟩ := h
                      refine And.intro ⟨pm_aw_of sh_l154 hkk340 hek340 (by decide), (Or.inl rfl)⟩ ?_
                      rw [pm_tn hek340 hkk340 (by decide)]
                      refine And.intro trivial ?_
                      refine f_M_rank_c (d := d)  ?_
                      refine ⟨_, rfl, ?_⟩
                      refine And.intro sh_l141 ?_
                      refine pm_C_imp h (fun v hi341 h => ?_)
                      obtain ⟨rfl, h⟩ := h
                      refine ⟨rfl, ?_⟩
                      refine And.intro sh_l141 ?_
                      rw [hr_141_23]
                      refine And.intro sh_l141 ?_
                      obtain ⟨k342, hkk342, hek342, h⟩ := h
                      refine And.intro ⟨pm_aw_of sh_l153 hkk342 hek342 (by decide), trivial⟩ ?_
                      rw [pm_tn hek342 hkk342 (by decide)]
                      refine And.intro sh_l141 ?_
                      refine And.intro ⟨sh_l141, trivial⟩ ?_
                      obtain ⟨hi343, ehi343⟩ : ∃ m : pm_B, m = pm_u (pm_u hi341 153 k342 (f_M_signHere hi )) 141 24 (((pm_u hi341 153 k342 (f_M_signHere hi )) 141 24) + 1) := ⟨_, rfl⟩
                      replace h := h hi343 ehi343
                      rw [← ehi343]
                      refine And.intro sh_l141 ?_
                      refine pm_C_imp h (fun v hi344 h => ?_)
                      obtain ⟨rfl, h⟩ := h
                      refine ⟨rfl, ?_⟩
                      exact h
                    · replace h := h.2 c339
                      refine And.intro sh_l141 ?_
                      rw [hr_141_25]
                      obtain ⟨k345, hkk345, hek345, h⟩ := h
                      refine And.intro (pm_ao_of (t := 0) sh_l154 hkk345 hek345 (by decide)) ?_
                      rw [pm_tn hek345 hkk345 (by decide)]
                      refine And.intro (fun c346 => ?_) (fun c346 => ?_)
                      · replace h := h.1 c346
                        obtain ⟨k347, hkk347, hek347, h⟩ := h
                        refine And.intro ⟨pm_aw_of sh_l154 hkk347 hek347 (by decide), (Or.inl rfl)⟩ ?_
                        rw [pm_tn hek347 hkk347 (by decide)]
                        refine And.intro trivial ?_
                        refine f_M_rank_c (d := d)  ?_
                        refine ⟨_, rfl, ?_⟩
                        refine And.intro sh_l141 ?_
                        refine pm_C_imp h (fun v hi348 h => ?_)
                        obtain ⟨rfl, h⟩ := h
                        refine ⟨rfl, ?_⟩
                        refine And.intro sh_l141 ?_
                        rw [hr_141_23]
                        refine And.intro sh_l141 ?_
                        obtain ⟨k349, hkk349, hek349, h⟩ := h
                        refine And.intro ⟨pm_aw_of sh_l153 hkk349 hek349 (by decide), trivial⟩ ?_
                        rw [pm_tn hek349 hkk349 (by decide)]
                        refine And.intro sh_l141 ?_
                        refine And.intro ⟨sh_l141, trivial⟩ ?_
                        obtain ⟨hi350, ehi350⟩ : ∃ m : pm_B, m = pm_u (pm_u hi348 153 k349 (f_M_signHere hi )) 141 24 (((pm_u hi348 153 k349 (f_M_signHere hi )) 141 24) + 1) := ⟨_, rfl⟩
                        replace h := h hi350 ehi350
                        rw [← ehi350]
                        refine And.intro sh_l141 ?_
                        refine pm_C_imp h (fun v hi351 h => ?_)
                        obtain ⟨rfl, h⟩ := h
                        refine ⟨rfl, ?_⟩
                        exact h
                      · replace h := h.2 c346
                        obtain ⟨k352, hkk352, hek352, h⟩ := h
                        refine And.intro ⟨pm_aw_of sh_l154 hkk352 hek352 (by decide), (Or.inr rfl)⟩ ?_
                        rw [pm_tn hek352 hkk352 (by decide)]
                        refine And.intro trivial ?_
                        refine f_M_rank_c (d := d)  ?_
                        refine ⟨_, rfl, ?_⟩
                        refine And.intro sh_l141 ?_
                        refine pm_C_imp h (fun v hi353 h => ?_)
                        obtain ⟨rfl, h⟩ := h
                        refine ⟨rfl, ?_⟩
                        refine And.intro sh_l141 ?_
                        rw [hr_141_23]
                        refine And.intro sh_l141 ?_
                        obtain ⟨k354, hkk354, hek354, h⟩ := h
                        refine And.intro ⟨pm_aw_of sh_l153 hkk354 hek354 (by decide), trivial⟩ ?_
                        rw [pm_tn hek354 hkk354 (by decide)]
                        refine And.intro sh_l141 ?_
                        refine And.intro ⟨sh_l141, trivial⟩ ?_
                        obtain ⟨hi355, ehi355⟩ : ∃ m : pm_B, m = pm_u (pm_u hi353 153 k354 (f_M_signHere hi )) 141 24 (((pm_u hi353 153 k354 (f_M_signHere hi )) 141 24) + 1) := ⟨_, rfl⟩
                        replace h := h hi355 ehi355
                        rw [← ehi355]
                        refine And.intro sh_l141 ?_
                        refine pm_C_imp h (fun v hi356 h => ?_)
                        obtain ⟨rfl, h⟩ := h
                        refine ⟨rfl, ?_⟩
                        exact h
                · replace h := h.2 c332
                  refine And.intro (Or.inl rfl) ?_
                  exact h
          · replace h := h.2 c304
            refine And.intro (fun c357 => ?_) (fun c357 => ?_)
            · replace h := h.1 c357
              refine And.intro sh_l141 ?_
              refine f_M_signHere_c (d := d)  ?_
              refine ⟨_, rfl, ?_⟩
              refine And.intro (fun c358 => ?_) (fun c358 => ?_)
              · replace h := h.1 c358
                refine And.intro (Or.inl rfl) ?_
                exact h
              · replace h := h.2 c358
                refine And.intro trivial ?_
                refine f_M_rank_c (d := d)  ?_
                refine ⟨_, rfl, ?_⟩
                refine And.intro (fun c359 => ?_) (fun c359 => ?_)
                · replace h := h.1 c359
                  refine And.intro sh_l141 ?_
                  rw [hr_141_25]
                  refine And.intro trivial ?_
                  refine f_M_rank_c (d := d)  ?_
                  refine ⟨_, rfl, ?_⟩
                  refine And.intro (fun c360 => ?_) (fun c360 => ?_)
                  · replace h := h.1 c360
                    obtain ⟨k361, hkk361, hek361, h⟩ := h
                    refine And.intro ⟨pm_aw_of sh_l154 hkk361 hek361 (by decide), (Or.inr rfl)⟩ ?_
                    rw [pm_tn hek361 hkk361 (by decide)]
                    refine And.intro trivial ?_
                    refine f_M_rank_c (d := d)  ?_
                    refine ⟨_, rfl, ?_⟩
                    refine And.intro sh_l141 ?_
                    refine pm_C_imp h (fun v hi362 h => ?_)
                    obtain ⟨rfl, h⟩ := h
                    refine ⟨rfl, ?_⟩
                    refine And.intro sh_l141 ?_
                    rw [hr_141_23]
                    refine And.intro sh_l141 ?_
                    obtain ⟨k363, hkk363, hek363, h⟩ := h
                    refine And.intro ⟨pm_aw_of sh_l153 hkk363 hek363 (by decide), trivial⟩ ?_
                    rw [pm_tn hek363 hkk363 (by decide)]
                    refine And.intro sh_l141 ?_
                    refine And.intro ⟨sh_l141, trivial⟩ ?_
                    obtain ⟨hi364, ehi364⟩ : ∃ m : pm_B, m = pm_u (pm_u hi362 153 k363 (f_M_signHere hi )) 141 24 (((pm_u hi362 153 k363 (f_M_signHere hi )) 141 24) + 1) := ⟨_, rfl⟩
                    replace h := h hi364 ehi364
                    rw [← ehi364]
                    refine And.intro sh_l141 ?_
                    refine pm_C_imp h (fun v hi365 h => ?_)
                    obtain ⟨rfl, h⟩ := h
                    refine ⟨rfl, ?_⟩
                    exact h
                  · replace h := h.2 c360
                    refine And.intro trivial ?_
                    refine f_M_rank_c (d := d)  ?_
                    refine ⟨_, rfl, ?_⟩
                    refine And.intro (fun c366 => ?_) (fun c366 => ?_)
                    · replace h := h.1 c366
                      obtain ⟨k367, hkk367, hek367, h⟩ := h
                      refine And.intro ⟨pm_aw_of sh_l154 hkk367 hek367 (by decide), (Or.inl rfl)⟩ ?_
                      rw [pm_tn hek367 hkk367 (by decide)]
                      refine And.intro trivial ?_
                      refine f_M_rank_c (d := d)  ?_
                      refine ⟨_, rfl, ?_⟩
                      refine And.intro sh_l141 ?_
                      refine pm_C_imp h (fun v hi368 h => ?_)
                      obtain ⟨rfl, h⟩ := h
                      refine ⟨rfl, ?_⟩
                      refine And.intro sh_l141 ?_
                      rw [hr_141_23]
                      refine And.intro sh_l141 ?_
                      obtain ⟨k369, hkk369, hek369, h⟩ := h
                      refine And.intro ⟨pm_aw_of sh_l153 hkk369 hek369 (by decide), trivial⟩ ?_
                      rw [pm_tn hek369 hkk369 (by decide)]
                      refine And.intro sh_l141 ?_
                      refine And.intro ⟨sh_l141, trivial⟩ ?_
                      obtain ⟨hi370, ehi370⟩ : ∃ m : pm_B, m = pm_u (pm_u hi368 153 k369 (f_M_signHere hi )) 141 24 (((pm_u hi368 153 k369 (f_M_signHere hi )) 141 24) + 1) := ⟨_, rfl⟩
                      replace h := h hi370 ehi370
                      rw [← ehi370]
                      refine And.intro sh_l141 ?_
                      refine pm_C_imp h (fun v hi371 h => ?_)
                      obtain ⟨rfl, h⟩ := h
                      refine ⟨rfl, ?_⟩
                      exact h
                    · replace h := h.2 c366
                      refine And.intro sh_l141 ?_
                      rw [hr_141_25]
                      obtain ⟨k372, hkk372, hek372, h⟩ := h
                      refine And.intro (pm_ao_of (t := 0) sh_l154 hkk372 hek372 (by decide)) ?_
                      rw [pm_tn hek372 hkk372 (by decide)]
                      refine And.intro (fun c373 => ?_) (fun c373 => ?_)
                      · replace h := h.1 c373
                        obtain ⟨k374, hkk374, hek374, h⟩ := h
                        refine And.intro ⟨pm_aw_of sh_l154 hkk374 hek374 (by decide), (Or.inl rfl)⟩ ?_
                        rw [pm_tn hek374 hkk374 (by decide)]
                        refine And.intro trivial ?_
                        refine f_M_rank_c (d := d)  ?_
                        refine ⟨_, rfl, ?_⟩
                        refine And.intro sh_l141 ?_
                        refine pm_C_imp h (fun v hi375 h => ?_)
                        obtain ⟨rfl, h⟩ := h
                        refine ⟨rfl, ?_⟩
                        refine And.intro sh_l141 ?_
                        rw [hr_141_23]
                        refine And.intro sh_l141 ?_
                        obtain ⟨k376, hkk376, hek376, h⟩ := h
                        refine And.intro ⟨pm_aw_of sh_l153 hkk376 hek376 (by decide), trivial⟩ ?_
                        rw [pm_tn hek376 hkk376 (by decide)]
                        refine And.intro sh_l141 ?_
                        refine And.intro ⟨sh_l141, trivial⟩ ?_
                        obtain ⟨hi377, ehi377⟩ : ∃ m : pm_B, m = pm_u (pm_u hi375 153 k376 (f_M_signHere hi )) 141 24 (((pm_u hi375 153 k376 (f_M_signHere hi )) 141 24) + 1) := ⟨_, rfl⟩
                        replace h := h hi377 ehi377
                        rw [← ehi377]
                        refine And.intro sh_l141 ?_
                        refine pm_C_imp h (fun v hi378 h => ?_)
                        obtain ⟨rfl, h⟩ := h
                        refine ⟨rfl, ?_⟩
                        exact h
                      · replace h := h.2 c373
                        obtain ⟨k379, hkk379, hek379, h⟩ := h
                        refine And.intro ⟨pm_aw_of sh_l154 hkk379 hek379 (by decide), (Or.inr rfl)⟩ ?_
                        rw [pm_tn hek379 hkk379 (by decide)]
                        refine And.intro trivial ?_
                        refine f_M_rank_c (d := d)  ?_
                        refine ⟨_, rfl, ?_⟩
                        refine And.intro sh_l141 ?_
                        refine pm_C_imp h (fun v hi380 h => ?_)
                        obtain ⟨rfl, h⟩ := h
                        refine ⟨rfl, ?_⟩
                        refine And.intro sh_l141 ?_
                        rw [hr_141_23]
                        refine And.intro sh_l141 ?_
                        obtain ⟨k381, hkk381, hek381, h⟩ := h
                        refine And.intro ⟨pm_aw_of sh_l153 hkk381 hek381 (by decide), trivial⟩ ?_
                        rw [pm_tn hek381 hkk381 (by decide)]
                        refine And.intro sh_l141 ?_
                        refine And.intro ⟨sh_l141, trivial⟩ ?_
                        obtain ⟨hi382, ehi382⟩ : ∃ m : pm_B, m = pm_u (pm_u hi380 153 k381 (f_M_signHere hi )) 141 24 (((pm_u hi380 153 k381 (f_M_signHere hi )) 141 24) + 1) := ⟨_, rfl⟩
                        replace h := h hi382 ehi382
                        rw [← ehi382]
                        refine And.intro sh_l141 ?_
                        refine pm_C_imp h (fun v hi383 h => ?_)
                        obtain ⟨rfl, h⟩ := h
                        refine ⟨rfl, ?_⟩
                        exact h
                · replace h := h.2 c359
                  refine And.intro sh_l141 ?_
                  rw [hr_141_25]
                  obtain ⟨k384, hkk384, hek384, h⟩ := h
                  refine And.intro (pm_ao_of (t := 0) sh_l154 hkk384 hek384 (by decide)) ?_
                  rw [pm_tn hek384 hkk384 (by decide)]
                  refine And.intro (fun c385 => ?_) (fun c385 => ?_)
                  · replace h := h.1 c385
                    refine And.intro sh_l141 ?_
                    rw [hr_141_25]
                    refine And.intro trivial ?_
                    refine f_M_rank_c (d := d)  ?_
                    refine ⟨_, rfl, ?_⟩
                    refine And.intro (fun c386 => ?_) (fun c386 => ?_)
                    · replace h := h.1 c386
                      obtain ⟨k387, hkk387, hek387, h⟩ := h
                      refine And.intro ⟨pm_aw_of sh_l154 hkk387 hek387 (by decide), (Or.inr rfl)⟩ ?_
                      rw [pm_tn hek387 hkk387 (by decide)]
                      refine And.intro trivial ?_
                      refine f_M_rank_c (d := d)  ?_
                      refine ⟨_, rfl, ?_⟩
                      refine And.intro sh_l141 ?_
                      refine pm_C_imp h (fun v hi388 h => ?_)
                      obtain ⟨rfl, h⟩ := h
                      refine ⟨rfl, ?_⟩
                      refine And.intro sh_l141 ?_
                      rw [hr_141_23]
                      refine And.intro sh_l141 ?_
                      obtain ⟨k389, hkk389, hek389, h⟩ := h
                      refine And.intro ⟨pm_aw_of sh_l153 hkk389 hek389 (by decide), trivial⟩ ?_
                      rw [pm_tn hek389 hkk389 (by decide)]
                      refine And.intro sh_l141 ?_
                      refine And.intro ⟨sh_l141, trivial⟩ ?_
                      obtain ⟨hi390, ehi390⟩ : ∃ m : pm_B, m = pm_u (pm_u hi388 153 k389 (f_M_signHere hi )) 141 24 (((pm_u hi388 153 k389 (f_M_signHere hi )) 141 24) + 1) := ⟨_, rfl⟩
                      replace h := h hi390 ehi390
                      rw [← ehi390]
                      refine And.intro sh_l141 ?_
                      refine pm_C_imp h (fun v hi391 h => ?_)
                      obtain ⟨rfl, h⟩ := h
                      refine ⟨rfl, ?_⟩
                      exact h
                    · replace h := h.2 c386
                      refine And.intro trivial ?_
                      refine f_M_rank_c (d := d)  ?_
                      refine ⟨_, rfl, ?_⟩
                      refine And.intro (fun c392 => ?_) (fun c392 => ?_)
                      · replace h := h.1 c392
                        obtain ⟨k393, hkk393, hek393, h⟩ := h
                        refine And.intro ⟨pm_aw_of sh_l154 hkk393 hek393 (by decide), (Or.inl rfl)⟩ ?_
                        rw [pm_tn hek393 hkk393 (by decide)]
                        refine And.intro trivial ?_
                        refine f_M_rank_c (d := d)  ?_
                        refine ⟨_, rfl, ?_⟩
                        refine And.intro sh_l141 ?_
                        refine pm_C_imp h (fun v hi394 h => ?_)
                        obtain ⟨rfl, h⟩ := h
                        refine ⟨rfl, ?_⟩
                        refine And.intro sh_l141 ?_
                        rw [hr_141_23]
                        refine And.intro sh_l141 ?_
                        obtain ⟨k395, hkk395, hek395, h⟩ := h
                        refine And.intro ⟨pm_aw_of sh_l153 hkk395 hek395 (by decide), trivial⟩ ?_
                        rw [pm_tn hek395 hkk395 (by decide)]
                        refine And.intro sh_l141 ?_
                        refine And.intro ⟨sh_l141, trivial⟩ ?_
                        obtain ⟨hi396, ehi396⟩ : ∃ m : pm_B, m = pm_u (pm_u hi394 153 k395 (f_M_signHere hi )) 141 24 (((pm_u hi394 153 k395 (f_M_signHere hi )) 141 24) + 1) := ⟨_, rfl⟩
                        replace h := h hi396 ehi396
                        rw [← ehi396]
                        refine And.intro sh_l141 ?_
                        refine pm_C_imp h (fun v hi397 h => ?_)
                        obtain ⟨rfl, h⟩ := h
                        refine ⟨rfl, ?_⟩
                        exact h
                      · replace h := h.2 c392
                        refine And.intro sh_l141 ?_
                        rw [hr_141_25]
                        obtain ⟨k398, hkk398, hek398, h⟩ := h
                        refine And.intro (pm_ao_of (t := 0) sh_l154 hkk398 hek398 (by decide)) ?_
                        rw [pm_tn hek398 hkk398 (by decide)]
                        refine And.intro (fun c399 => ?_) (fun c399 => ?_)
                        · replace h := h.1 c399
                          obtain ⟨k400, hkk400, hek400, h⟩ := h
                          refine And.intro ⟨pm_aw_of sh_l154 hkk400 hek400 (by decide), (Or.inl rfl)⟩ ?_
                          rw [pm_tn hek400 hkk400 (by decide)]
                          refine And.intro trivial ?_
                          refine f_M_rank_c (d := d)  ?_
                          refine ⟨_, rfl, ?_⟩
                          refine And.intro sh_l141 ?_
                          refine pm_C_imp h (fun v hi401 h => ?_)
                          obtain ⟨rfl, h⟩ := h
                          refine ⟨rfl, ?_⟩
                          refine And.intro sh_l141 ?_
                          rw [hr_141_23]
                          refine And.intro sh_l141 ?_
                          obtain ⟨k402, hkk402, hek402, h⟩ := h
                          refine And.intro ⟨pm_aw_of sh_l153 hkk402 hek402 (by decide), trivial⟩ ?_
                          rw [pm_tn hek402 hkk402 (by decide)]
                          refine And.intro sh_l141 ?_
                          refine And.intro ⟨sh_l141, trivial⟩ ?_
                          obtain ⟨hi403, ehi403⟩ : ∃ m : pm_B, m = pm_u (pm_u hi401 153 k402 (f_M_signHere hi )) 141 24 (((pm_u hi401 153 k402 (f_M_signHere hi )) 141 24) + 1) := ⟨_, rfl⟩
                          replace h := h hi403 ehi403
                          rw [← ehi403]
                          refine And.intro sh_l141 ?_
                          refine pm_C_imp h (fun v hi404 h => ?_)
                          obtain ⟨rfl, h⟩ := h
                          refine ⟨rfl, ?_⟩
                          exact h
                        · replace h := h.2 c399
                          obtain ⟨k405, hkk405, hek405, h⟩ := h
                          refine And.intro ⟨pm_aw_of sh_l154 hkk405 hek405 (by decide), (Or.inr rfl)⟩ ?_
                          rw [pm_tn hek405 hkk405 (by decide)]
                          refine And.intro trivial ?_
                          refine f_M_rank_c (d := d)  ?_
                          refine ⟨_, rfl, ?_⟩
                          refine And.intro sh_l141 ?_
                          refine pm_C_imp h (fun v hi406 h => ?_)
                          obtain ⟨rfl, h⟩ := h
                          refine ⟨rfl, ?_⟩
                          refine And.intro sh_l141 ?_
                          rw [hr_141_23]
                          refine And.intro sh_l141 ?_
                          obtain ⟨k407, hkk407, hek407, h⟩ := h
                          refine And.intro ⟨pm_aw_of sh_l153 hkk407 hek407 (by decide), trivial⟩ ?_
                          rw [pm_tn hek407 hkk407 (by decide)]
                          refine And.intro sh_l141 ?_
                          refine And.intro ⟨sh_l141, trivial⟩ ?_
                          obtain ⟨hi408, ehi408⟩ : ∃ m : pm_B, m = pm_u (pm_u hi406 153 k407 (f_M_signHere hi )) 141 24 (((pm_u hi406 153 k407 (f_M_signHere hi )) 141 24) + 1) := ⟨_, rfl⟩
                          replace h := h hi408 ehi408
                          rw [← ehi408]
                          refine And.intro sh_l141 ?_
                          refine pm_C_imp h (fun v hi409 h => ?_)
                          obtain ⟨rfl, h⟩ := h
                          refine ⟨rfl, ?_⟩
                          exact h
                  · replace h := h.2 c385
                    refine And.intro (Or.inl rfl) ?_
                    exact h
            · replace h := h.2 c357
              refine And.intro sh_l141 ?_
              refine pm_C_imp h (fun v hi410 h => ?_)
              obtain ⟨rfl, h⟩ := h
              refine ⟨rfl, ?_⟩
              refine And.intro sh_l141 ?_
              refine And.intro ⟨sh_l141, trivial⟩ ?_
              refine And.intro sh_l141 ?_
              refine pm_C_imp h (fun v hi411 h => ?_)
              obtain ⟨rfl, h⟩ := h
              refine ⟨rfl, ?_⟩
              refine And.intro sh_l141 ?_
              refine pm_C_imp h (fun v hi412 h => ?_)
              obtain ⟨x413, rfl, h⟩ := h
              refine ⟨_, rfl, ?_⟩
              refine And.intro sh_l141 ?_
              refine pm_C_imp h (fun v hi414 h => ?_)
              obtain ⟨rfl, h⟩ := h
              refine ⟨rfl, ?_⟩
              exact h
      · replace h := h.2 c250
        refine And.intro sh_l141 ?_
        refine And.intro (fun c415 => ?_) (fun c415 => ?_)
        · replace h := h.1 c415
          refine And.intro sh_l141 ?_
          refine And.intro (fun c416 => ?_) (fun c416 => ?_)
          · replace h := h.1 c416
            refine And.intro sh_l141 ?_
            refine pm_C_imp h (fun v hi417 h => ?_)
            obtain ⟨x418, rfl, h⟩ := h
            refine ⟨_, rfl, ?_⟩
            refine And.intro (fun c419 => ?_) (fun c419 => ?_)
            · replace h := h.1 c419
              refine And.intro (Or.inl rfl) ?_
              exact h
            · replace h := h.2 c419
              refine And.intro sh_l141 ?_
              refine pm_C_imp h (fun v hi420 h => ?_)
              obtain ⟨x421, rfl, h⟩ := h
              refine ⟨_, rfl, ?_⟩
              exact h
          · replace h := h.2 c416
            refine And.intro sh_l141 ?_
            refine And.intro (fun c422 => ?_) (fun c422 => ?_)
            · replace h := h.1 c422
              refine And.intro sh_l141 ?_
              refine pm_C_imp h (fun v hi423 h => ?_)
              obtain ⟨x424, rfl, h⟩ := h
              refine ⟨_, rfl, ?_⟩
              refine And.intro (fun c425 => ?_) (fun c425 => ?_)
              · replace h := h.1 c425
                refine And.intro (Or.inl rfl) ?_
                exact h
              · replace h := h.2 c425
                refine And.intro sh_l141 ?_
                refine pm_C_imp h (fun v hi426 h => ?_)
                obtain ⟨x427, rfl, h⟩ := h
                refine ⟨_, rfl, ?_⟩
                exact h
            · replace h := h.2 c422
              refine And.intro (fun c428 => ?_) (fun c428 => ?_)
              · replace h := h.1 c428
                refine And.intro sh_l141 ?_
                refine pm_C_imp h (fun v hi429 h => ?_)
                obtain ⟨x430, rfl, h⟩ := h
                refine ⟨_, rfl, ?_⟩
                refine And.intro (fun c431 => ?_) (fun c431 => ?_)
                · replace h := h.1 c431
                  refine And.intro (Or.inl rfl) ?_
                  exact h
                · replace h := h.2 c431
                  refine And.intro sh_l141 ?_
                  refine pm_C_imp h (fun v hi432 h => ?_)
                  obtain ⟨x433, rfl, h⟩ := h
                  refine ⟨_, rfl, ?_⟩
                  exact h
              · replace h := h.2 c428
                refine And.intro sh_l141 ?_
                rw [hr_141_23]
                refine And.intro sh_l141 ?_
                obtain ⟨k434, hkk434, hek434, h⟩ := h
                refine And.intro ⟨pm_aw_of sh_l153 hkk434 hek434 (by decide), trivial⟩ ?_
                rw [pm_tn hek434 hkk434 (by decide)]
                refine And.intro sh_l141 ?_
                refine And.intro ⟨sh_l141, trivial⟩ ?_
                obtain ⟨hi435, ehi435⟩ : ∃ m : pm_B, m = pm_u (pm_u hi 153 k434 (-11)) 141 24 (((pm_u hi 153 k434 (-11)) 141 24) + 1) := ⟨_, rfl⟩
                replace h := h hi435 ehi435
                rw [← ehi435]
                refine And.intro sh_l141 ?_
                rw [hr_141_25]
                obtain ⟨k436, hkk436, hek436, h⟩ := h
                refine And.intro ⟨pm_aw_of sh_l154 hkk436 hek436 (by decide), (Or.inl rfl)⟩ ?_
                rw [pm_tn hek436 hkk436 (by decide)]
                refine And.intro sh_l141 ?_
                refine pm_C_imp h (fun v hi437 h => ?_)
                obtain ⟨rfl, h⟩ := h
                refine ⟨rfl, ?_⟩
                refine And.intro sh_l141 ?_
                refine pm_C_imp h (fun v hi438 h => ?_)
                obtain ⟨x439, rfl, h⟩ := h
                refine ⟨_, rfl, ?_⟩
                exact h
        · replace h := h.2 c415
          refine And.intro sh_l141 ?_
          refine And.intro (fun c440 => ?_) (fun c440 => ?_)
          · replace h := h.1 c440
            refine And.intro sh_l141 ?_
            refine And.intro (fun c441 => ?_) (fun c441 => ?_)
            · replace h := h.1 c441
              refine And.intro sh_l141 ?_
              refine pm_C_imp h (fun v hi442 h => ?_)
              obtain ⟨x443, rfl, h⟩ := h
              refine ⟨_, rfl, ?_⟩
              refine And.intro (fun c444 => ?_) (fun c444 => ?_)
              · replace h := h.1 c444
                refine And.intro (Or.inl rfl) ?_
                exact h
              · replace h := h.2 c444
                refine And.intro sh_l141 ?_
                refine pm_C_imp h (fun v hi445 h => ?_)
                obtain ⟨x446, rfl, h⟩ := h
                refine ⟨_, rfl, ?_⟩
                exact h
            · replace h := h.2 c441
              refine And.intro sh_l141 ?_
              refine And.intro (fun c447 => ?_) (fun c447 => ?_)
              · replace h := h.1 c447
                refine And.intro sh_l141 ?_
                refine pm_C_imp h (fun v hi448 h => ?_)
                obtain ⟨x449, rfl, h⟩ := h
                refine ⟨_, rfl, ?_⟩
                refine And.intro (fun c450 => ?_) (fun c450 => ?_)
                · replace h := h.1 c450
                  refine And.intro (Or.inl rfl) ?_
                  exact h
                · replace h := h.2 c450
                  refine And.intro sh_l141 ?_
                  refine pm_C_imp h (fun v hi451 h => ?_)
                  obtain ⟨x452, rfl, h⟩ := h
                  refine ⟨_, rfl, ?_⟩
                  exact h
              · replace h := h.2 c447
                refine And.intro (fun c453 => ?_) (fun c453 => ?_)
                · replace h := h.1 c453
                  refine And.intro sh_l141 ?_
                  refine pm_C_imp h (fun v hi454 h => ?_)
                  obtain ⟨x455, rfl, h⟩ := h
                  refine ⟨_, rfl, ?_⟩
                  refine And.intro (fun c456 => ?_) (fun c456 => ?_)
                  · replace h := h.1 c456
                    refine And.intro (Or.inl rfl) ?_
                    exact h
                  · replace h := h.2 c456
                    refine And.intro sh_l141 ?_
                    refine pm_C_imp h (fun v hi457 h => ?_)
                    obtain ⟨x458, rfl, h⟩ := h
                    refine ⟨_, rfl, ?_⟩
                    exact h
                · replace h := h.2 c453
                  refine And.intro sh_l141 ?_
                  rw [hr_141_23]
                  refine And.intro sh_l141 ?_
                  obtain ⟨k459, hkk459, hek459, h⟩ := h
                  refine And.intro ⟨pm_aw_of sh_l153 hkk459 hek459 (by decide), trivial⟩ ?_
                  rw [pm_tn hek459 hkk459 (by decide)]
                  refine And.intro sh_l141 ?_
                  refine And.intro ⟨sh_l141, trivial⟩ ?_
                  obtain ⟨hi460, ehi460⟩ : ∃ m : pm_B, m = pm_u (pm_u hi 153 k459 (-11)) 141 24 (((pm_u hi 153 k459 (-11)) 141 24) + 1) := ⟨_, rfl⟩
                  replace h := h hi460 ehi460
                  rw [← ehi460]
                  refine And.intro sh_l141 ?_
                  rw [hr_141_25]
                  obtain ⟨k461, hkk461, hek461, h⟩ := h
                  refine And.intro ⟨pm_aw_of sh_l154 hkk461 hek461 (by decide), (Or.inl rfl)⟩ ?_
                  rw [pm_tn hek461 hkk461 (by decide)]
                  refine And.intro sh_l141 ?_
                  refine pm_C_imp h (fun v hi462 h => ?_)
                  obtain ⟨rfl, h⟩ := h
                  refine ⟨rfl, ?_⟩
                  refine And.intro sh_l141 ?_
                  refine pm_C_imp h (fun v hi463 h => ?_)
                  obtain ⟨x464, rfl, h⟩ := h
                  refine ⟨_, rfl, ?_⟩
                  exact h
          · replace h := h.2 c440
            refine And.intro (fun c465 => ?_) (fun c465 => ?_)
            · replace h := h.1 c465
              refine And.intro sh_l141 ?_
              refine And.intro (fun c466 => ?_) (fun c466 => ?_)
              · replace h := h.1 c466
                refine And.intro sh_l141 ?_
                refine pm_C_imp h (fun v hi467 h => ?_)
                obtain ⟨x468, rfl, h⟩ := h
                refine ⟨_, rfl, ?_⟩
                refine And.intro (fun c469 => ?_) (fun c469 => ?_)
                · replace h := h.1 c469
                  refine And.intro (Or.inl rfl) ?_
                  exact h
                · replace h := h.2 c469
                  refine And.intro sh_l141 ?_
                  refine pm_C_imp h (fun v hi470 h => ?_)
                  obtain ⟨x471, rfl, h⟩ := h
                  refine ⟨_, rfl, ?_⟩
                  exact h
              · replace h := h.2 c466
                refine And.intro sh_l141 ?_
                refine And.intro (fun c472 => ?_) (fun c472 => ?_)
                · replace h := h.1 c472
                  refine And.intro sh_l141 ?_
                  refine pm_C_imp h (fun v hi473 h => ?_)
                  obtain ⟨x474, rfl, h⟩ := h
                  refine ⟨_, rfl, ?_⟩
                  refine And.intro (fun c475 => ?_) (fun c475 => ?_)
                  · replace h := h.1 c475
                    refine And.intro (Or.inl rfl) ?_
                    exact h
                  · replace h := h.2 c475
                    refine And.intro sh_l141 ?_
                    refine pm_C_imp h (fun v hi476 h => ?_)
                    obtain ⟨x477, rfl, h⟩ := h
                    refine ⟨_, rfl, ?_⟩
                    exact h
                · replace h := h.2 c472
                  refine And.intro (fun c478 => ?_) (fun c478 => ?_)
                  · replace h := h.1 c478
                    refine And.intro sh_l141 ?_
                    refine pm_C_imp h (fun v hi479 h => ?_)
                    obtain ⟨x480, rfl, h⟩ := h
                    refine ⟨_, rfl, ?_⟩
                    refine And.intro (fun c481 => ?_) (fun c481 => ?_)
                    · replace h := h.1 c481
                      refine And.intro (Or.inl rfl) ?_
                      exact h
                    · replace h := h.2 c481
                      refine And.intro sh_l141 ?_
                      refine pm_C_imp h (fun v hi482 h => ?_)
                      obtain ⟨x483, rfl, h⟩ := h
                      refine ⟨_, rfl, ?_⟩
                      exact h
                  · replace h := h.2 c478
                    refine And.intro sh_l141 ?_
                    rw [hr_141_23]
                    refine And.intro sh_l141 ?_
                    obtain ⟨k484, hkk484, hek484, h⟩ := h
                    refine And.intro ⟨pm_aw_of sh_l153 hkk484 hek484 (by decide), trivial⟩ ?_
                    rw [pm_tn hek484 hkk484 (by decide)]
                    refine And.intro sh_l141 ?_
                    refine And.intro ⟨sh_l141, trivial⟩ ?_
                    obtain ⟨hi485, ehi485⟩ : ∃ m : pm_B, m = pm_u (pm_u hi 153 k484 (-11)) 141 24 (((pm_u hi 153 k484 (-11)) 141 24) + 1) := ⟨_, rfl⟩
                    replace h := h hi485 ehi485
                    rw [← ehi485]
                    refine And.intro sh_l141 ?_
                    rw [hr_141_25]
                    obtain ⟨k486, hkk486, hek486, h⟩ := h
                    refine And.intro ⟨pm_aw_of sh_l154 hkk486 hek486 (by decide), (Or.inl rfl)⟩ ?_
                    rw [pm_tn hek486 hkk486 (by decide)]
                    refine And.intro sh_l141 ?_
                    refine pm_C_imp h (fun v hi487 h => ?_)
                    obtain ⟨rfl, h⟩ := h
                    refine ⟨rfl, ?_⟩
                    refine And.intro sh_l141 ?_
                    refine pm_C_imp h (fun v hi488 h => ?_)
                    obtain ⟨x489, rfl, h⟩ := h
                    refine ⟨_, rfl, ?_⟩
                    exact h
            · replace h := h.2 c465
              refine And.intro sh_l141 ?_
              rw [hr_141_23]
              refine And.intro sh_l141 ?_
              obtain ⟨k490, hkk490, hek490, h⟩ := h
              refine And.intro ⟨pm_aw_of sh_l153 hkk490 hek490 (by decide), trivial⟩ ?_
              rw [pm_tn hek490 hkk490 (by decide)]
              refine And.intro sh_l141 ?_
              refine And.intro ⟨sh_l141, trivial⟩ ?_
              obtain ⟨hi491, ehi491⟩ : ∃ m : pm_B, m = pm_u (pm_u hi 153 k490 (-10)) 141 24 (((pm_u hi 153 k490 (-10)) 141 24) + 1) := ⟨_, rfl⟩
              replace h := h hi491 ehi491
              rw [← ehi491]
              refine And.intro sh_l141 ?_
              refine pm_C_imp h (fun v hi492 h => ?_)
              obtain ⟨rfl, h⟩ := h
              refine ⟨rfl, ?_⟩
              refine And.intro sh_l141 ?_
              refine pm_C_imp h (fun v hi493 h => ?_)
              obtain ⟨x494, rfl, h⟩ := h
              refine ⟨_, rfl, ?_⟩
              exact h
theorem v_M_notsOpen {L d : Nat}  {hi : pm_B} {Q : pm_Q} (h : pm_W pm_g (SH L) HR (d) pm_t208 4 [some (.inr 141), some (.inl 0), some (.inl 0)] [] hi Q) : pm_C pm_g (SH L) HR (d + 1) m_M_notsOpen [.inr 141] hi Q := by
  refine pm_C_of (maxL := 3) (t := pm_t208) rfl (Nat.le_of_ble_eq_true rfl) ?_
  refine pm_W_of 6 [4] rfl ?_
  exact h
theorem v_M_notsOpen_4 {L d : Nat}  {y1 : Int32} {y2 : Int32} {hi : pm_B} {Q : pm_Q} (h : (((hi 141 24) ≤ y2) → Q (some (.inl y1)) hi) ∧ ((¬ ((hi 141 24) ≤ y2)) → ∃ k2 : Nat, k2 < 96 ∧ y2 = nI k2 ∧ (((¬ (hi 153 k2) = (-10)) → pm_W pm_g (SH L) HR (d) pm_t208 4 [some (.inr 141), some (.inl (y1 + 0)), some (.inl (y2 + 1))] [] hi Q) ∧ ((¬ (¬ (hi 153 k2) = (-10))) → pm_W pm_g (SH L) HR (d) pm_t208 4 [some (.inr 141), some (.inl (y1 + 1)), some (.inl (y2 + 1))] [] hi Q)))) : pm_W pm_g (SH L) HR (d) pm_t208 4 [some (.inr 141), some (.inl y1), some (.inl y2)] [] hi Q := by
  refine pm_W_of 19 [4] rfl ?_
  refine And.intro sh_l141 ?_
  refine And.intro (fun c1 => ?_) (fun c1 => ?_)
  · replace h := h.1 c1
    refine And.intro trivial ?_
    exact h
  · replace h := h.2 c1
    refine And.intro sh_l141 ?_
    rw [hr_141_23]
    obtain ⟨k2, hkk2, hek2, h⟩ := h
    refine And.intro (pm_ao_of (t := 0) sh_l153 hkk2 hek2 (by decide)) ?_
    rw [pm_tn hek2 hkk2 (by decide)]
    refine And.intro (fun c3 => ?_) (fun c3 => ?_)
    · replace h := h.1 c3
      exact h
    · replace h := h.2 c3
      exact h
theorem v_M_text {L d : Nat}  {hi : pm_B} {Q : pm_Q} (h : ∀ hi1 : pm_B, hi1 = pm_u (pm_u hi 141 12 0) 141 16 (-1) → (pm_C pm_g (SH L) HR (d) m_M_go [.inr 141] hi1 (fun v hi2 => v = none ∧ (pm_C pm_g (SH L) HR (d) m_M_takesKey [.inr 141] hi2 (fun v hi3 => ∃ x4 : Int32, v = some (.inl x4) ∧ (((x4 = 0) → Q (some (.inl ((-100) - ((pm_u hi3 141 11 0) 141 13)))) (pm_u hi3 141 11 0)) ∧ ((¬ (x4 = 0)) → pm_C pm_g (SH L) HR (d) m_M_takesE [.inr 141] hi3 (fun v hi6 => ∃ x7 : Int32, v = some (.inl x7) ∧ (((x7 = 0) → Q (some (.inl ((-100) - ((pm_u hi6 141 11 0) 141 13)))) (pm_u hi6 141 11 0)) ∧ ((¬ (x7 = 0)) → ((¬ ((pm_u hi6 141 11 0) 142 6) = 14) → ∃ k10 : Nat, k10 < 1611 ∧ (239 + (2 * ((pm_u hi6 141 11 0) 142 6))) = nI k10 ∧ (∀ hi11 : pm_B, hi11 = pm_u (pm_u hi6 141 11 0) 142 k10 ((1000 * ((pm_u hi6 141 11 0) 141 17)) + ((pm_u hi6 141 11 0) 141 21)) → (∃ k12 : Nat, k12 < 1611 ∧ ((239 + (2 * ((pm_u hi6 141 11 0) 142 6))) + 1) = nI k12 ∧ (pm_W pm_g (SH L) HR (d) pm_t209 119 [some (.inr 141), some (.inl 1), some (.inl ((pm_u hi6 141 11 0) 142 6)), some (.inl 0)] [] (pm_u hi11 142 k12 (hi11 141 22)) Q)))) ∧ ((¬ (¬ ((pm_u hi6 141 11 0) 142 6) = 14)) → Q (some (.inl (-1000000003))) (pm_u hi6 141 11 0)))))))))))) : pm_C pm_g (SH L) HR (d + 1) m_M_text [.inr 141] hi Q := by
  refine pm_C_of (maxL := 4) (t := pm_t209) rfl (Nat.le_of_ble_eq_true rfl) ?_
  refine pm_W_of 64 [119] rfl ?_
  refine And.intro ⟨sh_l141, trivial⟩ ?_
  refine And.intro ⟨sh_l141, trivial⟩ ?_
  obtain ⟨hi1, ehi1⟩ : ∃ m : pm_B, m = pm_u (pm_u hi 141 12 0) 141 16 (-1) := ⟨_, rfl⟩
  replace h := h hi1 ehi1
  rw [← ehi1]
  refine And.intro sh_l141 ?_
  refine pm_C_imp h (fun v hi2 h => ?_)
  obtain ⟨rfl, h⟩ := h
  refine ⟨rfl, ?_⟩
  refine And.intro sh_l141 ?_
  refine pm_C_imp h (fun v hi3 h => ?_)
  obtain ⟨x4, rfl, h⟩ := h
  refine ⟨_, rfl, ?_⟩
  refine And.intro (fun c5 => ?_) (fun c5 => ?_)
  · replace h := h.1 c5
    refine And.intro ⟨sh_l141, trivial⟩ ?_
    refine And.intro (fun hc => absurd hc (pm_cd_f (by decide))) (fun _ => ?_)
    refine And.intro sh_l141 ?_
    refine And.intro trivial ?_
    exact h
  · replace h := h.2 c5
    refine And.intro sh_l141 ?_
    refine pm_C_imp h (fun v hi6 h => ?_)
    obtain ⟨x7, rfl, h⟩ := h
    refine ⟨_, rfl, ?_⟩
    refine And.intro (fun c8 => ?_) (fun c8 => ?_)
    · replace h := h.1 c8
      refine And.intro ⟨sh_l141, trivial⟩ ?_
      refine And.intro (fun hc => absurd hc (pm_cd_f (by decide))) (fun _ => ?_)
      refine And.intro sh_l141 ?_
      refine And.intro trivial ?_
      exact h
    · replace h := h.2 c8
      refine And.intro ⟨sh_l141, trivial⟩ ?_
      refine And.intro (fun _ => ?_) (fun hc => absurd (pm_cd_t (by decide)) hc)
      refine And.intro sh_l141 ?_
      rw [hr_141_0]
      refine And.intro (pm_ao_of (t := 0) sh_l142 (by decide : 6 < 1611) (rfl : (6 : Int32) = nI 6) (by decide)) ?_
      rw [pm_tn (rfl : (6 : Int32) = nI 6) (by decide : 6 < 1611) (by decide)]
      refine And.intro (fun c9 => ?_) (fun c9 => ?_)
      · replace h := h.1 c9
        refine And.intro sh_l141 ?_
        rw [hr_141_0]
        refine And.intro (pm_ao_of (t := 0) sh_l142 (by decide : 6 < 1611) (rfl : (6 : Int32) = nI 6) (by decide)) ?_
        rw [pm_tn (rfl : (6 : Int32) = nI 6) (by decide : 6 < 1611) (by decide)]
        refine And.intro sh_l141 ?_
        rw [hr_141_0]
        refine And.intro sh_l141 ?_
        refine And.intro sh_l141 ?_
        obtain ⟨k10, hkk10, hek10, h⟩ := h
        refine And.intro ⟨pm_aw_of sh_l142 hkk10 hek10 (by decide), trivial⟩ ?_
        rw [pm_tn hek10 hkk10 (by decide)]
        obtain ⟨hi11, ehi11⟩ : ∃ m : pm_B, m = pm_u (pm_u hi6 141 11 0) 142 k10 ((1000 * ((pm_u hi6 141 11 0) 141 17)) + ((pm_u hi6 141 11 0) 141 21)) := ⟨_, rfl⟩
        replace h := h hi11 ehi11
        rw [← ehi11]
        refine And.intro sh_l141 ?_
        rw [hr_141_0]
        refine And.intro sh_l141 ?_
        obtain ⟨k12, hkk12, hek12, h⟩ := h
        refine And.intro ⟨pm_aw_of sh_l142 hkk12 hek12 (by decide), trivial⟩ ?_
        rw [pm_tn hek12 hkk12 (by decide)]
        exact h
      · replace h := h.2 c9
        refine And.intro trivial ?_
        exact h
theorem v_M_text_119 {L d : Nat}  {y1 : Int32} {y2 : Int32} {y3 : Int32} {hi : pm_B} {Q : pm_Q} (h : (((hi 141 21) ≤ y3) → Q (some (.inl y2)) (pm_u hi 142 6 ((hi 142 6) + 1))) ∧ ((¬ ((hi 141 21) ≤ y3)) → ∃ k2 : Nat, k2 < 96 ∧ y3 = nI k2 ∧ (∃ k3 : Nat, k3 < 1611 ∧ ((267 + (96 * y2)) + y3) = nI k3 ∧ (pm_W pm_g (SH L) HR (d) pm_t209 119 [some (.inr 141), some (.inl y1), some (.inl y2), some (.inl (y3 + 1))] [] (pm_u hi 142 k3 (hi 152 k2)) Q)))) : pm_W pm_g (SH L) HR (d) pm_t209 119 [some (.inr 141), some (.inl y1), some (.inl y2), some (.inl y3)] [] hi Q := by
  refine pm_W_of 22 [119] rfl ?_
  refine And.intro sh_l141 ?_
  refine And.intro (fun c1 => ?_) (fun c1 => ?_)
  · replace h := h.1 c1
    refine And.intro sh_l141 ?_
    rw [hr_141_0]
    refine And.intro (pm_ao_of (t := 0) sh_l142 (by decide : 6 < 1611) (rfl : (6 : Int32) = nI 6) (by decide)) ?_
    rw [pm_tn (rfl : (6 : Int32) = nI 6) (by decide : 6 < 1611) (by decide)]
    refine And.intro ⟨pm_aw_of sh_l142 (by decide : 6 < 1611) (rfl : (6 : Int32) = nI 6) (by decide), trivial⟩ ?_
    rw [pm_tn (rfl : (6 : Int32) = nI 6) (by decide : 6 < 1611) (by decide)]
    refine And.intro trivial ?_
    exact h
  · replace h := h.2 c1
    refine And.intro sh_l141 ?_
    rw [hr_141_0]
    refine And.intro sh_l141 ?_
    rw [hr_141_20]
    obtain ⟨k2, hkk2, hek2, h⟩ := h
    refine And.intro (pm_ao_of (t := 0) sh_l152 hkk2 hek2 (by decide)) ?_
    rw [pm_tn hek2 hkk2 (by decide)]
    obtain ⟨k3, hkk3, hek3, h⟩ := h
    refine And.intro ⟨pm_aw_of sh_l142 hkk3 hek3 (by decide), trivial⟩ ?_
    rw [pm_tn hek3 hkk3 (by decide)]
    exact h
theorem v_String_indexOf {L d : Nat} {this : Nat} (h_this : pm_sr this) {p1 : Int32} {hi : pm_B} {Q : pm_Q} (h : pm_C pm_g (SH L) HR (d) m_String_indexOf2 [.inr this, .inl p1, .inl 0] hi (fun v hi1 => ∃ x2 : Int32, v = some (.inl x2) ∧ (Q (some (.inl x2)) hi1))) : pm_C pm_g (SH L) HR (d + 1) m_String_indexOf [.inr this, .inl p1] hi Q := by
  refine pm_C_of (maxL := 2) (t := pm_t234) rfl (Nat.le_of_ble_eq_true rfl) ?_
  refine pm_W_of 7 [] rfl ?_
  refine And.intro (sh_sr h_this) ?_
  refine pm_C_imp h (fun v hi1 h => ?_)
  obtain ⟨x2, rfl, h⟩ := h
  refine ⟨_, rfl, ?_⟩
  refine And.intro trivial ?_
  exact h
theorem v_String_indexOf2 {L d : Nat} {this : Nat} (h_this : pm_sr this) {p1 : Int32} {p2 : Int32} {hi : pm_B} {Q : pm_Q} (h : ((¬ (hi this 1) = 0) → pm_fit 1 (hi this 1) ∧ (False)) ∧ ((¬ (¬ (hi this 1) = 0)) → pm_fit 1 (hi this 1) ∧ (pm_C pm_g (SH L) HR (d + 2) m_StringLatin1_indexOf [.inr (this + 6), .inl p1, .inl p2, .inl ((nI (slen this)) >>> ((hi this 1) &&& 31))] hi (fun v hi2 => ∃ x3 : Int32, v = some (.inl x3) ∧ (Q (some (.inl x3)) hi2))))) : pm_C pm_g (SH L) HR (d + 3) m_String_indexOf2 [.inr this, .inl p1, .inl p2] hi Q := by
  refine pm_C_of (maxL := 3) (t := pm_t235) rfl (Nat.le_of_ble_eq_true rfl) ?_
  refine pm_W_of 14 [] rfl ?_
  refine And.intro (sh_sr h_this) ?_
  refine v_String_isLatin1 (d := d + 1) h_this ?_
  refine And.intro (fun c1 => ?_) (fun c1 => ?_)
  · replace h := h.1 c1
    refine ⟨_, rfl, ?_⟩
    refine And.intro (fun _ => ?_) (fun hc => absurd (pm_cd_t (by decide)) hc)
    refine And.intro (sh_sr h_this) ?_
    rw [(hr_sr h_this)]
    refine And.intro (sh_sr h_this) ?_
    refine v_String_length (d := d) h_this ?_
    refine And.intro h.1 ?_
    replace h := h.2
    refine ⟨_, rfl, ?_⟩
    exact h.elim
  · replace h := h.2 c1
    refine ⟨_, rfl, ?_⟩
    refine And.intro (fun hc => absurd hc (pm_cd_f (by decide))) (fun _ => ?_)
    refine And.intro (sh_sr h_this) ?_
    rw [(hr_sr h_this)]
    refine And.intro (sh_sr h_this) ?_
    refine v_String_length (d := d) h_this ?_
    refine And.intro h.1 ?_
    replace h := h.2
    refine ⟨_, rfl, ?_⟩
    refine And.intro trivial ?_
    refine pm_C_imp h (fun v hi2 h => ?_)
    obtain ⟨x3, rfl, h⟩ := h
    refine ⟨_, rfl, ?_⟩
    refine And.intro trivial ?_
    exact h
theorem v_StringLatin1_indexOf {L d : Nat} {p1 n_p1 : Nat} (h_p1 : (SH L)[p1]? = some (2, 1, n_p1)) (hl_p1 : n_p1 ≤ 2147483648) {p2 : Int32} {p3 : Int32} {p4 : Int32} {hi : pm_B} {Q : pm_Q} (h : ((p2 < 0) → Q (some (.inl (-1))) hi) ∧ ((¬ (p2 < 0)) → ((255 < p2) → Q (some (.inl (-1))) hi) ∧ ((¬ (255 < p2)) → (((if p3 < 0 then 0 else p3) < (if (nI n_p1) < p4 then (nI n_p1) else p4)) → pm_C pm_g (SH L) HR (d + 1) m_StringLatin1_indexOfChar [.inr p1, .inl p2, .inl (if p3 < 0 then 0 else p3), .inl (if (nI n_p1) < p4 then (nI n_p1) else p4)] hi (fun v hi4 => ∃ x5 : Int32, v = some (.inl x5) ∧ (Q (some (.inl x5)) hi4))) ∧ ((¬ ((if p3 < 0 then 0 else p3) < (if (nI n_p1) < p4 then (nI n_p1) else p4))) → Q (some (.inl (-1))) hi)))) : pm_C pm_g (SH L) HR (d + 2) m_StringLatin1_indexOf [.inr p1, .inl p2, .inl p3, .inl p4] hi Q := by
  refine pm_C_of (maxL := 4) (t := pm_t242) rfl (Nat.le_of_ble_eq_true rfl) ?_
  refine pm_W_of 23 [] rfl ?_
  refine And.intro trivial ?_
  refine v_StringLatin1_canEncode (d := d)  ?_
  refine And.intro (fun c1 => ?_) (fun c1 => ?_)
  · replace h := h.1 c1
    refine ⟨_, rfl, ?_⟩
    refine And.intro (fun hc => absurd hc (pm_cd_f (by decide))) (fun _ => ?_)
    refine And.intro trivial ?_
    exact h
  · replace h := h.2 c1
    refine And.intro (fun c2 => ?_) (fun c2 => ?_)
    · replace h := h.1 c2
      refine ⟨_, rfl, ?_⟩
      refine And.intro (fun hc => absurd hc (pm_cd_f (by decide))) (fun _ => ?_)
      refine And.intro trivial ?_
      exact h
    · replace h := h.2 c2
      refine ⟨_, rfl, ?_⟩
      refine And.intro (fun _ => ?_) (fun hc => absurd (pm_cd_t (by decide)) hc)
      refine ⟨n_p1, ⟨1, _, h_p1⟩, ?_⟩
      refine And.intro (fun c3 => ?_) (fun c3 => ?_)
      · replace h := h.1 c3
        refine And.intro trivial ?_
        refine pm_C_imp h (fun v hi4 h => ?_)
        obtain ⟨x5, rfl, h⟩ := h
        refine ⟨_, rfl, ?_⟩
        refine And.intro trivial ?_
        exact h
      · replace h := h.2 c3
        refine And.intro trivial ?_
        exact h
theorem v_StringLatin1_indexOfChar {L d : Nat} {p1 n_p1 : Nat} (h_p1 : (SH L)[p1]? = some (2, 1, n_p1)) (hl_p1 : n_p1 ≤ 2147483648) {p2 : Int32} {p3 : Int32} {p4 : Int32} {hi : pm_B} {Q : pm_Q} (h : pm_W pm_g (SH L) HR (d) pm_t243 7 [some (.inr p1), some (.inl p2), some (.inl p3), some (.inl p4), some (.inl (Int32.toInt8 p2).toInt32), some (.inl p3)] [] hi Q) : pm_C pm_g (SH L) HR (d + 1) m_StringLatin1_indexOfChar [.inr p1, .inl p2, .inl p3, .inl p4] hi Q := by
  refine pm_C_of (maxL := 6) (t := pm_t243) rfl (Nat.le_of_ble_eq_true rfl) ?_
  refine pm_W_of 7 [7] rfl ?_
  exact h
theorem v_StringLatin1_indexOfChar_7 {L d : Nat}  {p1 n_p1 : Nat} (h_p1 : (SH L)[p1]? = some (2, 1, n_p1)) (hl_p1 : n_p1 ≤ 2147483648) {p2 : Int32} {p3 : Int32} {p4 : Int32} {y4 : Int32} {y5 : Int32} {hi : pm_B} {Q : pm_Q} (h : ((p4 ≤ y5) → Q (some (.inl (-1))) hi) ∧ ((¬ (p4 ≤ y5)) → ∃ k2 : Nat, k2 < n_p1 ∧ y5 = nI k2 ∧ (((¬ (hi p1 k2) = y4) → pm_W pm_g (SH L) HR (d) pm_t243 7 [some (.inr p1), some (.inl p2), some (.inl p3), some (.inl p4), some (.inl y4), some (.inl (y5 + 1))] [] hi Q) ∧ ((¬ (¬ (hi p1 k2) = y4)) → Q (some (.inl y5)) hi)))) : pm_W pm_g (SH L) HR (d) pm_t243 7 [some (.inr p1), some (.inl p2), some (.inl p3), some (.inl p4), some (.inl y4), some (.inl y5)] [] hi Q := by
  refine pm_W_of 12 [7] rfl ?_
  refine And.intro (fun c1 => ?_) (fun c1 => ?_)
  · replace h := h.1 c1
    refine And.intro trivial ?_
    exact h
  · replace h := h.2 c1
    obtain ⟨k2, hkk2, hek2, h⟩ := h
    refine And.intro (pm_ao_of (t := 1) h_p1 hkk2 hek2 hl_p1) ?_
    rw [pm_tn hek2 hkk2 hl_p1]
    refine And.intro (fun c3 => ?_) (fun c3 => ?_)
    · replace h := h.1 c3
      exact h
    · replace h := h.2 c3
      refine And.intro trivial ?_
      exact h
