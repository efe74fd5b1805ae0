/-! lay -/
def o_lay (s : St) (a k m : Int32) : St × Int32 := match ixo a 5 with
  | none => (s, -1000000001)
  | some i => match ixo k 4 with
    | none => (s, -1000000001)
    | some 0 => (uL s i (0, 0, 0, []), (s.2.2.2.2.2.1 i).1)
    | some 1 => (match ixo m s.1.1.length with
      | none => (s, -1000000001)
      | some j => (uL s i (1, (spa s.1 j).1, (spa s.1 j).2.2.1, []), (s.2.2.2.2.2.1 i).1))
    | some 2 => (match ixo m 4 with
      | none => (s, -1000000001)
      | some j => if (s.2.2.2.2.1 j).1 = -1 then (s, -1000000011) else (uL s i (2, 0, 0, (s.2.2.2.2.1 j).2), (s.2.2.2.2.2.1 i).1))
    | some _ => (uL s i (3, m, 0, []), (s.2.2.2.2.2.1 i).1)
theorem z01 : ((0 : Int32) = 1) = False := by decide
theorem z02 : ((0 : Int32) = 2) = False := by decide
theorem z03 : ((0 : Int32) = 3) = False := by decide
theorem z12 : ((1 : Int32) = 2) = False := by decide
theorem z13 : ((1 : Int32) = 3) = False := by decide
theorem z21 : ((2 : Int32) = 1) = False := by decide
theorem z23 : ((2 : Int32) = 3) = False := by decide
theorem z31 : ((3 : Int32) = 1) = False := by decide
theorem z32 : ((3 : Int32) = 2) = False := by decide
theorem E_lay {L d : Nat} {s : St} {a k m : Int32} {hi : pm_B} {Q : pm_Q} (hW : WI s) (hC : CI hi s) (h : EP hi (o_lay s a k m) Q) : pm_C pm_g (SH L) HR (d + 20) m_E_lay [.inr 16, .inl a, .inl k, .inl m] hi Q := by
  have h8 := hW.1.1
  unfold o_lay at h
  refine v_E_lay (d := d + 18) (gL 5 rfl (by omega) (fun x => ?_) (fun i hi5 hx x => gU 3 rfl (by omega) (fun y => ?_) (fun j hj hy y => ?_)))
  · rw [x] at h; exact h.same hC
  · rw [x] at h; dsimp only at h; rw [y] at h; exact h.same hC
  · rw [x] at h; dsimp only at h; rw [y] at h
    obtain ⟨b1, b2, b3, b4⟩ := hC.2.2.2.2.2.2.2.1 i hi5
    rcases (show j = 0 ∨ j = 1 ∨ j = 2 ∨ j = 3 by omega) with rfl | rfl | rfl | rfl
    · have hk : k = 0 := hy
      subst hk
      simp only [z01, z02, z03, not_false_eq_true, not_true_eq_false, true_implies, false_implies, and_true, true_and]
      refine ⟨i, hi5, hx, ?_⟩
      rw [b1]
      exact h _ (fun q j' hn => pm_u_ne (by unfold PE at hn; omega)) (hC.slot hW hi5 (fun q j' _ hn => pm_u_ne (by omega)) ⟨pm_u_at, fun e => absurd e (by first | exact of_eq_false z12 | exact of_eq_false z13 | exact of_eq_false z21 | exact of_eq_false z23 | exact of_eq_false z31 | exact of_eq_false z32 | exact of_eq_false z01 | exact of_eq_false z02 | exact of_eq_false z03), fun e => absurd e (by first | exact of_eq_false z12 | exact of_eq_false z13 | exact of_eq_false z21 | exact of_eq_false z23 | exact of_eq_false z31 | exact of_eq_false z32 | exact of_eq_false z01 | exact of_eq_false z02 | exact of_eq_false z03), fun e => absurd e (by first | exact of_eq_false z12 | exact of_eq_false z13 | exact of_eq_false z21 | exact of_eq_false z23 | exact of_eq_false z31 | exact of_eq_false z32 | exact of_eq_false z01 | exact of_eq_false z02 | exact of_eq_false z03)⟩)
    · have hk : k = 1 := hy
      subst hk
      simp only [z12, z13, not_false_eq_true, not_true_eq_false, true_implies, false_implies, and_true, true_and]
      refine gE hC.1.n h8 (fun z => ?_) (fun j hj8 hz z => ⟨i, hi5, hx, j, by omega, hz, fun hi17 e17 => ?_⟩)
      · rw [z] at h; exact h.same hC
      · rw [z] at h; dsimp only at h
        have hp := hC.1.at hj8
        rw [b1]
        have fr : ∀ q j', ¬ (q = 122 + 3 * i) → hi17 q j' = hi q j' := fun q j' hn => by rw [e17, pm_u_ne (Or.inl hn), pm_u_ne (Or.inl hn), pm_u_ne (Or.inl hn)]
        refine h _ (fun q j' hn => fr q j' (by unfold PE at hn; omega)) (hC.slot hW hi5 (fun q j' _ hn => fr q j' (by omega)) ⟨?_, fun _ => ⟨?_, ?_⟩, fun e => absurd e (by first | exact of_eq_false z12 | exact of_eq_false z13 | exact of_eq_false z21 | exact of_eq_false z23 | exact of_eq_false z31 | exact of_eq_false z32 | exact of_eq_false z01 | exact of_eq_false z02 | exact of_eq_false z03), fun e => absurd e (by first | exact of_eq_false z12 | exact of_eq_false z13 | exact of_eq_false z21 | exact of_eq_false z23 | exact of_eq_false z31 | exact of_eq_false z32 | exact of_eq_false z01 | exact of_eq_false z02 | exact of_eq_false z03)⟩)
        · rw [e17, pm_u_ne (Or.inr (by omega)), pm_u_ne (Or.inr (by omega)), pm_u_at]
        · rw [e17, pm_u_ne (Or.inr (by omega)), pm_u_at, pm_u_ne (Or.inl (by omega))]; exact hp.1
        · rw [e17, pm_u_at, pm_u_ne (Or.inl (by omega)), pm_u_ne (Or.inl (by omega))]; exact hp.2.2.1
    · have hk : k = 2 := hy
      subst hk
      simp only [z21, z23, not_false_eq_true, not_true_eq_false, true_implies, false_implies, and_true, true_and]
      refine gL 4 rfl (by omega) (fun z => ?_) (fun j hj4 hz z => ⟨j, hj4, hz, ?_⟩)
      · rw [z] at h; exact h.same hC
      · rw [z] at h; dsimp only at h
        have hH := hC.2.2.2.2.2.2.1 j hj4
        have wH := hW.2.2.2.2.2.2.2.1 j hj4
        generalize s.2.2.2.2.1 j = t at h hH wH
        rw [hH.1]
        refine ⟨fun c => ⟨i, hi5, hx, j, hj4, hz, ?_⟩, fun c => ?_⟩
        · have c : ¬ t.1 = -1 := c
          rw [if_neg c] at h
          have hH1 : CH (pm_u hi (122 + 3 * i) 0 2) (113 + 2 * j) t := hH.kept (fun q j' a b => pm_u_ne (Or.inl (by omega)))
          refine sheetBecome_c (d := d + 18) (Or.inr ⟨i, hi5, rfl⟩) (st_of hj4) (by omega) wH.2 hH1 (fun hi' hf hc => ⟨rfl, ?_⟩)
          rw [b1]
          have fr : ∀ q j', ¬ (122 + 3 * i ≤ q ∧ q < 125 + 3 * i) → hi' q j' = hi q j' := fun q j' hn => by rw [hf q j' (by omega), pm_u_ne (Or.inl (by omega))]
          refine h _ (fun q j' hn => fr q j' (by unfold PE at hn; omega)) (hC.slot hW hi5 (fun q j' _ hn => fr q j' hn) ⟨?_, fun e => absurd e (by first | exact of_eq_false z12 | exact of_eq_false z13 | exact of_eq_false z21 | exact of_eq_false z23 | exact of_eq_false z31 | exact of_eq_false z32 | exact of_eq_false z01 | exact of_eq_false z02 | exact of_eq_false z03), fun _ => ⟨hc.2.1, hc.2.2⟩, fun e => absurd e (by first | exact of_eq_false z12 | exact of_eq_false z13 | exact of_eq_false z21 | exact of_eq_false z23 | exact of_eq_false z31 | exact of_eq_false z32 | exact of_eq_false z01 | exact of_eq_false z02 | exact of_eq_false z03)⟩)
          rw [hf _ _ (by omega), pm_u_at]
        · have c : t.1 = -1 := Classical.byContradiction c
          rw [if_pos c] at h
          exact h.same hC
    · have hk : k = 3 := hy
      subst hk
      simp only [z31, z32, not_false_eq_true, not_true_eq_false, true_implies, false_implies, and_true, true_and]
      refine ⟨i, hi5, hx, fun hi12 e12 => ?_⟩
      rw [b1]
      have fr : ∀ q j', ¬ (q = 122 + 3 * i) → hi12 q j' = hi q j' := fun q j' hn => by rw [e12, pm_u_ne (Or.inl hn), pm_u_ne (Or.inl hn)]
      refine h _ (fun q j' hn => fr q j' (by unfold PE at hn; omega)) (hC.slot hW hi5 (fun q j' _ hn => fr q j' (by omega)) ⟨?_, fun e => absurd e (by first | exact of_eq_false z12 | exact of_eq_false z13 | exact of_eq_false z21 | exact of_eq_false z23 | exact of_eq_false z31 | exact of_eq_false z32 | exact of_eq_false z01 | exact of_eq_false z02 | exact of_eq_false z03), fun e => absurd e (by first | exact of_eq_false z12 | exact of_eq_false z13 | exact of_eq_false z21 | exact of_eq_false z23 | exact of_eq_false z31 | exact of_eq_false z32 | exact of_eq_false z01 | exact of_eq_false z02 | exact of_eq_false z03), fun _ => ?_⟩)
      · rw [e12, pm_u_ne (Or.inr (by omega)), pm_u_at]
      · rw [e12, pm_u_at]
theorem M_lay {L d : Nat} {s : St} {a k m : Int32} {hi : pm_B} {Q : pm_Q} (hW : WI s) (hM : MI hi s) (h : MP hi (o_lay s a k m) Q) : pm_C pm_g (SH L) HR (d + 20) m_M_lay [.inr 141, .inl a, .inl k, .inl m] hi Q := by
  have h8 := hW.1.1
  unfold o_lay at h
  refine v_M_lay (d := d + 17) (gT 4 rfl (by omega) (fun x => ?_) (fun i hi5 hx x => gT 3 rfl (by omega) (fun y => ?_) (fun j hj hy y => ?_)))
  · rw [x] at h; exact h.same hM
  · rw [x] at h; dsimp only at h; rw [y] at h; exact h.same hM
  · rw [x] at h; dsimp only at h; rw [y] at h
    obtain ⟨b1, b2, b3, b4⟩ := hM.2.2.2.2.2.2.2.1 i hi5
    subst hx
    have fin : ∀ (k : Int32) (hi' : pm_B) (l : ASl), ¬ k = 2 → MP hi (uL s i l, (s.2.2.2.2.2.1 i).1) Q → (∀ q j', ¬ ((q = 160 ∨ q = 161 ∨ q = 162) ∧ j' = i) → hi' q j' = hi q j') → ML hi' i l → pm_W pm_g (SH L) HR (d + 17 + 2) pm_t222 134 [some (.inr 141), some (.inl (nI i)), some (.inl k), some (.inl m), some (.inl (s.2.2.2.2.2.1 i).1), some (.inl 0)] [] hi' Q := by
      intro k hi' l hk hl fr hml
      have done : Q (some (.inl (s.2.2.2.2.2.1 i).1)) hi' := hl hi' (fun q j' hn => fr q j' (by unfold PQ at hn; omega)) (hM.slot hW hi5 (fun q j' _ hn => fr q j' (by omega)) hml)
      exact v_M_lay_134 (d := d + 17) ⟨fun _ => done, fun _ => ⟨fun _ => done, fun c => absurd hk c⟩⟩
    rcases (show j = 0 ∨ j = 1 ∨ j = 2 ∨ j = 3 by omega) with rfl | rfl | rfl | rfl
    · have hk : k = 0 := hy
      subst hk
      simp only [z01, z02, z03, not_false_eq_true, not_true_eq_false, true_implies, false_implies, and_true, true_and]
      refine ⟨i, hi5, rfl, i, hi5, rfl, i, hi5, rfl, fun hi13 e13 => ⟨i, hi5, rfl, ?_⟩⟩
      rw [b1]
      refine fin 0 _ _ (by decide) h (fun q j' hn => ?_) ⟨?_, fun e => absurd e (by first | exact of_eq_false z12 | exact of_eq_false z13 | exact of_eq_false z21 | exact of_eq_false z23 | exact of_eq_false z31 | exact of_eq_false z32 | exact of_eq_false z01 | exact of_eq_false z02 | exact of_eq_false z03), fun e => absurd e (by first | exact of_eq_false z12 | exact of_eq_false z13 | exact of_eq_false z21 | exact of_eq_false z23 | exact of_eq_false z31 | exact of_eq_false z32 | exact of_eq_false z01 | exact of_eq_false z02 | exact of_eq_false z03), fun e => absurd e (by first | exact of_eq_false z12 | exact of_eq_false z13 | exact of_eq_false z21 | exact of_eq_false z23 | exact of_eq_false z31 | exact of_eq_false z32 | exact of_eq_false z01 | exact of_eq_false z02 | exact of_eq_false z03)⟩
      · rw [pm_u_ne (by omega), e13, pm_u_ne (by omega), pm_u_ne (by omega)]
      · rw [pm_u_ne (Or.inl (by omega)), e13, pm_u_ne (Or.inl (by omega)), pm_u_at]
    · have hk : k = 1 := hy
      subst hk
      simp only [z12, z13, not_false_eq_true, not_true_eq_false, true_implies, false_implies, and_true, true_and]
      refine gM hM.1.n (by omega) (fun z => ?_) (fun j hj8 hz z => ?_)
      · rw [z] at h; exact h.same hM
      · rw [z] at h; dsimp only at h
        subst hz
        have hp := hM.1.at hj8
        refine ⟨i, hi5, rfl, i, hi5, rfl, 7 + 29 * j + 0, by omega, ix j 0, i, hi5, rfl, fun hi29 e29 => ?_⟩
        have fr : ∀ q j', ¬ ((q = 160 ∨ q = 161) ∧ j' = i) → hi29 q j' = hi q j' := fun q j' hn => by rw [e29, pm_u_ne (by omega), pm_u_ne (by omega)]
        have hp' : MS (hi29 142) j (spa s.1 j) := hp.kept (fun j' _ _ => fr 142 j' (by omega))
        refine mworthOf_c (d := d + 17) (by omega) hp' ⟨_, rfl, i, hi5, rfl, ?_⟩
        rw [b1]
        refine fin 1 _ _ (by decide) h (fun q j' hn => ?_) ⟨?_, fun _ => ⟨?_, pm_u_at⟩, fun e => absurd e (by first | exact of_eq_false z12 | exact of_eq_false z13 | exact of_eq_false z21 | exact of_eq_false z23 | exact of_eq_false z31 | exact of_eq_false z32 | exact of_eq_false z01 | exact of_eq_false z02 | exact of_eq_false z03), fun e => absurd e (by first | exact of_eq_false z12 | exact of_eq_false z13 | exact of_eq_false z21 | exact of_eq_false z23 | exact of_eq_false z31 | exact of_eq_false z32 | exact of_eq_false z01 | exact of_eq_false z02 | exact of_eq_false z03)⟩
        · rw [pm_u_ne (by omega), fr q j' (by omega)]
        · rw [pm_u_ne (Or.inl (by omega)), e29, pm_u_ne (Or.inl (by omega)), pm_u_at]
        · rw [pm_u_ne (Or.inl (by omega)), e29, pm_u_at, pm_u_ne (Or.inl (by omega))]; exact hp.1
    · have hk : k = 2 := hy
      subst hk
      simp only [z21, z23, not_false_eq_true, not_true_eq_false, true_implies, false_implies, and_true, true_and]
      refine gT 3 rfl (by omega) (fun z => ?_) (fun j hj4 hz z => ⟨j, hj4, hz, ?_⟩)
      · rw [z] at h; exact h.same hM
      · rw [z] at h; dsimp only at h
        subst hz
        have hH := hM.2.2.2.2.2.2.1 j hj4
        have wH := hW.2.2.2.2.2.2.2.1 j hj4
        generalize s.2.2.2.2.1 j = t at h hH wH
        have hl := wH.2
        rw [hH.1]
        refine ⟨fun c => ⟨i, hi5, rfl, i, hi5, rfl, j, hj4, rfl, i, hi5, rfl, fun hi21 e21 => ⟨i, hi5, rfl, ?_⟩⟩, fun c => ?_⟩
        · rw [if_neg ((srt wH).mp c)] at h
          rw [b1]
          have fr : ∀ q j', ¬ ((q = 160 ∨ q = 161 ∨ q = 162) ∧ j' = i) → pm_u hi21 162 i 0 q j' = hi q j' := fun q j' hn => by rw [pm_u_ne (by omega), e21, pm_u_ne (by omega), pm_u_ne (by omega)]
          have s1 : pm_u hi21 162 i 0 160 i = 2 := by rw [pm_u_ne (Or.inl (by omega)), e21, pm_u_ne (Or.inl (by omega)), pm_u_at]
          have s2 : pm_u hi21 162 i 0 161 i = nI t.2.length := by rw [pm_u_ne (Or.inl (by omega)), e21, pm_u_at, pm_u_ne (Or.inl (by omega))]; exact hH.2.1
          generalize pm_u hi21 162 i 0 = hi0 at fr s1 s2 ⊢
          have key : ∀ r c hi', c + r = 24 → Fr (fun q j' => q = 163 ∧ 24 * i ≤ j' ∧ j' < 24 * i + 24) hi0 hi' → (∀ j', j' < c → hi' 163 (24 * i + j') = hi 159 (24 * j + j')) → pm_W pm_g (SH L) HR (d + 17 + 2) pm_t222 134 [some (.inr 141), some (.inl (nI i)), some (.inl 2), some (.inl (nI j)), some (.inl (s.2.2.2.2.2.1 i).1), some (.inl (nI c))] [] hi' Q := by
            intro r
            induction r with
            | zero =>
              intro c hi' hc hf hz
              refine v_M_lay_134 (d := d + 17) ⟨fun _ => ?_, fun c' => absurd (nI_le (a := 24) (by omega) (by omega)) c'⟩
              refine h hi' (fun q j' hn => ?_) (hM.slot hW hi5 (fun q j' _ hn => ?_) ⟨(hf _ _ (by omega)).trans s1, fun e => absurd e (by first | exact of_eq_false z12 | exact of_eq_false z13 | exact of_eq_false z21 | exact of_eq_false z23 | exact of_eq_false z31 | exact of_eq_false z32 | exact of_eq_false z01 | exact of_eq_false z02 | exact of_eq_false z03), fun _ => ⟨(hf _ _ (by omega)).trans s2, ?_⟩, fun e => absurd e (by first | exact of_eq_false z12 | exact of_eq_false z13 | exact of_eq_false z21 | exact of_eq_false z23 | exact of_eq_false z31 | exact of_eq_false z32 | exact of_eq_false z01 | exact of_eq_false z02 | exact of_eq_false z03)⟩)
              · unfold PQ at hn; rw [hf q j' (by omega), fr q j' (by omega)]
              · rw [hf q j' (by omega), fr q j' (by omega)]
              · exact hH.2.2.to (fun j' hj' => hz j' (by omega))
            | succ r ih =>
              intro c hi' hc hf hz
              refine v_M_lay_134 (d := d + 17) ⟨fun c' => absurd c' (nI_ge (b := 24) (by omega) (by omega)), fun _ => ⟨fun c' => absurd rfl c', fun _ => ⟨24 * j + c, by omega, ix24 j c, 24 * i + c, by omega, ix24 i c, ?_⟩⟩⟩
              rw [nI_1]
              refine ih (c + 1) _ (by omega) (hf.tr (Fr.u ⟨rfl, by omega, by omega⟩)) (fun j' hj' => ?_)
              by_cases e : j' = c
              · rw [e, pm_u_at, hf 159 _ (by omega), fr 159 _ (by omega)]
              · rw [pm_u_ne (Or.inr (by omega))]; exact hz j' (by omega)
          exact key 24 0 hi0 rfl Fr.rf (fun j' hj' => absurd hj' (by omega))
        · rw [if_pos (Classical.byContradiction (fun hh => c ((srt wH).mpr hh)))] at h
          exact h.same hM
    · have hk : k = 3 := hy
      subst hk
      simp only [z31, z32, not_false_eq_true, not_true_eq_false, true_implies, false_implies, and_true, true_and]
      refine ⟨i, hi5, rfl, i, hi5, rfl, i, hi5, rfl, fun hi13 e13 => ⟨i, hi5, rfl, ?_⟩⟩
      rw [b1]
      refine fin 3 _ _ (by decide) h (fun q j' hn => ?_) ⟨?_, fun e => absurd e (by first | exact of_eq_false z12 | exact of_eq_false z13 | exact of_eq_false z21 | exact of_eq_false z23 | exact of_eq_false z31 | exact of_eq_false z32 | exact of_eq_false z01 | exact of_eq_false z02 | exact of_eq_false z03), fun e => absurd e (by first | exact of_eq_false z12 | exact of_eq_false z13 | exact of_eq_false z21 | exact of_eq_false z23 | exact of_eq_false z31 | exact of_eq_false z32 | exact of_eq_false z01 | exact of_eq_false z02 | exact of_eq_false z03), fun _ => ?_⟩
      · rw [pm_u_ne (by omega), e13, pm_u_ne (by omega), pm_u_ne (by omega)]
      · rw [pm_u_ne (Or.inl (by omega)), e13, pm_u_ne (Or.inl (by omega)), pm_u_at]
      · rw [pm_u_ne (Or.inl (by omega)), e13, pm_u_at]
theorem W_lay {s : St} {a k m : Int32} (hW : WI s) : WI (o_lay s a k m).1 := by
  have n0 : ∀ {A : Prop} {a b : Int32}, ¬ a = b → (a = b → A) := fun h e => absurd e h
  unfold o_lay
  rcases ixo_cases a 5 with ⟨x, _⟩ | ⟨i, hi5, hx, x⟩
  · rw [x]; exact hW
  · rw [x]; dsimp only
    rcases ixo_cases k 4 with ⟨y, _⟩ | ⟨j, hj, hy, y⟩
    · rw [y]; exact hW
    · rw [y]
      rcases (show j = 0 ∨ j = 1 ∨ j = 2 ∨ j = 3 by omega) with rfl | rfl | rfl | rfl
      · exact slot_WI hW ⟨Or.inl rfl, Nat.zero_le _, n0 (by first | exact of_eq_false z12 | exact of_eq_false z13 | exact of_eq_false z21 | exact of_eq_false z23 | exact of_eq_false z31 | exact of_eq_false z32 | exact of_eq_false z01 | exact of_eq_false z02 | exact of_eq_false z03)⟩
      · show WI (match ixo m s.1.1.length with
          | none => (s, -1000000001)
          | some j => (uL s i (1, (spa s.1 j).1, (spa s.1 j).2.2.1, []), (s.2.2.2.2.2.1 i).1)).1
        rcases ixo_cases m s.1.1.length with ⟨z, _⟩ | ⟨j, hj8, hz, z⟩
        · rw [z]; exact hW
        · rw [z]; exact slot_WI hW ⟨Or.inr (Or.inl rfl), Nat.zero_le _, fun _ => (hW.1.at hj8).1⟩
      · show WI (match ixo m 4 with
          | none => (s, -1000000001)
          | some j => if (s.2.2.2.2.1 j).1 = -1 then (s, -1000000011) else (uL s i (2, 0, 0, (s.2.2.2.2.1 j).2), (s.2.2.2.2.2.1 i).1)).1
        rcases ixo_cases m 4 with ⟨z, _⟩ | ⟨j, hj4, hz, z⟩
        · rw [z]; exact hW
        · rw [z]; dsimp only
          by_cases c : (s.2.2.2.2.1 j).1 = -1
          · rw [if_pos c]; exact hW
          · rw [if_neg c]; exact slot_WI hW ⟨Or.inr (Or.inr (Or.inl rfl)), (hW.2.2.2.2.2.2.2.1 j hj4).2, n0 (by first | exact of_eq_false z12 | exact of_eq_false z13 | exact of_eq_false z21 | exact of_eq_false z23 | exact of_eq_false z31 | exact of_eq_false z32 | exact of_eq_false z01 | exact of_eq_false z02 | exact of_eq_false z03)⟩
      · exact slot_WI hW ⟨Or.inr (Or.inr (Or.inr rfl)), Nat.zero_le _, n0 (by first | exact of_eq_false z12 | exact of_eq_false z13 | exact of_eq_false z21 | exact of_eq_false z23 | exact of_eq_false z31 | exact of_eq_false z32 | exact of_eq_false z01 | exact of_eq_false z02 | exact of_eq_false z03)⟩
