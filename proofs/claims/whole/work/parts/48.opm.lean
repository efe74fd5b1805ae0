/-! ===== copies; slots ===== -/
theorem sub_lt {a n p : Nat} (ha : a ≤ 24) (hn : n < 2 ^ 31) (hp : p < 2 ^ 31) : nI a - nI n < nI p ↔ a < p + n := by
  rw [Int32.lt_iff_toInt_lt, Int32.toInt_sub, nI_toInt (by omega), nI_toInt hn, nI_toInt hp, Int.bmod_eq_of_le (by omega) (by omega)]
  omega
def cpyL (src dst : List Int32) (sp dp n : Nat) : List Int32 := (List.range dst.length).map (fun j => if dp ≤ j ∧ j < dp + n then src.getD (sp + (j - dp)) 0 else dst.getD j 0)
theorem Row.copy {f g : Nat → Int32} {src dst : List Int32} {sp dp n : Nat} (hd : Row f dst) (hin : ∀ j, dp ≤ j → j < dp + n → g j = src.getD (sp + (j - dp)) 0) (hout : ∀ j, ¬ (dp ≤ j ∧ j < dp + n) → g j = f j) : Row g (cpyL src dst sp dp n) := by
  intro k w hw
  unfold cpyL at hw
  rw [List.getElem?_map] at hw
  have hk : k < dst.length := by
    have := (List.getElem?_eq_some_iff.mp (by rw [List.getElem?_map]; exact hw) : ∃ h, _).1
    rw [List.length_map, List.length_range] at this
    exact this
  rw [List.getElem?_range hk] at hw
  have hw : (if dp ≤ k ∧ k < dp + n then src.getD (sp + (k - dp)) 0 else dst.getD k 0) = w := Option.some.inj hw
  rw [← hw]
  by_cases c : dp ≤ k ∧ k < dp + n
  · rw [if_pos c]; exact hin k c.1 c.2
  · rw [if_neg c, hout k c, hd.at hk, List.getD_eq_getElem?_getD, List.getElem?_eq_getElem hk]; rfl
def okcp (l1 l2 : Nat) (p q n : Int32) : Prop := ¬ p < 0 ∧ ¬ q < 0 ∧ ¬ n < 0 ∧ p.toNatClampNeg + n.toNatClampNeg ≤ l1 ∧ q.toNatClampNeg + n.toNatClampNeg ≤ l2
noncomputable def acopy (s : St) (j : Nat) (t u : AH) (p q n : Int32) : St × Int32 := @ite _ (okcp t.2.length u.2.length p q n) (Classical.propDecidable _) (uS s j (u.1, cpyL t.2 u.2 p.toNatClampNeg q.toNatClampNeg n.toNatClampNeg), n) (s, -1000000013)
noncomputable def o_copy (s : St) (a p b q n : Int32) : St × Int32 := match ixo a 4 with
  | none => (s, -1000000001)
  | some i => match ixo b 4 with
    | none => (s, -1000000001)
    | some j => if (s.2.2.2.2.1 i).1 = -1 then (s, -1000000011) else if (s.2.2.2.2.1 j).1 = -1 then (s, -1000000011) else if (s.2.2.2.2.1 i).1 = (s.2.2.2.2.1 j).1 then acopy s j (s.2.2.2.2.1 i) (s.2.2.2.2.1 j) p q n else (s, -1000000012)
theorem E_copy {L d : Nat} {s : St} {a p b q n : Int32} {hi : pm_B} {Q : pm_Q} (hW : WI s) (hC : CI hi s) (h : EP hi (o_copy s a p b q n) Q) : pm_C pm_g (SH L) HR (d + 20) m_E_copy [.inr 16, .inl a, .inl p, .inl b, .inl q, .inl n] hi Q := by
  unfold o_copy at h
  refine v_E_copy (d := d + 18) (gL 4 rfl (by omega) (fun x => ?_) (fun i hi4 hx x => gL 4 rfl (by omega) (fun y => ?_) (fun j hj4 hy y => ⟨i, hi4, hx, j, hj4, hy, ?_⟩)))
  · rw [x] at h; exact h.same hC
  · rw [x] at h; dsimp only at h; rw [y] at h; exact h.same hC
  · rw [x] at h; dsimp only at h; rw [y] at h; dsimp only at h
    have hH := hC.2.2.2.2.2.2.1 i hi4
    have wH := hW.2.2.2.2.2.2.2.1 i hi4
    have hJ := hC.2.2.2.2.2.2.1 j hj4
    have wJ := hW.2.2.2.2.2.2.2.1 j hj4
    generalize s.2.2.2.2.1 i = t at h hH wH
    generalize s.2.2.2.2.1 j = u at h hJ wJ
    have l1 := wH.2
    have l2 := wJ.2
    rw [hH.1, hJ.1, hH.2.1, hJ.2.1]
    refine ⟨fun c => ?_, fun c => ⟨fun c1 => ⟨fun c2 => ?_, fun c2 => ?_⟩, fun c1 => ?_⟩⟩
    · rw [if_pos c] at h; exact h.same hC
    · rw [if_neg c, if_neg c1, if_pos c2] at h
      unfold acopy at h
      have bad : ¬ okcp t.2.length u.2.length p q n → Q (some (.inl (-1000000013))) hi := fun hb => by
        rw [if_neg hb] at h; exact h.same hC
      refine ⟨fun c => bad (fun o => o.1 c), fun p0 => ⟨fun c => bad (fun o => o.2.2.1 c), fun n0 => ?_⟩⟩
      obtain ⟨sp, hsp, ep⟩ := nI_of p0
      obtain ⟨m, hm, en⟩ := nI_of n0
      have tp : p.toNatClampNeg = sp := by rw [ep]; exact nI_clamp hsp
      have tn : n.toNatClampNeg = m := by rw [en]; exact nI_clamp hm
      unfold okcp at h bad
      rw [tp, tn] at h bad
      rw [ep, en]
      refine ⟨fun c => bad (fun o => ?_), fun d1 => ⟨fun c => absurd c (nI_nlt (a := 24) (by omega) (by omega)), fun _ => ⟨fun c => bad (fun o => ?_), fun d2 => ?_⟩⟩⟩
      · have := (nI_ltI (by omega) hsp).mp c; omega
      · have := (sub_lt l1 hsp hm).mp c; omega
      · have d2 : sp + m ≤ t.2.length := Nat.le_of_not_lt (fun hh => d2 ((sub_lt l1 hsp hm).mpr (by omega)))
        refine ⟨fun c => bad (fun o => o.2.1 c), fun q0 => ⟨fun c => absurd c (nI_pos hm), fun _ => ?_⟩⟩
        obtain ⟨dp, hdp, eq⟩ := nI_of q0
        have tq : q.toNatClampNeg = dp := by rw [eq]; exact nI_clamp hdp
        rw [tq] at h bad
        rw [eq]
        refine ⟨fun c => bad (fun o => ?_), fun e1 => ⟨fun c => absurd c (nI_nlt (a := 24) (by omega) (by omega)), fun _ => ⟨fun c => bad (fun o => ?_), fun e2 => ⟨sp, dp, m, rfl, rfl, rfl, by omega, ?_, ?_⟩⟩⟩⟩
        · have := (nI_ltI (by omega) hdp).mp c; omega
        · have := (sub_lt l2 hdp hm).mp c; omega
        · have e2 : dp + m ≤ u.2.length := Nat.le_of_not_lt (fun hh => e2 ((sub_lt l2 hdp hm).mpr (by omega)))
          omega
        · have e2 : dp + m ≤ u.2.length := Nat.le_of_not_lt (fun hh => e2 ((sub_lt l2 hdp hm).mpr (by omega)))
          rw [if_pos ⟨p0, q0, n0, d2, e2⟩] at h
          rw [← en]
          have out : ∀ q' j', ¬ (q' = 113 + 2 * j + 1 ∧ dp ≤ j' ∧ j' < dp + m) → pm_cp hi (113 + 2 * i + 1) sp (113 + 2 * j + 1) dp m q' j' = hi q' j' := fun q' j' hn => if_neg hn
          refine h _ (fun q' j' hn => out q' j' (by unfold PE at hn; omega)) (hC.sheet hW hj4 (fun q' j' _ hn => out q' j' (by omega)) ⟨(out _ _ (by omega)).trans hJ.1, ?_, ?_⟩)
          · rw [out _ _ (by omega), hJ.2.1]
            show nI u.2.length = nI (cpyL t.2 u.2 sp dp m).length
            unfold cpyL
            rw [List.length_map, List.length_range]
          · refine hJ.2.2.copy (fun j' a1 a2 => ?_) (fun j' hn => out _ _ (by omega))
            have : pm_cp hi (113 + 2 * i + 1) sp (113 + 2 * j + 1) dp m (113 + 2 * j + 1) j' = hi (113 + 2 * i + 1) (sp + (j' - dp)) := if_pos ⟨rfl, a1, a2⟩
            rw [this, hH.2.2.at (show sp + (j' - dp) < t.2.length by omega), List.getD_eq_getElem?_getD, List.getElem?_eq_getElem (show sp + (j' - dp) < t.2.length by omega)]
            rfl
    · rw [if_neg c, if_neg c1, if_neg c2] at h; exact h.same hC
    · rw [if_neg c, if_pos (Decidable.not_not.mp c1)] at h; exact h.same hC
theorem ix24b (i a k : Nat) : (24 * nI i + nI a : Int32) + nI k = nI (24 * i + a + k) := by
  show nI 24 * nI i + nI a + nI k = _
  rw [pk_mul, nI_add, nI_add]
theorem le_sub {a n p : Nat} (ha : a ≤ 24) (hn : n < 2 ^ 31) (hp : p < 2 ^ 31) : nI p ≤ nI a - nI n ↔ p + n ≤ a := by
  rw [← Int32.not_lt, sub_lt ha hn hp]
  omega
theorem M_copy {L d : Nat} {s : St} {a p b q n : Int32} {hi : pm_B} {Q : pm_Q} (hW : WI s) (hM : MI hi s) (h : MP hi (o_copy s a p b q n) Q) : pm_C pm_g (SH L) HR (d + 20) m_M_copy [.inr 141, .inl a, .inl p, .inl b, .inl q, .inl n] hi Q := by
  unfold o_copy at h
  refine v_M_copy (d := d + 17) (gT 3 rfl (by omega) (fun x => ?_) (fun i hi4 hx x => gT 3 rfl (by omega) (fun y => ?_) (fun j hj4 hy y => ⟨i, hi4, hx, ?_⟩)))
  · rw [x] at h; exact h.same hM
  · rw [x] at h; dsimp only at h; rw [y] at h; exact h.same hM
  · rw [x] at h; dsimp only at h; rw [y] at h; dsimp only at h
    have hH := hM.2.2.2.2.2.2.1 i hi4
    have wH := hW.2.2.2.2.2.2.2.1 i hi4
    have hJ := hM.2.2.2.2.2.2.1 j hj4
    have wJ := hW.2.2.2.2.2.2.2.1 j hj4
    generalize s.2.2.2.2.1 i = t at h hH wH
    generalize s.2.2.2.2.1 j = u at h hJ wJ
    have l1 := wH.2
    have l2 := wJ.2
    rw [hH.1]
    refine ⟨fun c => ?_, fun c => ⟨j, hj4, hy, ?_⟩⟩
    · have c := Int32.not_le.mpr c
      rw [if_pos (Classical.byContradiction (fun hh => c ((srt wH).mpr hh)))] at h; exact h.same hM
    · have c := (srt wH).mp (Int32.not_lt.mp c)
      rw [if_neg c] at h
      rw [hJ.1]
      refine ⟨fun c1 => ⟨i, hi4, hx, j, hj4, hy, ?_⟩, fun c1 => ?_⟩
      · rw [if_neg ((srt wJ).mp c1)] at h
        rw [hH.1, hJ.1]
        refine ⟨fun c2 => ?_, fun c2 => ?_⟩
        · rw [if_pos c2] at h
          unfold acopy at h
          have bad : ¬ okcp t.2.length u.2.length p q n → Q (some (.inl (-1000000013))) hi := fun hb => by
            rw [if_neg hb] at h; exact h.same hM
          refine ⟨fun c => bad (fun o => o.1 c), fun p0 => ⟨fun c => bad (fun o => o.2.1 c), fun q0 => ⟨fun c => bad (fun o => o.2.2.1 c), fun n0 => ⟨i, hi4, hx, ?_⟩⟩⟩⟩
          obtain ⟨sp, hsp, ep⟩ := nI_of p0
          obtain ⟨m, hm, en⟩ := nI_of n0
          obtain ⟨dp, hdp, eq⟩ := nI_of q0
          have tp : p.toNatClampNeg = sp := by rw [ep]; exact nI_clamp hsp
          have tn : n.toNatClampNeg = m := by rw [en]; exact nI_clamp hm
          have tq : q.toNatClampNeg = dp := by rw [eq]; exact nI_clamp hdp
          unfold okcp at h bad
          rw [tp, tn, tq] at h bad
          rw [hH.2.1, ep, en, eq]
          refine ⟨fun c => bad (fun o => ?_), fun d1 => ⟨j, hj4, hy, ?_⟩⟩
          · have := (sub_lt l1 hm hsp).mp c; omega
          · have d1 : sp + m ≤ t.2.length := Nat.le_of_not_lt (fun hh => d1 ((sub_lt l1 hm hsp).mpr hh))
            rw [hJ.2.1]
            refine ⟨fun e2 => ?_, fun c => bad (fun o => c ((le_sub l2 hm hdp).mpr (by omega)))⟩
            have e2 := (le_sub l2 hm hdp).mp e2
            rw [if_pos ⟨p0, q0, n0, d1, e2⟩] at h
            rw [en] at h
            subst hx hy
            have second : ∀ r k hi', k + r = m → Fr (fun q' j' => q' = 164 ∨ (q' = 159 ∧ 24 * j + dp ≤ j' ∧ j' < 24 * j + dp + m)) hi hi' → (∀ k', k' < m → hi' 164 k' = t.2.getD (sp + k') 0) → (∀ k', k' < k → hi' 159 (24 * j + dp + k') = t.2.getD (sp + k') 0) → pm_W pm_g (SH L) HR (d + 17 + 2) pm_t221 141 [some (.inr 141), some (.inl (nI i)), some (.inl (nI sp)), some (.inl (nI j)), some (.inl (nI dp)), some (.inl (nI m)), some (.inl (nI k))] [] hi' Q := by
              intro r
              induction r with
              | zero =>
                intro k hi' hk hf h1 h2
                have hk : k = m := by omega
                subst hk
                refine v_M_copy_141 (d := d + 17) ⟨fun _ => ?_, fun c => absurd (nI_le (Nat.le_refl _) hm) c⟩
                refine h hi' (fun q' j' hn => hf q' j' (by unfold PQ at hn; omega)) (hM.sheet hW hj4 (fun q' j' _ hn => hf q' j' (by omega)) ⟨(hf _ _ (by omega)).trans hJ.1, ?_, ?_⟩)
                · rw [hf _ _ (by omega), hJ.2.1]
                  show nI u.2.length = nI (cpyL t.2 u.2 sp dp k).length
                  unfold cpyL
                  rw [List.length_map, List.length_range]
                · refine hJ.2.2.copy (fun j' a1 a2 => ?_) (fun j' hn => hf _ _ (by omega))
                  have := h2 (j' - dp) (by omega)
                  rw [show 24 * j + dp + (j' - dp) = 24 * j + j' by omega] at this
                  exact this
              | succ r ih =>
                intro k hi' hk hf h1 h2
                refine v_M_copy_141 (d := d + 17) ⟨fun c => absurd c (nI_ge (by omega) hm), fun _ => ⟨k, by omega, rfl, 24 * j + dp + k, by omega, ix24b j dp k, ?_⟩⟩
                rw [nI_1]
                refine ih (k + 1) _ (by omega) (hf.tr (Fr.u (Or.inr ⟨rfl, by omega, by omega⟩))) (fun k' hk' => ?_) (fun k' hk' => ?_)
                · rw [pm_u_ne (Or.inl (by omega))]; exact h1 k' hk'
                · by_cases e : k' = k
                  · rw [e, pm_u_at]; exact h1 k (by omega)
                  · rw [pm_u_ne (Or.inr (by omega))]; exact h2 k' (by omega)
            have first : ∀ r k hi', k + r = m → Fr (fun q' _ => q' = 164) hi hi' → (∀ k', k' < k → hi' 164 k' = t.2.getD (sp + k') 0) → pm_W pm_g (SH L) HR (d + 17 + 2) pm_t221 104 [some (.inr 141), some (.inl (nI i)), some (.inl (nI sp)), some (.inl (nI j)), some (.inl (nI dp)), some (.inl (nI m)), some (.inl (nI k))] [] hi' Q := by
              intro r
              induction r with
              | zero =>
                intro k hi' hk hf h1
                refine v_M_copy_104 (d := d + 17) ⟨fun _ => ?_, fun c => absurd (nI_le (by omega) (by omega)) c⟩
                exact second m 0 hi' (by omega) (hf.mono (fun q' j' hq => Or.inl hq)) (fun k' hk' => h1 k' (by omega)) (fun k' hk' => absurd hk' (by omega))
              | succ r ih =>
                intro k hi' hk hf h1
                refine v_M_copy_104 (d := d + 17) ⟨fun c => absurd c (nI_ge (by omega) hm), fun _ => ⟨24 * i + sp + k, by omega, ix24b i sp k, k, by omega, rfl, ?_⟩⟩
                rw [nI_1]
                refine ih (k + 1) _ (by omega) (hf.tr (Fr.u rfl)) (fun k' hk' => ?_)
                by_cases e : k' = k
                · rw [e, pm_u_at, hf 159 _ (by omega)]
                  have := hH.2.2.at (show sp + k < t.2.length by omega)
                  rw [List.getD_eq_getElem?_getD, List.getElem?_eq_getElem (show sp + k < t.2.length by omega)]
                  rw [Nat.add_assoc]
                  exact this
                · rw [pm_u_ne (Or.inr e)]; exact h1 k' (by omega)
            exact first m 0 hi (by omega) Fr.rf (fun k' hk' => absurd hk' (by omega))
        · rw [if_neg c2] at h; exact h.same hM
      · rw [if_pos (Classical.byContradiction (fun hh => c1 ((srt wJ).mpr hh)))] at h; exact h.same hM
theorem W_copy {s : St} {a p b q n : Int32} (hW : WI s) : WI (o_copy s a p b q n).1 := by
  unfold o_copy
  rcases ixo_cases a 4 with ⟨x, _⟩ | ⟨i, hi4, hx, x⟩
  · rw [x]; exact hW
  · rw [x]; dsimp only
    rcases ixo_cases b 4 with ⟨y, _⟩ | ⟨j, hj4, hy, y⟩
    · rw [y]; exact hW
    · rw [y]; dsimp only
      have wJ := hW.2.2.2.2.2.2.2.1 j hj4
      generalize s.2.2.2.2.1 i = t
      generalize s.2.2.2.2.1 j = u at wJ
      by_cases c : t.1 = -1
      · rw [if_pos c]; exact hW
      · rw [if_neg c]
        by_cases c1 : u.1 = -1
        · rw [if_pos c1]; exact hW
        · rw [if_neg c1]
          by_cases c2 : t.1 = u.1
          · rw [if_pos c2]
            unfold acopy
            by_cases o : okcp t.2.length u.2.length p q n
            · rw [if_pos o]
              refine sheet_WI hW ⟨wJ.1, ?_⟩
              show (cpyL t.2 u.2 _ _ _).length ≤ 24
              unfold cpyL
              rw [List.length_map, List.length_range]
              exact wJ.2
            · rw [if_neg o]; exact hW
          · rw [if_neg c2]; exact hW
/-! slots -/
def uL (s : St) (i : Nat) (l : ASl) : St := (s.1, s.2.1, s.2.2.1, s.2.2.2.1, s.2.2.2.2.1, (fun k => if k = i then l else s.2.2.2.2.2.1 k), s.2.2.2.2.2.2)
theorem CI.slot {hi hi' : pm_B} {s : St} {i : Nat} {l : ASl} (h : CI hi s) (hW : WI s) (hi5 : i < 5) (hk : ∀ q j, q < 141 → ¬ (122 + 3 * i ≤ q ∧ q < 125 + 3 * i) → hi' q j = hi q j) (ht : CL hi' i l) : CI hi' (uL s i l) := by
  obtain ⟨a1, a2, a3, a4, a5, a6, a7, a8, a9, a10⟩ := h
  have k : ∀ q j, q < 141 ∧ ¬ (122 + 3 * i ≤ q ∧ q < 125 + 3 * i) → hi' q j = hi q j := fun q j c => hk q j c.1 c.2
  refine ⟨a1.kept hW.1.1 (fun q j u v => k q j (by omega)), a2.kept hW.2.2.1.1 (fun q j u v => k q j (by omega)), a3.kept (fun q j u v => k q j (by omega)), a4.kept (fun q j u v => k q j (by omega)), (k _ _ (by omega)).trans a5, ⟨(k _ _ (by omega)).trans a6.1, a6.2.to (fun j _ => k _ _ (by omega))⟩, fun i hi4 => (a7 i hi4).kept (fun q j u v => k q j (by omega)), fun m hm => ?_, ⟨(k _ _ (by omega)).trans a9.1, a9.2.to (fun j _ => k _ _ (by omega))⟩, fun q j u v => (k q j (by omega)).trans (a10 q j u v)⟩
  show CL hi' m (if m = i then l else s.2.2.2.2.2.1 m)
  by_cases e : m = i
  · rw [if_pos e, e]; exact ht
  · rw [if_neg e]; exact (a8 m hm).kept (fun q j u v => k q j (by omega))
theorem MI.slot {hi hi' : pm_B} {s : St} {i : Nat} {l : ASl} (h : MI hi s) (hW : WI s) (hi5 : i < 5) (hk : ∀ q j, 141 ≤ q → ¬ (((q = 160 ∨ q = 161 ∨ q = 162) ∧ j = i) ∨ (q = 163 ∧ 24 * i ≤ j ∧ j < 24 * i + 24)) → hi' q j = hi q j) (ht : ML hi' i l) : MI hi' (uL s i l) := by
  obtain ⟨a1, a2, a3, a4, a5, a6, a7, a8, a9, a10⟩ := h
  have k : ∀ q j, 141 ≤ q ∧ ¬ (((q = 160 ∨ q = 161 ∨ q = 162) ∧ j = i) ∨ (q = 163 ∧ 24 * i ≤ j ∧ j < 24 * i + 24)) → hi' q j = hi q j := fun q j c => hk q j c.1 c.2
  refine ⟨a1.kept hW.1.l24 hW.1.1 (fun j u => k _ j (by omega)), fun hz => (a2 hz).kept hW.2.2.1.l24 hW.2.2.1.1 (fun j u => k _ j (by omega)), a3.kept' (fun j u v => k _ j (by omega)), a4.kept' (fun j u v => k _ j (by omega)), (k _ _ (by omega)).trans a5, ⟨(k _ _ (by omega)).trans a6.1, a6.2.to (fun j _ => k _ _ (by omega))⟩, fun i hi4 => (a7 i hi4).kept (fun q j u v => k q j (by omega)), fun m hm => ?_, ⟨(k _ _ (by omega)).trans a9.1, a9.2.to (fun j _ => k _ _ (by omega))⟩, fun q j u => (k q j (by omega)).trans (a10 q j u)⟩
  show ML hi' m (if m = i then l else s.2.2.2.2.2.1 m)
  by_cases e : m = i
  · rw [if_pos e, e]; exact ht
  · rw [if_neg e]
    have wl := (hW.2.2.2.2.2.2.2.2.1 m hm).2.1
    obtain ⟨b1, b2, b3, b4⟩ := a8 m hm
    exact ⟨(k _ _ (by omega)).trans b1, fun z => ⟨(k _ _ (by omega)).trans (b2 z).1, (k _ _ (by omega)).trans (b2 z).2⟩, fun z => ⟨(k _ _ (by omega)).trans (b3 z).1, (b3 z).2.to (fun j hj => k _ _ (by omega))⟩, fun z => (k _ _ (by omega)).trans (b4 z)⟩
theorem slot_WI {s : St} {i : Nat} {l : ASl} (h : WI s) (ht : WL l) : WI (uL s i l) := by
  obtain ⟨a1, a2, a3, a4, a5, a6, a7, a8, a9, a10⟩ := h
  refine ⟨a1, a2, a3, a4, a5, a6, a7, a8, fun m hm => ?_, a10⟩
  show WL (if m = i then l else s.2.2.2.2.2.1 m)
  by_cases e : m = i
  · rw [if_pos e]; exact ht
  · rw [if_neg e]; exact a9 m hm
def o_ask (s : St) (a k : Int32) : St × Int32 := match ixo a 5 with
  | none => (s, -1000000001)
  | some i => match ixo k 6 with
    | none => (s, -1000000001)
    | some _ => (s, if (s.2.2.2.2.2.1 i).1 = 0 then -1000000011 else if (s.2.2.2.2.2.1 i).1 = 1 then (if isofN 6 (s.2.2.2.2.2.1 i).2.1 k = 0 then -1000000012 else f_Kinds_worthOf (s.2.2.2.2.2.1 i).2.1 (s.2.2.2.2.2.1 i).2.2.1) else -1000000012)
theorem E_ask {L d : Nat} {s : St} {a k : Int32} {hi : pm_B} {Q : pm_Q} (hW : WI s) (hC : CI hi s) (h : EP hi (o_ask s a k) Q) : pm_C pm_g (SH L) HR (d + 20) m_E_ask [.inr 16, .inl a, .inl k] hi Q := by
  unfold o_ask at h
  refine v_E_ask (d := d + 18) (gL 5 rfl (by omega) (fun x => ?_) (fun i hi5 hx x => gL 6 rfl (by omega) (fun y => ?_) (fun j hj hy y => ⟨i, hi5, hx, ?_⟩)))
  · rw [x] at h; exact h.same hC
  · rw [x] at h; dsimp only at h; rw [y] at h; exact h.same hC
  · rw [x] at h; dsimp only at h; rw [y] at h; dsimp only at h
    obtain ⟨b1, b2, b3, b4⟩ := hC.2.2.2.2.2.2.2.1 i hi5
    have h := h.same hC
    rw [b1]
    refine ⟨fun c => ⟨fun c1 => ?_, fun c1 => ?_⟩, fun c => ?_⟩
    · rw [if_neg c, if_neg c1] at h; exact h
    · have c1 := Decidable.not_not.mp c1
      rw [if_neg c, if_pos c1] at h
      rw [(b2 c1).1]
      refine isOf_c (d := d + 18) hC.2.2.2.2.2.2.2.2.2.above ⟨_, rfl, fun c2 => ?_, fun c2 => ?_⟩
      · rw [if_neg c2] at h; rw [(b2 c1).1, (b2 c1).2]; exact h
      · rw [if_pos (Decidable.not_not.mp c2)] at h; exact h
    · rw [if_pos (Decidable.not_not.mp c)] at h; exact h
theorem M_ask {L d : Nat} {s : St} {a k : Int32} {hi : pm_B} {Q : pm_Q} (hW : WI s) (hM : MI hi s) (h : MP hi (o_ask s a k) Q) : pm_C pm_g (SH L) HR (d + 20) m_M_ask [.inr 141, .inl a, .inl k] hi Q := by
  unfold o_ask at h
  refine v_M_ask (d := d + 17) (gT 4 rfl (by omega) (fun x => ?_) (fun i hi5 hx x => gT 5 rfl (by omega) (fun y => ?_) (fun j hj hy y => ⟨i, hi5, hx, ?_⟩)))
  · rw [x] at h; exact h.same hM
  · rw [x] at h; dsimp only at h; rw [y] at h; exact h.same hM
  · rw [x] at h; dsimp only at h; rw [y] at h; dsimp only at h
    obtain ⟨b1, b2, b3, b4⟩ := hM.2.2.2.2.2.2.2.1 i hi5
    have wL := hW.2.2.2.2.2.2.2.2.1 i hi5
    have h := h.same hM
    rw [b1]
    refine ⟨fun c => ⟨i, hi5, hx, ?_⟩, fun c => ?_⟩
    · rw [b1]
      refine ⟨fun c1 => ?_, fun c1 => ⟨i, hi5, hx, ?_⟩⟩
      · rw [if_neg c, if_neg c1] at h; exact h
      · have c1 := Decidable.not_not.mp c1
        rw [if_neg c, if_pos c1] at h
        obtain ⟨n, hn, en⟩ := wL.2.2 c1
        rw [(b2 c1).1]
        have eu : f_M_isUnder (s.2.2.2.2.2.1 i).2.1 k = isofN 6 (s.2.2.2.2.2.1 i).2.1 k := by rw [en, hy]; exact under_is n hn j hj
        rw [eu]
        refine ⟨fun c2 => ?_, fun c2 => ⟨i, hi5, hx, ?_⟩⟩
        · rw [if_pos c2] at h; exact h
        · rw [if_neg c2] at h; rw [(b2 c1).2]; exact h
    · rw [if_pos (Decidable.not_not.mp c)] at h; exact h
theorem W_ask {s : St} {a k : Int32} (hW : WI s) : WI (o_ask s a k).1 := by
  unfold o_ask
  cases ixo a 5
  · exact hW
  · dsimp only
    cases ixo k 6 <;> exact hW
def o_item (s : St) (a p : Int32) : St × Int32 := match ixo a 5 with
  | none => (s, -1000000001)
  | some i => if (s.2.2.2.2.2.1 i).1 = 0 then (s, -1000000011) else if (s.2.2.2.2.2.1 i).1 = 2 then (match ixo p (s.2.2.2.2.2.1 i).2.2.2.length with
    | none => (s, -1000000013)
    | some j => (s, if ((s.2.2.2.2.2.1 i).2.2.2[j]?).getD 0 = -1000000005 then -1000000012 else ((s.2.2.2.2.2.1 i).2.2.2[j]?).getD 0)) else (s, -1000000012)
theorem E_item {L d : Nat} {s : St} {a p : Int32} {hi : pm_B} {Q : pm_Q} (hW : WI s) (hC : CI hi s) (h : EP hi (o_item s a p) Q) : pm_C pm_g (SH L) HR (d + 20) m_E_item [.inr 16, .inl a, .inl p] hi Q := by
  unfold o_item at h
  refine v_E_item (d := d + 18) (gL 5 rfl (by omega) (fun x => ?_) (fun i hi5 hx x => ⟨i, hi5, hx, ?_⟩))
  · rw [x] at h; exact h.same hC
  · rw [x] at h; dsimp only at h
    obtain ⟨b1, b2, b3, b4⟩ := hC.2.2.2.2.2.2.2.1 i hi5
    have wL := (hW.2.2.2.2.2.2.2.2.1 i hi5).2.1
    rw [b1]
    refine ⟨fun c => ⟨i, hi5, hx, ?_⟩, fun c => ?_⟩
    · rw [b1]
      rw [if_neg c] at h
      refine ⟨fun c1 => ⟨i, hi5, hx, ?_⟩, fun c1 => ?_⟩
      · rw [if_pos c1] at h
        refine gE' (m := 24) (b3 c1).1 rfl wL (by omega) (fun y => ?_) (fun j hj hy y => ⟨j, by omega, hy, ?_⟩)
        · rw [y] at h; exact h.same hC
        · rw [y] at h; dsimp only at h
          rw [List.getElem?_eq_getElem hj] at h
          have h := h.same hC
          have ec : hi (122 + 3 * i + 1 + 1) j = (s.2.2.2.2.2.1 i).2.2.2[j] := (b3 c1).2.at hj
          rw [ec]
          refine ⟨fun c2 => ⟨j, by omega, hy, ?_⟩, fun c2 => ?_⟩
          · rw [ec]
            have h : Q (some (.inl (if (s.2.2.2.2.2.1 i).2.2.2[j] = -1000000005 then -1000000012 else (s.2.2.2.2.2.1 i).2.2.2[j]))) hi := h
            rw [if_neg c2] at h; exact h
          · have h : Q (some (.inl (if (s.2.2.2.2.2.1 i).2.2.2[j] = -1000000005 then -1000000012 else (s.2.2.2.2.2.1 i).2.2.2[j]))) hi := h
            rw [if_pos (Decidable.not_not.mp c2)] at h; exact h
      · rw [if_neg c1] at h; exact h.same hC
    · rw [if_pos (Decidable.not_not.mp c)] at h; exact h.same hC
theorem M_item {L d : Nat} {s : St} {a p : Int32} {hi : pm_B} {Q : pm_Q} (hW : WI s) (hM : MI hi s) (h : MP hi (o_item s a p) Q) : pm_C pm_g (SH L) HR (d + 20) m_M_item [.inr 141, .inl a, .inl p] hi Q := by
  unfold o_item at h
  refine v_M_item (d := d + 17) (gT 4 rfl (by omega) (fun x => ?_) (fun i hi5 hx x => ⟨i, hi5, hx, ?_⟩))
  · rw [x] at h; exact h.same hM
  · rw [x] at h; dsimp only at h
    obtain ⟨b1, b2, b3, b4⟩ := hM.2.2.2.2.2.2.2.1 i hi5
    have wL := (hW.2.2.2.2.2.2.2.2.1 i hi5).2.1
    rw [b1]
    refine ⟨fun c => ⟨i, hi5, hx, ?_⟩, fun c => ?_⟩
    · rw [b1]
      rw [if_neg c] at h
      refine ⟨fun c1 => ⟨i, hi5, hx, ?_⟩, fun c1 => ?_⟩
      · rw [if_pos c1] at h
        refine gM (b3 c1).1 (by omega) (fun y => ?_) (fun j hj hy y => ?_)
        · rw [y] at h; exact h.same hM
        · rw [y] at h; dsimp only at h
          subst hx hy
          refine ⟨24 * i + j, by omega, ix24 i j, ?_⟩
          rw [List.getElem?_eq_getElem hj] at h
          have h : Q (some (.inl (if (s.2.2.2.2.2.1 i).2.2.2[j] = -1000000005 then -1000000012 else (s.2.2.2.2.2.1 i).2.2.2[j]))) hi := h.same hM
          have ec : hi 163 (24 * i + j) = (s.2.2.2.2.2.1 i).2.2.2[j] := (b3 c1).2.at hj
          rw [ec]
          refine ⟨fun c2 => ?_, fun c2 => ?_⟩
          · rw [if_neg c2] at h; exact h
          · rw [if_pos (Decidable.not_not.mp c2)] at h; exact h
      · rw [if_neg c1] at h; exact h.same hM
    · rw [if_pos (Decidable.not_not.mp c)] at h; exact h.same hM
theorem W_item {s : St} {a p : Int32} (hW : WI s) : WI (o_item s a p).1 := by
  unfold o_item
  cases ixo a 5 with
  | none => exact hW
  | some i =>
    dsimp only
    by_cases c : (s.2.2.2.2.2.1 i).1 = 0
    · rw [if_pos c]; exact hW
    · rw [if_neg c]
      by_cases c1 : (s.2.2.2.2.2.1 i).1 = 2
      · rw [if_pos c1]
        cases ixo p (s.2.2.2.2.2.1 i).2.2.2.length <;> exact hW
      · rw [if_neg c1]; exact hW
def o_rest (s : St) (a n : Int32) : St × Int32 := match ixo a 5 with
  | none => (s, -1000000001)
  | some i => (s, if (s.2.2.2.2.2.1 i).1 = 0 then -1000000011 else if (s.2.2.2.2.2.1 i).1 = 3 then (if n = 0 then -1000000002 else (s.2.2.2.2.2.1 i).2.1 - (s.2.2.2.2.2.1 i).2.1 / n * n) else -1000000012)
theorem E_rest {L d : Nat} {s : St} {a n : Int32} {hi : pm_B} {Q : pm_Q} (hW : WI s) (hC : CI hi s) (h : EP hi (o_rest s a n) Q) : pm_C pm_g (SH L) HR (d + 20) m_E_rest [.inr 16, .inl a, .inl n] hi Q := by
  unfold o_rest at h
  refine v_E_rest (d := d + 18) (gL 5 rfl (by omega) (fun x => ?_) (fun i hi5 hx x => ⟨i, hi5, hx, ?_⟩))
  · rw [x] at h; exact h.same hC
  · rw [x] at h; dsimp only at h
    obtain ⟨b1, b2, b3, b4⟩ := hC.2.2.2.2.2.2.2.1 i hi5
    have h := h.same hC
    rw [b1]
    refine ⟨fun c => ⟨i, hi5, hx, ?_⟩, fun c => ?_⟩
    · rw [b1]
      rw [if_neg c] at h
      refine ⟨fun c1 => ⟨fun c2 => ⟨i, hi5, hx, c2, ?_⟩, fun c2 => ?_⟩, fun c1 => ?_⟩
      · rw [if_pos c1, if_neg c2] at h; rw [b4 c1]; exact h
      · rw [if_pos c1, if_pos (Decidable.not_not.mp c2)] at h; exact h
      · rw [if_neg c1] at h; exact h
    · rw [if_pos (Decidable.not_not.mp c)] at h; exact h
theorem div_m1 (x : Int32) : x - x / (-1) * (-1) = 0 := by
  have : x / (-1) = -x := by
    apply Int32.toInt_inj.mp
    rw [Int32.toInt_div, show (-1 : Int32).toInt = -1 by decide, Int.tdiv_neg, Int.tdiv_one, Int32.toInt_neg]
  rw [this]
  have : -x * (-1) = x := by rw [Int32.neg_mul, Int32.mul_neg, Int32.mul_one, Int32.neg_neg]
  rw [this, Int32.sub_self]
theorem M_rest {L d : Nat} {s : St} {a n : Int32} {hi : pm_B} {Q : pm_Q} (hW : WI s) (hM : MI hi s) (h : MP hi (o_rest s a n) Q) : pm_C pm_g (SH L) HR (d + 20) m_M_rest [.inr 141, .inl a, .inl n] hi Q := by
  unfold o_rest at h
  refine v_M_rest (d := d + 17) (gT 4 rfl (by omega) (fun x => ?_) (fun i hi5 hx x => ⟨i, hi5, hx, ?_⟩))
  · rw [x] at h; exact h.same hM
  · rw [x] at h; dsimp only at h
    obtain ⟨b1, b2, b3, b4⟩ := hM.2.2.2.2.2.2.2.1 i hi5
    have h := h.same hM
    rw [b1]
    refine ⟨fun c => ⟨i, hi5, hx, ?_⟩, fun c => ?_⟩
    · rw [b1]
      rw [if_neg c] at h
      refine ⟨fun c1 => ⟨fun c2 => ⟨fun c3 => ⟨i, hi5, hx, c2, ?_⟩, fun c3 => ?_⟩, fun c2 => ?_⟩, fun c1 => ?_⟩
      · rw [if_pos c1, if_neg c2] at h; rw [b4 c1]; exact h
      · rw [if_pos c1, if_neg c2, Decidable.not_not.mp c3, div_m1] at h; exact h
      · rw [if_pos c1, if_pos (Decidable.not_not.mp c2)] at h; exact h
      · rw [if_neg c1] at h; exact h
    · rw [if_pos (Decidable.not_not.mp c)] at h; exact h
theorem W_rest {s : St} {a n : Int32} (hW : WI s) : WI (o_rest s a n).1 := by
  unfold o_rest
  cases ixo a 5 <;> exact hW
