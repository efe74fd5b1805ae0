/-! ===== what is made, what is called ===== -/
theorem pm_cl_new : ∀ (ci : Nat) (r : vw_C), pm_cl[ci]? = some r → (Cond.instantiable r.1 r.2.2) ∈ pm_ts ∧ (Cond.initialized r.1) ∈ pm_ts ∧ ∀ k, k < r.2.2 → defaultValue (pm_fty ci k) = if pm_fk ci k = 0 then .int 0 else .null
  | 0, _, h => by cases h; exact ⟨pm_w_in (a := 135) (by decide +kernel), pm_w_in (a := 68) (by decide +kernel), by decide +kernel⟩
  | 1, _, h => by cases h; exact ⟨pm_w_in (a := 94) (by decide +kernel), pm_w_in (a := 66) (by decide +kernel), by decide +kernel⟩
  | 2, _, h => by cases h; exact ⟨pm_w_in (a := 237) (by decide +kernel), pm_w_in (a := 71) (by decide +kernel), by decide +kernel⟩
  | 3, _, h => by cases h; exact ⟨pm_w_in (a := 319) (by decide +kernel), pm_w_in (a := 74) (by decide +kernel), by decide +kernel⟩
  | 4, _, h => by cases h; exact ⟨pm_w_in (a := 271) (by decide +kernel), pm_w_in (a := 72) (by decide +kernel), by decide +kernel⟩
  | 5, _, h => by cases h; exact ⟨pm_w_in (a := 291) (by decide +kernel), pm_w_in (a := 73) (by decide +kernel), by decide +kernel⟩
  | 6, _, h => by cases h; exact ⟨pm_w_in (a := 142) (by decide +kernel), pm_w_in (a := 69) (by decide +kernel), by decide +kernel⟩
  | 7, _, h => by cases h; exact ⟨pm_w_in (a := 223) (by decide +kernel), pm_w_in (a := 70) (by decide +kernel), by decide +kernel⟩
  | 8, _, h => by cases h; exact ⟨pm_w_in (a := 101) (by decide +kernel), pm_w_in (a := 67) (by decide +kernel), by decide +kernel⟩
  | 9, _, h => by cases h; exact ⟨pm_w_in (a := 86) (by decide +kernel), pm_w_in (a := 65) (by decide +kernel), by decide +kernel⟩
  | 10, _, h => by cases h; exact ⟨pm_w_in (a := 1016) (by decide +kernel), pm_w_in (a := 75) (by decide +kernel), by decide +kernel⟩
  | n + 11, _, h => by cases h
theorem pm_w_ao {a : Nat} {C : String} {E : pm_E} {L : Nat} {r0 : pm_A} {h0 : pm_B} {U : State} (hC : pm_Cx E L r0 h0 U) (h4 : 4 ≤ a) (h8 : a < 8) (hty : pm_ty a = .object C) : va_AO C U := by
  obtain ⟨g1, g2, g3, g4⟩ := hC.2.2.2.2.2.2.2.2.2.1
  match a, h4, h8 with
  | 4, _, _ => cases hty; exact g1
  | 5, _, _ => cases hty; exact g2
  | 6, _, _ => cases hty; exact g3
  | 7, _, _ => cases hty; exact g4
theorem pm_sl_app (sh : pm_S) (k : pm_K) : pm_sl (sh ++ [k]) = pm_sl sh + pm_ks k := by
  unfold pm_sl
  simp
theorem pm_z_ne {α : Type} {g : Nat → Nat → α} {q q' j : Nat} {v : α} (h : q' ≠ q) : pm_z g q v q' j = g q' j := by unfold pm_z; rw [if_neg h]
theorem pm_z_at {α : Type} {g : Nat → Nat → α} {q j : Nat} {v : α} : pm_z g q v q j = v := by unfold pm_z; rw [if_pos rfl]
section PMC
variable {p : Program} {l : Launch} {e : Env} {R : Room} {s : State} {m : MethodId} {args : Array Value} {below : List Frame} {meth : Method} {c : Code} {Q : State → Prop}
variable {E : pm_E} {L : Nat} {r0 : pm_A} {h0 : pm_B} {own nm : String} {cc : ByteArray} {nL n0 s0 : Nat}
variable {pc len a b f j q : Nat} {ins : Instr} {ls : pm_L} {st : List pm_V} {sh : pm_S} {hr : pm_A} {hi : pm_B} {x y i : Int32} {sw : List (Int32 × Nat)}
theorem pm_s_aast (hX : pm_X p s m args c E L r0 h0 own cc nL) (hd : decode cc pc = .ok (.aastore, 1)) (ha : 4 ≤ a ∧ a < 8 ∧ b < 11) {r : vw_C} (hrr : pm_cl[b]? = some r) (hty : pm_ty a = .object r.1) (hs : pm_aw sh q a i) {v : Nat} (hv : sh[v]? = some (0, b, 0)) (k : pm_KK p l e R s m args below meth c Q E L r0 h0 nL n0 s0 (pc + 1) ls st sh (pm_u hr q i.toNatClampNeg v) hi) : pm_KK p l e R s m args below meth c Q E L r0 h0 nL n0 s0 pc ls (.inr v :: .inl i :: .inr q :: st) sh hr hi := by
  intro H locs lsA hn hs' hR hS hL
  have had := hX.ad
  obtain ⟨hx, hb, hown, hts, hml, hC, hz⟩ := hX
  show W p l e R s m args below meth c H locs (sh.length - n0) (pm_sl sh - s0) Q (F0 m pc lsA (E.1 v :: .int i :: E.1 q :: st.map (pm_vl E.1)))
  obtain ⟨n, hsq, hi0, hin⟩ := hs
  rcases hR.arr (t := 0) hsq with ⟨hq, -, ha8, hn1, hc⟩ | ⟨-, h, -⟩
  · obtain ⟨hqv, r', hr', cellV, g1, g2, g3, -⟩ := hR.obj hv (by omega) (by omega)
    have hcls := (hC.1 b r hrr).2
    have hra := (hC.2.1 a ha8).2
    rw [hty] at hra
    obtain ⟨kA, comp, k1, k2, k3, -⟩ := hra
    have hcomp : comp = E.2.2.1 b := Option.some.inj (k3.symm.trans hcls.1)
    subst hcomp
    obtain ⟨kC, hkC, -⟩ := hcls.2
    rw [had q hq, had v hqv]
    refine W.aast hx hb hc (fun q h => by cases h) (fun h => by cases h) k1 k2 rfl hkC ⟨hi0, by rw [arrV_size]; exact hin⟩ g1 (fun q h => by rw [g3] at h; cases h) (by rw [g2]; exact hkC) (by rw [g2]; exact va_assign hcls) rfl rfl hd fun H' e1 e2 e3 => ?_
    refine k H' _ lsA hn hs' (hR.ast (v := .inr v) (j := i.toNatClampNeg) hq hsq ha8 hn1 (fun q' j' hne => ⟨rfl, pm_u_ne hne⟩) ?_ (by rw [e1]; show _ = some ((arrV _ _ _).setSlot _ (E.1 v)); rw [had v hqv]) e2 e3) (hS.put e2 e3 (show E.2.1 ≤ E.2.1 + (q - 16) by omega)) hL
    unfold pm_ev
    rw [if_neg (by omega), pm_u_at]
    rfl
  · cases h
theorem pm_s_new (hX : pm_X p s m args c E L r0 h0 own cc nL) (hd : decode cc pc = .ok (ins, len)) (ho : pm_k_new own a b len ins = true) (hroom : (sh ++ [((0, a, 0) : pm_K)]).length - n0 ≤ R.cells ∧ pm_sl (sh ++ [((0, a, 0) : pm_K)]) - s0 ≤ R.slots) (k : pm_KK p l e R s m args below meth c Q E L r0 h0 nL n0 s0 (pc + len) ls (.inr sh.length :: st) (sh ++ [((0, a, 0) : pm_K)]) (pm_z hr sh.length 0) (pm_z hi sh.length 0)) : pm_KK p l e R s m args below meth c Q E L r0 h0 nL n0 s0 pc ls st sh hr hi := by
  intro H locs lsA hn hs' hR hS hL
  have had := hX.ad
  have hnu := hX.nu
  obtain ⟨hx, hb, hown, hts, hml, hC, hz⟩ := hX
  have hlen := hR.len
  unfold pm_k_new at ho
  split at ho
  · rw [Bool.and_eq_true, decide_eq_true_eq] at ho
    obtain ⟨⟨rfl, ha⟩, ho⟩ := ho
    split at ho
    · rename_i r hrr
      obtain ⟨w1, w2, w3⟩ := pm_cl_new a r hrr
      have hKn := hC.1 a r hrr
      have hks : pm_ks (0, a, 0) = r.2.2 := by
        show (pm_cl.map (fun r => r.2.2)).getD a 0 = r.2.2
        rw [List.getD_eq_getElem?_getD, List.getElem?_map, hrr]
        rfl
      rw [pm_sl_app, hks, List.length_append] at hroom
      have hk1 : (sh ++ [((0, a, 0) : pm_K)]).length - n0 = (sh.length - n0) + 1 := by rw [List.length_append]; simp; omega
      have hk2 : pm_sl (sh ++ [((0, a, 0) : pm_K)]) - s0 = (pm_sl sh - s0) + r.2.2 := by rw [pm_sl_app, hks]; omega
      refine W.newcK hx hb hown (hts _ (pm_w_in ho)) (hts _ w1) (hts _ w2) rfl hd (by simp at hroom; omega) (by omega) hKn.2.1 rfl fun H1 kC hkC e1 z1 o1 => ?_
      have k := k H1 locs lsA (by rw [List.length_append]; omega) (by rw [pm_sl_app]; omega) (hR.grow (fun q' j hne => ⟨pm_z_ne hne, pm_z_ne hne⟩) z1 o1 ⟨r, hrr, ?_⟩) ⟨Nat.le_trans hS.1 (by omega), fun x h1 h2 => (o1 x (Nat.lt_of_lt_of_le h1 hS.1)).trans (hS.2.1 x h1 h2), hS.2.2⟩ hL
      · rw [hk1, hk2] at k
        have eref : pm_vl E.1 (.inr sh.length) = .ref H.size := by
          show E.1 sh.length = _
          rw [had _ hlen, hR.1]
        have k : W p l e R s m args below meth c H1 locs (sh.length - n0 + 1) (pm_sl sh - s0 + r.2.2) Q (F0 m (pc + 3) lsA (pm_vl E.1 (.inr sh.length) :: st.map (pm_vl E.1))) := k
        rw [eref] at k
        exact k
      · rw [← hR.1]
        refine (u_born (pm_fty a) hts (pm_cl_in a r hrr) hKn hkC e1 (pm_cl_ty a r hrr).1).to (fun j hj => ?_)
        rw [w3 j hj]
        have h3 := pm_fk_lt a j
        by_cases h0 : pm_fk a j = 0
        · rw [if_pos h0, pm_fv_0 h0, pm_z_at]
        · rw [if_neg h0]
          by_cases h1 : pm_fk a j = 1
          · rw [pm_fv_1 h1, pm_z_at, hnu]
          · rw [pm_fv_2 (by omega), pm_z_at]
            exact hnu.symm
    · cases ho
  · cases ho
theorem pm_s_newa (hX : pm_X p s m args c E L r0 h0 own cc nL) (hd : decode cc pc = .ok (ins, len)) (ho : pm_k_newa own a b len ins = true) (hn0 : ¬ (x < 0 ∨ 100000 ≤ x.toNatClampNeg)) (hroom : (sh ++ [((1, a, x.toNatClampNeg) : pm_K)]).length - n0 ≤ R.cells ∧ pm_sl (sh ++ [((1, a, x.toNatClampNeg) : pm_K)]) - s0 ≤ R.slots)
    (k : pm_KK p l e R s m args below meth c Q E L r0 h0 nL n0 s0 (pc + len) ls (.inr sh.length :: st) (sh ++ [((1, a, x.toNatClampNeg) : pm_K)]) (pm_z hr sh.length 0) (pm_z hi sh.length 0)) : pm_KK p l e R s m args below meth c Q E L r0 h0 nL n0 s0 pc ls (.inl x :: st) sh hr hi := by
  intro H locs lsA hn hs' hR hS hL
  have had := hX.ad
  have hnu := hX.nu
  obtain ⟨hx, hb, hown, hts, hml, hC, hz⟩ := hX
  have hlen := hR.len
  have hx0 : ¬ x < 0 := fun h => hn0 (Or.inl h)
  have hx1 : x.toNatClampNeg < 100000 := by
    by_cases h : x.toNatClampNeg < 100000
    · exact h
    · exact absurd (Or.inr (by omega)) hn0
  have hks : pm_ks (1, a, x.toNatClampNeg) = x.toNatClampNeg := rfl
  rw [pm_sl_app, hks, List.length_append] at hroom
  have hr1 : sh.length - n0 + 1 ≤ R.cells := by simp at hroom; omega
  have hr2 : pm_sl sh - s0 + x.toNatClampNeg ≤ R.slots := by omega
  have hk1 : (sh ++ [((1, a, x.toNatClampNeg) : pm_K)]).length - n0 = (sh.length - n0) + 1 := by rw [List.length_append]; simp; omega
  have hk2 : pm_sl (sh ++ [((1, a, x.toNatClampNeg) : pm_K)]) - s0 = (pm_sl sh - s0) + x.toNatClampNeg := by rw [pm_sl_app, hks]; omega
  have eref : pm_vl E.1 (.inr sh.length) = .ref H.size := by
    show E.1 sh.length = _
    rw [had _ hlen, hR.1]
  have fin : ∀ (H1 : Heap), a < 8 → H1[H.size]? = some (arrV (E.2.2.2.2 a) x.toNatClampNeg (fun _ => if a < 4 then .int 0 else .null)) → H1.size = H.size + 1 → (∀ z, z < H.size → H1[z]? = H[z]?) → W p l e R s m args below meth c H1 locs (sh.length - n0 + 1) (pm_sl sh - s0 + x.toNatClampNeg) Q (F0 m (pc + len) lsA (.ref H.size :: st.map (pm_vl E.1))) := by
    intro H1 ha8 e1 z1 o1
    have k := k H1 locs lsA (by rw [List.length_append]; omega) (by rw [pm_sl_app]; omega) (hR.grow (fun q' j hne => ⟨pm_z_ne hne, pm_z_ne hne⟩) z1 o1 ⟨ha8, hx1, ?_⟩) ⟨Nat.le_trans hS.1 (by omega), fun x h1 h2 => (o1 x (Nat.lt_of_lt_of_le h1 hS.1)).trans (hS.2.1 x h1 h2), hS.2.2⟩ hL
    · rw [hk1, hk2] at k
      have k : W p l e R s m args below meth c H1 locs (sh.length - n0 + 1) (pm_sl sh - s0 + x.toNatClampNeg) Q (F0 m (pc + len) lsA (pm_vl E.1 (.inr sh.length) :: st.map (pm_vl E.1))) := k
      rw [eref] at k
      exact k
    · rw [← hR.1, e1]
      congr 2
      funext j
      unfold pm_ev
      rw [pm_z_at, pm_z_at, hnu]
  have hcls : ∀ {ti : Nat} {cA : ClassId}, ti < 4 → s.vm.findClass ("[" ++ (pm_ty ti).toString) = some cA → cA = E.2.2.2.2 ti := by
    intro ti cA h4 h
    have h2 := (hC.2.1 ti (by omega)).2
    match ti, h4 with
    | 0, _ => exact Option.some.inj (h.symm.trans h2)
    | 1, _ => exact Option.some.inj (h.symm.trans h2)
    | 2, _ => exact Option.some.inj (h.symm.trans h2)
    | 3, _ => exact Option.some.inj (h.symm.trans h2)
  show W p l e R s m args below meth c H locs (sh.length - n0) (pm_sl sh - s0) Q (F0 m pc lsA (.int x :: st.map (pm_vl E.1)))
  unfold pm_k_newa at ho
  split at ho
  · rw [Bool.and_eq_true, decide_eq_true_eq] at ho
    obtain ⟨⟨rfl, rfl⟩, ho⟩ := ho
    refine va_newaK (atype := .int) hx hb (hts _ (pm_w_in ho)) rfl hd rfl hx0 rfl (by show x.toNatClampNeg * 4 ≤ _; omega) hr1 hr2 rfl fun H1 cA e1 z1 o1 hAr hNm => ?_
    rw [hcls (ti := 0) (by omega) hNm] at e1
    exact fin H1 (by omega) e1 z1 o1
  · rw [Bool.and_eq_true, decide_eq_true_eq] at ho
    obtain ⟨⟨rfl, rfl⟩, ho⟩ := ho
    refine va_newaK (atype := .char) hx hb (hts _ (pm_w_in ho)) rfl hd rfl hx0 rfl (by show x.toNatClampNeg * 2 ≤ _; omega) hr1 hr2 rfl fun H1 cA e1 z1 o1 hAr hNm => ?_
    rw [hcls (ti := 2) (by omega) hNm] at e1
    exact fin H1 (by omega) e1 z1 o1
  · rw [Bool.and_eq_true, decide_eq_true_eq] at ho
    obtain ⟨⟨rfl, rfl⟩, ho⟩ := ho
    refine va_newaK (atype := .boolean) hx hb (hts _ (pm_w_in ho)) rfl hd rfl hx0 rfl (by show x.toNatClampNeg * 1 ≤ _; omega) hr1 hr2 rfl fun H1 cA e1 z1 o1 hAr hNm => ?_
    rw [hcls (ti := 3) (by omega) hNm] at e1
    exact fin H1 (by omega) e1 z1 o1
  · rw [Bool.and_eq_true, decide_eq_true_eq] at ho
    obtain ⟨⟨h4, h8, rfl⟩, ho⟩ := ho
    split at ho
    · rename_i C hty
      refine W.anew hx hb hown (hts _ (pm_w_in ho)) (va_AO.use (pm_w_ao hC h4 h8 hty)) rfl hd rfl hx0 (by omega) hr1 hr2 fun cA kA comp h1 h2 h3 h5 => ?_
      have hra := (hC.2.1 a h8).2
      rw [hty] at hra
      obtain ⟨kA', comp', k1, k2, k3, k4⟩ := hra
      have hcA : cA = E.2.2.2.2 a := Option.some.inj (h1.symm.trans k4)
      subst hcA
      refine fin _ h8 ?_ (by simp) (fun z hz => by rw [Array.getElem?_push, if_neg (Nat.ne_of_lt hz)])
      rw [arrV_new, show (fun _ : Nat => if a < 4 then Value.int 0 else Value.null) = fun _ => Value.null from funext fun _ => if_neg (by omega)]
      simp
    · cases ho
  · cases ho
theorem pm_s_copy (hX : pm_X p s m args c E L r0 h0 own cc nL) (hd : decode cc pc = .ok (.invokestatic a, 3)) (hl : pm_w b (.methodLink own a arraycopyName) = true) {d : Nat} {sp dp n : Int32} (hc : pm_cpy sh q d sp dp n) (hst : st.length ≤ 8) (hroom : 1 ≤ R.frames ∧ 100 ≤ R.locals)
    (k : pm_KK p l e R s m args below meth c Q E L r0 h0 nL n0 s0 (pc + 3) ls st sh hr (pm_cp hi q sp.toNatClampNeg d dp.toNatClampNeg n.toNatClampNeg)) : pm_KK p l e R s m args below meth c Q E L r0 h0 nL n0 s0 pc ls (.inl n :: .inl dp :: .inr d :: .inl sp :: .inr q :: st) sh hr hi := by
  intro H locs lsA hn hs' hR hS hL
  have had := hX.ad
  have hrf := hX.rf
  obtain ⟨hx, hb, hown, hts, hml, hC, hz⟩ := hX
  obtain ⟨m1, m2, hs1, hs2, h1, h2, h3, h4, h5⟩ := hc
  rcases hR.arr (t := 0) hs1 with ⟨hq, -, -, hm1, hc0⟩ | ⟨-, h, -⟩
  case inr => cases h
  rcases hR.arr (t := 0) hs2 with ⟨hqd, -, -, hm2, hc1⟩ | ⟨-, h, -⟩
  case inr => cases h
  show W p l e R s m args below meth c H locs (sh.length - n0) (pm_sl sh - s0) Q (F0 m pc lsA (.int n :: .int dp :: E.1 d :: .int sp :: E.1 q :: st.map (pm_vl E.1)))
  rw [had q hq, had d hqd]
  have nn : ∀ z : Int32, ¬ z < 0 → z.toInt = (z.toNatClampNeg : Int) := by
    intro z hz
    have hz0 : (0 : Int) ≤ z.toInt := by
      have := Int32.not_lt.mp hz
      simpa using Int32.le_iff_toInt_le.mp this
    show z.toInt = ((z.toInt.toNat : Nat) : Int)
    omega
  have ev : ∀ q', pm_ev E.1 hr hi q' 0 = fun j => .int (hi q' j) := fun q' => funext fun j => by unfold pm_ev; rw [if_pos (by omega)]
  rw [ev] at hc0 hc1
  have hc0 : H[E.2.1 + (q - 16)]? = some (vp_cell (E.2.2.2.2 0) (m1, .inl (hi q))) := hc0
  have hc1 : H[E.2.1 + (d - 16)]? = some (vp_cell (E.2.2.2.2 0) (m2, .inl (hi d))) := hc1
  intro T hT X
  obtain ⟨-, k0, hk0, cm0, hkk0⟩ := (hC.2.1 0 (by omega)).1 m1 (fun j => .int (hi q j))
  obtain ⟨-, k1, hk1, cm1, hkk1⟩ := (hC.2.1 0 (by omega)).1 m2 (fun j => .int (hi d j))
  have hsum : ((st.map (pm_vl E.1)).map fun v => v.category).sum ≤ 8 := by
    have : ∀ l : List pm_V, ((l.map (pm_vl E.1)).map fun v => v.category).sum = l.length := by
      intro l
      induction l with
      | nil => rfl
      | cons a l ih => simp only [List.map_cons, List.sum_cons, List.length_cons, ih, pm_cat hrf a]; omega
    rw [this]
    exact hst
  have hnat : nativeFrameWords "java/lang/System" "arraycopy" 5 = 7 := by decide +kernel
  obtain ⟨vm', X', step⟩ := X.arraycopy hx hown (hts _ (pm_w_in hl)) (hts (.native arraycopyName) (pm_w_in (a := 962) (by decide +kernel))) (hts (.static arraycopyName) (pm_w_in (a := 961) (by decide +kernel))) (hts (.initialized "java/lang/System") (pm_w_in (a := 84) (by decide +kernel))) (src := E.2.1 + (q - 16)) (dst := E.2.1 + (d - 16)) (cs := vp_cell (E.2.2.2.2 0) (m1, .inl (hi q))) (cd := vp_cell (E.2.2.2.2 0) (m2, .inl (hi d))) (srcPos := sp) (destPos := dp) (n := n) (by rw [hT]; exact hc0) (by rw [hT]; exact hc1)
    (fun _ h => by cases h) (fun _ h => by cases h) (fun h => by cases h) (fun h => by cases h) hk0 hk1 hkk0 hkk1 (by simp [refKind, pm_ty]) h1 h2 h3
    (by rw [nn sp h1, nn n h3]; show ¬ _ > ((arrV (E.2.2.2.2 0) m1 (fun j => .int (hi q j))).slots.size : Int); rw [arrV_size]; omega)
    (by rw [nn dp h2, nn n h3]; show ¬ _ > ((arrV (E.2.2.2.2 0) m2 (fun j => .int (hi d j))).slots.size : Int); rw [arrV_size]; omega)
    (fun vm₁ _ i hi' => by
      have e : (vp_cell (E.2.2.2.2 0) (m1, .inl (hi q))).slots.getD (sp.toNatClampNeg + i) .null = .int (hi q (sp.toNatClampNeg + i)) := by
        show (arrV (E.2.2.2.2 0) m1 (fun j => .int (hi q j))).slots.getD _ _ = _
        rw [Array.getD_eq_getD_getElem?, arrV_read _ _ (by omega)]
        rfl
      refine ⟨?_, ?_⟩
      · rw [e]
        rfl
      · rw [e]
        exact trivial)
    (g := F0 m pc lsA (.int n :: .int dp :: .ref (E.2.1 + (d - 16)) :: .int sp :: .ref (E.2.1 + (q - 16)) :: st.map (pm_vl E.1))) rfl (by rw [hml, hL.2.1]) (rest := st.map (pm_vl E.1)) rfl (by rw [hb]; exact hd) hroom.1 (by show 2 * 0 + _ + (nativeFrameWords "java/lang/System" "arraycopy" 5 + 11) ≤ _; rw [hnat]; omega)
  have e1 : copied (vp_cell (E.2.2.2.2 0) (m1, .inl (hi q))) (vp_cell (E.2.2.2.2 0) (m2, .inl (hi d))) sp dp n = vp_cell (E.2.2.2.2 0) (m2, .inl (va_cpy (hi q) (hi d) sp.toNatClampNeg dp.toNatClampNeg n.toNatClampNeg)) := va_copied (fun z => .int z) (E.2.2.2.2 0) (E.2.2.2.2 0) (hi q) (hi d) h4
  rw [e1] at X' step
  have hl2 : E.2.1 + (d - 16) < H.size := (Array.getElem?_eq_some_iff.mp hc1).1
  have hheap : ((T.setVm vm').setCell (E.2.1 + (d - 16)) (vp_cell (E.2.2.2.2 0) (m2, .inl (va_cpy (hi q) (hi d) sp.toNatClampNeg dp.toNatClampNeg n.toNatClampNeg)))).heap = H.setIfInBounds (E.2.1 + (d - 16)) (vp_cell (E.2.2.2.2 0) (m2, .inl (va_cpy (hi q) (hi d) sp.toNatClampNeg dp.toNatClampNeg n.toNatClampNeg))) := by rw [← hT]; rfl
  have oq : ∀ z : Nat, z ≠ E.2.1 + (d - 16) → (H.setIfInBounds (E.2.1 + (d - 16)) (vp_cell (E.2.2.2.2 0) (m2, .inl (va_cpy (hi q) (hi d) sp.toNatClampNeg dp.toNatClampNeg n.toNatClampNeg))))[z]? = H[z]? := fun z hz => by simp [Array.getElem?_setIfInBounds, Ne.symm hz]
  have hnew : (H.setIfInBounds (E.2.1 + (d - 16)) (vp_cell (E.2.2.2.2 0) (m2, .inl (va_cpy (hi q) (hi d) sp.toNatClampNeg dp.toNatClampNeg n.toNatClampNeg))))[E.2.1 + (d - 16)]? = some (arrV (E.2.2.2.2 0) m2 (pm_ev E.1 hr (pm_cp hi q sp.toNatClampNeg d dp.toNatClampNeg n.toNatClampNeg) d 0)) := by
    rw [Array.getElem?_setIfInBounds, if_pos rfl, if_pos hl2, vp_cell_i]
    congr 2
    funext j
    rw [show pm_ev E.1 hr (pm_cp hi q sp.toNatClampNeg d dp.toNatClampNeg n.toNatClampNeg) d 0 j = .int (pm_cp hi q sp.toNatClampNeg d dp.toNatClampNeg n.toNatClampNeg d j) from if_pos (by omega)]
    congr 1
    unfold pm_cp va_cpy
    by_cases hj : dp.toNatClampNeg ≤ j ∧ j < dp.toNatClampNeg + n.toNatClampNeg
    · rw [if_pos hj, if_pos ⟨rfl, hj⟩]
    · rw [if_neg hj, if_neg (fun z => hj z.2)]
  obtain ⟨t, a1, b1⟩ := k _ _ lsA hn hs' (hR.upd hqd hs2 (fun q' j hne => ⟨by unfold pm_cp; rw [if_neg (fun z => hne z.1)], rfl⟩) (by simp) oq ⟨by omega, hm2, hnew⟩) ⟨by simp; exact hS.1, fun z g1 g2 => by
      rw [oq z (fun e => g2 (by rw [e]; show E.2.1 ≤ _; omega))]
      exact hS.2.1 z g1 g2, fun z hz => by
      rcases List.mem_append.mp hz with h | h
      · exact hS.2.2 z h
      · obtain ⟨u, -, hu⟩ := List.mem_map.mp h
        rw [← hu]
        show E.2.1 ≤ E.2.1 + (d - 16)
        omega⟩ hL _ hheap X'
  exact ⟨t, step t a1, b1⟩
end PMC
