/-! ===== the steps at the heap ===== -/
section PMH
variable {p : Program} {l : Launch} {e : Env} {R : Room} {s : State} {m : MethodId} {args : Array Value} {below : List Frame} {meth : Method} {c : Code} {Q : State → Prop}
variable {E : pm_E} {L : Nat} {r0 : pm_A} {h0 : pm_B} {own nm : String} {cc : ByteArray} {nL n0 s0 : Nat}
variable {pc len a b f j q : Nat} {ins : Instr} {ls : pm_L} {st : List pm_V} {sh : pm_S} {hr : pm_A} {hi : pm_B} {x y i : Int32} {sw : List (Int32 × Nat)}
theorem pm_fv_0 {vl : pm_N} (h : pm_fk a b = 0) : pm_fv vl hr hi q a b = .int (hi q b) := by simp only [pm_fv, h]
theorem pm_fv_1 {vl : pm_N} (h : pm_fk a b = 1) : pm_fv vl hr hi q a b = vl (hr q b) := by simp only [pm_fv, h]
theorem pm_fv_2 {vl : pm_N} (h : pm_fk a b = 2) : pm_fv vl hr hi q a b = vl (hi q b).toNatClampNeg := by simp only [pm_fv, h]
theorem pm_fits {t : FieldType} {v : Value} (ht : t.isReference = true) (hv : v.isRef = true) : narrow t v = v ∧ fits t v = true := by
  cases t <;> first | (cases ht; done) | (cases v <;> first | (cases hv; done) | exact ⟨rfl, rfl⟩)
theorem pm_fk_lt (a b : Nat) : pm_fk a b < 3 := by unfold pm_fk; split <;> first | omega | (split <;> omega)
theorem pm_s_get (hX : pm_X p s m args c E L r0 h0 own cc nL) (hd : decode cc pc = .ok (ins, len)) (ho : pm_k_gf own f a b sw len ins = true) (hs : sh[q]? = some (0, a, 0)) {w : pm_V} (hw : (f = 0 ∧ w = .inl (hi q b)) ∨ (f = 1 ∧ w = .inr (hr q b)) ∨ (f ≠ 0 ∧ f ≠ 1 ∧ w = .inr (hi q b).toNatClampNeg)) (k : pm_KK p l e R s m args below meth c Q E L r0 h0 nL n0 s0 (pc + len) ls (w :: st) sh hr hi) : pm_KK p l e R s m args below meth c Q E L r0 h0 nL n0 s0 pc ls (.inr q :: st) sh hr hi := by
  intro H locs lsA hn hs' hR hS hL
  have k : W p l e R s m args below meth c H locs (sh.length - n0) (pm_sl sh - s0) Q (F0 m (pc + len) lsA (pm_vl E.1 w :: st.map (pm_vl E.1))) := k H locs lsA hn hs' hR hS hL
  have had := hX.ad
  obtain ⟨hx, hb, hown, hts, hml, hC, hz⟩ := hX
  show W p l e R s m args below meth c H locs (sh.length - n0) (pm_sl sh - s0) Q (F0 m pc lsA (E.1 q :: st.map (pm_vl E.1)))
  unfold pm_k_gf at ho
  split at ho
  · rename_i ix z
    rw [Bool.and_eq_true, decide_eq_true_eq] at ho
    obtain ⟨rfl, ho⟩ := ho
    split at ho
    · rename_i r hrr
      rw [Bool.and_eq_true, decide_eq_true_eq] at ho
      obtain ⟨⟨hbn, hf, ha⟩, hlw⟩ := ho
      obtain ⟨hq, r', hrr', hob⟩ := hR.obj hs (by omega) (by omega)
      cases hrr.symm.trans hrr'
      have hval : pm_fv E.1 hr hi q a b = pm_vl E.1 w := by
        have h3 := pm_fk_lt a b
        rcases hw with ⟨rfl, rfl⟩ | ⟨rfl, rfl⟩ | ⟨h1, h2, rfl⟩
        · exact pm_fv_0 hf
        · exact pm_fv_1 hf
        · exact pm_fv_2 (by omega)
      obtain ⟨cell, q1, q2, q3, q4⟩ := hob
      obtain ⟨hSl, hfc, kC, hkC, hkind⟩ := hC.1 a r hrr
      obtain ⟨cf, kf, fi, fd, hi', hsl⟩ := hSl b hbn
      rw [had q hq]
      refine W.getf hx hb hown (hts _ (pm_w_in hlw)) hi' (u_facts hfc hkC (u_lays hts (pm_cl_in a r hrr) hbn) hi').1 q1 (by rw [q3]; exact fun h => by cases h) (v := pm_vl E.1 w) ?_ rfl rfl hd k
      rw [hsl, q4 b hbn, hval]
    · rw [Bool.and_eq_true, decide_eq_true_eq] at ho
      obtain ⟨rfl, ho⟩ := ho
      obtain ⟨hq, hst⟩ := hR.str hs
      obtain ⟨ad, e1, h1, h2, h3⟩ := hC.2.2.2.1 q hst
      rw [e1]
      rw [Bool.or_eq_true, Bool.and_eq_true, Bool.and_eq_true, decide_eq_true_eq, decide_eq_true_eq] at ho
      have hlo := hR.2.2.1 q
      rcases ho with ⟨⟨rfl, rfl⟩, hlw⟩ | ⟨⟨rfl, rfl⟩, hlw⟩
      · have hwv : pm_vl E.1 w = E.1 (r0 q 0) := by
          rcases hw with ⟨h, -⟩ | ⟨-, rfl⟩ | ⟨-, h, -⟩
          · cases h
          · show E.1 (hr q 0) = _
            rw [(hlo 0 hq).2]
          · exact absurd rfl h
        rw [hwv] at k
        exact vk_getf hx hb h3 hS hown (hts _ (pm_w_in hlw)) (fun _ h => h) hd k
      · have hwv : pm_vl E.1 w = .int (h0 q 1) := by
          rcases hw with ⟨-, rfl⟩ | ⟨h, -⟩ | ⟨h, -⟩
          · show Value.int (hi q 1) = _
            rw [(hlo 1 hq).1]
          · cases h
          · exact absurd rfl h
        rw [hwv] at k
        exact vk_getf hx hb h2 hS hown (hts _ (pm_w_in hlw)) (fun _ h => h) hd k
  · cases ho
theorem pm_u_at {α : Type} {g : Nat → Nat → α} {q j : Nat} {v : α} : pm_u g q j v q j = v := by unfold pm_u; rw [if_pos ⟨rfl, rfl⟩]
theorem pm_u_ne {α : Type} {g : Nat → Nat → α} {q j q' j' : Nat} {v : α} (h : q' ≠ q ∨ j' ≠ j) : pm_u g q j v q' j' = g q' j' := by unfold pm_u; rw [if_neg (fun z => by rcases h with h | h; exact h z.1; exact h z.2)]
/-- a field is written: the new pictures hr', hi' differ from the old at this field alone, and have w there -/
theorem pm_s_put (hX : pm_X p s m args c E L r0 h0 own cc nL) (hini : nm = "<init>" → meth.name = "<init>") (hd : decode cc pc = .ok (ins, len)) {cv : Int32} (ho : pm_k_pf own nm f a b cv sw len ins = true) (hs : sh[q]? = some (0, a, 0)) {w : pm_V} {hr' : pm_A} {hi' : pm_B}
    (hw : (f = 0 ∧ (∃ z, w = .inl z ∧ pm_fit cv.toNatClampNeg z ∧ hi' = pm_u hi q b z) ∧ hr' = hr) ∨ (f = 1 ∧ hi' = hi ∧ ∃ z, w = .inr z ∧ hr' = pm_u hr q b z) ∨ (f ≠ 0 ∧ f ≠ 1 ∧ hr' = hr ∧ ∃ z, w = .inr z ∧ z < 2147483648 ∧ hi' = pm_u hi q b (nI z)))
    (k : pm_KK p l e R s m args below meth c Q E L r0 h0 nL n0 s0 (pc + len) ls st sh hr' hi') : pm_KK p l e R s m args below meth c Q E L r0 h0 nL n0 s0 pc ls (w :: .inr q :: st) sh hr hi := by
  intro H locs lsA hn hs' hR hS hL
  have had := hX.ad
  have hrf := hX.rf
  obtain ⟨hx, hb, hown, hts, hml, hC, hz⟩ := hX
  show W p l e R s m args below meth c H locs (sh.length - n0) (pm_sl sh - s0) Q (F0 m pc lsA (pm_vl E.1 w :: E.1 q :: st.map (pm_vl E.1)))
  unfold pm_k_pf at ho
  split at ho
  · rename_i ix z
    rw [Bool.and_eq_true, decide_eq_true_eq] at ho
    obtain ⟨rfl, ho⟩ := ho
    split at ho
    · rename_i r hrr
      rw [Bool.and_eq_true, Bool.and_eq_true, Bool.and_eq_true, decide_eq_true_eq, Bool.or_eq_true, decide_eq_true_eq, decide_eq_true_eq] at ho
      obtain ⟨⟨⟨⟨hbn, hf, ha⟩, hlw⟩, hfin⟩, hty⟩ := ho
      obtain ⟨hq, r', hrr', hob⟩ := hR.obj hs (by omega) (by omega)
      cases hrr.symm.trans hrr'
      obtain ⟨hpt, hnm⟩ := pm_cl_ty a r hrr
      have h3 := pm_fk_lt a b
      have hd1 : ∀ q' j, (q' ≠ q ∨ j ≠ b) → hi' q' j = hi q' j ∧ hr' q' j = hr q' j := by
        intro q' j hne
        rcases hw with ⟨-, ⟨z, -, -, rfl⟩, rfl⟩ | ⟨-, rfl, z, -, rfl⟩ | ⟨-, -, rfl, z, -, -, rfl⟩
        · exact ⟨pm_u_ne hne, rfl⟩
        · exact ⟨rfl, pm_u_ne hne⟩
        · exact ⟨pm_u_ne hne, rfl⟩
      have hval : pm_fv E.1 hr' hi' q a b = pm_vl E.1 w := by
        rcases hw with ⟨rfl, ⟨z, rfl, -, rfl⟩, rfl⟩ | ⟨rfl, rfl, z, rfl, rfl⟩ | ⟨h1, h2, rfl, z, rfl, hlt, rfl⟩
        · rw [pm_fv_0 hf, pm_u_at]
          rfl
        · rw [pm_fv_1 hf, pm_u_at]
          rfl
        · rw [pm_fv_2 (by omega), pm_u_at, nI_clamp (by omega)]
          rfl
      have hnf : narrow (pm_fty a b) (pm_vl E.1 w) = pm_vl E.1 w ∧ fits (pm_fty a b) (pm_vl E.1 w) = true := by
        have hrefs : f ≠ 0 → (pm_fty a b).isReference = true := by
          intro h
          unfold pm_fk at hf
          split at hf
          · rename_i h2
            obtain ⟨rfl, rfl⟩ := h2
            rfl
          · split at hf
            · assumption
            · omega
        rcases hw with ⟨rfl, ⟨z, rfl, hfit, -⟩, -⟩ | ⟨rfl, -, z, rfl, -⟩ | ⟨h1, h2, -, z, rfl, -, -⟩
        · rw [Bool.or_eq_true, Bool.or_eq_true, decide_eq_true_eq, decide_eq_true_eq, decide_eq_true_eq] at hty
          rcases hty with (h | ⟨h, rfl⟩) | ⟨h, rfl⟩
          · exact absurd rfl h
          · rw [h]
            exact ⟨rfl, rfl⟩
          · rw [h]
            have hfit : z = 0 ∨ z = 1 := hfit
            rcases hfit with rfl | rfl
            · exact ⟨rfl, rfl⟩
            · exact ⟨rfl, rfl⟩
        · exact pm_fits (hrefs (by decide)) (hrf z)
        · exact pm_fits (hrefs h1) (hrf z)
      have hap : ∀ x y, x < r.2.2 → y < r.2.2 → x ≠ y → (E.2.2.2.1 a) x ≠ (E.2.2.2.1 a) y := va_apart (D := (E.2.2.1, E.2.2.2.1)) (cl := pm_cl) (tys := []) (own := own) hts (pm_cl_in a r hrr) (pm_fty a) hpt hnm ⟨hC.1, fun k q hk => by cases hk⟩ hrr
      obtain ⟨cell, q1, q2, q3, q4⟩ := hob
      obtain ⟨hSl, hfc, kC, hkC, hkind⟩ := hC.1 a r hrr
      obtain ⟨cf, kf, fi, fd, hfi, hsl⟩ := hSl b hbn
      have hst := (u_facts hfc hkC (u_lays hts (pm_cl_in a r hrr) hbn) hfi).1
      have hlay := hts _ (pm_cl_in a r hrr _ (u_in_lay hbn))
      have fin : ∀ H' : Heap, H'[E.2.1 + (q - 16)]? = some (cell.setSlot fd.slot (pm_vl E.1 w)) → H'.size = H.size → (∀ x, x ≠ E.2.1 + (q - 16) → H'[x]? = H[x]?) → W p l e R s m args below meth c H' (locs ++ [⟨E.2.1 + (q - 16), fd.slot⟩]) (sh.length - n0) (pm_sl sh - s0) Q (F0 m (pc + 3) lsA (st.map (pm_vl E.1))) := by
        intro H' e1 e2 e3
        refine k H' _ lsA hn hs' (hR.upd hq hs (fun q' j hne => hd1 q' j (Or.inl hne)) e2 e3 ⟨r, hrr, ?_⟩) (hS.put e2 e3 (show E.2.1 ≤ E.2.1 + (q - 16) by omega)) hL
        rw [hsl] at e1
        refine t_OB.to (V := updV (pm_fv E.1 hr hi q a) b (pm_vl E.1 w)) ⟨_, e1, q2, q3, t_set q4 hap hbn _⟩ (fun j hj => ?_)
        unfold updV
        split
        · rename_i hj
          subst hj
          exact hval.symm
        · rename_i hj
          unfold pm_fv
          rw [(hd1 q j (Or.inr hj)).1, (hd1 q j (Or.inr hj)).2]
      rw [had q hq]
      unfold u_lay at hlay
      rcases hfin with hfin | ⟨hfin, hn1, hn2⟩
      · rw [if_neg (by rw [hfin]; decide)] at hlay
        have h6 := u_store hfc hkC hkind hlay hfi (hpt b hbn) hnf.1 hnf.2
        exact W.putK hx hb (f := fd) ⟨hown, hts _ (pm_w_in hlw), ⟨_, _, _, hfi⟩, hst⟩ (by rw [q2]; exact h6) q1 q3 (by rw [hsl]; exact k2_hasslot (q4 b hbn)) rfl rfl hd fin
      · rw [if_pos hfin] at hlay
        have hcf : m.cls = cf := by
          obtain ⟨_, _, c', _, _, _, -, -, hf', -, -, -, hown2, -⟩ := Cond.laysFinal_spec hlay
          have e1 : c' = cf := by have := hfi.symm.trans hf'; simp at this; exact this.1.symm
          rw [hn2] at hown2
          rw [← e1]; exact Option.some.inj (hown.symm.trans hown2)
        have h6 := u_fits hfc hkC hkind (Or.inr hlay) hfi (hpt b hbn) hnf.1 hnf.2
        exact W.putFinK hx hb hown (hts _ (pm_w_in hlw)) hfi hst hcf (hini hn1) (by rw [q2]; exact h6) q1 q3 (by rw [hsl]; exact k2_hasslot (q4 b hbn)) rfl rfl hd fin
    · cases ho
  · cases ho
theorem pm_in_of (h1 : ¬ i < 0) {n : Nat} (h2 : i.toNatClampNeg < n) : ¬ (i < 0 ∨ n ≤ i.toNatClampNeg) := fun h => by rcases h with h | h; exact h1 h; omega
theorem pm_s_iald (hX : pm_X p s m args c E L r0 h0 own cc nL) (hd : decode cc pc = .ok (ins, len)) (ho : (decide (len = 1) && (decide (ins = .iaload ∧ a = 0) || decide (ins = .baload ∧ a = 1) || decide (ins = .caload ∧ a = 2) || decide (ins = .baload ∧ a = 3))) = true) (hs : pm_ao sh q a i) (k : pm_KK p l e R s m args below meth c Q E L r0 h0 nL n0 s0 (pc + len) ls (.inl (hi q i.toNatClampNeg) :: st) sh hr hi) : pm_KK p l e R s m args below meth c Q E L r0 h0 nL n0 s0 pc ls (.inl i :: .inr q :: st) sh hr hi := by
  intro H locs lsA hn hs' hR hS hL
  have k : W p l e R s m args below meth c H locs (sh.length - n0) (pm_sl sh - s0) Q (F0 m (pc + len) lsA (.int (hi q i.toNatClampNeg) :: st.map (pm_vl E.1))) := k H locs lsA hn hs' hR hS hL
  have had := hX.ad
  obtain ⟨hx, hb, hown, hts, hml, hC, hz⟩ := hX
  show W p l e R s m args below meth c H locs (sh.length - n0) (pm_sl sh - s0) Q (F0 m pc lsA (.int i :: E.1 q :: st.map (pm_vl E.1)))
  rw [Bool.and_eq_true, decide_eq_true_eq, Bool.or_eq_true, Bool.or_eq_true, Bool.or_eq_true, decide_eq_true_eq, decide_eq_true_eq, decide_eq_true_eq, decide_eq_true_eq] at ho
  obtain ⟨rfl, ho⟩ := ho
  obtain ⟨t, n, hsq, hi0, hin⟩ := hs
  have key : ∃ (ad : Nat) (cell : Cell), E.1 q = .ref ad ∧ H[ad]? = some cell ∧ s.isArrayOf cell (pm_ty a) ∧ cell.vm ≠ .unknown ∧ ¬ (i < 0 ∨ cell.slots.size ≤ i.toNatClampNeg) ∧ cell.slots[i.toNatClampNeg]? = some (.int (hi q i.toNatClampNeg)) := by
    rcases hR.arr hsq with ⟨hq, rfl, ha8, hn1, hc⟩ | ⟨hq, rfl, hc⟩
    · refine ⟨_, _, had q hq, hc, (hC.2.1 a ha8).1 n _, (fun h => by cases h), (by rw [arrV_size]; exact pm_in_of hi0 hin), ?_⟩
      rw [arrV_read _ _ hin]
      unfold pm_ev
      rw [if_pos (by omega)]
    · obtain ⟨ad, e1, cell, t1, t2, t3, t4, t5, t6, t7⟩ := hC.2.2.1 q a n hc
      refine ⟨ad, cell, e1, by rw [hS.2.1 ad (Array.getElem?_eq_some_iff.mp t1).1 t7]; exact t1, t2, t3, pm_in_of hi0 (by omega), ?_⟩
      rw [t6 _ hin, (hR.2.2.1 q _ hq).1]
  obtain ⟨ad, cell, e1, c1, c2, c3, c4, c5⟩ := key
  rw [e1]
  rcases ho with ((⟨rfl, rfl⟩ | ⟨rfl, rfl⟩) | ⟨rfl, rfl⟩) | ⟨rfl, rfl⟩
  · exact W.iald hx hb c1 c2 c3 c4 c5 rfl rfl hd k
  · exact W.bald hx hb c1 c2 c3 c4 c5 rfl rfl hd k
  · exact W.cald hx hb c1 c2 c3 c4 c5 rfl rfl hd k
  · exact W.zald hx hb c1 c2 c3 c4 c5 rfl rfl hd k
theorem pm_ty_ref (h : 4 ≤ a) : (pm_ty a).isReference = true := by
  match a, h with
  | 4, _ => rfl
  | 5, _ => rfl
  | 6, _ => rfl
  | n + 7, _ => rfl
theorem pm_s_aald (hX : pm_X p s m args c E L r0 h0 own cc nL) (hd : decode cc pc = .ok (.aaload, 1)) (ha : 4 ≤ a ∧ a < 8) (hs : pm_ao sh q a i) (k : pm_KK p l e R s m args below meth c Q E L r0 h0 nL n0 s0 (pc + 1) ls (.inr (hr q i.toNatClampNeg) :: st) sh hr hi) : pm_KK p l e R s m args below meth c Q E L r0 h0 nL n0 s0 pc ls (.inl i :: .inr q :: st) sh hr hi := by
  intro H locs lsA hn hs' hR hS hL
  have k : W p l e R s m args below meth c H locs (sh.length - n0) (pm_sl sh - s0) Q (F0 m (pc + 1) lsA (E.1 (hr q i.toNatClampNeg) :: st.map (pm_vl E.1))) := k H locs lsA hn hs' hR hS hL
  have had := hX.ad
  obtain ⟨hx, hb, hown, hts, hml, hC, hz⟩ := hX
  show W p l e R s m args below meth c H locs (sh.length - n0) (pm_sl sh - s0) Q (F0 m pc lsA (.int i :: E.1 q :: st.map (pm_vl E.1)))
  obtain ⟨t, n, hsq, hi0, hin⟩ := hs
  rcases hR.arr hsq with ⟨hq, rfl, ha8, hn1, hc⟩ | ⟨hq, rfl, hc⟩
  · rw [had q hq]
    refine W.aald hx hb hc ((hC.2.1 a ha8).1 n _) (pm_ty_ref ha.1) (fun h => by cases h) (by rw [arrV_size]; exact pm_in_of hi0 hin) (v := E.1 (hr q i.toNatClampNeg)) ?_ rfl rfl hd k
    rw [arrV_read _ _ hin]
    unfold pm_ev
    rw [if_neg (by omega)]
  · exfalso
    have hq2 := pm_sh0_lt hc
    unfold pm_sh0 at hc
    match q, hq2 with
    | 0, _ => cases hc
    | 1, _ => cases hc; omega
    | 2, _ => cases hc; omega
    | 3, _ => cases hc
    | 4, _ => cases hc
    | 5, _ => cases hc
    | 6, _ => cases hc
    | 7, _ => cases hc
    | 8, _ => cases hc
    | 9, _ => cases hc; omega
    | 10, _ => cases hc; omega
    | 11, _ => cases hc; omega
    | 12, _ => cases hc; omega
    | 13, _ => cases hc; omega
    | 14, _ => cases hc; omega
    | 15, _ => cases hc
theorem pm_s_alen (hX : pm_X p s m args c E L r0 h0 own cc nL) (hd : decode cc pc = .ok (.arraylength, 1)) {t ti n : Nat} (hs : sh[q]? = some (t + 1, ti, n)) (k : pm_KK p l e R s m args below meth c Q E L r0 h0 nL n0 s0 (pc + 1) ls (.inl (nI n) :: st) sh hr hi) : pm_KK p l e R s m args below meth c Q E L r0 h0 nL n0 s0 pc ls (.inr q :: st) sh hr hi := by
  intro H locs lsA hn hs' hR hS hL
  have k := k H locs lsA hn hs' hR hS hL
  have had := hX.ad
  obtain ⟨hx, hb, hown, hts, hml, hC, hz⟩ := hX
  show W p l e R s m args below meth c H locs (sh.length - n0) (pm_sl sh - s0) Q (F0 m pc lsA (E.1 q :: st.map (pm_vl E.1)))
  rcases hR.arr hs with ⟨hq, rfl, ha8, hn1, hc⟩ | ⟨hq, rfl, hc⟩
  · rw [had q hq]
    exact W.alen hx hb hc ((hC.2.1 ti ha8).1 n _) (n := nI n) (by rw [arrV_size] <;> rfl) rfl rfl hd k
  · obtain ⟨ad, e1, cell, t1, t2, t3, t4, t5, t6, t7⟩ := hC.2.2.1 q ti n hc
    rw [e1]
    exact W.alen hx hb (by rw [hS.2.1 ad (Array.getElem?_eq_some_iff.mp t1).1 t7]; exact t1) t2 (n := nI n) t5 rfl rfl hd k
/-- an element of an array that is made here is written -/
theorem pm_R.ast {v : pm_V} {n : Nat} {hr' : pm_A} {hi' : pm_B} {H H' : Heap} (hR : pm_R E L r0 h0 sh hr hi H) (hq : 16 ≤ q) (hs : sh[q]? = some (1, a, n)) (ha8 : a < 8) (hn1 : n < 100000) (hv : ∀ q' j', (q' ≠ q ∨ j' ≠ j) → hi' q' j' = hi q' j' ∧ hr' q' j' = hr q' j') (hw : pm_ev E.1 hr' hi' q a j = pm_vl E.1 v)
    (e1 : H'[E.2.1 + (q - 16)]? = some ((arrV (E.2.2.2.2 a) n (pm_ev E.1 hr hi q a)).setSlot j (pm_vl E.1 v))) (e2 : H'.size = H.size) (e3 : ∀ x, x ≠ E.2.1 + (q - 16) → H'[x]? = H[x]?) : pm_R E L r0 h0 sh hr' hi' H' := by
  refine hR.upd hq hs (fun q' j' hne => hv q' j' (Or.inl hne)) e2 e3 ⟨ha8, hn1, ?_⟩
  rw [e1, arrV_store]
  congr 2
  funext j'
  unfold updV
  split
  · rename_i hj
    subst hj
    exact hw.symm
  · rename_i hj
    unfold pm_ev
    rw [(hv q j' (Or.inr hj)).1, (hv q j' (Or.inr hj)).2]
theorem pm_s_iast (hX : pm_X p s m args c E L r0 h0 own cc nL) (hd : decode cc pc = .ok (ins, len)) (ho : (decide (len = 1) && (decide (ins = .iastore ∧ a = 0) || decide (ins = .castore ∧ a = 2) || decide (ins = .bastore ∧ a = 3))) = true) (hs : pm_aw sh q a i) (hfit : pm_fit a x) (k : pm_KK p l e R s m args below meth c Q E L r0 h0 nL n0 s0 (pc + len) ls st sh hr (pm_u hi q i.toNatClampNeg x)) : pm_KK p l e R s m args below meth c Q E L r0 h0 nL n0 s0 pc ls (.inl x :: .inl i :: .inr q :: st) sh hr hi := by
  intro H locs lsA hn hs' hR hS hL
  have had := hX.ad
  obtain ⟨hx, hb, hown, hts, hml, hC, hz⟩ := hX
  show W p l e R s m args below meth c H locs (sh.length - n0) (pm_sl sh - s0) Q (F0 m pc lsA (.int x :: .int i :: E.1 q :: st.map (pm_vl E.1)))
  rw [Bool.and_eq_true, decide_eq_true_eq, Bool.or_eq_true, Bool.or_eq_true, decide_eq_true_eq, decide_eq_true_eq, decide_eq_true_eq] at ho
  obtain ⟨rfl, ho⟩ := ho
  obtain ⟨n, hsq, hi0, hin⟩ := hs
  rcases hR.arr (t := 0) hsq with ⟨hq, -, ha8, hn1, hc⟩ | ⟨-, h, -⟩
  · have ha4 : a < 4 := by rcases ho with (⟨-, rfl⟩ | ⟨-, rfl⟩) | ⟨-, rfl⟩ <;> omega
    have fin : ∀ H' : Heap, H'[E.2.1 + (q - 16)]? = some ((arrV (E.2.2.2.2 a) n (pm_ev E.1 hr hi q a)).setSlot i.toNatClampNeg (.int x)) → H'.size = H.size → (∀ z, z ≠ E.2.1 + (q - 16) → H'[z]? = H[z]?) → W p l e R s m args below meth c H' (locs ++ [⟨E.2.1 + (q - 16), i.toNatClampNeg⟩]) (sh.length - n0) (pm_sl sh - s0) Q (F0 m (pc + 1) lsA (st.map (pm_vl E.1))) := by
      intro H' e1 e2 e3
      refine k H' _ lsA hn hs' (hR.ast (v := .inl x) hq hsq ha8 hn1 (fun q' j' hne => ⟨pm_u_ne hne, rfl⟩) ?_ e1 e2 e3) (hS.put e2 e3 (show E.2.1 ≤ E.2.1 + (q - 16) by omega)) hL
      unfold pm_ev
      rw [if_pos ha4, pm_u_at]
      rfl
    have c2 := (hC.2.1 a ha8).1 n (pm_ev E.1 hr hi q a)
    have c3 : (arrV (E.2.2.2.2 a) n (pm_ev E.1 hr hi q a)).vm ≠ .unknown := fun h => by cases h
    have c4 : ¬ (i < 0 ∨ (arrV (E.2.2.2.2 a) n (pm_ev E.1 hr hi q a)).slots.size ≤ i.toNatClampNeg) := by rw [arrV_size]; exact pm_in_of hi0 hin
    rw [had q hq]
    rcases ho with (⟨rfl, rfl⟩ | ⟨rfl, rfl⟩) | ⟨rfl, rfl⟩
    · exact W.iast hx hb hc c2 c3 c4 rfl rfl hd fin
    · have hx : narrow .char (.int x) = .int x := by
        have h1 : (x.toUInt32 % 65536).toInt32 = x := hfit
        rw [← h1]
        exact pk_nc x
      refine W.cast (by assumption) hb hc c2 c3 c4 rfl rfl hd (fun H' e1 e2 e3 => fin H' (by rw [e1, hx]) e2 e3)
    · have hx : narrow .boolean (.int x) = .int x := by
        have h1 : x = 0 ∨ x = 1 := hfit
        rcases h1 with rfl | rfl <;> rfl
      refine W.zast (by assumption) hb hc c2 c3 c4 rfl rfl hd (fun H' e1 e2 e3 => fin H' (by rw [e1, hx]) e2 e3)
  · cases h
end PMH
