/-! ===== the steps ===== -/
theorem pm_good {w : Cond} (h : (w.onTables && w.keeps) = true ∨ ∃ ty, w = .arrayClass ty) : goodWord w = true := by
  rcases h with h | ⟨ty, rfl⟩
  · cases w <;> first | rfl | exact h
  · rfl
theorem pm_goodIn {ws : List Cond} (h : GoodIn lw_tbl ws) : ∀ w ∈ ws, w ∈ pm_ts := fun w hw => pm_ts_in (h w hw).1 (pm_good (h w hw).2)
theorem pm_cl_in : ∀ (ci : Nat) (r : vw_C), pm_cl[ci]? = some r → ∀ w ∈ u_ws r.1 r.2.1 r.2.2, w ∈ pm_ts
  | 0, _, h => by cases h; exact pm_goodIn pm_in0
  | 1, _, h => by cases h; exact pm_goodIn pm_in1
  | 2, _, h => by cases h; exact pm_goodIn pm_in2
  | 3, _, h => by cases h; exact pm_goodIn pm_in3
  | 4, _, h => by cases h; exact pm_goodIn pm_in4
  | 5, _, h => by cases h; exact pm_goodIn pm_in5
  | 6, _, h => by cases h; exact pm_goodIn pm_in6
  | 7, _, h => by cases h; exact pm_goodIn pm_in7
  | 8, _, h => by cases h; exact pm_goodIn pm_in8
  | 9, _, h => by cases h; exact pm_goodIn pm_in9
  | 10, _, h => by cases h; exact pm_goodIn pm_in10
  | n + 11, _, h => by cases h
theorem pm_cl_ty : ∀ (ci : Nat) (r : vw_C), pm_cl[ci]? = some r → (∀ k, k < r.2.2 → parseFieldDescriptor (r.2.1 k).2.2.1 = some (pm_fty ci k)) ∧ ∀ a, a < r.2.2 → ∀ b, b < r.2.2 → a ≠ b → (r.2.1 a).2.1 ≠ (r.2.1 b).2.1
  | 0, _, h => by cases h; exact ⟨tyX0_ok, nmX0⟩
  | 1, _, h => by cases h; exact ⟨tyX2_ok, nmX2⟩
  | 2, _, h => by cases h; exact ⟨tyX3_ok, nmX3⟩
  | 3, _, h => by cases h; exact ⟨tyX4_ok, nmX4⟩
  | 4, _, h => by cases h; exact ⟨tyX5_ok, nmX5⟩
  | 5, _, h => by cases h; exact ⟨tyX6_ok, nmX6⟩
  | 6, _, h => by cases h; exact ⟨tyX7_ok, nmX7⟩
  | 7, _, h => by cases h; exact ⟨tyX8_ok, nmX8⟩
  | 8, _, h => by cases h; exact ⟨tyX9_ok, nmX9⟩
  | 9, _, h => by cases h; exact ⟨tyX10_ok, nmX10⟩
  | 10, _, h => by cases h; exact ⟨tyX11_ok, nmX11⟩
  | n + 11, _, h => by cases h
theorem pm_kc.kept {E : pm_E} {hr hr' : pm_A} {hi hi' : pm_B} {q : Nat} {k : pm_K} {H H' : Heap} (h : pm_kc E hr hi q k H) (hv : ∀ j, hi' q j = hi q j ∧ hr' q j = hr q j) (hh : H'[E.2.1 + (q - 16)]? = H[E.2.1 + (q - 16)]?) : pm_kc E hr' hi' q k H' := by
  obtain ⟨t, ti, n⟩ := k
  have e1 : ∀ ci j, pm_fv E.1 hr hi q ci j = pm_fv E.1 hr' hi' q ci j := fun ci j => by unfold pm_fv; rw [(hv j).1, (hv j).2]
  have e2 : pm_ev E.1 hr hi q ti = pm_ev E.1 hr' hi' q ti := funext fun j => by unfold pm_ev; rw [(hv j).1, (hv j).2]
  match t with
  | 0 =>
    obtain ⟨r, h1, h2⟩ := h
    exact ⟨r, h1, (h2.kept hh).to (fun j _ => e1 ti j)⟩
  | 1 =>
    obtain ⟨h1, h2, h3⟩ := h
    exact ⟨h1, h2, by rw [hh, h3, e2]⟩
  | _ + 2 => exact h.elim
theorem pm_R.upd {E : pm_E} {L : Nat} {r0 : pm_A} {h0 : pm_B} {sh : pm_S} {hr hr' : pm_A} {hi hi' : pm_B} {H H' : Heap} (h : pm_R E L r0 h0 sh hr hi H) {q : Nat} {k : pm_K} (hq : 16 ≤ q) (hs : sh[q]? = some k) (hv : ∀ q' j, q' ≠ q → hi' q' j = hi q' j ∧ hr' q' j = hr q' j) (hz : H'.size = H.size) (hh : ∀ x, x ≠ E.2.1 + (q - 16) → H'[x]? = H[x]?) (hk : pm_kc E hr' hi' q k H') : pm_R E L r0 h0 sh hr' hi' H' := by
  refine ⟨hz.trans h.1, h.2.1, fun q' j hq' => ?_, fun q' k' hq' hs' => ?_⟩
  · have := h.2.2.1 q' j hq'
    have h2 := hv q' j (by omega)
    rw [h2.1, h2.2]
    exact this
  · by_cases e : q' = q
    · subst e
      cases hs.symm.trans hs'
      exact hk
    · exact (h.2.2.2 q' k' hq' hs').kept (fun j => hv q' j e) (hh _ (by omega))
theorem pm_R.grow {E : pm_E} {L : Nat} {r0 : pm_A} {h0 : pm_B} {sh : pm_S} {hr hr' : pm_A} {hi hi' : pm_B} {H H' : Heap} (h : pm_R E L r0 h0 sh hr hi H) {k : pm_K} (hv : ∀ q' j, q' ≠ sh.length → hi' q' j = hi q' j ∧ hr' q' j = hr q' j) (hz : H'.size = H.size + 1) (hh : ∀ x, x < H.size → H'[x]? = H[x]?) (hk : pm_kc E hr' hi' sh.length k H') : pm_R E L r0 h0 (sh ++ [k]) hr' hi' H' := by
  have hl := h.len
  have h1 := h.1
  refine ⟨by rw [hz, h1, List.length_append]; simp; omega, ?_, fun q' j hq' => ?_, fun q' k' hq' hs' => ?_⟩
  · rw [List.take_append_of_le_length hl]
    exact h.2.1
  · have := h.2.2.1 q' j hq'
    have h2 := hv q' j (by omega)
    rw [h2.1, h2.2]
    exact this
  · by_cases e : q' < sh.length
    · rw [List.getElem?_append_left e] at hs'
      exact (h.2.2.2 q' k' hq' hs').kept (fun j => hv q' j (by omega)) (hh _ (by omega))
    · have hb : q' < (sh ++ [k]).length := (List.getElem?_eq_some_iff.mp hs').1
      rw [List.length_append] at hb
      have e2 : q' = sh.length := by simp at hb; omega
      subst e2
      rw [List.getElem?_append_right (Nat.le_refl _)] at hs'
      simp at hs'
      subst hs'
      exact hk
section PMS
variable {p : Program} {l : Launch} {e : Env} {R : Room} {s : State} {m : MethodId} {args : Array Value} {below : List Frame} {meth : Method} {c : Code} {Q : State → Prop}
variable {E : pm_E} {L : Nat} {r0 : pm_A} {h0 : pm_B} {own : String} {cc : ByteArray} {nL n0 s0 : Nat}
/-- what holds all through a method -/
def pm_X (p : Program) (s : State) (m : MethodId) (args : Array Value) (c : Code) (E : pm_E) (L : Nat) (r0 : pm_A) (h0 : pm_B) (own : String) (cc : ByteArray) (nL : Nat) : Prop :=
  p.tables.exec = Jvm.exec ∧ c.code = cc ∧ s.vm.findClass own = some m.cls ∧ (∀ w ∈ pm_ts, w.before args s = true) ∧ c.maxLocals = nL ∧ pm_Cx E L r0 h0 s ∧ E.2.1 ≤ s.heap.size
/-- from a place of a method, the machine comes to Q -/
def pm_KK (p : Program) (l : Launch) (e : Env) (R : Room) (s : State) (m : MethodId) (args : Array Value) (below : List Frame) (meth : Method) (c : Code) (Q : State → Prop) (E : pm_E) (L : Nat) (r0 : pm_A) (h0 : pm_B) (nL n0 s0 : Nat) (pc : Nat) (ls : pm_L) (st : List pm_V) (sh : pm_S) (hr : pm_A) (hi : pm_B) : Prop :=
  ∀ (H : Heap) (locs : List Loc) (lsA : Array Slot), n0 ≤ sh.length → s0 ≤ pm_sl sh → pm_R E L r0 h0 sh hr hi H → va_S (pm_Af E) s.heap H locs → pm_LR E.1 nL ls lsA → W p l e R s m args below meth c H locs (sh.length - n0) (pm_sl sh - s0) Q (F0 m pc lsA (st.map (pm_vl E.1)))
variable {pc len a b j q : Nat} {ins : Instr} {ls : pm_L} {st : List pm_V} {sh : pm_S} {hr : pm_A} {hi : pm_B} {x y : Int32}
theorem pm_X.rf (hX : pm_X p s m args c E L r0 h0 own cc nL) : ∀ q, (E.1 q).isRef = true := hX.2.2.2.2.2.1.2.2.2.2.2.2.2.2.2.2.1
theorem pm_X.ad (hX : pm_X p s m args c E L r0 h0 own cc nL) : ∀ q, 16 ≤ q → E.1 q = .ref (E.2.1 + (q - 16)) := hX.2.2.2.2.2.1.2.2.2.2.2.2.2.2.2.2.2.1
theorem pm_X.nu (hX : pm_X p s m args c E L r0 h0 own cc nL) : E.1 0 = .null := hX.2.2.2.2.2.1.2.2.2.2.2.2.2.2.2.2.2.2
theorem pm_s_iload (hX : pm_X p s m args c E L r0 h0 own cc nL) (hd : decode cc pc = .ok (ins, len)) (ho : (decide (ins = .iload j ∧ len = 2) || decide (j < 4 ∧ ins = .iload_n (Fin.ofNat 4 j) ∧ len = 1)) = true) (hl : ls[j]? = some (some (.inl x))) (k : pm_KK p l e R s m args below meth c Q E L r0 h0 nL n0 s0 (pc + len) ls (.inl x :: st) sh hr hi) : pm_KK p l e R s m args below meth c Q E L r0 h0 nL n0 s0 pc ls st sh hr hi := by
  intro H locs lsA hn hs hR hS hL
  have hv := hL.at hl
  have k := k H locs lsA hn hs hR hS hL
  rw [Bool.or_eq_true, decide_eq_true_eq, decide_eq_true_eq] at ho
  rcases ho with ⟨rfl, rfl⟩ | ⟨hj, rfl, rfl⟩
  · exact lv_iload hX.1 hX.2.1 hd hv k
  · exact lv_iload_n hX.1 hX.2.1 hd (Nat.mod_eq_of_lt hj) hv k
theorem pm_s_aload (hX : pm_X p s m args c E L r0 h0 own cc nL) (hd : decode cc pc = .ok (ins, len)) (ho : (decide (ins = .aload j ∧ len = 2) || decide (j < 4 ∧ ins = .aload_n (Fin.ofNat 4 j) ∧ len = 1)) = true) (hl : ls[j]? = some (some (.inr q))) (k : pm_KK p l e R s m args below meth c Q E L r0 h0 nL n0 s0 (pc + len) ls (.inr q :: st) sh hr hi) : pm_KK p l e R s m args below meth c Q E L r0 h0 nL n0 s0 pc ls st sh hr hi := by
  intro H locs lsA hn hs hR hS hL
  have hv : lsA[j]? = some (.val (E.1 q)) := hL.at hl
  have k : W p l e R s m args below meth c H locs (sh.length - n0) (pm_sl sh - s0) Q (F0 m (pc + len) lsA (E.1 q :: st.map (pm_vl E.1))) := k H locs lsA hn hs hR hS hL
  have hrf := hX.rf q
  rw [Bool.or_eq_true, decide_eq_true_eq, decide_eq_true_eq] at ho
  cases hq : E.1 q with
  | ref a =>
    rw [hq] at hv k
    rcases ho with ⟨rfl, rfl⟩ | ⟨hj, rfl, rfl⟩
    · exact lv_aload hX.1 hX.2.1 hd hv k
    · exact lv_aload_n hX.1 hX.2.1 hd (Nat.mod_eq_of_lt hj) hv k
  | null =>
    rw [hq] at hv k
    rcases ho with ⟨rfl, rfl⟩ | ⟨hj, rfl, rfl⟩
    · exact lv_aloadN hX.1 hX.2.1 hd hv k
    · exact lv_aload_nN hX.1 hX.2.1 hd (Nat.mod_eq_of_lt hj) hv k
  | int _ => rw [hq] at hrf; cases hrf
  | long _ => rw [hq] at hrf; cases hrf
  | float _ => rw [hq] at hrf; cases hrf
  | double _ => rw [hq] at hrf; cases hrf
  | retAddr _ => rw [hq] at hrf; cases hrf
theorem pm_s_istore (hX : pm_X p s m args c E L r0 h0 own cc nL) (hd : decode cc pc = .ok (ins, len)) (ho : (decide (ins = .istore j ∧ len = 2) || decide (j < 4 ∧ ins = .istore_n (Fin.ofNat 4 j) ∧ len = 1)) = true) (hl : j < ls.length) (k : pm_KK p l e R s m args below meth c Q E L r0 h0 nL n0 s0 (pc + len) (ls.set j (some (.inl x))) st sh hr hi) : pm_KK p l e R s m args below meth c Q E L r0 h0 nL n0 s0 pc ls (.inl x :: st) sh hr hi := by
  intro H locs lsA hn hs hR hS hL
  have hl : j < nL := by rw [← hL.1]; exact hl
  rw [Bool.or_eq_true, decide_eq_true_eq, decide_eq_true_eq] at ho
  rcases ho with ⟨rfl, rfl⟩ | ⟨hj, rfl, rfl⟩
  · exact lv_istore hX.1 hX.2.1 hd hL.2 hl rfl (fun ls' h' => k H locs ls' hn hs hR hS (hL.set hX.rf (v := .inl x) h'))
  · exact lv_istore_n hX.1 hX.2.1 hd (Nat.mod_eq_of_lt hj) hL.2 hl rfl (fun ls' h' => k H locs ls' hn hs hR hS (hL.set hX.rf (v := .inl x) h'))
theorem pm_s_astore (hX : pm_X p s m args c E L r0 h0 own cc nL) (hd : decode cc pc = .ok (ins, len)) (ho : (decide (ins = .astore j ∧ len = 2) || decide (j < 4 ∧ ins = .astore_n (Fin.ofNat 4 j) ∧ len = 1)) = true) (hl : j < ls.length) (k : pm_KK p l e R s m args below meth c Q E L r0 h0 nL n0 s0 (pc + len) (ls.set j (some (.inr q))) st sh hr hi) : pm_KK p l e R s m args below meth c Q E L r0 h0 nL n0 s0 pc ls (.inr q :: st) sh hr hi := by
  intro H locs lsA hn hs hR hS hL
  have hl : j < nL := by rw [← hL.1]; exact hl
  have hrf := hX.rf q
  rw [Bool.or_eq_true, decide_eq_true_eq, decide_eq_true_eq] at ho
  show W p l e R s m args below meth c H locs (sh.length - n0) (pm_sl sh - s0) Q (F0 m pc lsA (E.1 q :: st.map (pm_vl E.1)))
  have k : ∀ ls', lv_has ls' nL ((j, E.1 q) :: (pm_lv E.1 ls).filter (fun q => !(q.1 == j) && !(q.1 + 1 == j && q.2.category == 2))) → W p l e R s m args below meth c H locs (sh.length - n0) (pm_sl sh - s0) Q (F0 m (pc + len) ls' (st.map (pm_vl E.1))) := fun ls' h' => k H locs ls' hn hs hR hS (hL.set hX.rf (v := .inr q) h')
  cases hq : E.1 q with
  | ref a =>
    rw [hq] at k
    rcases ho with ⟨rfl, rfl⟩ | ⟨hj, rfl, rfl⟩
    · exact lv_astore hX.1 hX.2.1 hd hL.2 hl rfl k
    · exact lv_astore_n hX.1 hX.2.1 hd (Nat.mod_eq_of_lt hj) hL.2 hl rfl k
  | null =>
    rw [hq] at k
    rcases ho with ⟨rfl, rfl⟩ | ⟨hj, rfl, rfl⟩
    · exact lv_astoreN hX.1 hX.2.1 hd hL.2 hl rfl k
    · exact lv_astore_nN hX.1 hX.2.1 hd (Nat.mod_eq_of_lt hj) hL.2 hl rfl k
  | int _ => rw [hq] at hrf; cases hrf
  | long _ => rw [hq] at hrf; cases hrf
  | float _ => rw [hq] at hrf; cases hrf
  | double _ => rw [hq] at hrf; cases hrf
  | retAddr _ => rw [hq] at hrf; cases hrf
theorem pm_s_iinc (hX : pm_X p s m args c E L r0 h0 own cc nL) {n : Int} {cv : Int32} (hd : decode cc pc = .ok (.iinc j n, 3)) (hc : Int32.ofInt n = cv) (hl : ls[j]? = some (some (.inl x))) (k : pm_KK p l e R s m args below meth c Q E L r0 h0 nL n0 s0 (pc + 3) (ls.set j (some (.inl (x + cv)))) st sh hr hi) : pm_KK p l e R s m args below meth c Q E L r0 h0 nL n0 s0 pc ls st sh hr hi := by
  intro H locs lsA hn hs hR hS hL
  have hlt : j < nL := by rw [← hL.1]; exact (List.getElem?_eq_some_iff.mp hl).1
  obtain ⟨kk, hk⟩ := List.getElem?_of_mem (pm_lv_mem.mpr ⟨.inl x, hl, rfl⟩ : (j, pm_vl E.1 (.inl x)) ∈ pm_lv E.1 ls)
  exact lv_iinc hX.1 hX.2.1 hd hL.2 hk (v := x + cv) (by rw [hc]) hlt rfl (fun ls' h' => k H locs ls' hn hs hR hS (hL.set hX.rf (v := .inl (x + cv)) h'))
theorem pm_s_cst (hX : pm_X p s m args c E L r0 h0 own cc nL) {cv : Int32} (hd : decode cc pc = .ok (ins, len)) (ho : pm_k_cst own a cv len ins = true) (k : pm_KK p l e R s m args below meth c Q E L r0 h0 nL n0 s0 (pc + len) ls (.inl cv :: st) sh hr hi) : pm_KK p l e R s m args below meth c Q E L r0 h0 nL n0 s0 pc ls st sh hr hi := by
  intro H locs lsA hn hs hR hS hL
  have k := k H locs lsA hn hs hR hS hL
  obtain ⟨hx, hb, hown, hts, hml, hC, hz⟩ := hX
  unfold pm_k_cst at ho
  split at ho
  · obtain ⟨h1, rfl⟩ := of_decide_eq_true ho
    exact lv_iconst hx hb hd h1 k
  · obtain ⟨h1, rfl⟩ := of_decide_eq_true ho
    exact lv_bipush hx hb hd h1 k
  · obtain ⟨h1, rfl⟩ := of_decide_eq_true ho
    exact lv_sipush hx hb hd h1 k
  · rw [Bool.and_eq_true, decide_eq_true_eq] at ho
    obtain ⟨h1, rfl⟩ := ho
    exact lv_ldc hx hb hown (hts _ (pm_w_in h1)) hd k
  · rw [Bool.and_eq_true, decide_eq_true_eq] at ho
    obtain ⟨h1, rfl⟩ := ho
    exact lv_ldcw hx hb hown (hts _ (pm_w_in h1)) hd k
  · rw [Bool.and_eq_true, decide_eq_true_eq] at ho
    obtain ⟨h1, rfl, rfl⟩ := ho
    exact va_gets hx hb hC.2.2.2.2.2.1 hS hown (hts _ (pm_w_in h1)) (fun _ h => h) hd k
  · cases ho
theorem pm_s_ref (hX : pm_X p s m args c E L r0 h0 own cc nL) (hd : decode cc pc = .ok (ins, len)) (ho : pm_k_ref own a b len ins = true) (k : pm_KK p l e R s m args below meth c Q E L r0 h0 nL n0 s0 (pc + len) ls (.inr a :: st) sh hr hi) : pm_KK p l e R s m args below meth c Q E L r0 h0 nL n0 s0 pc ls st sh hr hi := by
  intro H locs lsA hn hs hR hS hL
  have k : W p l e R s m args below meth c H locs (sh.length - n0) (pm_sl sh - s0) Q (F0 m (pc + len) lsA (E.1 a :: st.map (pm_vl E.1))) := k H locs lsA hn hs hR hS hL
  obtain ⟨hx, hb, hown, hts, hml, hC, hz⟩ := hX
  unfold pm_k_ref at ho
  split at ho
  · rw [Bool.and_eq_true, decide_eq_true_eq] at ho
    obtain ⟨⟨h3, rfl⟩, ho⟩ := ho
    split at ho
    · rename_i z hz
      obtain ⟨rfl, rfl⟩ := of_decide_eq_true ho
      obtain ⟨ad, h1, h2⟩ := hC.2.2.2.2.2.2.2.1 _ _ hz
      rw [show 3 + (a - 3) = a by omega] at h1
      rw [h1] at k
      exact va_ldcS hx hb hown h2 hd k
    · cases ho
  · rw [Bool.or_eq_true, Bool.and_eq_true, Bool.and_eq_true, decide_eq_true_eq, decide_eq_true_eq] at ho
    rcases ho with ⟨⟨rfl, rfl⟩, h1⟩ | ⟨⟨rfl, rfl⟩, h1⟩
    · exact va_gets hx hb hC.2.2.2.2.1 hS hown (hts _ (pm_w_in h1)) (fun _ h => h) hd k
    · exact va_gets hx hb hC.2.2.2.2.2.2.1 hS hown (hts _ (pm_w_in h1)) (fun _ h => h) hd k
  · cases ho
theorem pm_s_sw (hX : pm_X p s m args c E L r0 h0 own cc nL) {sw : List (Int32 × Nat)} (hd : decode cc pc = .ok (ins, len)) (ho : pm_k_sw pc a sw len ins = true) (k : pm_KK p l e R s m args below meth c Q E L r0 h0 nL n0 s0 (pm_sw x a sw) ls st sh hr hi) : pm_KK p l e R s m args below meth c Q E L r0 h0 nL n0 s0 pc ls (.inl x :: st) sh hr hi := by
  intro H locs lsA hn hs hR hS hL
  have k := k H locs lsA hn hs hR hS hL
  unfold pm_k_sw at ho
  split at ho
  · rename_i d lo hi' os
    rw [Bool.and_eq_true, decide_eq_true_eq] at ho
    obtain ⟨⟨h1, h2⟩, h3⟩ := ho
    have h4 := pm_tsw_spec (a := a) (x := x) sw lo os.toList h3
    rw [Array.length_toList] at h4
    by_cases hin : lo ≤ x.toInt ∧ x.toInt < lo + os.size
    · obtain ⟨o, h5, h6⟩ := h4.2 hin.1 hin.2
      exact lv_tableIn hX.1 hX.2.1 hd (by omega) (by omega) (by rw [← Array.getElem?_toList]; exact h5) h6 k
    · rw [h4.1 (by omega)] at k
      exact lv_tableOut hX.1 hX.2.1 hd (by omega) h1 k
  · rename_i d ps
    rw [Bool.and_eq_true, Bool.and_eq_true, decide_eq_true_eq] at ho
    obtain ⟨⟨h1, h2⟩, h3⟩ := ho
    exact lv_lookup hX.1 hX.2.1 hd h2 rfl (pm_lsw_spec h1 sw ps.toList h3) k
  · cases ho
theorem pm_s_if (hX : pm_X p s m args c E L r0 h0 own cc nL) {cd : ClassFile.Cond} {off : Int} (hd : decode cc pc = .ok (.ifCond cd off, 3)) (ht : (pc : Int) + off = (a : Int)) (kt : pm_cb cd x 0 = true → pm_KK p l e R s m args below meth c Q E L r0 h0 nL n0 s0 a ls st sh hr hi) (kf : ¬ pm_cb cd x 0 = true → pm_KK p l e R s m args below meth c Q E L r0 h0 nL n0 s0 (pc + 3) ls st sh hr hi) : pm_KK p l e R s m args below meth c Q E L r0 h0 nL n0 s0 pc ls (.inl x :: st) sh hr hi := by
  intro H locs lsA hn hs hR hS hL
  rw [pm_cb_iff] at kt kf
  cases cd
  · exact lv_if_eq hX.1 hX.2.1 hd ht (fun h => kt h H locs lsA hn hs hR hS hL) (fun h => kf h H locs lsA hn hs hR hS hL)
  · exact lv_if_ne hX.1 hX.2.1 hd ht (fun h => kt h H locs lsA hn hs hR hS hL) (fun h => kf (fun z => z h) H locs lsA hn hs hR hS hL)
  · exact lv_if_lt hX.1 hX.2.1 hd ht (fun h => kt h H locs lsA hn hs hR hS hL) (fun h => kf h H locs lsA hn hs hR hS hL)
  · exact lv_if_ge hX.1 hX.2.1 hd ht (fun h => kt h H locs lsA hn hs hR hS hL) (fun h => kf h H locs lsA hn hs hR hS hL)
  · exact lv_if_gt hX.1 hX.2.1 hd ht (fun h => kt h H locs lsA hn hs hR hS hL) (fun h => kf h H locs lsA hn hs hR hS hL)
  · exact lv_if_le hX.1 hX.2.1 hd ht (fun h => kt h H locs lsA hn hs hR hS hL) (fun h => kf h H locs lsA hn hs hR hS hL)
theorem pm_s_icmp (hX : pm_X p s m args c E L r0 h0 own cc nL) {cd : ClassFile.Cond} {off : Int} (hd : decode cc pc = .ok (.if_icmp cd off, 3)) (ht : (pc : Int) + off = (a : Int)) (kt : pm_cb cd x y = true → pm_KK p l e R s m args below meth c Q E L r0 h0 nL n0 s0 a ls st sh hr hi) (kf : ¬ pm_cb cd x y = true → pm_KK p l e R s m args below meth c Q E L r0 h0 nL n0 s0 (pc + 3) ls st sh hr hi) : pm_KK p l e R s m args below meth c Q E L r0 h0 nL n0 s0 pc ls (.inl y :: .inl x :: st) sh hr hi := by
  intro H locs lsA hn hs hR hS hL
  rw [pm_cb_iff] at kt kf
  cases cd
  · exact lv_icmp_eq hX.1 hX.2.1 hd ht (fun h => kt h H locs lsA hn hs hR hS hL) (fun h => kf h H locs lsA hn hs hR hS hL)
  · exact lv_icmp_ne hX.1 hX.2.1 hd ht (fun h => kt h H locs lsA hn hs hR hS hL) (fun h => kf (fun z => z h) H locs lsA hn hs hR hS hL)
  · exact lv_icmp_lt hX.1 hX.2.1 hd ht (fun h => kt h H locs lsA hn hs hR hS hL) (fun h => kf h H locs lsA hn hs hR hS hL)
  · exact lv_icmp_ge hX.1 hX.2.1 hd ht (fun h => kt h H locs lsA hn hs hR hS hL) (fun h => kf h H locs lsA hn hs hR hS hL)
  · exact lv_icmp_gt hX.1 hX.2.1 hd ht (fun h => kt h H locs lsA hn hs hR hS hL) (fun h => kf h H locs lsA hn hs hR hS hL)
  · exact lv_icmp_le hX.1 hX.2.1 hd ht (fun h => kt h H locs lsA hn hs hR hS hL) (fun h => kf h H locs lsA hn hs hR hS hL)
end PMS
