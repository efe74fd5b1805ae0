/-! ===== THE PLAIN MACHINE'S RUNS ARE THE MACHINE'S ===== -/
def pm_Pc (E : pm_E) (L : Nat) (r0 : pm_A) (h0 : pm_B) (av : List pm_V) (sh : pm_S) (hr : pm_A) (hi : pm_B) : Array Value → State → Prop := fun a U => a = (av.map (pm_vl E.1)).toArray ∧ pm_Cx E L r0 h0 U ∧ pm_R E L r0 h0 sh hr hi U.heap
def pm_Qc (E : pm_E) (L : Nat) (r0 : pm_A) (h0 : pm_B) (v : Option pm_V) (sh : pm_S) (hr : pm_A) (hi : pm_B) : Array Value → State → Outcome → State → Prop := fun _ st oc t => oc = .returned (v.map (pm_vl E.1)) ∧ pm_R E L r0 h0 sh hr hi t.heap ∧ va_F (pm_Af E) st t
def pm_rm (d mc ms : Nat) : Room := { frames := d + 1, cells := mc, slots := ms, locals := 40 * d + 100 }
def pm_Met (l : Launch) (E : pm_E) (L : Nat) (r0 : pm_A) (h0 : pm_B) (M : pm_M) (d : Nat) (av : List pm_V) (sh : pm_S) (hr : pm_A) (hi : pm_B) (v : Option pm_V) (sh' : pm_S) (hr' : pm_A) (hi' : pm_B) : Prop :=
  Met l M.1 (Cond.code M.1 M.2.1 M.2.2.1 M.2.2.2.1 :: pm_ts) (pm_rm d (sh'.length - sh.length) (pm_sl sh' - pm_sl sh)) (pm_Pc E L r0 h0 av sh hr hi) (pm_Qc E L r0 h0 v sh' hr' hi') (sh'.length - sh.length) (pm_sl sh' - pm_sl sh) (pm_Af E)
def pm_mokb (M : pm_M) : Bool := match M with
  | (y, bytes, maxL, ret, cw, iw, kw, lw, stt) => pm_w cw (.code y bytes maxL ret) && pm_w iw (.initialized y.cls) && (bif stt then pm_w kw (.static y) else pm_w kw (.instanceMethod y) && (bif decide (y.name = "<init>") then decide (ret = none) else pm_w lw (.selects y.cls y y))) && decide (y.cls ≠ "java/lang/invoke/MethodHandle" ∧ y.cls ≠ "java/lang/invoke/VarHandle" ∧ maxL ≤ 21) && plainName y.cls
theorem hsz_cells {n0 a b : Nat} (h : n0 ≤ a) (h2 : a ≤ b) : b - n0 = a - n0 + (b - a) := by omega
theorem pm_ts_good : GoodIn pm_ts pm_ts := fun w hw => ⟨hw, good_of_word (List.mem_filter.mp hw).2⟩
theorem pm_code_good {y : MethodName} {bytes : ByteArray} {maxL : Nat} {ret : Option FieldType} (h : Cond.code y bytes maxL ret ∈ pm_ts) : GoodIn pm_ts (Cond.code y bytes maxL ret :: pm_ts) := fun w hw => by
  rcases List.mem_cons.mp hw with rfl | hw
  · exact pm_ts_good _ h
  · exact pm_ts_good w hw
theorem pm_blind {E : pm_E} {L : Nat} {r0 : pm_A} {h0 : pm_B} {av : List pm_V} {sh : pm_S} {hr : pm_A} {hi : pm_B} : FrameBlind (pm_Pc E L r0 h0 av sh hr hi) := fun _ _ _ _ h => ⟨h.1, h.2.1.same rfl rfl, h.2.2⟩
section PMM
variable {p : Program} {l : Launch} {e : Env} {R : Room} {s : State} {m : MethodId} {args : Array Value} {below : List Frame} {meth : Method} {c : Code} {Q : State → Prop}
variable {E : pm_E} {L : Nat} {r0 : pm_A} {h0 : pm_B} {own nm : String} {cc : ByteArray} {nL n0 s0 : Nat}
variable {pc len a b f j q : Nat} {ins : Instr} {ls : pm_L} {st : List pm_V} {sh : pm_S} {hr : pm_A} {hi : pm_B} {x y i : Int32} {sw : List (Int32 × Nat)}
theorem pm_callW {lsA : Array Slot} {H : Heap} {locs : List Loc} {cells slots mc ms : Nat} {st0 rest : List Value} {av : Array Value} {v : Option pm_V} {sh' : pm_S} {hr' : pm_A} {hi' : pm_B} (hr : va_Run p l e R s m args below meth c H locs cells slots mc ms (F0 m pc lsA st0) rest (pm_Qc E L r0 h0 v sh' hr' hi' av) (pm_Af E)) (hS : va_S (pm_Af E) s.heap H locs)
    (kk : ∀ (H1 : Heap) (locs1 : List Loc), pm_R E L r0 h0 sh' hr' hi' H1 → va_S (pm_Af E) s.heap H1 locs1 → W p l e R s m args below meth c H1 locs1 (cells + mc) (slots + ms) Q (F0 m (pc + 3) lsA ((v.map (pm_vl E.1)).toList ++ rest))) : W p l e R s m args below meth c H locs cells slots Q (F0 m pc lsA st0) := by
  intro T hT X
  obtain ⟨w, st₀, t, T', LL, g0, X', hL, e1, e2, ⟨hv, hb, hz, hk⟩, st⟩ := hr T hT X
  cases hv
  rw [g0] at hz hk
  obtain ⟨t2, a1, b1⟩ := kk T'.heap (locs ++ LL) (by rw [e1]; exact hb)
    ⟨Nat.le_trans hS.1 (by rw [e1]; exact hz), fun q h1 h2 => by rw [e1, hk q (Nat.lt_of_lt_of_le h1 hS.1) h2]; exact hS.2.1 q h1 h2, fun q hq => by
      rcases List.mem_append.mp hq with h | h
      · exact hS.2.2 q h
      · exact hL q h⟩ T' rfl X'
  exact ⟨t2, st t2 a1, b1⟩
theorem pm_sum (hrf : ∀ q, (E.1 q).isRef = true) (l : List pm_V) : ((l.map (pm_vl E.1)).map fun v => v.category).sum = l.length := by
  induction l with
  | nil => rfl
  | cons a l ih => simp only [List.map_cons, List.sum_cons, List.length_cons, ih, pm_cat hrf a]; omega
/-- an object that is called upon -/
theorem pm_recv {H : Heap} {locs : List Loc} {z : Nat} {C : String} (hC : pm_Cx E L r0 h0 s) (hR : pm_R E L r0 h0 sh hr hi H) (hS : va_S (pm_Af E) s.heap H locs) (hs : sh[q]? = some (0, z, 0)) (hz : (match pm_cl[z]? with
      | some r => decide (r.1 = C ∧ z < 11)
      | none => decide (z = 11 ∧ C = "java/lang/String")) = true) : ∃ ad, E.1 q = .ref ad ∧ ∃ cell : Cell, H[ad]? = some cell ∧ cell.vm.isStatics = false ∧ s.vm.findClass C = some cell.cls := by
  split at hz
  · rename_i r hrr
    obtain ⟨rfl, hz⟩ := of_decide_eq_true hz
    obtain ⟨hq, r', hrr', cell, g1, g2, g3, -⟩ := hR.obj hs (by omega) (by omega)
    exact ⟨_, hC.2.2.2.2.2.2.2.2.2.2.2.1 q hq, cell, g1, by rw [g3]; rfl, by rw [g2]; exact (hC.1 z r hrr).2.1⟩
  · obtain ⟨rfl, rfl⟩ := of_decide_eq_true hz
    obtain ⟨hq, hst⟩ := hR.str hs
    obtain ⟨ad, e1, h1, -⟩ := hC.2.2.2.1 q hst
    obtain ⟨cell, g1, g2, g3, -⟩ := h1.kept hS.2.1
    exact ⟨ad, e1, cell, g1, g2, g3⟩
theorem pm_rcv_spec {z : Nat} {av : List pm_V} (h : pm_rcv sh z av = true) : ∃ q tl, av = .inr q :: tl ∧ sh[q]? = some (0, z, 0) := by
  unfold pm_rcv at h
  split at h
  · exact ⟨_, _, rfl, of_decide_eq_true h⟩
  · cases h
set_option maxHeartbeats 1000000 in
theorem pm_s_call (hX : pm_X p s m args c E L r0 h0 own cc nL) {MI : Nat → Option pm_M} {M : pm_M} {k d : Nat} {cv : Int32} {v : Option pm_V} {sh' : pm_S} {hr' : pm_A} {hi' : pm_B} (hMI : MI a = some M) (hmok : pm_mokb M = true) (hd : decode cc pc = .ok (ins, len)) (ho : pm_k_inv MI own k a b cv sw len ins = true)
    (hbl : b ≤ st.length ∧ (st.drop b).length ≤ 8) (hrc : (sw.all fun z => pm_rcv sh z.2 (st.take b).reverse) = true) (hM : pm_Met l E L r0 h0 M d (st.take b).reverse sh hr hi v sh' hr' hi') (hgr : ∃ ext, sh' = sh ++ ext)
    (hroom : sh'.length - n0 ≤ R.cells ∧ pm_sl sh' - s0 ≤ R.slots ∧ d + 2 ≤ R.frames ∧ 40 * d + 140 ≤ R.locals) (kk : pm_KK p l e R s m args below meth c Q E L r0 h0 nL n0 s0 (pc + len) ls (v.toList ++ st.drop b) sh' hr' hi') : pm_KK p l e R s m args below meth c Q E L r0 h0 nL n0 s0 pc ls st sh hr hi := by
  intro H locs lsA hn hs' hR hS hL
  have hrf := hX.rf
  obtain ⟨hx, hb, hown, hts, hml, hC, hz⟩ := hX
  obtain ⟨y, bytes, maxL, ret, cw, iw, kw, lw, stt⟩ := M
  have hg1 : sh.length ≤ sh'.length := by obtain ⟨ext, rfl⟩ := hgr; rw [List.length_append]; omega
  have hg2 : pm_sl sh ≤ pm_sl sh' := by
    obtain ⟨ext, rfl⟩ := hgr
    unfold pm_sl
    rw [List.map_append, List.sum_append]
    omega
  simp only [pm_mokb, Bool.and_eq_true, decide_eq_true_eq] at hmok
  obtain ⟨⟨⟨⟨wc, wi⟩, wk⟩, ⟨wh1, wh2, hmax⟩⟩, wp⟩ := hmok
  have hcl := hsz_cells hn hg1
  have hsl := hsz_cells hs' hg2
  have hf : sh.length - n0 + (sh'.length - sh.length) ≤ R.cells ∧ pm_sl sh - s0 + (pm_sl sh' - pm_sl sh) ≤ R.slots := ⟨by omega, by omega⟩
  have hstk : st.map (pm_vl E.1) = (((st.take b).reverse.map (pm_vl E.1)).reverse) ++ (st.drop b).map (pm_vl E.1) := by
    rw [← List.map_reverse, List.reverse_reverse, ← List.map_append, List.take_append_drop]
  have hPre : ∀ U : State, U.heap = H → s.WarmedH U.vm → pm_Pc E L r0 h0 (st.take b).reverse sh hr hi (((st.take b).reverse.map (pm_vl E.1))).toArray U := fun U hU hW => ⟨rfl, hC.warm hW (fun q h1 h2 => by rw [hU]; exact hS.2.1 q h1 h2), by rw [hU]; exact hR⟩
  have hcw : 2 * (F0 m pc lsA (st.map (pm_vl E.1))).monitorRoom + (((st.drop b).map (pm_vl E.1)).map fun v => v.category).sum ≤ 8 := by
    show 2 * 0 + _ ≤ _
    rw [pm_sum hrf]
    omega
  have hlen : ((st.take b).reverse.map (pm_vl E.1)).length = b := by simp; omega
  have hroomC : (pm_rm d (sh'.length - sh.length) (pm_sl sh' - pm_sl sh)).frames + 1 ≤ R.frames ∧ 8 + (maxL + 11) + (pm_rm d (sh'.length - sh.length) (pm_sl sh' - pm_sl sh)).locals ≤ R.locals := by
    unfold pm_rm
    dsimp only
    omega
  have hGood := pm_code_good (pm_w_in wc)
  have S : CallFix p m c cc nL s args pm_ts own := ⟨hx, hb, hml, hown, hts⟩
  have fin : ∀ {g : List Value → Prop}, va_Run p l e R s m args below meth c H locs (sh.length - n0) (pm_sl sh - s0) (sh'.length - sh.length) (pm_sl sh' - pm_sl sh) (F0 m pc lsA (st.map (pm_vl E.1))) ((st.drop b).map (pm_vl E.1)) (pm_Qc E L r0 h0 v sh' hr' hi' ((st.take b).reverse.map (pm_vl E.1)).toArray) (pm_Af E) → len = 3 → W p l e R s m args below meth c H locs (sh.length - n0) (pm_sl sh - s0) Q (F0 m pc lsA (st.map (pm_vl E.1))) := by
    intro g hrun hl3
    subst hl3
    refine pm_callW hrun hS (fun H1 locs1 hR1 hS1 => ?_)
    have k := kk H1 locs1 lsA (by omega) (by omega) hR1 hS1 hL
    rw [List.map_append, hcl, hsl] at k
    cases v with
    | none => exact k
    | some v => exact k
  unfold pm_k_inv at ho
  rw [hMI] at ho
  dsimp only at ho
  rw [Bool.and_eq_true, decide_eq_true_eq] at ho
  obtain ⟨⟨hl3, -⟩, ho⟩ := ho
  split at ho
  · rename_i ix
    rw [Bool.and_eq_true, Bool.and_eq_true, decide_eq_true_eq, Bool.or_eq_true] at ho
    obtain ⟨⟨hst, hsw, hpar⟩, hlk⟩ := ho
    rw [hst] at wk
    have wk : pm_w kw (.static y) = true := wk
    subst hl3
    rcases hlk with hlk | hlk
    · exact fin (g := fun _ => True) (va_runS S hM ⟨callB_of b hts hGood rfl rfl rfl (hts _ (pm_w_in wi)) (hts _ (pm_w_in hlk)) ⟨wh1, wh2, hpar⟩ hroomC, hts _ (pm_w_in wk)⟩ ⟨pm_blind, hPre⟩ rfl hlen (hL.2.1) hstk hcw hd hf) rfl
    · rw [Bool.or_eq_true, decide_eq_true_eq, decide_eq_true_eq] at hlk
      obtain ⟨nw1, nw2⟩ := hC.2.2.2.2.2.2.2.2.1
      rcases hlk with ⟨rfl, rfl, rfl⟩ | ⟨rfl, rfl, rfl⟩
      · exact fin (g := fun _ => True) (va_runSN S hM ⟨va_cnB b hts hGood rfl rfl rfl nw1 (hts _ (pm_w_in wi)) ⟨wh1, wh2, hpar⟩ hroomC, hts _ (pm_w_in wk), trivial⟩ ⟨pm_blind, hPre⟩ rfl hlen (hL.2.1) hstk hcw hd hf) rfl
      · exact fin (g := fun _ => True) (va_runSN S hM ⟨va_cnB b hts hGood rfl rfl rfl nw2 (hts _ (pm_w_in wi)) ⟨wh1, wh2, hpar⟩ hroomC, hts _ (pm_w_in wk), trivial⟩ ⟨pm_blind, hPre⟩ rfl hlen (hL.2.1) hstk hcw hd hf) rfl
  · rename_i ix
    rw [Bool.and_eq_true, Bool.and_eq_true, Bool.and_eq_true, decide_eq_true_eq] at ho
    obtain ⟨⟨⟨hst, hnini, hpar⟩, hlk⟩, hcls⟩ := ho
    have hst : stt = false := by cases stt <;> first | rfl | cases hst
    subst hst
    have wk : (pm_w kw (.instanceMethod y) && (bif decide (y.name = "<init>") then decide (ret = none) else pm_w lw (.selects y.cls y y))) = true := wk
    rw [Bool.and_eq_true, decide_eq_false hnini] at wk
    have wsel : pm_w lw (.selects y.cls y y) = true := wk.2
    subst hl3
    split at hcls
    · rename_i z
      have hrc : pm_rcv sh z.2 (st.take b).reverse = true := by simpa using hrc
      obtain ⟨q, tl, hav, hsq⟩ := pm_rcv_spec hrc
      obtain ⟨ad, e1, hcell⟩ := pm_recv (C := y.cls) hC hR hS hsq hcls
      have hmapv : (st.take b).reverse.map (pm_vl E.1) = .ref ad :: tl.map (pm_vl E.1) := by
        rw [hav]
        show E.1 q :: _ = _
        rw [e1]
      rw [hmapv] at hstk hPre hlen fin
      have hpar' : (parseMethodDescriptor y.desc).map (fun d => d.parameters.length) = some (tl.map (pm_vl E.1)).length := by
        cases hp : parseMethodDescriptor y.desc with
        | none => rw [hp] at hpar; cases hpar
        | some sig =>
          rw [hp] at hpar
          have h1 : sig.parameters.length + 1 = b := Option.some.inj hpar
          have h2 : (tl.map (pm_vl E.1)).length + 1 = b := hlen
          show some sig.parameters.length = some (tl.map (pm_vl E.1)).length
          congr 1
          omega
      refine fin (g := fun _ => True) (va_runV (As := tl.map (pm_vl E.1)) S hM ⟨callB_of _ hts hGood rfl rfl rfl (hts _ (pm_w_in wi)) (hts _ (pm_w_in hlk)) ⟨wh1, wh2, hpar'⟩ hroomC, hts _ (pm_w_in wk.1), hts _ (pm_w_in wsel)⟩ ⟨pm_blind, hcell, hPre⟩ rfl rfl (hL.2.1) ?_ hcw hd hf) rfl
      show st.map (pm_vl E.1) = _
      rw [hstk]
      simp
    · cases hcls
  · rename_i ix
    rw [Bool.and_eq_true, Bool.and_eq_true, Bool.and_eq_true, decide_eq_true_eq] at ho
    obtain ⟨⟨⟨hst, hini, hpar⟩, hlk⟩, hcls⟩ := ho
    have hst : stt = false := by cases stt <;> first | rfl | cases hst
    subst hst
    have wk : (pm_w kw (.instanceMethod y) && (bif decide (y.name = "<init>") then decide (ret = none) else pm_w lw (.selects y.cls y y))) = true := wk
    rw [Bool.and_eq_true, decide_eq_true hini] at wk
    subst hl3
    split at hcls
    · rename_i z
      have hrc : pm_rcv sh z.2 (st.take b).reverse = true := by simpa using hrc
      obtain ⟨q, tl, hav, hsq⟩ := pm_rcv_spec hrc
      have hcls' : (match pm_cl[z.2]? with
        | some r => decide (r.1 = y.cls ∧ z.2 < 11)
        | none => decide (z.2 = 11 ∧ y.cls = "java/lang/String")) = true := by
        split at hcls
        · rename_i r hrr
          rw [hrr]
          exact hcls
        · cases hcls
      obtain ⟨ad, e1, hcell⟩ := pm_recv (C := y.cls) hC hR hS hsq hcls'
      have hmapv : (st.take b).reverse.map (pm_vl E.1) = .ref ad :: tl.map (pm_vl E.1) := by
        rw [hav]
        show E.1 q :: _ = _
        rw [e1]
      rw [hmapv] at hstk hPre hlen fin
      have hpar' : (parseMethodDescriptor y.desc).map (fun d => d.parameters.length) = some (tl.map (pm_vl E.1)).length := by
        cases hp : parseMethodDescriptor y.desc with
        | none => rw [hp] at hpar; cases hpar
        | some sig =>
          rw [hp] at hpar
          have h1 : sig.parameters.length + 1 = b := Option.some.inj hpar
          have h2 : (tl.map (pm_vl E.1)).length + 1 = b := hlen
          show some sig.parameters.length = some (tl.map (pm_vl E.1)).length
          congr 1
          omega
      have hret : ret = none := of_decide_eq_true wk.2
      subst hret
      refine fin (g := fun _ => True) (va_runI (As := tl.map (pm_vl E.1)) S hM ⟨callB_of _ hts hGood rfl rfl rfl (hts _ (pm_w_in wi)) (hts _ (pm_w_in hlk)) ⟨wh1, wh2, hpar'⟩ hroomC, hini, hts _ (pm_w_in wk.1)⟩ ⟨pm_blind, hPre⟩ rfl rfl (hL.2.1) ?_ hcw hd hf) rfl
      show st.map (pm_vl E.1) = _
      rw [hstk]
      simp
    · cases hcls
  · cases ho
end PMM
