/-! ===== the start: what the Statement gives, as the plain machine's (the words R_law .. lw_At are the kit's skeleton) ===== -/
def R_law : String := "EchoFolkLaw"
def lw_P (b : Addr) (xs : List Int32) (args : Array Value) (s : State) : Prop := args = #[.ref b] ∧ s.IntsAt b xs ∧ xs.length ≤ 3072 ∧ (Jvm.Cond.and given_1 narrow_1).before args s = true
def lw_Q (_ : Array Value) (s : State) (o : Outcome) (t : State) : Prop := o = .returned (some (.int 1)) ∧ Framed s o t [] 600000 7302250
def lw_Z (below : List Frame) (a : Array Value) (s : State) : State → Prop := fun t => ∃ o, t.status = .running ∧ Ended t below o ∧ lw_Q a s o t
/-- the law's own end, with 1 on the stack, nothing written that was there before, its room as the claim has it -/
theorem lw_ret {p : Program} {l : Launch} {e : Env} {s : State} {m : MethodId} {below : List Frame} {meth : Method} {c : Code} {b : Nat} (hx : p.tables.exec = Jvm.exec) (hb : c.code = code) (hr : meth.sig.returnType = ret) (hlocks : meth.locks = false) {pc : Nat} {H : Heap} {ls : Array Slot} (hdg : decode code pc = .ok (.ireturn, 1)) : W p l e room_1 s m #[Value.ref b] below meth c H [] 600000 7302250 (lw_Z below #[Value.ref b] s) (F0 m pc ls [.int 1]) := by
  intro T hT X
  obtain ⟨fs, hret, hrun, hended, hW, hframe⟩ := X.leave (v := some (.int 1)) (hlocks := hlocks) (fun h => by rw [hr] at h; cases h)
  have hmeth' : T.vm.method? m = some meth := X.method'
  refine ⟨T.setFrames fs, ?_, .returned (some (.int 1)), hrun, hended, rfl, ⟨_, rfl⟩, hW, hframe⟩
  jvm_step X.here [X.here.top, hx, hb, hdg, hmeth', hr, ret, narrow_b1]
  (try refine ⟨rfl, ?_⟩); (try refine ⟨rfl, ?_⟩)
  first | (intro acts; rw [hret _ acts rfl rfl rfl]) | rw [hret _ _ rfl rfl rfl]
  exact Steps.refl _
/-- what holds at the law's entry: the machine, the code, the tables' words (any of lw_tbl by 'hts w (by decide +kernel)'), the script of L ints xs at the cell b, what the Statement gives of the start (any of its parts by flat_of_before) -/
def lw_At (p : Program) (s : State) (m : MethodId) (meth : Method) (c : Code) (b L : Nat) (xs : Nat → Int32) : Prop :=
  p.tables.exec = Jvm.exec ∧ c.code = code ∧ meth.sig.returnType = ret ∧ c.maxLocals = 4 ∧ s.vm.findClass R_law = some m.cls ∧ (∀ w ∈ lw_tbl, w.before #[Value.ref b] s = true) ∧ va_X b L xs s s.heap ∧ b < s.heap.size ∧ meth.locks = false ∧ (Jvm.Cond.and given_1 narrow_1).before #[Value.ref b] s = true

def pm_r0 : pm_A := fun q j => if 3 ≤ q ∧ q < 9 ∧ j = 0 then q + 6 else 0
def pm_ab : List Int32 := [-1, 0, 0, 1, 2, 0]
def pm_byt : List (List Int32) := [[107, 101, 101, 112], [102, 101, 101], [102, 105, 110, 101], [101, 102, 119], [115, 108], [115, 102]]
def pm_bln : List Nat := [4, 3, 4, 3, 2, 2]
def pm_h0 (xs : Nat → Int32) : pm_B := fun q j => if q = 1 then xs j else if q = 2 then pm_ab.getD j 0 else if 9 ≤ q ∧ q < 15 then (pm_byt.getD (q - 9) []).getD j 0 else 0
def pm_tm (i : Nat) : Term := .string "EchoFolk$Parser" ([76, 85, 87, 134, 136, 138].getD i 0)
abbrev pm_T0 : Jvm.Cond := Jvm.Cond.and given_1 narrow_1
set_option maxRecDepth 100000 in
theorem pm_f1 : ∀ i, i < 6 → (Cond.exactly (pm_tm i) "java/lang/String") ∈ flatC pm_T0 := by decide +kernel
set_option maxRecDepth 100000 in
theorem pm_f2 : ∀ i, i < 6 → (Cond.eq (.field (pm_tm i) "java/lang/String" "coder" "B") (.int 0)) ∈ flatC pm_T0 := by decide +kernel
set_option maxRecDepth 100000 in
theorem pm_f3 : ∀ i, i < 6 → (Cond.arrayOf (.field (pm_tm i) "java/lang/String" "value" "[B") .byte) ∈ flatC pm_T0 := by decide +kernel
set_option maxRecDepth 100000 in
theorem pm_f4 : ∀ i, i < 6 → (Cond.eq (.length (.field (pm_tm i) "java/lang/String" "value" "[B")) (.int (Int32.ofNat (pm_bln.getD i 0)))) ∈ flatC pm_T0 := by decide +kernel
set_option maxRecDepth 100000 in
theorem pm_f5 : ∀ i, i < 6 → ∀ j, j < pm_bln.getD i 0 → (Cond.eq (.elem (.field (pm_tm i) "java/lang/String" "value" "[B") (.int (Int32.ofNat j))) (.int ((pm_byt.getD i []).getD j 0))) ∈ flatC pm_T0 := by decide +kernel
set_option maxRecDepth 100000 in
theorem pm_f6 : ∀ i, i < 6 → ∀ j, j < 6 → i ≠ j → (Cond.not (Cond.eq (pm_tm i) (pm_tm j))) ∈ flatC pm_T0 ∨ (Cond.not (Cond.eq (pm_tm j) (pm_tm i))) ∈ flatC pm_T0 := by decide +kernel
set_option maxRecDepth 100000 in
theorem pm_f7 : ∀ j, j < 6 → (Cond.eq (.elem (.static "EchoFolk$Kinds" "ABOVE" "[I") (.int (Int32.ofNat j))) (.int (pm_ab.getD j 0))) ∈ flatC pm_T0 := by decide +kernel
theorem pm_mem {i : Nat} {w : Cond} (h : decide (lw_tbl[i]? = some w) = true) : w ∈ lw_tbl := List.mem_of_getElem? (of_decide_eq_true h)
theorem pm_arrP {s : State} {args : Array Value} {ty : FieldType} (h : (Cond.arrayClass ty).before args s = true) (hty : ∀ C, ty ≠ .object C) : ∃ cA, ArrOfT s cA ty ∧ va_RA s cA ty := by
  obtain ⟨cA, kA, comp, h1, h2, h3⟩ := Cond.arrayClass_spec h
  refine ⟨cA, fun n z => ⟨fun k h => (by cases h), kA, h2, comp, h3⟩, ?_⟩
  cases ty <;> first | exact h1 | exact absurd rfl (hty _)
theorem pm_arrO {s : State} {C : String} (h : va_AO C s) : ∃ cA, ArrOfT s cA (.object C) ∧ va_RA s cA (.object C) := by
  obtain ⟨comp, cA, kA, h1, h2, h3, h4, h5⟩ := Cond.arrayOver_spec h
  exact ⟨cA, fun n z => ⟨fun k h => (by cases h), kA, h3, comp, h4⟩, kA, comp, h3, h4, h1, h5⟩
set_option maxHeartbeats 1000000 in
theorem pm_start {p : Program} {s : State} {m : MethodId} {meth : Method} {c : Code} {b L : Nat} {xs : Nat → Int32} (hL : L ≤ 3072) (C0 : lw_At p s m meth c b L xs) : ∃ E : pm_E, E.2.1 = s.heap.size ∧ E.1 1 = .ref b ∧ pm_Cx E L pm_r0 (pm_h0 xs) s := by
  obtain ⟨hx, hb, hr, hml, hown, hts, hX, hbl, hlocks, hgv⟩ := C0
  have fl := flat_of_before _ hgv
  have hts' : ∀ w ∈ pm_ts, w.before #[Value.ref b] s = true := fun w hw => hts w (List.mem_filter.mp hw).1
  have hA : ∀ a : Nat, a < s.heap.size → ¬ s.heap.size ≤ a := fun a h => by omega
  obtain ⟨adK, adV, hS, hSe⟩ := vk_Sof (A := fun q => s.heap.size ≤ q) (N := 6) (tm := pm_tm) (len := pm_bln) (byt := pm_byt) (by decide) (fun i hi => fl _ (pm_f1 i hi)) (fun i hi => fl _ (pm_f2 i hi)) (fun i hi => fl _ (pm_f3 i hi)) (fun i hi => fl _ (pm_f4 i hi)) (fun i hi j hj => fl _ (pm_f5 i hi j hj)) (fun i j hi hj hij => (pm_f6 i hi j hj hij).elim (fun h => Or.inl (fl _ h)) (fun h => Or.inr (fl _ h))) hA
  obtain ⟨tA, htA, hTA⟩ := va_Tof (A := fun q => s.heap.size ≤ q) (tm := .static "EchoFolk$Kinds" "ABOVE" "[I") (ty := .int) (N := 6) (f := fun j => .int (pm_ab.getD j 0)) (by omega) (fl _ (by decide +kernel)) (va_eqt (z := Int32.ofNat 6) (fl _ (by decide +kernel))) (fun j hj => va_eqt (fl _ (pm_f7 j hj))) hA
  have hZ1 : va_Z "EchoFolk$Kinds" "ABOVE" "[I" (.ref tA) (fun q => s.heap.size ≤ q) s s.heap := va_Zof (hts _ (pm_mem (i := 475) (by decide +kernel))) (hts _ (pm_mem (i := 77) (by decide +kernel))) htA hA
  have hZ2 : va_Z "java/lang/String" "COMPACT_STRINGS" "Z" (.int 1) (fun q => s.heap.size ≤ q) s s.heap := va_Zof (hts _ (pm_mem (i := 756) (by decide +kernel))) (hts _ (pm_mem (i := 79) (by decide +kernel))) (va_eqi (fl _ (by decide +kernel))) hA
  have href : (Cond.isRef (.static "jdk/internal/util/Preconditions" "SIOOBE_FORMATTER" "Ljava/util/function/BiFunction;")).before #[Value.ref b] s = true := fl _ (by decide +kernel)
  obtain ⟨v15, hv15, hr15⟩ := Cond.isRef_spec href
  have hZ3 : va_Z "jdk/internal/util/Preconditions" "SIOOBE_FORMATTER" "Ljava/util/function/BiFunction;" v15 (fun q => s.heap.size ≤ q) s s.heap := va_Zof (hts _ (pm_mem (i := 772) (by decide +kernel))) (hts _ (pm_mem (i := 81) (by decide +kernel))) hv15 hA
  have hAO : va_AO "EchoFolk$Speaker" s ∧ va_AO "EchoFolk$Sheet" s ∧ va_AO "EchoFolk$Slot" s ∧ va_AO "EchoFolk$Text" s := ⟨va_AO.of (hts _ (pm_mem (i := 141) (by decide +kernel))), va_AO.of (hts _ (pm_mem (i := 270) (by decide +kernel))), va_AO.of (hts _ (pm_mem (i := 290) (by decide +kernel))), va_AO.of (hts _ (pm_mem (i := 100) (by decide +kernel)))⟩
  have hcls : ∀ ci : Nat, ∃ z : ClassId × (Nat → Nat), ∀ r : vw_C, pm_cl[ci]? = some r → u_Kn s r.1 r.2.1 r.2.2 z.1 z.2 := by
    intro ci
    cases hr : pm_cl[ci]? with
    | none => exact ⟨(0, fun _ => 0), fun r h => by cases h⟩
    | some r =>
      obtain ⟨w1, w2, -⟩ := pm_cl_new ci r hr
      obtain ⟨cC, iS, h⟩ := u_known hts' (pm_cl_in ci r hr) (hts' _ w1)
      exact ⟨(cC, iS), fun r' h' => by cases h'; exact h⟩
  obtain ⟨zC, hzC⟩ := Classical.axiomOfChoice hcls
  have harr : ∀ ti : Nat, ∃ cA : ClassId, ti < 8 → ArrOfT s cA (pm_ty ti) ∧ va_RA s cA (pm_ty ti) := by
    intro ti
    match ti with
    | 0 =>
      obtain ⟨cA, h⟩ := pm_arrP (ty := .int) (hts _ (pm_mem (i := 125) (by decide +kernel))) (fun C h => by cases h)
      exact ⟨cA, fun _ => h⟩
    | 1 =>
      obtain ⟨cA, h⟩ := pm_arrP (ty := .byte) (hts _ (pm_mem (i := 918) (by decide +kernel))) (fun C h => by cases h)
      exact ⟨cA, fun _ => h⟩
    | 2 =>
      obtain ⟨cA, h⟩ := pm_arrP (ty := .char) (hts _ (pm_mem (i := 1136) (by decide +kernel))) (fun C h => by cases h)
      exact ⟨cA, fun _ => h⟩
    | 3 =>
      obtain ⟨cA, h⟩ := pm_arrP (ty := .boolean) (hts _ (pm_mem (i := 1137) (by decide +kernel))) (fun C h => by cases h)
      exact ⟨cA, fun _ => h⟩
    | 4 =>
      obtain ⟨cA, h⟩ := pm_arrO hAO.1
      exact ⟨cA, fun _ => h⟩
    | 5 =>
      obtain ⟨cA, h⟩ := pm_arrO hAO.2.1
      exact ⟨cA, fun _ => h⟩
    | 6 =>
      obtain ⟨cA, h⟩ := pm_arrO hAO.2.2.1
      exact ⟨cA, fun _ => h⟩
    | 7 =>
      obtain ⟨cA, h⟩ := pm_arrO hAO.2.2.2
      exact ⟨cA, fun _ => h⟩
    | n + 8 => exact ⟨0, fun h => by omega⟩
  obtain ⟨dA, hdA⟩ := Classical.axiomOfChoice harr
  have hstr : ∀ i tx, i < 6 → (Cond.stringRef "EchoFolk$Parser" ([76, 85, 87, 134, 136, 138].getD i 0) tx) ∈ lw_tbl → vk_R "EchoFolk$Parser" ([76, 85, 87, 134, 136, 138].getD i 0) tx (adK i) s := fun i tx hi hm => vk_R.of (hts _ hm) (hSe i hi)
  refine ⟨(fun q => if q = 0 then .null else if q = 1 then .ref b else if q = 2 then .ref tA else if q < 9 then .ref (adK (q - 3)) else if q < 15 then .ref (adV (q - 9)) else if q = 15 then v15 else .ref (s.heap.size + (q - 16)), s.heap.size, fun ci => (zC ci).1, fun ci => (zC ci).2, dA), rfl, rfl, ?_⟩
  refine ⟨fun ci r h => hzC ci r h, fun ti h => hdA ti h, ?_, ?_, hZ1, hZ2, hZ3, ?_, ⟨va_Nw.of rfl (hts _ (pm_mem (i := 433) (by decide +kernel))), va_Nw.of rfl (hts _ (pm_mem (i := 603) (by decide +kernel)))⟩, hAO, ?_, ?_, rfl⟩
  · intro q ti n h
    have hq := pm_sh0_lt h
    unfold pm_sh0 at h
    match q, hq with
    | 0, _ => cases h
    | 1, _ =>
      cases h
      obtain ⟨scr, x1, x2, x3, x4, x5⟩ := hX
      exact ⟨b, rfl, scr, x1, x2, x3, by omega, by rw [x4] <;> rfl, x5, hA b hbl⟩
    | 2, _ => cases h; exact ⟨tA, rfl, hTA⟩
    | 3, _ => cases h
    | 4, _ => cases h
    | 5, _ => cases h
    | 6, _ => cases h
    | 7, _ => cases h
    | 8, _ => cases h
    | 9, _ => cases h; exact ⟨adV 0, rfl, (hS.1 0 (by omega)).2.2.2⟩
    | 10, _ => cases h; exact ⟨adV 1, rfl, (hS.1 1 (by omega)).2.2.2⟩
    | 11, _ => cases h; exact ⟨adV 2, rfl, (hS.1 2 (by omega)).2.2.2⟩
    | 12, _ => cases h; exact ⟨adV 3, rfl, (hS.1 3 (by omega)).2.2.2⟩
    | 13, _ => cases h; exact ⟨adV 4, rfl, (hS.1 4 (by omega)).2.2.2⟩
    | 14, _ => cases h; exact ⟨adV 5, rfl, (hS.1 5 (by omega)).2.2.2⟩
    | 15, _ => cases h
  · intro q h
    have hq := pm_sh0_lt h
    unfold pm_sh0 at h
    match q, hq with
    | 0, _ => cases h
    | 1, _ => cases h
    | 2, _ => cases h
    | 3, _ => exact ⟨adK 0, rfl, (hS.1 0 (by omega)).1, (hS.1 0 (by omega)).2.1, (hS.1 0 (by omega)).2.2.1⟩
    | 4, _ => exact ⟨adK 1, rfl, (hS.1 1 (by omega)).1, (hS.1 1 (by omega)).2.1, (hS.1 1 (by omega)).2.2.1⟩
    | 5, _ => exact ⟨adK 2, rfl, (hS.1 2 (by omega)).1, (hS.1 2 (by omega)).2.1, (hS.1 2 (by omega)).2.2.1⟩
    | 6, _ => exact ⟨adK 3, rfl, (hS.1 3 (by omega)).1, (hS.1 3 (by omega)).2.1, (hS.1 3 (by omega)).2.2.1⟩
    | 7, _ => exact ⟨adK 4, rfl, (hS.1 4 (by omega)).1, (hS.1 4 (by omega)).2.1, (hS.1 4 (by omega)).2.2.1⟩
    | 8, _ => exact ⟨adK 5, rfl, (hS.1 5 (by omega)).1, (hS.1 5 (by omega)).2.1, (hS.1 5 (by omega)).2.2.1⟩
    | 9, _ => cases h
    | 10, _ => cases h
    | 11, _ => cases h
    | 12, _ => cases h
    | 13, _ => cases h
    | 14, _ => cases h
    | 15, _ => cases h
  · intro i q h
    have hi : i < 6 := (List.getElem?_eq_some_iff.mp h).1
    unfold pm_strs at h
    match i, hi with
    | 0, _ => cases h; exact ⟨adK 0, rfl, hstr 0 _ (by omega) (pm_mem (i := 742) (by decide +kernel))⟩
    | 1, _ => cases h; exact ⟨adK 1, rfl, hstr 1 _ (by omega) (pm_mem (i := 795) (by decide +kernel))⟩
    | 2, _ => cases h; exact ⟨adK 2, rfl, hstr 2 _ (by omega) (pm_mem (i := 796) (by decide +kernel))⟩
    | 3, _ => cases h; exact ⟨adK 3, rfl, hstr 3 _ (by omega) (pm_mem (i := 844) (by decide +kernel))⟩
    | 4, _ => cases h; exact ⟨adK 4, rfl, hstr 4 _ (by omega) (pm_mem (i := 845) (by decide +kernel))⟩
    | 5, _ => cases h; exact ⟨adK 5, rfl, hstr 5 _ (by omega) (pm_mem (i := 846) (by decide +kernel))⟩
  · intro q
    dsimp only
    split
    · rfl
    split
    · rfl
    split
    · rfl
    split
    · rfl
    split
    · rfl
    split
    · exact hr15
    · rfl
  · intro q hq
    dsimp only
    rw [if_neg (by omega), if_neg (by omega), if_neg (by omega), if_neg (by omega), if_neg (by omega), if_neg (by omega)]
/-- the law's run in the plain machine, as a number N of steps and a depth d -/
def pm_Law (L : Nat) (xs : Nat → Int32) : Prop := ∃ (N d : Nat) (sh : pm_S) (hr : pm_A) (hi : pm_B), d ≤ 2000 ∧ pm_exec (pm_call pm_g N d) pm_t246 N 0 (pm_ent 4 [.inr 1]) [] (pm_sh0 L) pm_r0 (pm_h0 xs) = some (some (.inl 1), sh, hr, hi) ∧ sh.length ≤ 500000 ∧ pm_sl sh ≤ 7000000
set_option maxHeartbeats 1000000 in
theorem pm_whole {p : Program} {e : Env} {s : State} {m : MethodId} {below : List Frame} {meth : Method} {c : Code} (l : Launch) {b L : Nat} {xs : Nat → Int32} (hL : L ≤ 3072) (C0 : lw_At p s m meth c b L xs) (hlaw : pm_Law L xs) : W p l e room_1 s m #[Value.ref b] below meth c s.heap [] 0 0 (lw_Z below #[Value.ref b] s) (entryFrame m ([Value.ref b] : List Value).toArray 4) := by
  obtain ⟨E, e1, e2, hC⟩ := pm_start hL C0
  obtain ⟨hx, hb, hr, hml, hown, hts, hX0, hbl, hlocks, hgv⟩ := C0
  obtain ⟨N, d, sh, hrr, hi, hd, hrun, hl1, hl2⟩ := hlaw
  have hX : pm_X p s m #[Value.ref b] c E L pm_r0 (pm_h0 xs) "EchoFolkLaw" code 4 := ⟨hx, hb, hown, fun w hw => hts w (List.mem_filter.mp hw).1, hml, hC, by omega⟩
  have hrf := hX.rf
  have hR : pm_R E L pm_r0 (pm_h0 xs) (pm_sh0 L) pm_r0 (pm_h0 xs) s.heap := by
    refine ⟨by rw [e1]; rfl, rfl, fun q j _ => ⟨rfl, rfl⟩, fun q k hq hs => ?_⟩
    have := pm_sh0_lt hs
    omega
  have hargs : ([Value.ref b] : List Value) = ([.inr 1] : List pm_V).map (pm_vl E.1) := by
    show _ = [E.1 1]
    rw [e2]
  have key := pm_sim_exec (p := p) (l := l) (e := e) (below := below) (meth := meth) (R := room_1) (nm := "law") (ret := some .boolean) (d := d) (n0 := 16) (s0 := pm_sl (pm_sh0 L)) (Q := lw_Z below #[Value.ref b] s) (o := (some (.inl 1), sh, hrr, hi)) hX (fun hn => absurd hn (by decide)) pm_goodG.1 pm_law_rows
    ⟨by show sh.length - 16 ≤ 600000; omega, by show pm_sl sh - _ ≤ 7302250; omega, by show d + 2 ≤ 2048; omega, by show 40 * d + 140 ≤ 84000; omega⟩ (fun a av sh hr hi v sh' hr' hi' h => ⟨pm_call_grow pm_g N d a av sh hr hi v sh' hr' hi' h, pm_sim_call pm_goodG N d a av sh hr hi v sh' hr' hi' h⟩) ?_ N 0 (pm_ent 4 [.inr 1]) [] (pm_sh0 L) pm_r0 (pm_h0 xs) hrun s.heap [] _ (Nat.le_refl _) (Nat.le_refl _) hR va_S.rf (pm_LR_ent hrf (show ([.inr 1] : List pm_V).length ≤ 4 by decide))
  · rw [Nat.sub_self, ← hargs] at key
    rw [lg_entry_eq]
    exact key
  · intro pc r ls v2 sh2 hr2 hi2 he hrt heq
    cases heq
    intro H locs lsA hn hs hR2 hS hL2
    have hok := pm_law_rows pc r he
    obtain ⟨op, len, a2, b2, c2, sw2⟩ := r
    unfold pm_okb at hok
    cases hd : decode code pc with
    | error _ => rw [hd] at hok; cases hok
    | ok il =>
    rw [hd] at hok
    obtain ⟨ins, n⟩ := il
    dsimp only at hok
    rw [Bool.and_eq_true, decide_eq_true_eq] at hok
    obtain ⟨rfl, hok⟩ := hok
    rcases hrt with ⟨x, h1, h2, hfib⟩ | ⟨q, h1, h2⟩ | ⟨h1, h2⟩
    · dsimp only at h1
      subst h1
      obtain ⟨rfl, rfl, hty⟩ := of_decide_eq_true hok
      refine va_forget (fun q hq => ?_) (W.widen (k := 600000) (n := 7302250) (by omega) (by omega) (lw_ret hx hb hr hlocks hd))
      have := hS.2.2 q hq
      show s.heap.size ≤ q.base
      rw [← e1]
      exact this
    · cases h2
    · cases h2
