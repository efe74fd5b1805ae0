/-! ===== THE PLAIN HEAP AND THE MACHINE'S: the relation ===== -/
def pm_ty (ti : Nat) : FieldType := match ti with
  | 0 => .int
  | 1 => .byte
  | 2 => .char
  | 3 => .boolean
  | 4 => .object "EchoFolk$Speaker"
  | 5 => .object "EchoFolk$Sheet"
  | 6 => .object "EchoFolk$Slot"
  | _ => .object "EchoFolk$Text"
abbrev pm_N : Type := Nat → Value
def pm_vl (vl : pm_N) (v : pm_V) : Value := match v with
  | .inl x => .int x
  | .inr q => vl q
/-- a field's kind: 0 a number, 1 a reference, 2 a reference kept among the numbers (the one that is written again) -/
def pm_fk (ci k : Nat) : Nat := if ci = 2 ∧ k = 1 then 2 else if (pm_fty ci k).isReference then 1 else 0
def pm_fv (vl : pm_N) (hr : pm_A) (hi : pm_B) (q ci k : Nat) : Value := match pm_fk ci k with
  | 0 => .int (hi q k)
  | 1 => vl (hr q k)
  | _ => vl (hi q k).toNatClampNeg
def pm_ev (vl : pm_N) (hr : pm_A) (hi : pm_B) (q ti j : Nat) : Value := if ti < 4 then .int (hi q j) else vl (hr q j)
/-- the cells that are there at the start: null, the script, the row ABOVE, six texts, their bytes, a formatter -/
def pm_sh0 (L : Nat) : pm_S := [(0, 99, 0), (2, 0, L), (2, 0, 6), (0, 11, 0), (0, 11, 0), (0, 11, 0), (0, 11, 0), (0, 11, 0), (0, 11, 0), (2, 1, 4), (2, 1, 3), (2, 1, 4), (2, 1, 3), (2, 1, 2), (2, 1, 2), (0, 99, 0)]
def pm_strs : List (String × Nat × String) := [("EchoFolk$Parser", 76, "keep"), ("EchoFolk$Parser", 85, "fee"), ("EchoFolk$Parser", 87, "fine"), ("EchoFolk$Parser", 134, "efw"), ("EchoFolk$Parser", 136, "sl"), ("EchoFolk$Parser", 138, "sf")]
/-- the environment: what cells name, the heap's size at the start, the classes, their slots, the array classes -/
abbrev pm_E : Type := pm_N × Nat × (Nat → ClassId) × (Nat → Nat → Nat) × (Nat → ClassId)
def pm_kc (E : pm_E) (hr : pm_A) (hi : pm_B) (q : Nat) (k : pm_K) (H : Heap) : Prop := match k with
  | (0, ci, _) => ∃ r : vw_C, pm_cl[ci]? = some r ∧ t_OB (E.2.1 + (q - 16)) (E.2.2.1 ci) r.2.2 (E.2.2.2.1 ci) H (pm_fv E.1 hr hi q ci)
  | (1, ti, n) => ti < 8 ∧ n < 100000 ∧ H[E.2.1 + (q - 16)]? = some (arrV (E.2.2.2.2 ti) n (pm_ev E.1 hr hi q ti))
  | _ => False
def pm_R (E : pm_E) (L : Nat) (r0 : pm_A) (h0 : pm_B) (sh : pm_S) (hr : pm_A) (hi : pm_B) (H : Heap) : Prop :=
  H.size = E.2.1 + (sh.length - 16) ∧ sh.take 16 = pm_sh0 L ∧ (∀ q j, q < 16 → hi q j = h0 q j ∧ hr q j = r0 q j) ∧ ∀ q k, 16 ≤ q → sh[q]? = some k → pm_kc E hr hi q k H
abbrev pm_Af (E : pm_E) : Nat → Prop := fun q => E.2.1 ≤ q
/-- what stays as it was at the start, said at a state -/
def pm_Cx (E : pm_E) (L : Nat) (r0 : pm_A) (h0 : pm_B) (U : State) : Prop :=
  (∀ ci r, pm_cl[ci]? = some r → u_Kn U r.1 r.2.1 r.2.2 (E.2.2.1 ci) (E.2.2.2.1 ci)) ∧
  (∀ ti, ti < 8 → ArrOfT U (E.2.2.2.2 ti) (pm_ty ti) ∧ va_RA U (E.2.2.2.2 ti) (pm_ty ti)) ∧
  (∀ q ti n, (pm_sh0 L)[q]? = some (2, ti, n) → ∃ a, E.1 q = .ref a ∧ va_T (pm_ty ti) a n (fun j => .int (h0 q j)) (pm_Af E) U U.heap) ∧
  (∀ q, (pm_sh0 L)[q]? = some (0, 11, 0) → ∃ a, E.1 q = .ref a ∧ va_O "java/lang/String" a (pm_Af E) U U.heap ∧ va_OF "java/lang/String" "coder" "B" (.int (h0 q 1)) a (pm_Af E) U U.heap ∧ va_OF "java/lang/String" "value" "[B" (E.1 (r0 q 0)) a (pm_Af E) U U.heap) ∧
  va_Z "EchoFolk$Kinds" "ABOVE" "[I" (E.1 2) (pm_Af E) U U.heap ∧ va_Z "java/lang/String" "COMPACT_STRINGS" "Z" (.int 1) (pm_Af E) U U.heap ∧ va_Z "jdk/internal/util/Preconditions" "SIOOBE_FORMATTER" "Ljava/util/function/BiFunction;" (E.1 15) (pm_Af E) U U.heap ∧
  (∀ i q, pm_strs[i]? = some q → ∃ a, E.1 (3 + i) = .ref a ∧ vk_R q.1 q.2.1 q.2.2 a U) ∧
  (va_Nw (.methodLinkNest "EchoFolk$Folk" 87 ⟨"EchoFolk", "held", "(III)I"⟩ "EchoFolk") U ∧ va_Nw (.methodLinkNest "EchoFolk$Saying" 28 ⟨"EchoFolk", "isWord", "(I)Z"⟩ "EchoFolk") U) ∧
  (va_AO "EchoFolk$Speaker" U ∧ va_AO "EchoFolk$Sheet" U ∧ va_AO "EchoFolk$Slot" U ∧ va_AO "EchoFolk$Text" U) ∧
  (∀ q, (E.1 q).isRef = true) ∧ (∀ q, 16 ≤ q → E.1 q = .ref (E.2.1 + (q - 16))) ∧ E.1 0 = .null
theorem pm_Cx.to {E : pm_E} {L : Nat} {r0 : pm_A} {h0 : pm_B} {u U : State} (h : pm_Cx E L r0 h0 u) (hvm : u.vm.Alike U.vm) (hq : ∀ a : Nat, a < u.heap.size → ¬ pm_Af E a → U.heap[a]? = u.heap[a]?)
    (hR : ∀ own k tx a, vk_R own k tx a u → vk_R own k tx a U) (hN : ∀ a i x y, va_Nw (.methodLinkNest a i x y) u → va_Nw (.methodLinkNest a i x y) U) : pm_Cx E L r0 h0 U := by
  obtain ⟨h1, h2, h3, h4, h5, h6, h7, h8, h9, h10, h11⟩ := h
  refine ⟨fun ci r hr => u_Kn_moved hvm (h1 ci r hr), fun ti ht => ⟨arrOfT_moved hvm (h2 ti ht).1, (h2 ti ht).2.moved hvm⟩, fun q ti n hs => ?_, fun q hs => ?_, (h5.moved hvm).kept hq, (h6.moved hvm).kept hq, (h7.moved hvm).kept hq, fun i q hs => ?_, ⟨hN _ _ _ _ h9.1, hN _ _ _ _ h9.2⟩, ⟨h10.1.moved hvm, h10.2.1.moved hvm, h10.2.2.1.moved hvm, h10.2.2.2.moved hvm⟩, h11⟩
  · obtain ⟨a, e, ht⟩ := h3 q ti n hs
    exact ⟨a, e, (ht.moved hvm).kept hq⟩
  · obtain ⟨a, e, a1, a2, a3⟩ := h4 q hs
    exact ⟨a, e, (a1.moved hvm).kept hq, (a2.moved hvm).kept hq, (a3.moved hvm).kept hq⟩
  · obtain ⟨a, e, ht⟩ := h8 i q hs
    exact ⟨a, e, hR _ _ _ _ ht⟩
theorem pm_Cx.warm {E : pm_E} {L : Nat} {r0 : pm_A} {h0 : pm_B} {u U : State} (h : pm_Cx E L r0 h0 u) (hW : u.WarmedH U.vm) (hq : ∀ a : Nat, a < u.heap.size → ¬ pm_Af E a → U.heap[a]? = u.heap[a]?) : pm_Cx E L r0 h0 U :=
  h.to hW.alike hq (fun _ _ _ _ x => x.warm hW) (fun _ _ _ _ x => x.warmM hW)
theorem pm_Cx.same {E : pm_E} {L : Nat} {r0 : pm_A} {h0 : pm_B} {u U : State} (h : pm_Cx E L r0 h0 u) (hv : U.vm = u.vm) (hh : U.heap = u.heap) : pm_Cx E L r0 h0 U :=
  h.to (by rw [hv]; exact Vm.Alike.refl _) (fun a _ _ => by rw [hh]) (fun _ _ _ _ x => x.same hv) (fun _ _ _ _ x => x.same rfl hv.symm)
theorem pm_R.len {E : pm_E} {L : Nat} {r0 : pm_A} {h0 : pm_B} {sh : pm_S} {hr : pm_A} {hi : pm_B} {H : Heap} (h : pm_R E L r0 h0 sh hr hi H) : 16 ≤ sh.length := by
  have h1 := congrArg List.length h.2.1
  rw [List.length_take] at h1
  have h2 : (pm_sh0 L).length = 16 := rfl
  omega
theorem pm_R.lo {E : pm_E} {L : Nat} {r0 : pm_A} {h0 : pm_B} {sh : pm_S} {hr : pm_A} {hi : pm_B} {H : Heap} (h : pm_R E L r0 h0 sh hr hi H) {q : Nat} (hq : q < 16) : sh[q]? = (pm_sh0 L)[q]? := by
  rw [← h.2.1, List.getElem?_take_of_lt hq]
/-- which of the cells that are there at the start -/
theorem pm_sh0_lt {L q : Nat} {k : pm_K} (h : (pm_sh0 L)[q]? = some k) : q < 16 := (List.getElem?_eq_some_iff.mp h).1
theorem pm_sh0_obj {L q a : Nat} (h : (pm_sh0 L)[q]? = some (0, a, 0)) (ha : a ≠ 99) : a = 11 := by
  have hq := pm_sh0_lt h
  unfold pm_sh0 at h
  match q, hq with
  | 0, _ => cases h; exact absurd rfl ha
  | 1, _ => cases h
  | 2, _ => cases h
  | 3, _ => cases h; rfl
  | 4, _ => cases h; rfl
  | 5, _ => cases h; rfl
  | 6, _ => cases h; rfl
  | 7, _ => cases h; rfl
  | 8, _ => cases h; rfl
  | 9, _ => cases h
  | 10, _ => cases h
  | 11, _ => cases h
  | 12, _ => cases h
  | 13, _ => cases h
  | 14, _ => cases h
  | 15, _ => cases h; exact absurd rfl ha
theorem pm_sh0_arr {L q t ti n : Nat} (h : (pm_sh0 L)[q]? = some (t + 1, ti, n)) : t = 1 := by
  have hq := pm_sh0_lt h
  unfold pm_sh0 at h
  match q, hq with
  | 0, _ => cases h
  | 1, _ => cases h; rfl
  | 2, _ => cases h; rfl
  | 3, _ => cases h
  | 4, _ => cases h
  | 5, _ => cases h
  | 6, _ => cases h
  | 7, _ => cases h
  | 8, _ => cases h
  | 9, _ => cases h; rfl
  | 10, _ => cases h; rfl
  | 11, _ => cases h; rfl
  | 12, _ => cases h; rfl
  | 13, _ => cases h; rfl
  | 14, _ => cases h; rfl
  | 15, _ => cases h
/-- an object of the own classes -/
theorem pm_R.obj {E : pm_E} {L : Nat} {r0 : pm_A} {h0 : pm_B} {sh : pm_S} {hr : pm_A} {hi : pm_B} {H : Heap} (h : pm_R E L r0 h0 sh hr hi H) {q a : Nat} (hs : sh[q]? = some (0, a, 0)) (ha : a ≠ 99) (hb : a ≠ 11) : 16 ≤ q ∧ ∃ r : vw_C, pm_cl[a]? = some r ∧ t_OB (E.2.1 + (q - 16)) (E.2.2.1 a) r.2.2 (E.2.2.2.1 a) H (pm_fv E.1 hr hi q a) := by
  by_cases hq : q < 16
  · rw [h.lo hq] at hs
    exact absurd (pm_sh0_obj hs ha) hb
  · exact ⟨by omega, h.2.2.2 q _ (by omega) hs⟩
/-- a text -/
theorem pm_R.str {E : pm_E} {L : Nat} {r0 : pm_A} {h0 : pm_B} {sh : pm_S} {hr : pm_A} {hi : pm_B} {H : Heap} (h : pm_R E L r0 h0 sh hr hi H) {q : Nat} (hs : sh[q]? = some (0, 11, 0)) : q < 16 ∧ (pm_sh0 L)[q]? = some (0, 11, 0) := by
  by_cases hq : q < 16
  · rw [h.lo hq] at hs
    exact ⟨hq, hs⟩
  · obtain ⟨r, hr, -⟩ := h.2.2.2 q _ (by omega) hs
    have h11 : pm_cl[11]? = none := rfl
    rw [h11] at hr
    cases hr
/-- an array: one that is made here, or one that was there -/
theorem pm_R.arr {E : pm_E} {L : Nat} {r0 : pm_A} {h0 : pm_B} {sh : pm_S} {hr : pm_A} {hi : pm_B} {H : Heap} (h : pm_R E L r0 h0 sh hr hi H) {q t ti n : Nat} (hs : sh[q]? = some (t + 1, ti, n)) :
    (16 ≤ q ∧ t = 0 ∧ ti < 8 ∧ n < 100000 ∧ H[E.2.1 + (q - 16)]? = some (arrV (E.2.2.2.2 ti) n (pm_ev E.1 hr hi q ti))) ∨ (q < 16 ∧ t = 1 ∧ (pm_sh0 L)[q]? = some (2, ti, n)) := by
  by_cases hq : q < 16
  · rw [h.lo hq] at hs
    have := pm_sh0_arr hs
    subst this
    exact Or.inr ⟨hq, rfl, hs⟩
  · have h1 := h.2.2.2 q _ (by omega) hs
    cases t with
    | zero => exact Or.inl ⟨by omega, rfl, h1⟩
    | succ t => exact h1.elim
/-! the locals -/
def pm_lv (vl : pm_N) (ls : pm_L) : List (Nat × Value) := (List.range ls.length).filterMap (fun j => match ls[j]? with
  | some (some v) => some (j, pm_vl vl v)
  | _ => none)
theorem pm_lv_mem {vl : pm_N} {ls : pm_L} {j : Nat} {w : Value} : (j, w) ∈ pm_lv vl ls ↔ ∃ v, ls[j]? = some (some v) ∧ w = pm_vl vl v := by
  unfold pm_lv
  rw [List.mem_filterMap]
  constructor
  · rintro ⟨i, -, h⟩
    split at h
    · rename_i v hv
      cases h
      exact ⟨v, hv, rfl⟩
    · cases h
  · rintro ⟨v, hv, rfl⟩
    refine ⟨j, List.mem_range.mpr (List.getElem?_eq_some_iff.mp hv).1, ?_⟩
    rw [hv]
def pm_LR (vl : pm_N) (nL : Nat) (ls : pm_L) (lsA : Array Slot) : Prop := ls.length = nL ∧ lv_has lsA nL (pm_lv vl ls)
theorem pm_LR.at {vl : pm_N} {nL : Nat} {ls : pm_L} {lsA : Array Slot} (h : pm_LR vl nL ls lsA) {j : Nat} {v : pm_V} (hv : ls[j]? = some (some v)) : lsA[j]? = some (.val (pm_vl vl v)) := h.2.2.2 (j, _) (pm_lv_mem.mpr ⟨v, hv, rfl⟩)
theorem pm_cat {vl : pm_N} (hvl : ∀ q, (vl q).isRef = true) (v : pm_V) : (pm_vl vl v).category = 1 := by
  cases v with
  | inl x => rfl
  | inr q =>
    show (vl q).category = 1
    have h := hvl q
    cases hq : vl q <;> rw [hq] at h <;> first | rfl | cases h
theorem pm_LR.set {vl : pm_N} (hvl : ∀ q, (vl q).isRef = true) {nL : Nat} {ls : pm_L} {lsA lsB : Array Slot} (h : pm_LR vl nL ls lsA) {i : Nat} {v : pm_V} (hB : lv_has lsB nL ((i, pm_vl vl v) :: (pm_lv vl ls).filter (fun q => !(q.1 == i) && !(q.1 + 1 == i && q.2.category == 2)))) : pm_LR vl nL (ls.set i (some v)) lsB := by
  refine ⟨by rw [List.length_set]; exact h.1, hB.1, hB.2.1, ?_⟩
  rintro ⟨j, w⟩ hj
  obtain ⟨u, hu, rfl⟩ := pm_lv_mem.mp hj
  apply hB.2.2
  by_cases hji : j = i
  · subst hji
    rw [List.getElem?_set] at hu
    split at hu
    · split at hu
      · cases hu
        exact List.mem_cons_self
      · cases hu
    · exact absurd rfl (by assumption)
  · rw [List.getElem?_set_ne (Ne.symm hji)] at hu
    refine List.mem_cons_of_mem _ (List.mem_filter.mpr ⟨pm_lv_mem.mpr ⟨u, hu, rfl⟩, ?_⟩)
    simp [hji, pm_cat hvl u]
/-- how many fields and elements -/
def pm_ks (k : pm_K) : Nat := match k with
  | (0, ci, _) => (pm_cl.map (fun r => r.2.2)).getD ci 0
  | (_, _, n) => n
def pm_sl (sh : pm_S) : Nat := (sh.map pm_ks).sum
