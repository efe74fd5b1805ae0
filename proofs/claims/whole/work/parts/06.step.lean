/-! ===== A ROW OF THE PLAIN MACHINE IS A STEP OF THE MACHINE: the check of a row against its bytes and the tables' words, and the steps ===== -/
/-- a word of the tables, at its place -/
def pm_w (a : Nat) (w : Cond) : Bool := decide (lw_tbl[a]? = some w) && goodWord w
theorem pm_w_in {a : Nat} {w : Cond} (h : pm_w a w = true) : w ∈ pm_ts := by
  unfold pm_w at h
  rw [Bool.and_eq_true, decide_eq_true_eq] at h
  exact pm_ts_in (List.mem_of_getElem? h.1) h.2
def pm_k_cst (own : String) (a : Nat) (c : Int32) (len : Nat) (ins : Instr) : Bool := match ins with
  | .iconst n => decide (Int32.ofInt n = c ∧ len = 1)
  | .bipush n => decide ((Int8.ofInt n).toInt32 = c ∧ len = 2)
  | .sipush n => decide ((Int16.ofInt n).toInt32 = c ∧ len = 3)
  | .ldc i => pm_w a (.constant own i c) && decide (len = 2)
  | .ldc_w i => pm_w a (.constant own i c) && decide (len = 3)
  | .getstatic i => pm_w a (.fieldLink own i "java/lang/String" "COMPACT_STRINGS" "Z") && decide (c = 1 ∧ len = 3)
  | _ => false
def pm_k_ref (own : String) (a b len : Nat) (ins : Instr) : Bool := match ins with
  | .ldc i => decide (3 ≤ a ∧ len = 2) && (match pm_strs[a - 3]? with
    | some q => decide (q.1 = own ∧ q.2.1 = i)
    | none => false)
  | .getstatic i => (decide (a = 2 ∧ len = 3) && pm_w b (.fieldLink own i "EchoFolk$Kinds" "ABOVE" "[I")) || (decide (a = 15 ∧ len = 3) && pm_w b (.fieldLink own i "jdk/internal/util/Preconditions" "SIOOBE_FORMATTER" "Ljava/util/function/BiFunction;"))
  | _ => false
/-- the switches: keys and targets, side by side -/
def pm_tsw (pc : Nat) : Int → List (Int32 × Nat) → List Int → Bool
  | _, [], [] => true
  | k, (x, t) :: l, o :: os => decide (x.toInt = k ∧ (pc : Int) + o = (t : Int)) && pm_tsw pc (k + 1) l os
  | _, _, _ => false
def pm_lsw (pc : Nat) : List (Int32 × Nat) → List (Int × Int) → Bool
  | [], [] => true
  | (x, t) :: l, (k, o) :: os => decide (x.toInt = k ∧ (pc : Int) + o = (t : Int)) && pm_lsw pc l os
  | _, _ => false
theorem pm_i32 {x y : Int32} (h : x.toInt = y.toInt) : x = y := Int32.toInt_inj.mp h
theorem pm_tsw_spec {pc a : Nat} {x : Int32} : ∀ (sw : List (Int32 × Nat)) (k : Int) (os : List Int), pm_tsw pc k sw os = true →
    ((x.toInt < k ∨ k + os.length ≤ x.toInt) → pm_sw x a sw = a) ∧ (k ≤ x.toInt → x.toInt < k + os.length → ∃ o, os[(x.toInt - k).toNat]? = some o ∧ (pc : Int) + o = (pm_sw x a sw : Nat))
  | [], k, [], _ => ⟨fun _ => rfl, fun h1 h2 => by simp at h2; omega⟩
  | [], k, _ :: _, h => by cases h
  | (y, t) :: l, k, [], h => by cases h
  | (y, t) :: l, k, o :: os, h => by
    unfold pm_tsw at h
    rw [Bool.and_eq_true, decide_eq_true_eq] at h
    obtain ⟨⟨h1, h2⟩, h3⟩ := h
    have ih := pm_tsw_spec l (k + 1) os h3 (a := a) (x := x)
    have hl : ((o :: os).length : Int) = (os.length : Int) + 1 := by simp
    unfold pm_sw
    by_cases hx : x = y
    · subst hx
      rw [if_pos rfl]
      refine ⟨fun h => by omega, fun _ _ => ⟨o, ?_, h2⟩⟩
      rw [show (x.toInt - k).toNat = 0 by omega]
      rfl
    · rw [if_neg hx]
      have hn : x.toInt ≠ k := fun e => hx (pm_i32 (e.trans h1.symm))
      refine ⟨fun h => ih.1 (by omega), fun g1 g2 => ?_⟩
      obtain ⟨o', g3, g4⟩ := ih.2 (by omega) (by omega)
      refine ⟨o', ?_, g4⟩
      rw [show (x.toInt - k).toNat = (x.toInt - (k + 1)).toNat + 1 by omega]
      exact g3
theorem pm_lsw_spec {pc a : Nat} {x : Int32} {d : Int} (hd : (pc : Int) + d = (a : Int)) : ∀ (sw : List (Int32 × Nat)) (os : List (Int × Int)), pm_lsw pc sw os = true → (pc : Int) + Op.lookupswitch.offset os d x.toInt = (pm_sw x a sw : Nat)
  | [], [], _ => hd
  | [], _ :: _, h => by cases h
  | _ :: _, [], h => by cases h
  | (y, t) :: l, (k, o) :: os, h => by
    unfold pm_lsw at h
    rw [Bool.and_eq_true, decide_eq_true_eq] at h
    obtain ⟨⟨h1, h2⟩, h3⟩ := h
    unfold pm_sw
    rw [Op.lookupswitch.offset_cons]
    by_cases hx : x = y
    · subst hx
      rw [if_pos rfl, if_pos (by first | exact h1.symm | exact h1)]
      exact h2
    · rw [if_neg hx, if_neg (fun e => hx (pm_i32 (by first | exact (h1.trans e).symm | exact (h1.trans e.symm).symm)))]
      exact pm_lsw_spec hd l os h3
def pm_k_sw (pc a : Nat) (sw : List (Int32 × Nat)) (len : Nat) (ins : Instr) : Bool := match ins with
  | .tableswitch d lo hi os => decide ((pc : Int) + d = (a : Int) ∧ hi = lo + os.size - 1) && pm_tsw pc lo sw os.toList
  | .lookupswitch d ps => decide ((pc : Int) + d = (a : Int)) && (ps.toList.zip (ps.toList.drop 1)).all (fun (a, next) => a.1 < next.1) && pm_lsw pc sw ps.toList
  | _ => false
def pm_k_gf (own : String) (f a b : Nat) (sw : List (Int32 × Nat)) (len : Nat) (ins : Instr) : Bool := match ins, sw with
  | .getfield i, [z] => decide (len = 3) && (match pm_cl[a]? with
    | some r => decide (b < r.2.2 ∧ pm_fk a b = f ∧ a < 11) && pm_w z.2 (.fieldLink own i (r.2.1 b).1 (r.2.1 b).2.1 (r.2.1 b).2.2.1)
    | none => decide (a = 11) && ((decide (b = 0 ∧ f = 1) && pm_w z.2 (.fieldLink own i "java/lang/String" "value" "[B")) || (decide (b = 1 ∧ f = 0) && pm_w z.2 (.fieldLink own i "java/lang/String" "coder" "B"))))
  | _, _ => false
def pm_k_pf (own nm : String) (f a b : Nat) (c : Int32) (sw : List (Int32 × Nat)) (len : Nat) (ins : Instr) : Bool := match ins, sw with
  | .putfield i, [z] => decide (len = 3) && (match pm_cl[a]? with
    | some r => decide (b < r.2.2 ∧ pm_fk a b = f ∧ a < 11) && pm_w z.2 (.fieldLink own i (r.2.1 b).1 (r.2.1 b).2.1 (r.2.1 b).2.2.1) && (decide ((r.2.1 b).2.2.2 = false) || decide ((r.2.1 b).2.2.2 = true ∧ nm = "<init>" ∧ (r.2.1 b).1 = own)) && (decide (f ≠ 0) || decide (pm_fty a b = .int ∧ c = 0) || decide (pm_fty a b = .boolean ∧ c = 3))
    | none => false)
  | _, _ => false
def pm_k_new (own : String) (a b len : Nat) (ins : Instr) : Bool := match ins with
  | .new i => decide (len = 3 ∧ a < 11) && (match pm_cl[a]? with
    | some r => pm_w b (.classLink own i r.1)
    | none => false)
  | _ => false
def pm_k_newa (own : String) (a b len : Nat) (ins : Instr) : Bool := match ins with
  | .newarray .int => decide (a = 0 ∧ len = 2) && pm_w b (.arrayClass .int)
  | .newarray .char => decide (a = 2 ∧ len = 2) && pm_w b (.arrayClass .char)
  | .newarray .boolean => decide (a = 3 ∧ len = 2) && pm_w b (.arrayClass .boolean)
  | .anewarray i => decide (4 ≤ a ∧ a < 8 ∧ len = 3) && (match pm_ty a with
    | .object C => pm_w b (.classLink own i C)
    | _ => false)
  | _ => false
/-- a method: its name, bytes, most locals, what it returns; the places of its words: code, initialized, static or instanceMethod, selects; whether it is static -/
abbrev pm_M : Type := MethodName × ByteArray × Nat × Option FieldType × Nat × Nat × Nat × Nat × Bool
def pm_rk (ret : Option FieldType) : Nat := match ret with
  | none => 0
  | some t => if t.isReference then 2 else 1
def pm_k_inv (MI : Nat → Option pm_M) (own : String) (k a b : Nat) (c : Int32) (sw : List (Int32 × Nat)) (len : Nat) (ins : Instr) : Bool := match MI a with
  | none => false
  | some (y, _, _, ret, _, _, _, _, st) => decide (len = 3 ∧ pm_rk ret = k) && (match ins with
    | .invokestatic i => st && decide (sw = [] ∧ (parseMethodDescriptor y.desc).map (fun d => d.parameters.length) = some b) && (pm_w c.toNatClampNeg (.methodLink own i y) || (decide (own = "EchoFolk$Folk" ∧ i = 87 ∧ y = ⟨"EchoFolk", "held", "(III)I"⟩) || decide (own = "EchoFolk$Saying" ∧ i = 28 ∧ y = ⟨"EchoFolk", "isWord", "(I)Z"⟩)))
    | .invokevirtual i => !st && decide (y.name ≠ "<init>" ∧ (parseMethodDescriptor y.desc).map (fun d => d.parameters.length + 1) = some b) && pm_w c.toNatClampNeg (.methodLink own i y) && (match sw with
      | [z] => (match pm_cl[z.2]? with
        | some r => decide (r.1 = y.cls ∧ z.2 < 11)
        | none => decide (z.2 = 11 ∧ y.cls = "java/lang/String"))
      | _ => false)
    | .invokespecial i => !st && decide (y.name = "<init>" ∧ (parseMethodDescriptor y.desc).map (fun d => d.parameters.length + 1) = some b) && pm_w c.toNatClampNeg (.methodLink own i y) && (match sw with
      | [z] => (match pm_cl[z.2]? with
        | some r => decide (r.1 = y.cls ∧ z.2 < 11)
        | none => false)
      | _ => false)
    | _ => false)
/-- the check of a row -/
def pm_okb (MI : Nat → Option pm_M) (own nm : String) (ret : Option FieldType) (cc : ByteArray) (pc : Nat) (r : pm_I) : Bool := match decode cc pc with
  | .error _ => false
  | .ok (ins, n) => match r with
    | (op, len, a, b, c, sw) => decide (n = len) && (match op with
      | .iload j => decide (ins = .iload j ∧ len = 2) || decide (j < 4 ∧ ins = .iload_n (Fin.ofNat 4 j) ∧ len = 1)
      | .aload j => decide (ins = .aload j ∧ len = 2) || decide (j < 4 ∧ ins = .aload_n (Fin.ofNat 4 j) ∧ len = 1)
      | .istore j => decide (ins = .istore j ∧ len = 2) || decide (j < 4 ∧ ins = .istore_n (Fin.ofNat 4 j) ∧ len = 1)
      | .astore j => decide (ins = .astore j ∧ len = 2) || decide (j < 4 ∧ ins = .astore_n (Fin.ofNat 4 j) ∧ len = 1)
      | .iinc j _ => (match ins with
        | .iinc i n => decide (i = j ∧ Int32.ofInt n = c ∧ len = 3)
        | _ => false)
      | .ldc _ => pm_k_cst own a c len ins
      | .ldc_w _ => pm_k_ref own a b len ins
      | .dup => decide (ins = .dup ∧ len = 1)
      | .dup2 => decide (ins = .dup2 ∧ len = 1)
      | .pop => decide (ins = .pop ∧ len = 1)
      | .ladd => (match ins with
        | .invokestatic i => decide (len = 3) && pm_w a (.methodLink own i Lib.Math.max.name)
        | _ => false)
      | .lsub => (match ins with
        | .invokestatic i => decide (len = 3) && pm_w a (.methodLink own i Lib.Math.min.name)
        | _ => false)
      | .nop => (match ins with
        | .invokespecial i => decide (len = 3 ∧ b < 11) && pm_w a (.methodLink own i objectInit)
        | _ => false)
      | .iadd => decide (ins = .iadd ∧ len = 1)
      | .isub => decide (ins = .isub ∧ len = 1)
      | .imul => decide (ins = .imul ∧ len = 1)
      | .iand => decide (ins = .iand ∧ len = 1)
      | .ior => decide (ins = .ior ∧ len = 1)
      | .ixor => decide (ins = .ixor ∧ len = 1)
      | .idiv => decide (ins = .idiv ∧ len = 1)
      | .irem => decide (ins = .irem ∧ len = 1)
      | .ineg => decide (ins = .ineg ∧ len = 1)
      | .ishl => decide (ins = .ishl ∧ len = 1)
      | .ishr => decide (ins = .ishr ∧ len = 1)
      | .iushr => decide (ins = .iushr ∧ len = 1)
      | .i2s => decide (ins = .i2s ∧ len = 1)
      | .i2b => decide (ins = .i2b ∧ len = 1)
      | .i2c => decide (ins = .i2c ∧ len = 1)
      | .ifCond cd _ => (match ins with
        | .ifCond cd' off => decide (cd' = cd ∧ (pc : Int) + off = (a : Int) ∧ len = 3)
        | _ => false)
      | .if_icmp cd _ => (match ins with
        | .if_icmp cd' off => decide (cd' = cd ∧ (pc : Int) + off = (a : Int) ∧ len = 3)
        | _ => false)
      | .goto _ => (match ins with
        | .goto off => decide ((pc : Int) + off = (a : Int) ∧ len = 3)
        | _ => false)
      | .lookupswitch _ _ => pm_k_sw pc a sw len ins
      | .getfield f => pm_k_gf own f a b sw len ins
      | .putfield f => pm_k_pf own nm f a b c sw len ins
      | .iaload => decide (len = 1) && (decide (ins = .iaload ∧ a = 0) || decide (ins = .baload ∧ a = 1) || decide (ins = .caload ∧ a = 2) || decide (ins = .baload ∧ a = 3))
      | .aaload => decide (ins = .aaload ∧ len = 1 ∧ 4 ≤ a ∧ a < 8)
      | .iastore => decide (len = 1) && (decide (ins = .iastore ∧ a = 0) || decide (ins = .castore ∧ a = 2) || decide (ins = .bastore ∧ a = 3))
      | .aastore => decide (ins = .aastore ∧ len = 1 ∧ 4 ≤ a ∧ a < 8 ∧ b < 11) && (match pm_cl[b]? with
        | some r => decide (pm_ty a = .object r.1)
        | none => false)
      | .arraylength => decide (ins = .arraylength ∧ len = 1)
      | .newarray _ => pm_k_newa own a b len ins
      | .new _ => pm_k_new own a b len ins
      | .invokestatic k => pm_k_inv MI own k a b c sw len ins
      | .swap => (match ins with
        | .invokestatic i => decide (len = 3) && pm_w a (.methodLink own i arraycopyName)
        | _ => false)
      | .ireturn => decide (ins = .ireturn ∧ len = 1 ∧ ((ret = some .int ∧ a = 0) ∨ (ret = some .byte ∧ a = 1) ∨ (ret = some .char ∧ a = 2) ∨ (ret = some .boolean ∧ a = 3)))
      | .areturn => decide (ins = .areturn ∧ len = 1) && (match ret with
        | some t => t.isReference
        | none => false)
      | .return_ => decide (ins = .return_ ∧ len = 1 ∧ ret = none)
      | _ => false)
