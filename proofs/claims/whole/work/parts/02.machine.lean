/-! ===== THE PLAIN MACHINE: a method's rows run over a plain heap (a list of kinds, numbers, references as cell numbers); what it comes to, the Java machine comes to (part 05) ===== -/
abbrev pm_V : Type := Int32 ⊕ Nat
abbrev pm_K : Type := Nat × Nat × Nat
abbrev pm_S : Type := List pm_K
abbrev pm_A : Type := Nat → Nat → Nat
abbrev pm_B : Type := Nat → Nat → Int32
abbrev pm_L : Type := List (Option pm_V)
abbrev pm_I : Type := Instr × Nat × Nat × Nat × Int32 × List (Int32 × Nat)
abbrev pm_O : Type := Option (Option pm_V × pm_S × pm_A × pm_B)
abbrev pm_P : Type := Option pm_V → pm_S → pm_A → pm_B → Prop
abbrev pm_T : Type := List (List (Nat × pm_I))
def pm_u {α : Type} (f : Nat → Nat → α) (q j : Nat) (v : α) : Nat → Nat → α := fun a b => if a = q ∧ b = j then v else f a b
def pm_z {α : Type} (f : Nat → Nat → α) (q : Nat) (v : α) : Nat → Nat → α := fun a b => if a = q then v else f a b
def pm_cp (f : pm_B) (q sp d dp n : Nat) : pm_B := fun a b => if a = d ∧ dp ≤ b ∧ b < dp + n then f q (sp + (b - dp)) else f a b
/-- a row of a table -/
def pm_at (t : pm_T) (pc : Nat) : Option pm_I := (t.getD (pc / 32) []).lookup pc
def pm_sw (x : Int32) (d : Nat) : List (Int32 × Nat) → Nat
  | [] => d
  | (k, t) :: l => if x = k then t else pm_sw x d l
def pm_cd (cd : ClassFile.Cond) (x y : Int32) : Prop := match cd with
  | .eq => x = y
  | .ne => ¬ x = y
  | .lt => x < y
  | .ge => y ≤ x
  | .gt => y < x
  | .le => x ≤ y
def pm_cb (cd : ClassFile.Cond) (x y : Int32) : Bool := match cd with
  | .eq => decide (x = y)
  | .ne => decide (¬ x = y)
  | .lt => decide (x < y)
  | .ge => decide (y ≤ x)
  | .gt => decide (y < x)
  | .le => decide (x ≤ y)
theorem pm_cb_iff (cd : ClassFile.Cond) (x y : Int32) : pm_cb cd x y = true ↔ pm_cd cd x y := by
  cases cd <;> simp [pm_cb, pm_cd]
/-- a place of an array of kind ti that can be read; that can be written -/
def pm_ao (sh : pm_S) (q ti : Nat) (i : Int32) : Prop := ∃ t n, sh[q]? = some (t + 1, ti, n) ∧ ¬ i < 0 ∧ i.toNatClampNeg < n
def pm_aw (sh : pm_S) (q ti : Nat) (i : Int32) : Prop := ∃ n, sh[q]? = some (1, ti, n) ∧ ¬ i < 0 ∧ i.toNatClampNeg < n
def pm_aob (sh : pm_S) (q ti : Nat) (i : Int32) : Bool := match sh[q]? with
  | some (_ + 1, tj, n) => tj == ti && !decide (i < 0) && Nat.blt i.toNatClampNeg n
  | _ => false
def pm_awb (sh : pm_S) (q ti : Nat) (i : Int32) : Bool := match sh[q]? with
  | some (1, tj, n) => tj == ti && !decide (i < 0) && Nat.blt i.toNatClampNeg n
  | _ => false
theorem pm_aob_iff {sh : pm_S} {q ti : Nat} {i : Int32} : pm_aob sh q ti i = true ↔ pm_ao sh q ti i := by
  unfold pm_aob pm_ao
  constructor
  · intro h
    split at h
    · rename_i t tj n he
      simp only [Bool.and_eq_true, beq_iff_eq, Bool.not_eq_true', decide_eq_false_iff_not, Nat.blt_eq] at h
      exact ⟨t, n, by rw [he, h.1.1], h.1.2, h.2⟩
    · cases h
  · rintro ⟨t, n, he, h1, h2⟩
    simp [he, h1, h2]
theorem pm_awb_iff {sh : pm_S} {q ti : Nat} {i : Int32} : pm_awb sh q ti i = true ↔ pm_aw sh q ti i := by
  unfold pm_awb pm_aw
  constructor
  · intro h
    split at h
    · rename_i tj n he
      simp only [Bool.and_eq_true, beq_iff_eq, Bool.not_eq_true', decide_eq_false_iff_not, Nat.blt_eq] at h
      exact ⟨n, by rw [he, h.1.1], h.1.2, h.2⟩
    · cases h
  · rintro ⟨n, he, h1, h2⟩
    simp [he, h1, h2]
/-- which numbers a place of a type may hold: 0 int, 1 byte, 2 char, 3 boolean -/
def pm_fit (t : Nat) (x : Int32) : Prop := match t with
  | 0 => True
  | 1 => x.toInt8.toInt32 = x
  | 2 => (x.toUInt32 % 65536).toInt32 = x
  | _ => x = 0 ∨ x = 1
def pm_fib (t : Nat) (x : Int32) : Bool := match t with
  | 0 => true
  | 1 => decide (x.toInt8.toInt32 = x)
  | 2 => decide ((x.toUInt32 % 65536).toInt32 = x)
  | _ => decide (x = 0 ∨ x = 1)
theorem pm_fib_iff {t : Nat} {x : Int32} : pm_fib t x = true ↔ pm_fit t x := by
  unfold pm_fib pm_fit
  split <;> simp
/-- an array of kind ti, its length n -/
def pm_len (sh : pm_S) (q n : Nat) : Prop := ∃ t ti, sh[q]? = some (t + 1, ti, n)
def pm_rcv (sh : pm_S) (ci : Nat) : List pm_V → Bool
  | .inr q :: _ => decide (sh[q]? = some (0, ci, 0))
  | _ => false
def pm_cpy (sh : pm_S) (q d : Nat) (sp dp n : Int32) : Prop := ∃ m1 m2, sh[q]? = some (1, 0, m1) ∧ sh[d]? = some (1, 0, m2) ∧ ¬ sp < 0 ∧ ¬ dp < 0 ∧ ¬ n < 0 ∧ sp.toNatClampNeg + n.toNatClampNeg ≤ m1 ∧ dp.toNatClampNeg + n.toNatClampNeg ≤ m2
def pm_cpb (sh : pm_S) (q d : Nat) (sp dp n : Int32) : Bool := match sh[q]?, sh[d]? with
  | some (1, 0, m1), some (1, 0, m2) => decide (¬ sp < 0 ∧ ¬ dp < 0 ∧ ¬ n < 0 ∧ sp.toNatClampNeg + n.toNatClampNeg ≤ m1 ∧ dp.toNatClampNeg + n.toNatClampNeg ≤ m2)
  | _, _ => false
theorem pm_cpb_iff {sh : pm_S} {q d : Nat} {sp dp n : Int32} : pm_cpb sh q d sp dp n = true ↔ pm_cpy sh q d sp dp n := by
  unfold pm_cpb pm_cpy
  constructor
  · intro h
    split at h
    · rename_i m1 m2 h1 h2
      exact ⟨m1, m2, h1, h2, of_decide_eq_true h⟩
    · cases h
  · rintro ⟨m1, m2, h1, h2, h⟩
    simp only [h1, h2]
    exact decide_eq_true h
/-- one row: k goes on, call calls -/
def pm_step (call : Nat → List pm_V → pm_S → pm_A → pm_B → pm_O) (k : Nat → pm_L → List pm_V → pm_S → pm_A → pm_B → pm_O) (r : pm_I) (pc : Nat) (ls : pm_L) (st : List pm_V) (sh : pm_S) (hr : pm_A) (hi : pm_B) : pm_O :=
  match r with
  | (op, len, a, b, c, sw) => match op, st with
    | .iload j, st => (match ls[j]? with | some (some (.inl x)) => k (pc + len) ls (.inl x :: st) sh hr hi | _ => none)
    | .aload j, st => (match ls[j]? with | some (some (.inr x)) => k (pc + len) ls (.inr x :: st) sh hr hi | _ => none)
    | .istore j, .inl x :: st => if j < ls.length then k (pc + len) (ls.set j (some (.inl x))) st sh hr hi else none
    | .astore j, .inr x :: st => if j < ls.length then k (pc + len) (ls.set j (some (.inr x))) st sh hr hi else none
    | .iinc j _, st => (match ls[j]? with | some (some (.inl x)) => k (pc + len) (ls.set j (some (.inl (x + c)))) st sh hr hi | _ => none)
    | .ldc _, st => k (pc + len) ls (.inl c :: st) sh hr hi
    | .ldc_w _, st => k (pc + len) ls (.inr a :: st) sh hr hi
    | .dup, v :: st => k (pc + len) ls (v :: v :: st) sh hr hi
    | .dup2, v :: w :: st => k (pc + len) ls (v :: w :: v :: w :: st) sh hr hi
    | .pop, v :: st => k (pc + len) ls st sh hr hi
    | .iadd, .inl y :: .inl x :: st => k (pc + len) ls (.inl (x + y) :: st) sh hr hi
    | .isub, .inl y :: .inl x :: st => k (pc + len) ls (.inl (x - y) :: st) sh hr hi
    | .imul, .inl y :: .inl x :: st => k (pc + len) ls (.inl (x * y) :: st) sh hr hi
    | .iand, .inl y :: .inl x :: st => k (pc + len) ls (.inl (x &&& y) :: st) sh hr hi
    | .ior, .inl y :: .inl x :: st => k (pc + len) ls (.inl (x ||| y) :: st) sh hr hi
    | .ixor, .inl y :: .inl x :: st => k (pc + len) ls (.inl (x ^^^ y) :: st) sh hr hi
    | .idiv, .inl y :: .inl x :: st => if y = 0 then none else k (pc + len) ls (.inl (x / y) :: st) sh hr hi
    | .irem, .inl y :: .inl x :: st => if y = 0 then none else k (pc + len) ls (.inl (x - x / y * y) :: st) sh hr hi
    | .ineg, .inl x :: st => k (pc + len) ls (.inl (-x) :: st) sh hr hi
    | .ishl, .inl y :: .inl x :: st => k (pc + len) ls (.inl (x <<< (y &&& 31)) :: st) sh hr hi
    | .ishr, .inl y :: .inl x :: st => k (pc + len) ls (.inl (x >>> (y &&& 31)) :: st) sh hr hi
    | .iushr, .inl y :: .inl x :: st => k (pc + len) ls (.inl ((x.toUInt32 >>> (y.toUInt32 &&& Int32.toUInt32 31)).toInt32) :: st) sh hr hi
    | .i2s, .inl x :: st => k (pc + len) ls (.inl x.toInt16.toInt32 :: st) sh hr hi
    | .i2b, .inl x :: st => k (pc + len) ls (.inl x.toInt8.toInt32 :: st) sh hr hi
    | .i2c, .inl x :: st => k (pc + len) ls (.inl (x.toUInt32 % 65536).toInt32 :: st) sh hr hi
    | .ifCond cd _, .inl x :: st => if pm_cb cd x 0 then k a ls st sh hr hi else k (pc + len) ls st sh hr hi
    | .if_icmp cd _, .inl y :: .inl x :: st => if pm_cb cd x y then k a ls st sh hr hi else k (pc + len) ls st sh hr hi
    | .goto _, st => k a ls st sh hr hi
    | .lookupswitch _ _, .inl x :: st => k (pm_sw x a sw) ls st sh hr hi
    | .getfield 0, .inr q :: st => if sh[q]? = some (0, a, 0) then k (pc + len) ls (.inl (hi q b) :: st) sh hr hi else none
    | .getfield 1, .inr q :: st => if sh[q]? = some (0, a, 0) then k (pc + len) ls (.inr (hr q b) :: st) sh hr hi else none
    | .getfield _, .inr q :: st => if sh[q]? = some (0, a, 0) then k (pc + len) ls (.inr (hi q b).toNatClampNeg :: st) sh hr hi else none
    | .putfield 0, .inl v :: .inr q :: st => if sh[q]? = some (0, a, 0) ∧ pm_fib c.toNatClampNeg v = true then k (pc + len) ls st sh hr (pm_u hi q b v) else none
    | .putfield 1, .inr v :: .inr q :: st => if sh[q]? = some (0, a, 0) then k (pc + len) ls st sh (pm_u hr q b v) hi else none
    | .putfield 2, .inr v :: .inr q :: st => if sh[q]? = some (0, a, 0) ∧ v < 2147483648 then k (pc + len) ls st sh hr (pm_u hi q b (nI v)) else none
    | .iaload, .inl i :: .inr q :: st => if pm_aob sh q a i then k (pc + len) ls (.inl (hi q i.toNatClampNeg) :: st) sh hr hi else none
    | .aaload, .inl i :: .inr q :: st => if pm_aob sh q a i then k (pc + len) ls (.inr (hr q i.toNatClampNeg) :: st) sh hr hi else none
    | .iastore, .inl v :: .inl i :: .inr q :: st => if pm_awb sh q a i = true ∧ pm_fib a v = true then k (pc + len) ls st sh hr (pm_u hi q i.toNatClampNeg v) else none
    | .aastore, .inr v :: .inl i :: .inr q :: st => if pm_awb sh q a i = true ∧ sh[v]? = some (0, b, 0) then k (pc + len) ls st sh (pm_u hr q i.toNatClampNeg v) hi else none
    | .arraylength, .inr q :: st => (match sh[q]? with | some (_ + 1, _, n) => k (pc + len) ls (.inl (nI n) :: st) sh hr hi | _ => none)
    | .newarray _, .inl n :: st => if n < 0 ∨ 100000 ≤ n.toNatClampNeg then none else k (pc + len) ls (.inr sh.length :: st) (sh ++ [(1, a, n.toNatClampNeg)]) (pm_z hr sh.length 0) (pm_z hi sh.length 0)
    | .new _, st => k (pc + len) ls (.inr sh.length :: st) (sh ++ [(0, a, 0)]) (pm_z hr sh.length 0) (pm_z hi sh.length 0)
    | .invokestatic _, st => if b ≤ st.length ∧ (st.drop b).length ≤ 8 ∧ (sw.all fun z => pm_rcv sh z.2 (st.take b).reverse) = true then (match call a (st.take b).reverse sh hr hi with
        | none => none
        | some (v, sh', hr', hi') => k (pc + len) ls (v.toList ++ st.drop b) sh' hr' hi') else none
    | .swap, .inl n :: .inl dp :: .inr d :: .inl sp :: .inr q :: st => if pm_cpb sh q d sp dp n = true ∧ st.length ≤ 8 then k (pc + len) ls st sh hr (pm_cp hi q sp.toNatClampNeg d dp.toNatClampNeg n.toNatClampNeg) else none
    | .ireturn, [.inl v] => if pm_fib a v then some (some (.inl v), sh, hr, hi) else none
    | .areturn, [.inr v] => some (some (.inr v), sh, hr, hi)
    | .return_, [] => some (none, sh, hr, hi)
    | .ladd, .inl y :: .inl x :: st => if st.length ≤ 8 then k (pc + len) ls (.inl (if x < y then y else x) :: st) sh hr hi else none
    | .lsub, .inl y :: .inl x :: st => if st.length ≤ 8 then k (pc + len) ls (.inl (if y < x then y else x) :: st) sh hr hi else none
    | .nop, .inr q :: st => if sh[q]? = some (0, b, 0) ∧ st.length ≤ 8 then k (pc + len) ls st sh hr hi else none
    | _, _ => none
def pm_exec (call : Nat → List pm_V → pm_S → pm_A → pm_B → pm_O) (t : pm_T) : Nat → Nat → pm_L → List pm_V → pm_S → pm_A → pm_B → pm_O
  | 0, _, _, _, _, _, _ => none
  | n + 1, pc, ls, st, sh, hr, hi => match pm_at t pc with
    | none => none
    | some r => pm_step call (pm_exec call t n) r pc ls st sh hr hi
/-- a method's locals at its entry -/
def pm_ent (maxL : Nat) (args : List pm_V) : pm_L := args.map some ++ List.replicate (maxL - args.length) none
/-- a program: method number to its most locals and its rows -/
abbrev pm_G : Type := Nat → Option (Nat × pm_T)
def pm_call (G : pm_G) (N : Nat) : Nat → Nat → List pm_V → pm_S → pm_A → pm_B → pm_O
  | 0, _, _, _, _, _ => none
  | d + 1, m, args, sh, hr, hi => match G m with
    | none => none
    | some (maxL, t) => if args.length ≤ maxL then pm_exec (pm_call G N d) t N 0 (pm_ent maxL args) [] sh hr hi else none
