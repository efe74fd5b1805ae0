/-! ===== what a run needs, as a statement (pm_vs, pm_vc), and that it suffices ===== -/
theorem pm_step_mono {c1 c2 : Nat → List pm_V → pm_S → pm_A → pm_B → pm_O} {k1 k2 : Nat → pm_L → List pm_V → pm_S → pm_A → pm_B → pm_O} (hc : ∀ m a sh hr hi r, c1 m a sh hr hi = some r → c2 m a sh hr hi = some r) (hk : ∀ pc ls st sh hr hi r, k1 pc ls st sh hr hi = some r → k2 pc ls st sh hr hi = some r)
    {r : pm_I} {pc : Nat} {ls : pm_L} {st : List pm_V} {sh : pm_S} {hr : pm_A} {hi : pm_B} {o : Option pm_V × pm_S × pm_A × pm_B} (h : pm_step c1 k1 r pc ls st sh hr hi = some o) : pm_step c2 k2 r pc ls st sh hr hi = some o := by
  obtain ⟨op, len, a, b, c, sw⟩ := r
  unfold pm_step at h ⊢
  dsimp only at h ⊢
  split at h <;> dsimp only at h ⊢
  all_goals first
    | exact hk _ _ _ _ _ _ _ h
    | exact h
    | (cases h; done)
    | (split at h
       · first | exact hk _ _ _ _ _ _ _ h | exact h | (cases h; done)
       · first | exact hk _ _ _ _ _ _ _ h | exact h | (cases h; done))
    | (split at h
       · rename_i hq
         rw [if_pos hq]
         split at h
         · cases h
         · rename_i v' sh' hr' hi' hcall
           rw [hc _ _ _ _ _ _ hcall]
           exact hk _ _ _ _ _ _ _ h
       · cases h)
theorem pm_exec_mono {c1 c2 : Nat → List pm_V → pm_S → pm_A → pm_B → pm_O} (hc : ∀ m a sh hr hi r, c1 m a sh hr hi = some r → c2 m a sh hr hi = some r) (t : pm_T) : ∀ (n n' : Nat), n ≤ n' → ∀ pc ls st sh hr hi r, pm_exec c1 t n pc ls st sh hr hi = some r → pm_exec c2 t n' pc ls st sh hr hi = some r
  | 0, _, _, pc, ls, st, sh, hr, hi, r, h => by cases h
  | n + 1, 0, hn, pc, ls, st, sh, hr, hi, r, h => by omega
  | n + 1, n' + 1, hn, pc, ls, st, sh, hr, hi, r, h => by
    unfold pm_exec at h ⊢
    split at h
    · cases h
    · rename_i row he
      rw [he]
      exact pm_step_mono hc (pm_exec_mono hc t n n' (by omega)) h
theorem pm_call_mono (G : pm_G) {N N' : Nat} (hN : N ≤ N') : ∀ (d d' : Nat), d ≤ d' → ∀ m a sh hr hi r, pm_call G N d m a sh hr hi = some r → pm_call G N' d' m a sh hr hi = some r
  | 0, _, _, m, a, sh, hr, hi, r, h => by cases h
  | d + 1, 0, hd, m, a, sh, hr, hi, r, h => by omega
  | d + 1, d' + 1, hd, m, a, sh, hr, hi, r, h => by
    unfold pm_call at h ⊢
    split at h
    · cases h
    · rename_i maxL t he
      rw [he]
      dsimp only
      split at h
      · rename_i hl
        rw [if_pos hl]
        exact pm_exec_mono (pm_call_mono G hN d d' (by omega)) t N N' hN _ _ _ _ _ _ _ h
      · cases h
/-- from a place of a method: it ends, with Q -/
def pm_W (G : pm_G) (d : Nat) (t : pm_T) (pc : Nat) (ls : pm_L) (st : List pm_V) (sh : pm_S) (hr : pm_A) (hi : pm_B) (Q : pm_P) : Prop := ∃ (N : Nat) (v : Option pm_V) (sh' : pm_S) (hr' : pm_A) (hi' : pm_B), pm_exec (pm_call G N d) t N pc ls st sh hr hi = some (v, sh', hr', hi') ∧ Q v sh' hr' hi'
/-- a call: it ends, with Q -/
def pm_C (G : pm_G) (d m : Nat) (args : List pm_V) (sh : pm_S) (hr : pm_A) (hi : pm_B) (Q : pm_P) : Prop := ∃ (N : Nat) (v : Option pm_V) (sh' : pm_S) (hr' : pm_A) (hi' : pm_B), pm_call G N d m args sh hr hi = some (v, sh', hr', hi') ∧ Q v sh' hr' hi'
def pm_rc (sh : pm_S) (sw : List (Int32 × Nat)) (args : List pm_V) : Prop := match sw, args with
  | [], _ => True
  | [z], .inr q :: _ => sh[q]? = some (0, z.2, 0)
  | _, _ => False
def pm_vs (C : Nat → List pm_V → pm_S → pm_A → pm_B → pm_P → Prop) (K : Nat → pm_L → List pm_V → pm_S → pm_A → pm_B → Prop) (Q : pm_P) (r : pm_I) (pc : Nat) (ls : pm_L) (st : List pm_V) (sh : pm_S) (hr : pm_A) (hi : pm_B) : Prop :=
  match r with
  | (op, len, a, b, c, sw) => match op, st with
    | .iload j, st => (match ls[j]? with | some (some (.inl x)) => K (pc + len) ls (.inl x :: st) sh hr hi | _ => False)
    | .aload j, st => (match ls[j]? with | some (some (.inr x)) => K (pc + len) ls (.inr x :: st) sh hr hi | _ => False)
    | .istore j, .inl x :: st => bif Nat.blt j ls.length then K (pc + len) (ls.set j (some (.inl x))) st sh hr hi else False
    | .astore j, .inr x :: st => bif Nat.blt j ls.length then K (pc + len) (ls.set j (some (.inr x))) st sh hr hi else False
    | .iinc j _, st => (match ls[j]? with | some (some (.inl x)) => K (pc + len) (ls.set j (some (.inl (x + c)))) st sh hr hi | _ => False)
    | .ldc _, st => K (pc + len) ls (.inl c :: st) sh hr hi
    | .ldc_w _, st => K (pc + len) ls (.inr a :: st) sh hr hi
    | .dup, v :: st => K (pc + len) ls (v :: v :: st) sh hr hi
    | .dup2, v :: w :: st => K (pc + len) ls (v :: w :: v :: w :: st) sh hr hi
    | .pop, v :: st => K (pc + len) ls st sh hr hi
    | .iadd, .inl y :: .inl x :: st => K (pc + len) ls (.inl (x + y) :: st) sh hr hi
    | .isub, .inl y :: .inl x :: st => K (pc + len) ls (.inl (x - y) :: st) sh hr hi
    | .imul, .inl y :: .inl x :: st => K (pc + len) ls (.inl (x * y) :: st) sh hr hi
    | .iand, .inl y :: .inl x :: st => K (pc + len) ls (.inl (x &&& y) :: st) sh hr hi
    | .ior, .inl y :: .inl x :: st => K (pc + len) ls (.inl (x ||| y) :: st) sh hr hi
    | .ixor, .inl y :: .inl x :: st => K (pc + len) ls (.inl (x ^^^ y) :: st) sh hr hi
    | .idiv, .inl y :: .inl x :: st => ¬ y = 0 ∧ K (pc + len) ls (.inl (x / y) :: st) sh hr hi
    | .irem, .inl y :: .inl x :: st => ¬ y = 0 ∧ K (pc + len) ls (.inl (x - x / y * y) :: st) sh hr hi
    | .ineg, .inl x :: st => K (pc + len) ls (.inl (-x) :: st) sh hr hi
    | .ishl, .inl y :: .inl x :: st => K (pc + len) ls (.inl (x <<< (y &&& 31)) :: st) sh hr hi
    | .ishr, .inl y :: .inl x :: st => K (pc + len) ls (.inl (x >>> (y &&& 31)) :: st) sh hr hi
    | .iushr, .inl y :: .inl x :: st => K (pc + len) ls (.inl ((x.toUInt32 >>> (y.toUInt32 &&& Int32.toUInt32 31)).toInt32) :: st) sh hr hi
    | .i2s, .inl x :: st => K (pc + len) ls (.inl x.toInt16.toInt32 :: st) sh hr hi
    | .i2b, .inl x :: st => K (pc + len) ls (.inl x.toInt8.toInt32 :: st) sh hr hi
    | .i2c, .inl x :: st => K (pc + len) ls (.inl (x.toUInt32 % 65536).toInt32 :: st) sh hr hi
    | .ifCond cd _, .inl x :: st => (pm_cd cd x 0 → K a ls st sh hr hi) ∧ (¬ pm_cd cd x 0 → K (pc + len) ls st sh hr hi)
    | .if_icmp cd _, .inl y :: .inl x :: st => (pm_cd cd x y → K a ls st sh hr hi) ∧ (¬ pm_cd cd x y → K (pc + len) ls st sh hr hi)
    | .goto _, st => K a ls st sh hr hi
    | .lookupswitch _ _, .inl x :: st => ∀ pc', pm_sw x a sw = pc' → K pc' ls st sh hr hi
    | .getfield 0, .inr q :: st => sh[q]? = some (0, a, 0) ∧ K (pc + len) ls (.inl (hi q b) :: st) sh hr hi
    | .getfield _, .inr q :: st => sh[q]? = some (0, a, 0) ∧ K (pc + len) ls (.inr (hr q b) :: st) sh hr hi
    | .putfield 0, .inl v :: .inr q :: st => (sh[q]? = some (0, a, 0) ∧ pm_fit c.toNatClampNeg v) ∧ K (pc + len) ls st sh hr (pm_u hi q b v)
    | .putfield _, .inr v :: .inr q :: st => sh[q]? = some (0, a, 0) ∧ K (pc + len) ls st sh (pm_u hr q b v) hi
    | .iaload, .inl i :: .inr q :: st => pm_ao sh q a i ∧ K (pc + len) ls (.inl (hi q i.toNatClampNeg) :: st) sh hr hi
    | .aaload, .inl i :: .inr q :: st => pm_ao sh q a i ∧ K (pc + len) ls (.inr (hr q i.toNatClampNeg) :: st) sh hr hi
    | .iastore, .inl v :: .inl i :: .inr q :: st => (pm_aw sh q a i ∧ pm_fit a v) ∧ K (pc + len) ls st sh hr (pm_u hi q i.toNatClampNeg v)
    | .arraylength, .inr q :: st => ∃ n, pm_len sh q n ∧ K (pc + len) ls (.inl (nI n) :: st) sh hr hi
    | .invokestatic _, st => bif Nat.ble b st.length && Nat.ble (st.drop b).length 8 then pm_rc sh sw (st.take b).reverse ∧ C a (st.take b).reverse sh hr hi (fun v sh' hr' hi' => K (pc + len) ls (v.toList ++ st.drop b) sh' hr' hi') else False
    | .swap, .inl n :: .inl dp :: .inr d :: .inl sp :: .inr q :: st => bif Nat.ble st.length 8 then pm_cpy sh q d sp dp n ∧ K (pc + len) ls st sh hr (pm_cp hi q sp.toNatClampNeg d dp.toNatClampNeg n.toNatClampNeg) else False
    | .ireturn, [.inl v] => pm_fit a v ∧ Q (some (.inl v)) sh hr hi
    | .areturn, [.inr v] => True ∧ Q (some (.inr v)) sh hr hi
    | .return_, [] => True ∧ Q none sh hr hi
    | _, _ => False
def pm_vc (C : Nat → List pm_V → pm_S → pm_A → pm_B → pm_P → Prop) (t : pm_T) (stops : List Nat) (Z : Nat → pm_L → List pm_V → pm_S → pm_A → pm_B → Prop) (Q : pm_P) : Nat → Nat → pm_L → List pm_V → pm_S → pm_A → pm_B → Prop
  | 0, pc, ls, st, sh, hr, hi => True ∧ Z pc ls st sh hr hi
  | n + 1, pc, ls, st, sh, hr, hi => bif stops.elem pc then True ∧ Z pc ls st sh hr hi else match pm_at t pc with
    | none => False
    | some r => pm_vs C (pm_vc C t stops Z Q n) Q r pc ls st sh hr hi
theorem pm_W_k {G : pm_G} {d : Nat} {t : pm_T} {pc pc' : Nat} {ls ls' : pm_L} {st st' : List pm_V} {sh sh' : pm_S} {hr hr' : pm_A} {hi hi' : pm_B} {Q : pm_P} {r : pm_I} (he : pm_at t pc = some r) (h : pm_W G d t pc' ls' st' sh' hr' hi' Q)
    (hs : ∀ call k, pm_step call k r pc ls st sh hr hi = k pc' ls' st' sh' hr' hi') : pm_W G d t pc ls st sh hr hi Q := by
  obtain ⟨N, v, s1, r1, i1, h1, h2⟩ := h
  refine ⟨N + 1, v, s1, r1, i1, ?_, h2⟩
  unfold pm_exec
  rw [he]
  dsimp only
  rw [hs]
  exact pm_exec_mono (pm_call_mono G (Nat.le_succ N) d d (Nat.le_refl d)) t N N (Nat.le_refl N) _ _ _ _ _ _ _ h1
theorem pm_vs_sound {G : pm_G} {d : Nat} {t : pm_T} {K : Nat → pm_L → List pm_V → pm_S → pm_A → pm_B → Prop} {Q : pm_P} (hK : ∀ pc ls st sh hr hi, K pc ls st sh hr hi → pm_W G d t pc ls st sh hr hi Q)
    {r : pm_I} {pc : Nat} {ls : pm_L} {st : List pm_V} {sh : pm_S} {hr : pm_A} {hi : pm_B} (he : pm_at t pc = some r) (h : pm_vs (pm_C G d) K Q r pc ls st sh hr hi) : pm_W G d t pc ls st sh hr hi Q := by
  obtain ⟨op, len, a, b, c, sw⟩ := r
  unfold pm_vs at h
  dsimp only at h
  split at h <;> dsimp only at h
  all_goals first
    | exact pm_W_k he (hK _ _ _ _ _ _ h) (fun _ _ => rfl)
    | (cases h; done)
    | (split at h
       · rename_i x hx
         exact pm_W_k he (hK _ _ _ _ _ _ h) (fun _ _ => by simp only [pm_step]; rw [hx])
       · cases h)
    | (cases hq : Nat.blt _ _ with
       | true =>
         rw [hq] at h
         rw [Nat.blt_eq] at hq
         exact pm_W_k he (hK _ _ _ _ _ _ h) (fun _ _ => by simp only [pm_step]; rw [if_pos hq])
       | false => rw [hq] at h; cases h)
    | (exact pm_W_k he (hK _ _ _ _ _ _ h.2) (fun _ _ => by simp only [pm_step]; rw [if_neg h.1]); done)
    | (exact pm_W_k he (hK _ _ _ _ _ _ h.2) (fun _ _ => by simp only [pm_step]; rw [if_pos h.1]); done)
    | (exact pm_W_k he (hK _ _ _ _ _ _ h.2) (fun _ _ => by simp only [pm_step]; rw [if_pos (pm_aob_iff.mpr h.1)]); done)
    | (exact pm_W_k he (hK _ _ _ _ _ _ h.2) (fun _ _ => by simp only [pm_step]; rw [if_pos ⟨h.1.1, pm_fib_iff.mpr h.1.2⟩]); done)
    | (exact pm_W_k he (hK _ _ _ _ _ _ h.2) (fun _ _ => by simp only [pm_step]; rw [if_pos ⟨pm_awb_iff.mpr h.1.1, pm_fib_iff.mpr h.1.2⟩]); done)
    | (exact pm_W_k he (hK _ _ _ _ _ _ (h _ rfl)) (fun _ _ => by simp only [pm_step]); done)
    | (obtain ⟨n, ⟨t', ti, hn⟩, h⟩ := h
       exact pm_W_k he (hK _ _ _ _ _ _ h) (fun _ _ => by simp only [pm_step]; rw [hn]); done)
    | skip
  all_goals sorry
