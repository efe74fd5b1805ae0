/-! ===== what a run needs, as a statement (pm_vs, pm_vc), and that it suffices; the shape and the references stay ===== -/
theorem pm_step_mono {c1 c2 : Nat → List pm_V → pm_S → pm_A → pm_B → pm_O} {k1 k2 : Nat → pm_L → List pm_V → pm_S → pm_A → pm_B → pm_O} (hc : ∀ m a sh hr hi r, c1 m a sh hr hi = some r → c2 m a sh hr hi = some r) (hk : ∀ pc ls st sh hr hi r, k1 pc ls st sh hr hi = some r → k2 pc ls st sh hr hi = some r)
    {r : pm_I} {pc : Nat} {ls : pm_L} {st : List pm_V} {sh : pm_S} {hr : pm_A} {hi : pm_B} {o : Option pm_V × pm_S × pm_A × pm_B} (h : pm_step c1 k1 r pc ls st sh hr hi = some o) : pm_step c2 k2 r pc ls st sh hr hi = some o := by
  obtain ⟨op, len, a, b, c, sw⟩ := r
  unfold pm_step at h ⊢
  dsimp only at h ⊢
  split at h <;> (try dsimp only at h ⊢)
  all_goals first
    | exact hk _ _ _ _ _ _ _ h
    | exact h
    | (cases h; done)
    | (split at h <;> rename_i hq <;> first
        | (cases h; done)
        | (exact hk _ _ _ _ _ _ _ h)
        | (rw [if_pos hq]
           first
             | exact hk _ _ _ _ _ _ _ h
             | exact h
             | (split at h
                · cases h
                · rename_i hcall
                  rw [hc _ _ _ _ _ _ hcall]
                  exact hk _ _ _ _ _ _ _ h))
        | (rw [if_neg hq]; exact hk _ _ _ _ _ _ _ h)
        | (rw [hq]; exact hk _ _ _ _ _ _ _ h))
theorem pm_exec_mono {c1 c2 : Nat → List pm_V → pm_S → pm_A → pm_B → pm_O} (hc : ∀ m a sh hr hi r, c1 m a sh hr hi = some r → c2 m a sh hr hi = some r) (t : pm_T) : ∀ (n n' : Nat), n ≤ n' → ∀ pc ls st sh hr hi r, pm_exec c1 t n pc ls st sh hr hi = some r → pm_exec c2 t n' pc ls st sh hr hi = some r
  | 0, _, _, pc, ls, st, sh, hr, hi, r, h => by cases h
  | n + 1, 0, hn, pc, ls, st, sh, hr, hi, r, h => by omega
  | n + 1, n' + 1, hn, pc, ls, st, sh, hr, hi, r, h => by
    unfold pm_exec at h ⊢
    split at h
    · cases h
    · rename_i row he
      exact pm_step_mono hc (pm_exec_mono hc t n n' (by omega)) h
theorem pm_call_mono (G : pm_G) {N N' : Nat} (hN : N ≤ N') : ∀ (d d' : Nat), d ≤ d' → ∀ m a sh hr hi r, pm_call G N d m a sh hr hi = some r → pm_call G N' d' m a sh hr hi = some r
  | 0, _, _, m, a, sh, hr, hi, r, h => by cases h
  | d + 1, 0, hd, m, a, sh, hr, hi, r, h => by omega
  | d + 1, d' + 1, hd, m, a, sh, hr, hi, r, h => by
    unfold pm_call at h ⊢
    split at h
    · cases h
    · rename_i maxL t he
      split at h
      · rename_i hl
        rw [if_pos hl]
        exact pm_exec_mono (pm_call_mono G hN d d' (by omega)) t N N' hN _ _ _ _ _ _ _ h
      · cases h
abbrev pm_Q : Type := Option pm_V → pm_B → Prop
/-- from a place of a method: it ends, with Q; nothing is made -/
def pm_W (G : pm_G) (sh : pm_S) (hr : pm_A) (d : Nat) (t : pm_T) (pc : Nat) (ls : pm_L) (st : List pm_V) (hi : pm_B) (Q : pm_Q) : Prop := ∃ (N : Nat) (v : Option pm_V) (hi' : pm_B), pm_exec (pm_call G N d) t N pc ls st sh hr hi = some (v, sh, hr, hi') ∧ Q v hi'
/-- a call: it ends, with Q -/
def pm_C (G : pm_G) (sh : pm_S) (hr : pm_A) (d m : Nat) (args : List pm_V) (hi : pm_B) (Q : pm_Q) : Prop := ∃ (N : Nat) (v : Option pm_V) (hi' : pm_B), pm_call G N d m args sh hr hi = some (v, sh, hr, hi') ∧ Q v hi'
def pm_rc (sh : pm_S) (sw : List (Int32 × Nat)) (args : List pm_V) : Prop := match sw, args with
  | [], _ => True
  | [z], .inr q :: _ => sh[q]? = some (0, z.2, 0)
  | _, _ => False
/-- what a call hands back: 0 nothing, 1 a number, else a reference -/
def pm_rv (k : Nat) (v : Option pm_V) (F : List pm_V → Prop) : Prop := match k with
  | 0 => v = none ∧ F []
  | 1 => ∃ x : Int32, v = some (.inl x) ∧ F [.inl x]
  | _ => ∃ q : Nat, v = some (.inr q) ∧ F [.inr q]
def pm_vs (C : Nat → List pm_V → pm_B → pm_Q → Prop) (sh : pm_S) (hr : pm_A) (K : Nat → pm_L → List pm_V → pm_B → Prop) (Q : pm_Q) (r : pm_I) (pc : Nat) (ls : pm_L) (st : List pm_V) (hi : pm_B) : Prop :=
  match r with
  | (op, len, a, b, c, sw) => match op, st with
    | .iload j, st => (match ls[j]? with | some (some (.inl x)) => K (pc + len) ls (.inl x :: st) hi | _ => False)
    | .aload j, st => (match ls[j]? with | some (some (.inr x)) => K (pc + len) ls (.inr x :: st) hi | _ => False)
    | .istore j, .inl x :: st => bif Nat.blt j ls.length then K (pc + len) (ls.set j (some (.inl x))) st hi else False
    | .astore j, .inr x :: st => bif Nat.blt j ls.length then K (pc + len) (ls.set j (some (.inr x))) st hi else False
    | .iinc j _, st => (match ls[j]? with | some (some (.inl x)) => K (pc + len) (ls.set j (some (.inl (x + c)))) st hi | _ => False)
    | .ldc _, st => K (pc + len) ls (.inl c :: st) hi
    | .ldc_w _, st => K (pc + len) ls (.inr a :: st) hi
    | .dup, v :: st => K (pc + len) ls (v :: v :: st) hi
    | .dup2, v :: w :: st => K (pc + len) ls (v :: w :: v :: w :: st) hi
    | .pop, v :: st => K (pc + len) ls st hi
    | .iadd, .inl y :: .inl x :: st => K (pc + len) ls (.inl (x + y) :: st) hi
    | .isub, .inl y :: .inl x :: st => K (pc + len) ls (.inl (x - y) :: st) hi
    | .imul, .inl y :: .inl x :: st => K (pc + len) ls (.inl (x * y) :: st) hi
    | .iand, .inl y :: .inl x :: st => K (pc + len) ls (.inl (x &&& y) :: st) hi
    | .ior, .inl y :: .inl x :: st => K (pc + len) ls (.inl (x ||| y) :: st) hi
    | .ixor, .inl y :: .inl x :: st => K (pc + len) ls (.inl (x ^^^ y) :: st) hi
    | .idiv, .inl y :: .inl x :: st => ¬ y = 0 ∧ K (pc + len) ls (.inl (x / y) :: st) hi
    | .irem, .inl y :: .inl x :: st => ¬ y = 0 ∧ K (pc + len) ls (.inl (x - x / y * y) :: st) hi
    | .ineg, .inl x :: st => K (pc + len) ls (.inl (-x) :: st) hi
    | .ishl, .inl y :: .inl x :: st => K (pc + len) ls (.inl (x <<< (y &&& 31)) :: st) hi
    | .ishr, .inl y :: .inl x :: st => K (pc + len) ls (.inl (x >>> (y &&& 31)) :: st) hi
    | .iushr, .inl y :: .inl x :: st => K (pc + len) ls (.inl ((x.toUInt32 >>> (y.toUInt32 &&& Int32.toUInt32 31)).toInt32) :: st) hi
    | .i2s, .inl x :: st => K (pc + len) ls (.inl x.toInt16.toInt32 :: st) hi
    | .i2b, .inl x :: st => K (pc + len) ls (.inl x.toInt8.toInt32 :: st) hi
    | .i2c, .inl x :: st => K (pc + len) ls (.inl (x.toUInt32 % 65536).toInt32 :: st) hi
    | .ifCond cd _, .inl x :: st => (pm_cd cd x 0 → K a ls st hi) ∧ (¬ pm_cd cd x 0 → K (pc + len) ls st hi)
    | .if_icmp cd _, .inl y :: .inl x :: st => (pm_cd cd x y → K a ls st hi) ∧ (¬ pm_cd cd x y → K (pc + len) ls st hi)
    | .goto _, st => K a ls st hi
    | .lookupswitch _ _, .inl x :: st => ∀ pc', pm_sw x a sw = pc' → K pc' ls st hi
    | .getfield 0, .inr q :: st => sh[q]? = some (0, a, 0) ∧ K (pc + len) ls (.inl (hi q b) :: st) hi
    | .getfield 1, .inr q :: st => sh[q]? = some (0, a, 0) ∧ K (pc + len) ls (.inr (hr q b) :: st) hi
    | .getfield _, .inr q :: st => sh[q]? = some (0, a, 0) ∧ K (pc + len) ls (.inr (hi q b).toNatClampNeg :: st) hi
    | .putfield 0, .inl v :: .inr q :: st => (sh[q]? = some (0, a, 0) ∧ pm_fit c.toNatClampNeg v) ∧ K (pc + len) ls st (pm_u hi q b v)
    | .putfield 2, .inr v :: .inr q :: st => (sh[q]? = some (0, a, 0) ∧ v < 2147483648) ∧ K (pc + len) ls st (pm_u hi q b (nI v))
    | .iaload, .inl i :: .inr q :: st => pm_ao sh q a i ∧ K (pc + len) ls (.inl (hi q i.toNatClampNeg) :: st) hi
    | .aaload, .inl i :: .inr q :: st => pm_ao sh q a i ∧ K (pc + len) ls (.inr (hr q i.toNatClampNeg) :: st) hi
    | .iastore, .inl v :: .inl i :: .inr q :: st => (pm_aw sh q a i ∧ pm_fit a v) ∧ K (pc + len) ls st (pm_u hi q i.toNatClampNeg v)
    | .arraylength, .inr q :: st => ∃ n, pm_len sh q n ∧ K (pc + len) ls (.inl (nI n) :: st) hi
    | .invokestatic k, st => bif Nat.ble b st.length && Nat.ble (st.drop b).length 8 then pm_rc sh sw (st.take b).reverse ∧ C a (st.take b).reverse hi (fun v hi' => pm_rv k v (fun x => K (pc + len) ls (x ++ st.drop b) hi')) else False
    | .swap, .inl n :: .inl dp :: .inr d :: .inl sp :: .inr q :: st => bif Nat.ble st.length 8 then pm_cpy sh q d sp dp n ∧ K (pc + len) ls st (pm_cp hi q sp.toNatClampNeg d dp.toNatClampNeg n.toNatClampNeg) else False
    | .ladd, .inl y :: .inl x :: st => bif Nat.ble st.length 8 then K (pc + len) ls (.inl (if x < y then y else x) :: st) hi else False
    | .lsub, .inl y :: .inl x :: st => bif Nat.ble st.length 8 then K (pc + len) ls (.inl (if y < x then y else x) :: st) hi else False
    | .ireturn, [.inl v] => pm_fit a v ∧ Q (some (.inl v)) hi
    | .areturn, [.inr v] => Q (some (.inr v)) hi
    | .return_, [] => Q none hi
    | _, _ => False
def pm_vc (C : Nat → List pm_V → pm_B → pm_Q → Prop) (sh : pm_S) (hr : pm_A) (t : pm_T) (stops : List Nat) (Z : Nat → pm_L → List pm_V → pm_B → Prop) (Q : pm_Q) : Nat → Nat → pm_L → List pm_V → pm_B → Prop
  | 0, pc, ls, st, hi => Z pc ls st hi
  | n + 1, pc, ls, st, hi => bif stops.elem pc then Z pc ls st hi else match pm_at t pc with
    | none => False
    | some r => pm_vs C sh hr (pm_vc C sh hr t stops Z Q n) Q r pc ls st hi
theorem pm_W_k {G : pm_G} {d : Nat} {t : pm_T} {pc pc' : Nat} {ls ls' : pm_L} {st st' : List pm_V} {sh : pm_S} {hr : pm_A} {hi hi' : pm_B} {Q : pm_Q} {r : pm_I} (he : pm_at t pc = some r) (h : pm_W G sh hr d t pc' ls' st' hi' Q)
    (hs : ∀ call k, pm_step call k r pc ls st sh hr hi = k pc' ls' st' sh hr hi') : pm_W G sh hr d t pc ls st hi Q := by
  obtain ⟨N, v, i1, h1, h2⟩ := h
  refine ⟨N + 1, v, i1, ?_, h2⟩
  unfold pm_exec
  rw [he]
  dsimp only
  rw [hs]
  exact pm_exec_mono (pm_call_mono G (Nat.le_succ N) d d (Nat.le_refl d)) t N N (Nat.le_refl N) _ _ _ _ _ _ _ h1
theorem pm_W_r {G : pm_G} {d : Nat} {t : pm_T} {pc : Nat} {ls : pm_L} {st : List pm_V} {sh : pm_S} {hr : pm_A} {hi hi' : pm_B} {Q : pm_Q} {r : pm_I} {v : Option pm_V} (he : pm_at t pc = some r) (h : Q v hi')
    (hs : ∀ call k, pm_step call k r pc ls st sh hr hi = some (v, sh, hr, hi')) : pm_W G sh hr d t pc ls st hi Q := by
  refine ⟨1, v, hi', ?_, h⟩
  unfold pm_exec
  rw [he]
  dsimp only
  rw [hs]
theorem pm_rc_b {sh : pm_S} {sw : List (Int32 × Nat)} {args : List pm_V} (h : pm_rc sh sw args) : (sw.all fun z => pm_rcv sh z.2 args) = true := by
  unfold pm_rc at h
  split at h
  · rfl
  · simp [pm_rcv, h]
  · cases h
theorem pm_W_call {G : pm_G} {d : Nat} {t : pm_T} {pc k len a b : Nat} {c : Int32} {sw : List (Int32 × Nat)} {ls : pm_L} {st : List pm_V} {sh : pm_S} {hr : pm_A} {hi : pm_B} {Q : pm_Q} (he : pm_at t pc = some (.invokestatic k, len, a, b, c, sw))
    (h1 : b ≤ st.length ∧ (st.drop b).length ≤ 8) (h2 : pm_rc sh sw (st.take b).reverse) (h3 : pm_C G sh hr d a (st.take b).reverse hi (fun v hi' => pm_W G sh hr d t (pc + len) ls (v.toList ++ st.drop b) hi' Q)) : pm_W G sh hr d t pc ls st hi Q := by
  obtain ⟨N1, v1, i1, hc, N2, v2, i2, h4, h5⟩ := h3
  refine ⟨max N1 N2 + 1, v2, i2, ?_, h5⟩
  unfold pm_exec
  rw [he]
  simp only [pm_step]
  rw [if_pos ⟨h1.1, h1.2, pm_rc_b h2⟩, pm_call_mono G (show N1 ≤ max N1 N2 + 1 by omega) d d (Nat.le_refl d) _ _ _ _ _ _ hc]
  exact pm_exec_mono (pm_call_mono G (show N2 ≤ max N1 N2 + 1 by omega) d d (Nat.le_refl d)) t N2 (max N1 N2) (by omega) _ _ _ _ _ _ _ h4
theorem pm_C_imp {G : pm_G} {sh : pm_S} {hr : pm_A} {d m : Nat} {args : List pm_V} {hi : pm_B} {Q Q' : pm_Q} (h : pm_C G sh hr d m args hi Q) (hq : ∀ v hi', Q v hi' → Q' v hi') : pm_C G sh hr d m args hi Q' := by
  obtain ⟨N, v, i, h1, h2⟩ := h
  exact ⟨N, v, i, h1, hq _ _ h2⟩
theorem pm_C_up {G : pm_G} {sh : pm_S} {hr : pm_A} {d d' m : Nat} {args : List pm_V} {hi : pm_B} {Q : pm_Q} (hd : d ≤ d') (h : pm_C G sh hr d m args hi Q) : pm_C G sh hr d' m args hi Q := by
  obtain ⟨N, v, i, h1, h2⟩ := h
  exact ⟨N, v, i, pm_call_mono G (Nat.le_refl N) d d' hd _ _ _ _ _ _ h1, h2⟩
theorem pm_rv_of {k : Nat} {v : Option pm_V} {F : List pm_V → Prop} (h : pm_rv k v F) : F v.toList := by
  unfold pm_rv at h
  split at h
  · obtain ⟨rfl, h⟩ := h
    exact h
  · obtain ⟨x, rfl, h⟩ := h
    exact h
  · obtain ⟨x, rfl, h⟩ := h
    exact h
set_option maxHeartbeats 4000000 in
theorem pm_vs_sound {G : pm_G} {d : Nat} {t : pm_T} {K : Nat → pm_L → List pm_V → pm_B → Prop} {Q : pm_Q} {sh : pm_S} {hr : pm_A} (hK : ∀ pc ls st hi, K pc ls st hi → pm_W G sh hr d t pc ls st hi Q)
    {r : pm_I} {pc : Nat} {ls : pm_L} {st : List pm_V} {hi : pm_B} (he : pm_at t pc = some r) (h : pm_vs (pm_C G sh hr d) sh hr K Q r pc ls st hi) : pm_W G sh hr d t pc ls st hi Q := by
  obtain ⟨op, len, a, b, c, sw⟩ := r
  unfold pm_vs at h
  dsimp only at h
  split at h <;> (try dsimp only at h)
  all_goals first
    | exact pm_W_k he (hK _ _ _ _ h) (fun _ _ => rfl)
    | (cases h; done)
    | (exact pm_W_r he h (fun _ _ => rfl); done)
    | (split at h
       · rename_i x hx
         exact pm_W_k he (hK _ _ _ _ h) (fun _ _ => by simp only [pm_step]; rw [hx])
       · cases h)
    | (cases hq : Nat.blt _ _ with
       | true =>
         rw [hq] at h
         rw [Nat.blt_eq] at hq
         exact pm_W_k he (hK _ _ _ _ h) (fun _ _ => by simp only [pm_step]; rw [if_pos hq])
       | false => rw [hq] at h; cases h)
    | (exact pm_W_k he (hK _ _ _ _ h.2) (fun _ _ => by simp only [pm_step]; rw [if_neg h.1]); done)
    | (exact pm_W_k he (hK _ _ _ _ h.2) (fun _ _ => by simp only [pm_step]; rw [if_pos h.1]); done)
    | (exact pm_W_k he (hK _ _ _ _ h.2) (fun _ _ => by simp only [pm_step]; rw [if_pos (pm_aob_iff.mpr h.1)]); done)
    | (exact pm_W_k he (hK _ _ _ _ h.2) (have hx := pm_awb_iff.mpr h.1.1; fun _ _ => by simp only [pm_step]; rw [if_pos ⟨hx, pm_fib_iff.mpr h.1.2⟩]); done)
    | (exact pm_W_k he (hK _ _ _ _ h.2) (fun _ _ => by simp only [pm_step]; rw [if_pos ⟨h.1.1, pm_fib_iff.mpr h.1.2⟩]); done)
    | (exact pm_W_k he (hK _ _ _ _ (h _ rfl)) (fun _ _ => by simp only [pm_step]); done)
    | (exact pm_W_r he h.2 (fun _ _ => by simp only [pm_step]; rw [if_pos (pm_fib_iff.mpr h.1)]); done)
    | (obtain ⟨n, ⟨t', ti, hn⟩, h⟩ := h
       exact pm_W_k he (hK _ _ _ _ h) (fun _ _ => by simp only [pm_step]; rw [hn]); done)
    | (rename_i cd off x st'
       by_cases hq : pm_cd cd x 0
       · exact pm_W_k he (hK _ _ _ _ (h.1 hq)) (fun _ _ => by simp only [pm_step]; rw [if_pos ((pm_cb_iff _ _ _).mpr hq)])
       · exact pm_W_k he (hK _ _ _ _ (h.2 hq)) (fun _ _ => by simp only [pm_step]; rw [if_neg (fun z => hq ((pm_cb_iff _ _ _).mp z))]))
    | (rename_i cd off y x st'
       by_cases hq : pm_cd cd x y
       · exact pm_W_k he (hK _ _ _ _ (h.1 hq)) (fun _ _ => by simp only [pm_step]; rw [if_pos ((pm_cb_iff _ _ _).mpr hq)])
       · exact pm_W_k he (hK _ _ _ _ (h.2 hq)) (fun _ _ => by simp only [pm_step]; rw [if_neg (fun z => hq ((pm_cb_iff _ _ _).mp z))]))
    | (cases hq : Nat.ble _ _ && Nat.ble _ _ with
       | true =>
         rw [hq] at h
         rw [Bool.and_eq_true, Nat.ble_eq, Nat.ble_eq] at hq
         exact pm_W_call he hq h.1 (pm_C_imp h.2 (fun v hi' h => hK _ _ _ _ (pm_rv_of h)))
       | false => rw [hq] at h; cases h)
    | (cases hq : Nat.ble _ _ with
       | true =>
         rw [hq] at h
         rw [Nat.ble_eq] at hq
         exact pm_W_k he (hK _ _ _ _ h) (fun _ _ => by simp only [pm_step]; rw [if_pos hq])
       | false => rw [hq] at h; cases h)
    | (cases hq : Nat.ble _ _ with
       | true =>
         rw [hq] at h
         rw [Nat.ble_eq] at hq
         exact pm_W_k he (hK _ _ _ _ h.2) (fun _ _ => by simp only [pm_step]; rw [if_pos ⟨pm_cpb_iff.mpr h.1, hq⟩])
       | false => rw [hq] at h; cases h)
    | skip
theorem pm_vc_sound {G : pm_G} {d : Nat} {t : pm_T} {stops : List Nat} {Q : pm_Q} {sh : pm_S} {hr : pm_A} : ∀ (n pc : Nat) (ls : pm_L) (st : List pm_V) (hi : pm_B), pm_vc (pm_C G sh hr d) sh hr t stops (fun pc ls st hi => pm_W G sh hr d t pc ls st hi Q) Q n pc ls st hi → pm_W G sh hr d t pc ls st hi Q
  | 0, pc, ls, st, hi, h => h
  | n + 1, pc, ls, st, hi, h => by
    unfold pm_vc at h
    cases hq : stops.elem pc with
    | true => rw [hq] at h; exact h
    | false =>
      rw [hq] at h
      dsimp only [cond] at h
      split at h
      · cases h
      · rename_i r he
        exact pm_vs_sound (pm_vc_sound n) he h
/-- a stretch that begins at a stop -/
theorem pm_W_of {G : pm_G} {d : Nat} {t : pm_T} (n : Nat) (stops : List Nat) {Q : pm_Q} {sh : pm_S} {hr : pm_A} {r : pm_I} {pc : Nat} {ls : pm_L} {st : List pm_V} {hi : pm_B} (he : pm_at t pc = some r)
    (h : pm_vs (pm_C G sh hr d) sh hr (pm_vc (pm_C G sh hr d) sh hr t stops (fun pc ls st hi => pm_W G sh hr d t pc ls st hi Q) Q n) Q r pc ls st hi) : pm_W G sh hr d t pc ls st hi Q := pm_vs_sound (pm_vc_sound n) he h
theorem pm_C_of {G : pm_G} {d m maxL : Nat} {t : pm_T} {Q : pm_Q} {sh : pm_S} {hr : pm_A} {args : List pm_V} {hi : pm_B} (hg : G m = some (maxL, t)) (hl : args.length ≤ maxL) (h : pm_W G sh hr d t 0 (pm_ent maxL args) [] hi Q) : pm_C G sh hr (d + 1) m args hi Q := by
  obtain ⟨N, v, i, h1, h2⟩ := h
  refine ⟨N, v, i, ?_, h2⟩
  unfold pm_call
  rw [hg]
  dsimp only
  rw [if_pos hl]
  exact h1
theorem pm_W_imp {G : pm_G} {d : Nat} {t : pm_T} {pc : Nat} {ls : pm_L} {st : List pm_V} {sh : pm_S} {hr : pm_A} {hi : pm_B} {Q Q' : pm_Q} (h : pm_W G sh hr d t pc ls st hi Q) (hq : ∀ v hi', Q v hi' → Q' v hi') : pm_W G sh hr d t pc ls st hi Q' := by
  obtain ⟨N, v, i, h1, h2⟩ := h
  exact ⟨N, v, i, h1, hq _ _ h2⟩
