/-! ===== the whole simulation ===== -/
theorem pm_step_grow {call : Nat → List pm_V → pm_S → pm_A → pm_B → pm_O} {k : Nat → pm_L → List pm_V → pm_S → pm_A → pm_B → pm_O} {o : Option pm_V × pm_S × pm_A × pm_B} (hc : ∀ a av sh hr hi v sh' hr' hi', call a av sh hr hi = some (v, sh', hr', hi') → ∃ ext, sh' = sh ++ ext) (hk : ∀ pc ls st sh hr hi, k pc ls st sh hr hi = some o → ∃ ext, o.2.1 = sh ++ ext)
    {r : pm_I} {pc : Nat} {ls : pm_L} {st : List pm_V} {sh : pm_S} {hr : pm_A} {hi : pm_B} (h : pm_step call k r pc ls st sh hr hi = some o) : ∃ ext, o.2.1 = sh ++ ext := by
  obtain ⟨op, len, a, b, c, sw⟩ := r
  have app : ∀ {x : pm_K}, (∃ ext, o.2.1 = (sh ++ [x]) ++ ext) → ∃ ext, o.2.1 = sh ++ ext := fun ⟨ext, h⟩ => ⟨_ :: ext, by rw [h, List.append_assoc]; rfl⟩
  unfold pm_step at h
  dsimp only at h
  split at h <;> (try dsimp only at h)
  all_goals first
    | exact hk _ _ _ _ _ _ h
    | (cases h; done)
    | (cases h; exact ⟨[], (List.append_nil _).symm⟩)
    | exact app (hk _ _ _ _ _ _ h)
    | (split at h <;> first
        | (cases h; done)
        | exact hk _ _ _ _ _ _ h
        | exact app (hk _ _ _ _ _ _ h)
        | (cases h; exact ⟨[], (List.append_nil _).symm⟩)
        | (split at h
           · cases h
           · rename_i hcall
             obtain ⟨e1, g1⟩ := hc _ _ _ _ _ _ _ _ _ hcall
             obtain ⟨e2, g2⟩ := hk _ _ _ _ _ _ h
             exact ⟨e1 ++ e2, by rw [g2, g1, List.append_assoc]⟩))
theorem pm_exec_grow {call : Nat → List pm_V → pm_S → pm_A → pm_B → pm_O} (hc : ∀ a av sh hr hi v sh' hr' hi', call a av sh hr hi = some (v, sh', hr', hi') → ∃ ext, sh' = sh ++ ext) (t : pm_T) : ∀ (n pc : Nat) (ls : pm_L) (st : List pm_V) (sh : pm_S) (hr : pm_A) (hi : pm_B) (o : Option pm_V × pm_S × pm_A × pm_B), pm_exec call t n pc ls st sh hr hi = some o → ∃ ext, o.2.1 = sh ++ ext
  | 0, _, _, _, _, _, _, _, h => by cases h
  | n + 1, pc, ls, st, sh, hr, hi, o, h => by
    unfold pm_exec at h
    split at h
    · cases h
    · exact pm_step_grow hc (fun pc ls st sh hr hi h => pm_exec_grow hc t n pc ls st sh hr hi o h) h
theorem pm_call_grow (G : pm_G) (N : Nat) : ∀ (d a : Nat) (av : List pm_V) (sh : pm_S) (hr : pm_A) (hi : pm_B) (v : Option pm_V) (sh' : pm_S) (hr' : pm_A) (hi' : pm_B), pm_call G N d a av sh hr hi = some (v, sh', hr', hi') → ∃ ext, sh' = sh ++ ext
  | 0, _, _, _, _, _, _, _, _, _, h => by cases h
  | d + 1, a, av, sh, hr, hi, v, sh', hr', hi', h => by
    unfold pm_call at h
    split at h
    · cases h
    · split at h
      · exact pm_exec_grow (pm_call_grow G N d) _ _ _ _ _ _ _ _ _ h
      · cases h
section PMR
variable {p : Program} {l : Launch} {e : Env} {R : Room} {s : State} {m : MethodId} {args : Array Value} {below : List Frame} {meth : Method} {c : Code} {Q : State → Prop}
variable {E : pm_E} {L : Nat} {r0 : pm_A} {h0 : pm_B} {own nm : String} {cc : ByteArray} {nL n0 s0 : Nat}
variable {pc len a b f j q : Nat} {ins : Instr} {ls : pm_L} {st : List pm_V} {sh : pm_S} {hr : pm_A} {hi : pm_B} {x y i : Int32} {sw : List (Int32 × Nat)}
theorem pm_s_simple (hX : pm_X p s m args c E L r0 h0 own cc nL) {st' : List pm_V} (k : pm_KK p l e R s m args below meth c Q E L r0 h0 nL n0 s0 (pc + 1) ls st' sh hr hi) (hw : ∀ (H : Heap) (locs : List Loc) (lsA : Array Slot) (u v : Nat), W p l e R s m args below meth c H locs u v Q (F0 m (pc + 1) lsA (st'.map (pm_vl E.1))) → W p l e R s m args below meth c H locs u v Q (F0 m pc lsA (st.map (pm_vl E.1)))) : pm_KK p l e R s m args below meth c Q E L r0 h0 nL n0 s0 pc ls st sh hr hi :=
  fun H locs lsA hn hs hR hS hL => hw H locs lsA _ _ (k H locs lsA hn hs hR hS hL)
set_option maxHeartbeats 4000000 in
theorem pm_sim_step {call : Nat → List pm_V → pm_S → pm_A → pm_B → pm_O} {kf : Nat → pm_L → List pm_V → pm_S → pm_A → pm_B → pm_O} {MI : Nat → Option pm_M} {r : pm_I} {o : Option pm_V × pm_S × pm_A × pm_B} {ret : Option FieldType} {d : Nat} (hX : pm_X p s m args c E L r0 h0 own cc nL) (hini : nm = "<init>" → meth.name = "<init>") (hmi : ∀ a M, MI a = some M → pm_mokb M = true)
    (hok : pm_okb MI own nm ret cc pc r = true) (hroom : o.2.1.length - n0 ≤ R.cells ∧ pm_sl o.2.1 - s0 ≤ R.slots ∧ d + 2 ≤ R.frames ∧ 40 * d + 140 ≤ R.locals)
    (hcall : ∀ a av sh hr hi v sh' hr' hi', call a av sh hr hi = some (v, sh', hr', hi') → (∃ ext, sh' = sh ++ ext) ∧ ∀ M, MI a = some M → pm_Met l E L r0 h0 M d av sh hr hi v sh' hr' hi')
    (hk : ∀ pc ls st sh hr hi, kf pc ls st sh hr hi = some o → (∃ ext, o.2.1 = sh ++ ext) ∧ pm_KK p l e R s m args below meth c Q E L r0 h0 nL n0 s0 pc ls st sh hr hi)
    (hret : ∀ v, ((∃ x, r.1 = .ireturn ∧ v = some (.inl x) ∧ pm_fib r.2.2.1 x = true) ∨ (∃ q, r.1 = .areturn ∧ v = some (.inr q)) ∨ (r.1 = .return_ ∧ v = none)) → o = (v, sh, hr, hi) → pm_KK p l e R s m args below meth c Q E L r0 h0 nL n0 s0 pc ls v.toList sh hr hi)
    (h : pm_step call kf r pc ls st sh hr hi = some o) : pm_KK p l e R s m args below meth c Q E L r0 h0 nL n0 s0 pc ls st sh hr hi := by
  obtain ⟨op, len, a, b, cv, sw⟩ := r
  have hx := hX.1
  have hb := hX.2.1
  have hrf := hX.rf
  unfold pm_okb at hok
  cases hd : decode cc pc with
  | error _ => rw [hd] at hok; cases hok
  | ok il =>
  rw [hd] at hok
  obtain ⟨ins, n⟩ := il
  dsimp only at hok
  rw [Bool.and_eq_true, decide_eq_true_eq] at hok
  obtain ⟨rfl, hok⟩ := hok
  have room1 : ∀ {k : pm_K}, (∃ ext, o.2.1 = (sh ++ [k]) ++ ext) → (sh ++ [k]).length - n0 ≤ R.cells ∧ pm_sl (sh ++ [k]) - s0 ≤ R.slots := by
    rintro k ⟨ext, he⟩
    rw [he] at hroom
    obtain ⟨g1, g2, -⟩ := hroom
    have e2 : pm_sl ((sh ++ [k]) ++ ext) = pm_sl (sh ++ [k]) + pm_sl ext := by unfold pm_sl; rw [List.map_append, List.sum_append]
    rw [e2] at g2
    rw [List.length_append] at g1
    exact ⟨by omega, by omega⟩
  have room0 : (∃ ext, o.2.1 = sh ++ ext) → sh.length - n0 ≤ R.cells ∧ pm_sl sh - s0 ≤ R.slots := by
    rintro ⟨ext, he⟩
    rw [he] at hroom
    obtain ⟨g1, g2, -⟩ := hroom
    have e2 : pm_sl (sh ++ ext) = pm_sl sh + pm_sl ext := by unfold pm_sl; rw [List.map_append, List.sum_append]
    rw [e2] at g2
    rw [List.length_append] at g1
    exact ⟨by omega, by omega⟩
  unfold pm_step at h
  dsimp only at h
  split at h
  case h_1 =>
    split at h
    · rename_i hl
      exact pm_s_iload hX hd hok hl (hk _ _ _ _ _ _ h).2
    · cases h
  case h_2 =>
    split at h
    · rename_i hl
      exact pm_s_aload hX hd hok hl (hk _ _ _ _ _ _ h).2
    · cases h
  case h_3 =>
    split at h
    · rename_i hl
      exact pm_s_istore hX hd hok hl (hk _ _ _ _ _ _ h).2
    · cases h
  case h_4 =>
    split at h
    · rename_i hl
      exact pm_s_astore hX hd hok hl (hk _ _ _ _ _ _ h).2
    · cases h
  case h_5 =>
    split at h
    · rename_i hl
      dsimp only at hok
      split at hok
      · obtain ⟨rfl, h2, rfl⟩ := of_decide_eq_true hok
        exact pm_s_iinc hX hd h2 hl (hk _ _ _ _ _ _ h).2
      · cases hok
    · cases h
  case h_6 => exact pm_s_cst hX hd hok (hk _ _ _ _ _ _ h).2
  case h_7 => exact pm_s_ref hX hd hok (hk _ _ _ _ _ _ h).2
  case h_8 =>
    obtain ⟨rfl, rfl⟩ := of_decide_eq_true hok
    exact pm_s_simple hX (hk _ _ _ _ _ _ h).2 (fun H locs lsA u v w => lv_dup hx hb hd (pm_cat hrf _) w)
  case h_9 =>
    obtain ⟨rfl, rfl⟩ := of_decide_eq_true hok
    exact pm_s_simple hX (hk _ _ _ _ _ _ h).2 (fun H locs lsA u v w => lv_dup2_11 hx hb hd (pm_cat hrf _) (pm_cat hrf _) w)
  case h_10 =>
    obtain ⟨rfl, rfl⟩ := of_decide_eq_true hok
    exact pm_s_simple hX (hk _ _ _ _ _ _ h).2 (fun H locs lsA u v w => lv_pop hx hb hd (pm_cat hrf _) w)
  case h_11 =>
    obtain ⟨rfl, rfl⟩ := of_decide_eq_true hok
    exact pm_s_simple hX (hk _ _ _ _ _ _ h).2 (fun H locs lsA u v w => lv_iadd hx hb hd w)
  case h_12 =>
    obtain ⟨rfl, rfl⟩ := of_decide_eq_true hok
    exact pm_s_simple hX (hk _ _ _ _ _ _ h).2 (fun H locs lsA u v w => lv_isub hx hb hd w)
  case h_13 =>
    obtain ⟨rfl, rfl⟩ := of_decide_eq_true hok
    exact pm_s_simple hX (hk _ _ _ _ _ _ h).2 (fun H locs lsA u v w => lv_imul hx hb hd w)
  case h_14 =>
    obtain ⟨rfl, rfl⟩ := of_decide_eq_true hok
    exact pm_s_simple hX (hk _ _ _ _ _ _ h).2 (fun H locs lsA u v w => lv_iand hx hb hd w)
  case h_15 =>
    obtain ⟨rfl, rfl⟩ := of_decide_eq_true hok
    exact pm_s_simple hX (hk _ _ _ _ _ _ h).2 (fun H locs lsA u v w => lv_ior hx hb hd w)
  case h_16 =>
    obtain ⟨rfl, rfl⟩ := of_decide_eq_true hok
    exact pm_s_simple hX (hk _ _ _ _ _ _ h).2 (fun H locs lsA u v w => lv_ixor hx hb hd w)
  case h_17 =>
    obtain ⟨rfl, rfl⟩ := of_decide_eq_true hok
    split at h
    · cases h
    · rename_i hy
      exact pm_s_simple hX (hk _ _ _ _ _ _ h).2 (fun H locs lsA u v w => lv_idiv hx hb hd hy w)
  case h_18 =>
    obtain ⟨rfl, rfl⟩ := of_decide_eq_true hok
    split at h
    · cases h
    · rename_i hy
      exact pm_s_simple hX (hk _ _ _ _ _ _ h).2 (fun H locs lsA u v w => lv_irem hx hb hd hy w)
  case h_19 =>
    obtain ⟨rfl, rfl⟩ := of_decide_eq_true hok
    exact pm_s_simple hX (hk _ _ _ _ _ _ h).2 (fun H locs lsA u v w => lv_ineg hx hb hd w)
  case h_20 =>
    obtain ⟨rfl, rfl⟩ := of_decide_eq_true hok
    exact pm_s_simple hX (hk _ _ _ _ _ _ h).2 (fun H locs lsA u v w => lv_ishl hx hb hd w)
  case h_21 =>
    obtain ⟨rfl, rfl⟩ := of_decide_eq_true hok
    exact pm_s_simple hX (hk _ _ _ _ _ _ h).2 (fun H locs lsA u v w => lv_ishr hx hb hd w)
  case h_22 =>
    obtain ⟨rfl, rfl⟩ := of_decide_eq_true hok
    exact pm_s_simple hX (hk _ _ _ _ _ _ h).2 (fun H locs lsA u v w => lv_iushr hx hb hd rfl w)
  case h_23 =>
    obtain ⟨rfl, rfl⟩ := of_decide_eq_true hok
    exact pm_s_simple hX (hk _ _ _ _ _ _ h).2 (fun H locs lsA u v w => lv_i2s hx hb hd rfl w)
  case h_24 =>
    obtain ⟨rfl, rfl⟩ := of_decide_eq_true hok
    exact pm_s_simple hX (hk _ _ _ _ _ _ h).2 (fun H locs lsA u v w => lv_i2b hx hb hd rfl w)
  case h_25 =>
    obtain ⟨rfl, rfl⟩ := of_decide_eq_true hok
    exact pm_s_simple hX (hk _ _ _ _ _ _ h).2 (fun H locs lsA u v w => lv_i2c hx hb hd rfl w)
  case h_26 =>
    dsimp only at hok
    split at hok
    · obtain ⟨rfl, h2, rfl⟩ := of_decide_eq_true hok
      refine pm_s_if hX hd h2 (fun hc => ?_) (fun hc => ?_)
      · rw [if_pos hc] at h
        exact (hk _ _ _ _ _ _ h).2
      · rw [if_neg hc] at h
        exact (hk _ _ _ _ _ _ h).2
    · cases hok
  case h_27 =>
    dsimp only at hok
    split at hok
    · obtain ⟨rfl, h2, rfl⟩ := of_decide_eq_true hok
      refine pm_s_icmp hX hd h2 (fun hc => ?_) (fun hc => ?_)
      · rw [if_pos hc] at h
        exact (hk _ _ _ _ _ _ h).2
      · rw [if_neg hc] at h
        exact (hk _ _ _ _ _ _ h).2
    · cases hok
  case h_28 =>
    dsimp only at hok
    split at hok
    · obtain ⟨h2, rfl⟩ := of_decide_eq_true hok
      have k := (hk _ _ _ _ _ _ h).2
      exact fun H locs lsA hn hs hR hS hL => lv_goto hx hb hd h2 (k H locs lsA hn hs hR hS hL)
    · cases hok
  case h_29 => exact pm_s_sw hX hd hok (hk _ _ _ _ _ _ h).2
  case h_30 =>
    split at h
    · rename_i hs
      exact pm_s_get hX hd hok hs (Or.inl ⟨rfl, rfl⟩) (hk _ _ _ _ _ _ h).2
    · cases h
  case h_31 =>
    split at h
    · rename_i hs
      exact pm_s_get hX hd hok hs (Or.inr (Or.inl ⟨rfl, rfl⟩)) (hk _ _ _ _ _ _ h).2
    · cases h
  case h_32 h30 h31 =>
    split at h
    · rename_i hs
      exact pm_s_get hX hd hok hs (Or.inr (Or.inr ⟨fun z => h30 z, fun z => h31 z, rfl⟩)) (hk _ _ _ _ _ _ h).2
    · cases h
  case h_33 =>
    split at h
    · rename_i hs
      exact pm_s_put hX hini hd hok hs.1 (Or.inl ⟨rfl, ⟨_, rfl, pm_fib_iff.mp hs.2, rfl⟩, rfl⟩) (hk _ _ _ _ _ _ h).2
    · cases h
  case h_34 =>
    split at h
    · rename_i hs
      exact pm_s_put hX hini hd hok hs (Or.inr (Or.inl ⟨rfl, rfl, _, rfl, rfl⟩)) (hk _ _ _ _ _ _ h).2
    · cases h
  case h_35 =>
    split at h
    · rename_i hs
      exact pm_s_put hX hini hd hok hs.1 (Or.inr (Or.inr ⟨by decide, by decide, rfl, _, rfl, hs.2, rfl⟩)) (hk _ _ _ _ _ _ h).2
    · cases h
  case h_36 =>
    split at h
    · rename_i hs
      exact pm_s_iald hX hd hok (pm_aob_iff.mp hs) (hk _ _ _ _ _ _ h).2
    · cases h
  case h_37 =>
    obtain ⟨rfl, rfl, h4, h8⟩ := of_decide_eq_true hok
    split at h
    · rename_i hs
      exact pm_s_aald hX hd ⟨h4, h8⟩ (pm_aob_iff.mp hs) (hk _ _ _ _ _ _ h).2
    · cases h
  case h_38 =>
    split at h
    · rename_i hs
      exact pm_s_iast hX hd hok (pm_awb_iff.mp hs.1) (pm_fib_iff.mp hs.2) (hk _ _ _ _ _ _ h).2
    · cases h
  case h_39 =>
    dsimp only at hok
    rw [Bool.and_eq_true, decide_eq_true_eq] at hok
    obtain ⟨⟨rfl, rfl, h4, h8, hb11⟩, hok⟩ := hok
    split at hok
    · rename_i r hrr
      split at h
      · rename_i hs
        exact pm_s_aast hX hd ⟨h4, h8, hb11⟩ hrr (of_decide_eq_true hok) (pm_awb_iff.mp hs.1) hs.2 (hk _ _ _ _ _ _ h).2
      · cases h
    · cases hok
  case h_40 =>
    obtain ⟨rfl, rfl⟩ := of_decide_eq_true hok
    split at h
    · rename_i hs
      exact pm_s_alen hX hd hs (hk _ _ _ _ _ _ h).2
    · cases h
  case h_41 =>
    split at h
    · cases h
    · rename_i hn
      have k := hk _ _ _ _ _ _ h
      exact pm_s_newa hX hd hok hn (room1 k.1) k.2
  case h_42 =>
    have k := hk _ _ _ _ _ _ h
    exact pm_s_new hX hd hok (room1 k.1) k.2
  case h_43 =>
    split at h
    · rename_i hs
      split at h
      · cases h
      · rename_i v' sh' hr' hi' hcl
        have k := hk _ _ _ _ _ _ h
        obtain ⟨hgr, hM⟩ := hcall _ _ _ _ _ _ _ _ _ hcl
        cases hMI : MI a with
        | none =>
          have hok : pm_k_inv MI own _ a b cv sw n ins = true := hok
          unfold pm_k_inv at hok
          rw [hMI] at hok
          cases hok
        | some M =>
          refine pm_s_call hX hMI (hmi a M hMI) hd hok ⟨hs.1, hs.2.1⟩ hs.2.2 (hM M hMI) hgr ?_ k.2
          obtain ⟨ext, he⟩ := k.1
          obtain ⟨g1, g2, g3⟩ := hroom
          rw [he] at g1 g2
          have e2 : pm_sl (sh' ++ ext) = pm_sl sh' + pm_sl ext := by unfold pm_sl; rw [List.map_append, List.sum_append]
          rw [e2] at g2
          rw [List.length_append] at g1
          exact ⟨by omega, by omega, g3⟩
    · cases h
  case h_44 =>
    split at h
    · rename_i hs
      dsimp only at hok
      split at hok
      · rw [Bool.and_eq_true, decide_eq_true_eq] at hok
        obtain ⟨rfl, hok⟩ := hok
        exact pm_s_copy hX hd hok (pm_cpb_iff.mp hs.1) hs.2 ⟨by omega, by omega⟩ (hk _ _ _ _ _ _ h).2
      · cases hok
    · cases h
  case h_45 =>
    split at h
    · rename_i hs
      cases h
      exact hret (some (.inl _)) (Or.inl ⟨_, rfl, rfl, hs⟩) rfl
    · cases h
  case h_46 =>
    cases h
    exact hret (some (.inr _)) (Or.inr (Or.inl ⟨_, rfl, rfl⟩)) rfl
  case h_47 =>
    cases h
    exact hret none (Or.inr (Or.inr ⟨rfl, rfl⟩)) rfl
  case h_48 =>
    dsimp only at hok
    split at h
    · rename_i hs
      split at hok
      · rw [Bool.and_eq_true, decide_eq_true_eq] at hok
        obtain ⟨rfl, hok⟩ := hok
        have k := hk _ _ _ _ _ _ h
        have hrm := room0 k.1
        intro H locs lsA hn hs2 hR hS hL
        have k := k.2 H locs lsA hn hs2 hR hS hL
        obtain ⟨-, -, hown, hts, hml, hC, hz⟩ := hX
        exact va_mmax hx hb (by rw [hml, hL.2.1]) hown (hts _ (pm_w_in hok)) (hts (.static Lib.Math.max.name) (pm_w_in (a := 440) (by decide +kernel))) (hts (.initialized "java/lang/Math") (pm_w_in (a := 76) (by decide +kernel))) (hts (.code Lib.Math.max.name Lib.Math.max.code 2 (some .int)) (pm_w_in (a := 441) (by decide +kernel))) (by omega) (by rw [pm_sum hrf]; omega) hrm.1 hrm.2 hd k
      · cases hok
    · cases h
  case h_49 =>
    dsimp only at hok
    split at h
    · rename_i hs
      split at hok
      · rw [Bool.and_eq_true, decide_eq_true_eq] at hok
        obtain ⟨rfl, hok⟩ := hok
        have k := hk _ _ _ _ _ _ h
        have hrm := room0 k.1
        intro H locs lsA hn hs2 hR hS hL
        have k := k.2 H locs lsA hn hs2 hR hS hL
        obtain ⟨-, -, hown, hts, hml, hC, hz⟩ := hX
        exact va_mmin hx hb (by rw [hml, hL.2.1]) hown (hts _ (pm_w_in hok)) (hts (.static Lib.Math.min.name) (pm_w_in (a := 437) (by decide +kernel))) (hts (.initialized "java/lang/Math") (pm_w_in (a := 76) (by decide +kernel))) (hts (.code Lib.Math.min.name Lib.Math.min.code 2 (some .int)) (pm_w_in (a := 438) (by decide +kernel))) (by omega) (by rw [pm_sum hrf]; omega) hrm.1 hrm.2 hd k
      · cases hok
    · cases h
  case h_50 =>
    dsimp only at hok
    split at h
    · rename_i hs
      split at hok
      · rw [Bool.and_eq_true, decide_eq_true_eq] at hok
        obtain ⟨⟨rfl, hb11⟩, hok⟩ := hok
        have k := (hk _ _ _ _ _ _ h).2
        intro H locs lsA hn hs2 hR hS hL
        obtain ⟨hq, -⟩ := hR.obj hs.1 (by omega) (by omega)
        have k := k H locs lsA hn hs2 hR hS hL
        have had := hX.ad
        obtain ⟨-, -, hown, hts, hml, hC, hz⟩ := hX
        have hsum := pm_sum hrf (E := E)
        show W p l e R s m args below meth c H locs (sh.length - n0) (pm_sl sh - s0) Q (F0 m pc lsA (E.1 _ :: _))
        rw [had _ hq]
        refine W.objInit hx hb hown (hts _ (pm_w_in hok)) (hts (.instanceMethod objectInit) (pm_w_in (a := 91) (by decide +kernel))) (hts (.code objectInit ⟨#[0xb1]⟩ 1 none) (pm_w_in (a := 92) (by decide +kernel))) rfl (by rw [hml]; exact hL.2.1) rfl hd (by omega) ?_ k
        show 2 * 0 + _ + 12 ≤ _
        rw [pm_sum hrf]
        omega
      · cases hok
    · cases h
  case h_51 => cases h
end PMR
