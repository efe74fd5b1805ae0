/-! ===== runs and calls ===== -/
section PMX
variable {p : Program} {l : Launch} {e : Env} {R : Room} {s : State} {m : MethodId} {args : Array Value} {below : List Frame} {meth : Method} {c : Code} {Q : State → Prop}
variable {E : pm_E} {L : Nat} {r0 : pm_A} {h0 : pm_B} {own nm : String} {cc : ByteArray} {nL n0 s0 : Nat}
/-- the shapes of an end -/
def pm_rt (r : pm_I) (v : Option pm_V) : Prop := (∃ x, r.1 = .ireturn ∧ v = some (.inl x) ∧ pm_fib r.2.2.1 x = true) ∨ (∃ q, r.1 = .areturn ∧ v = some (.inr q)) ∨ (r.1 = .return_ ∧ v = none)
theorem pm_sim_exec {call : Nat → List pm_V → pm_S → pm_A → pm_B → pm_O} {MI : Nat → Option pm_M} {t : pm_T} {o : Option pm_V × pm_S × pm_A × pm_B} {ret : Option FieldType} {d : Nat} (hX : pm_X p s m args c E L r0 h0 own cc nL) (hini : nm = "<init>" → meth.name = "<init>") (hmi : ∀ a M, MI a = some M → pm_mokb M = true)
    (hrows : ∀ pc r, pm_at t pc = some r → pm_okb MI own nm ret cc pc r = true) (hroom : o.2.1.length - n0 ≤ R.cells ∧ pm_sl o.2.1 - s0 ≤ R.slots ∧ d + 2 ≤ R.frames ∧ 40 * d + 140 ≤ R.locals)
    (hcall : ∀ a av sh hr hi v sh' hr' hi', call a av sh hr hi = some (v, sh', hr', hi') → (∃ ext, sh' = sh ++ ext) ∧ ∀ M, MI a = some M → pm_Met l E L r0 h0 M d av sh hr hi v sh' hr' hi')
    (hret : ∀ pc r ls v sh hr hi, pm_at t pc = some r → pm_rt r v → o = (v, sh, hr, hi) → pm_KK p l e R s m args below meth c Q E L r0 h0 nL n0 s0 pc ls v.toList sh hr hi) :
    ∀ (n pc : Nat) (ls : pm_L) (st : List pm_V) (sh : pm_S) (hr : pm_A) (hi : pm_B), pm_exec call t n pc ls st sh hr hi = some o → pm_KK p l e R s m args below meth c Q E L r0 h0 nL n0 s0 pc ls st sh hr hi
  | 0, _, _, _, _, _, _, h => by cases h
  | n + 1, pc, ls, st, sh, hr, hi, h => by
    unfold pm_exec at h
    split at h
    · cases h
    · rename_i r he
      exact pm_sim_step hX hini hmi (hrows pc r he) hroom hcall (fun pc ls st sh hr hi h => ⟨pm_exec_grow (fun a av sh hr hi v sh' hr' hi' h => (hcall a av sh hr hi v sh' hr' hi' h).1) t n pc ls st sh hr hi o h, pm_sim_exec hX hini hmi hrows hroom hcall hret n pc ls st sh hr hi h⟩) (fun v h1 h2 => hret pc r ls v sh hr hi he h1 h2) h
end PMX
theorem pm_lg_sl {vl : pm_N} (hvl : ∀ q, (vl q).isRef = true) : ∀ (av : List pm_V), lg_sl (av.map (pm_vl vl)) = av.map (fun v => Slot.val (pm_vl vl v))
  | [] => rfl
  | v :: av => by
    have ih := pm_lg_sl hvl av
    unfold lg_sl at ih ⊢
    rw [List.map_cons, List.flatMap_cons, ih, if_neg (by rw [pm_cat hvl v]; decide)]
    rfl
theorem pm_LR_ent {vl : pm_N} (hvl : ∀ q, (vl q).isRef = true) {av : List pm_V} {maxL : Nat} (h : av.length ≤ maxL) : pm_LR vl maxL (pm_ent maxL av) ((lg_sl (av.map (pm_vl vl)) ++ List.replicate (maxL - (lg_sl (av.map (pm_vl vl))).length) Slot.unset).toArray) := by
  have hsl := pm_lg_sl hvl av
  have h1 := lv_entry (av.map (pm_vl vl)) (n := maxL) (by rw [hsl, List.length_map]; exact h)
  refine ⟨by unfold pm_ent; rw [List.length_append, List.length_map, List.length_replicate]; omega, h1.1, h1.2.1, ?_⟩
  rintro ⟨j, w⟩ hj
  obtain ⟨v, hv, rfl⟩ := pm_lv_mem.mp hj
  unfold pm_ent at hv
  have hlt : j < av.length := by
    by_cases hlt : j < av.length
    · exact hlt
    · rw [List.getElem?_append_right (by rw [List.length_map]; omega)] at hv
      rw [List.getElem?_replicate] at hv
      split at hv <;> cases hv
  rw [List.getElem?_append_left (by rw [List.length_map]; exact hlt), List.getElem?_map] at hv
  cases ha : av[j]? with
  | none => rw [ha] at hv; cases hv
  | some u =>
    rw [ha] at hv
    have hu : u = v := Option.some.inj (Option.some.inj hv)
    subst hu
    rw [List.getElem?_toArray, List.getElem?_append_left (by rw [hsl, List.length_map]; exact hlt), hsl, List.getElem?_map, ha]
    rfl
theorem pm_narrow {ret : Option FieldType} {a : Nat} {x : Int32} (h : (ret = some .int ∧ a = 0) ∨ (ret = some .byte ∧ a = 1) ∨ (ret = some .char ∧ a = 2) ∨ (ret = some .boolean ∧ a = 3)) (hf : pm_fit a x) : ∃ ty, ret = some ty ∧ narrow ty (.int x) = .int x := by
  rcases h with ⟨rfl, rfl⟩ | ⟨rfl, rfl⟩ | ⟨rfl, rfl⟩ | ⟨rfl, rfl⟩
  · exact ⟨_, rfl, rfl⟩
  · have hf : x.toInt8.toInt32 = x := hf
    exact ⟨_, rfl, by rw [← hf]; exact pk_nb x⟩
  · have hf : (x.toUInt32 % 65536).toInt32 = x := hf
    exact ⟨_, rfl, by rw [← hf]; exact pk_nc x⟩
  · have hf : x = 0 ∨ x = 1 := hf
    exact ⟨_, rfl, by rcases hf with rfl | rfl <;> rfl⟩
/-- what the program's tables must be -/
def pm_good_G (G : pm_G) (MI : Nat → Option pm_M) : Prop := (∀ a M, MI a = some M → pm_mokb M = true) ∧ ∀ m maxL t, G m = some (maxL, t) → ∀ M, MI m = some M → M.2.2.1 = maxL ∧ ∀ pc r, pm_at t pc = some r → pm_okb MI M.1.cls M.1.name M.2.2.2.1 M.2.1 pc r = true
set_option maxHeartbeats 1000000 in
theorem pm_sim_call {l : Launch} {E : pm_E} {L : Nat} {r0 : pm_A} {h0 : pm_B} {G : pm_G} {MI : Nat → Option pm_M} (hG : pm_good_G G MI) (N : Nat) : ∀ (d a : Nat) (av : List pm_V) (sh : pm_S) (hr : pm_A) (hi : pm_B) (v : Option pm_V) (sh' : pm_S) (hr' : pm_A) (hi' : pm_B), pm_call G N d a av sh hr hi = some (v, sh', hr', hi') → ∀ M, MI a = some M → pm_Met l E L r0 h0 M d av sh hr hi v sh' hr' hi'
  | 0, _, _, _, _, _, _, _, _, _, h => by cases h
  | d + 1, a, av, sh, hr, hi, v, sh', hr', hi', h => by
    intro M hMI
    have hgr := pm_call_grow G N (d + 1) a av sh hr hi v sh' hr' hi' h
    have hmok := hG.1 a M hMI
    unfold pm_call at h
    split at h
    · cases h
    rename_i maxL t hGa
    obtain ⟨hmaxL, hrows⟩ := hG.2 a maxL t hGa M hMI
    by_cases hlav : av.length ≤ maxL
    case neg =>
      rw [if_neg hlav] at h
      cases h
    rw [if_pos hlav] at h
    obtain ⟨y, bytes, maxL', ret, cw, iw, kw, lw, stt⟩ := M
    subst hmaxL
    dsimp only at hlav h hrows
    simp only [pm_mokb, Bool.and_eq_true, decide_eq_true_eq] at hmok
    obtain ⟨⟨⟨⟨wc, wi⟩, wk⟩, ⟨wh1, wh2, hmax⟩⟩, wp⟩ := hmok
    refine Met.ofW (cc := bytes) (maxL := maxL') (ret := ret) wp rfl ?_
    intro p e s m args below meth c s₁ B hml hv
    obtain ⟨rfl, hC, hR⟩ := hv
    have hts0 := atoms_spec (ws := Cond.code y bytes maxL' ret :: pm_ts) B.pre
    have hown : s.vm.findClass y.cls = some m.cls := findClass_of_methodNamed B.named
    have hlocks := B.notSynchronized
    have hretT := B.returns
    have hnam : meth.name = y.name := (name_of_methodNamed B.named B.method).1
    have hX : pm_X p s m (av.map (pm_vl E.1)).toArray c E L r0 h0 y.cls bytes maxL' := ⟨B.exec, B.bytes, hown, fun w hw => hts0 w (List.mem_cons_of_mem _ hw), hml, hC, by rw [hR.1]; omega⟩
    have hrf := hX.rf
    rw [lg_entry_eq]
    have hg1 : sh.length ≤ sh'.length := by obtain ⟨ext, rfl⟩ := hgr; rw [List.length_append]; omega
    have key := pm_sim_exec (p := p) (l := l) (e := e) (below := below) (meth := meth) (R := (headSpec (Cond.code y bytes maxL' ret :: pm_ts) (pm_rm (d + 1) (sh'.length - sh.length) (pm_sl sh' - pm_sl sh))).room) (nm := y.name) (ret := ret) (d := d) (n0 := sh.length) (s0 := pm_sl sh) (Q := MQ below (pm_Qc E L r0 h0 v sh' hr' hi') (av.map (pm_vl E.1)).toArray s (sh'.length - sh.length) (pm_sl sh' - pm_sl sh) (pm_Af E)) (o := (v, sh', hr', hi')) hX (fun hn => hnam.trans hn) hG.1 hrows
      ⟨Nat.le_refl _, Nat.le_refl _, Nat.le_refl _, by show 40 * d + 140 ≤ 40 * (d + 1) + 100; omega⟩ (fun a av sh hr hi v sh' hr' hi' h => ⟨pm_call_grow G N d a av sh hr hi v sh' hr' hi' h, pm_sim_call hG N d a av sh hr hi v sh' hr' hi' h⟩) ?_ N 0 (pm_ent maxL' av) [] sh hr hi h s.heap [] _ (Nat.le_refl _) (Nat.le_refl _) hR va_S.rf (pm_LR_ent hrf hlav)
    · rw [Nat.sub_self, Nat.sub_self] at key
      exact key
    · intro pc r ls v2 sh2 hr2 hi2 he hrt heq
      cases heq
      intro H locs lsA hn hs hR2 hS hL
      have hok := hrows pc r he
      obtain ⟨op, len, a2, b2, c2, sw2⟩ := r
      unfold pm_okb at hok
      cases hd : decode bytes pc with
      | error _ => rw [hd] at hok; cases hok
      | ok il =>
      rw [hd] at hok
      obtain ⟨ins, n⟩ := il
      dsimp only at hok
      rw [Bool.and_eq_true, decide_eq_true_eq] at hok
      obtain ⟨rfl, hok⟩ := hok
      rcases hrt with ⟨x, h1, rfl, hfib⟩ | ⟨q, h1, rfl⟩ | ⟨h1, rfl⟩
      · dsimp only at h1 hfib
        subst h1
        obtain ⟨rfl, rfl, hty⟩ := of_decide_eq_true hok
        obtain ⟨ty, hrty, hnar⟩ := pm_narrow hty (pm_fib_iff.mp hfib)
        exact W.zret B.exec B.bytes (hretT.trans hrty) hnar (fun t ht hW => ⟨rfl, by rw [ht]; exact hR2, hS.F ht⟩) hS.2.2 hd
      · dsimp only at h1
        subst h1
        dsimp only at hok
        rw [Bool.and_eq_true, decide_eq_true_eq] at hok
        obtain ⟨⟨rfl, rfl⟩, hok⟩ := hok
        cases hrr : ret with
        | none => rw [hrr] at hok; cases hok
        | some ty =>
          rw [hrr] at hok
          refine W.aret (rt := ty) (v := E.1 q) B.exec B.bytes (hretT.trans hrr) ?_ ?_ (fun t ht hW => ⟨rfl, by rw [ht]; exact hR2, hS.F ht⟩) hS.2.2 hd
          · cases ty <;> first | (cases hok; done) | exact Or.inl ⟨_, rfl⟩ | exact Or.inr ⟨_, rfl⟩
          · have h2 := hrf q
            cases hq : E.1 q <;> rw [hq] at h2 <;> first | (cases h2; done) | exact Or.inl rfl | exact Or.inr ⟨_, rfl⟩
      · dsimp only at h1
        subst h1
        obtain ⟨rfl, rfl, hrn⟩ := of_decide_eq_true hok
        exact W.vret B.exec B.bytes (hretT.trans hrn) (fun t ht hW => ⟨rfl, by rw [ht]; exact hR2, hS.F ht⟩) hS.2.2 hd
