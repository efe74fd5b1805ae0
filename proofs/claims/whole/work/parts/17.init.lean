/-! ===== the constructors, run; the script's cell is not touched by them ===== -/
abbrev pm_D : pm_K := (0, 99999, 0)
def pm_so (k : pm_K) (sh : pm_S) : pm_S := sh.set 1 k
def pm_ov (xs : Nat → Int32) (hi : pm_B) : pm_B := fun q j => if q = 1 then xs j else hi q j
def pm_ltb (r : pm_I) : Bool := Nat.blt r.2.2.1 99999 && Nat.blt r.2.2.2.1 99999 && r.2.2.2.2.2.all (fun z => Nat.blt z.2 99999)
section PMO
variable {k : pm_K} {xs : Nat → Int32} {sh : pm_S} {hr : pm_A} {hi : pm_B} {q : Nat}
theorem pm_so_ne (h : q ≠ 1) : (pm_so k sh)[q]? = sh[q]? := by unfold pm_so; rw [List.getElem?_set_ne (Ne.symm h)]
theorem pm_so_of {t a n : Nat} (h1 : sh[1]? = some pm_D) (ha : (t, a, n) ≠ pm_D) (h : sh[q]? = some (t, a, n)) : q ≠ 1 ∧ (pm_so k sh)[q]? = some (t, a, n) := by
  have hq : q ≠ 1 := by
    rintro rfl
    rw [h1] at h
    exact ha (Option.some.inj h).symm
  exact ⟨hq, by rw [pm_so_ne hq]; exact h⟩
theorem pm_so_obj {a : Nat} (h1 : sh[1]? = some pm_D) (ha : a < 99999) (h : sh[q]? = some (0, a, 0)) : q ≠ 1 ∧ (pm_so k sh)[q]? = some (0, a, 0) := pm_so_of h1 (fun z => by cases z; omega) h
theorem pm_ov_ne (h : q ≠ 1) (j : Nat) : pm_ov xs hi q j = hi q j := by unfold pm_ov; rw [if_neg h]
theorem pm_ov_u (h : q ≠ 1) (j : Nat) (v : Int32) : pm_u (pm_ov xs hi) q j v = pm_ov xs (pm_u hi q j v) := by
  funext a b
  unfold pm_u pm_ov
  by_cases h1 : a = 1
  · rw [if_pos h1, if_pos h1, if_neg (fun z => h (z.1.symm.trans h1))]
  · rw [if_neg h1, if_neg h1]
theorem pm_ov_z (h : q ≠ 1) (v : Int32) : pm_z (pm_ov xs hi) q v = pm_ov xs (pm_z hi q v) := by
  funext a b
  unfold pm_z pm_ov
  by_cases h1 : a = 1
  · rw [if_pos h1, if_pos h1, if_neg (fun z => h (z.symm.trans h1))]
  · rw [if_neg h1, if_neg h1]
theorem pm_so_app (h1 : sh[1]? = some pm_D) (z : pm_K) : pm_so k sh ++ [z] = pm_so k (sh ++ [z]) := by
  have hl : 1 < sh.length := (List.getElem?_eq_some_iff.mp h1).1
  unfold pm_so
  rw [List.set_append_left _ _ hl]
theorem pm_so_len : (pm_so k sh).length = sh.length := by unfold pm_so; rw [List.length_set]
theorem pm_so_ao {a : Nat} {i : Int32} (h1 : sh[1]? = some pm_D) (h : pm_aob sh q a i = true) : q ≠ 1 ∧ pm_aob (pm_so k sh) q a i = true := by
  obtain ⟨t, n, h2, h3⟩ := pm_aob_iff.mp h
  obtain ⟨g1, g2⟩ := pm_so_of (k := k) h1 (fun z => by cases z) h2
  exact ⟨g1, pm_aob_iff.mpr ⟨t, n, g2, h3⟩⟩
theorem pm_so_aw {a : Nat} {i : Int32} (h1 : sh[1]? = some pm_D) (h : pm_awb sh q a i = true) : q ≠ 1 ∧ pm_awb (pm_so k sh) q a i = true := by
  obtain ⟨n, h2, h3⟩ := pm_awb_iff.mp h
  obtain ⟨g1, g2⟩ := pm_so_of (k := k) h1 (fun z => by cases z) h2
  exact ⟨g1, pm_awb_iff.mpr ⟨n, g2, h3⟩⟩
theorem pm_so_rc {sw : List (Int32 × Nat)} {av : List pm_V} (h1 : sh[1]? = some pm_D) (hl : sw.all (fun z => Nat.blt z.2 99999) = true) (h : (sw.all fun z => pm_rcv sh z.2 av) = true) : (sw.all fun z => pm_rcv (pm_so k sh) z.2 av) = true := by
  rw [List.all_eq_true] at h hl ⊢
  intro z hz
  obtain ⟨q, tl, rfl, h2⟩ := pm_rcv_spec (h z hz)
  have h3 := hl z hz
  rw [Nat.blt_eq] at h3
  exact decide_eq_true (pm_so_obj h1 h3 h2).2
theorem pm_so_cp {d : Nat} {sp dp n : Int32} (h1 : sh[1]? = some pm_D) (h : pm_cpb sh q d sp dp n = true) : q ≠ 1 ∧ d ≠ 1 ∧ pm_cpb (pm_so k sh) q d sp dp n = true := by
  obtain ⟨m1, m2, a1, a2, h3⟩ := pm_cpb_iff.mp h
  obtain ⟨g1, g2⟩ := pm_so_of (k := k) h1 (fun z => by cases z) a1
  obtain ⟨g3, g4⟩ := pm_so_of (k := k) h1 (fun z => by cases z) a2
  exact ⟨g1, g3, pm_cpb_iff.mpr ⟨m1, m2, g2, g4, h3⟩⟩
theorem pm_ov_cp {d sp dp n : Nat} (hq : q ≠ 1) (hd : d ≠ 1) : pm_cp (pm_ov xs hi) q sp d dp n = pm_ov xs (pm_cp hi q sp d dp n) := by
  funext a b
  unfold pm_cp pm_ov
  by_cases h1 : a = 1
  · rw [if_pos h1, if_pos h1, if_neg (fun z => hd (z.1.symm.trans h1))]
  · rw [if_neg h1, if_neg h1, if_neg hq]
end PMO
section PMP
variable {k : pm_K} {xs : Nat → Int32} {c1 c2 : Nat → List pm_V → pm_S → pm_A → pm_B → pm_O} {k1 k2 : Nat → pm_L → List pm_V → pm_S → pm_A → pm_B → pm_O} {o : Option pm_V × pm_S × pm_A × pm_B}
def pm_oo (k : pm_K) (xs : Nat → Int32) (o : Option pm_V × pm_S × pm_A × pm_B) : Option pm_V × pm_S × pm_A × pm_B := (o.1, pm_so k o.2.1, o.2.2.1, pm_ov xs o.2.2.2)
set_option maxHeartbeats 4000000 in
theorem pm_step_ov (hc : ∀ m a sh hr hi o, sh[1]? = some pm_D → c1 m a sh hr hi = some o → o.2.1[1]? = some pm_D ∧ c2 m a (pm_so k sh) hr (pm_ov xs hi) = some (pm_oo k xs o))
    (hk : ∀ pc ls st sh hr hi, sh[1]? = some pm_D → k1 pc ls st sh hr hi = some o → o.2.1[1]? = some pm_D ∧ k2 pc ls st (pm_so k sh) hr (pm_ov xs hi) = some (pm_oo k xs o))
    {r : pm_I} (hlt : pm_ltb r = true) {pc : Nat} {ls : pm_L} {st : List pm_V} {sh : pm_S} {hr : pm_A} {hi : pm_B} (h1 : sh[1]? = some pm_D) (h : pm_step c1 k1 r pc ls st sh hr hi = some o) : o.2.1[1]? = some pm_D ∧ pm_step c2 k2 r pc ls st (pm_so k sh) hr (pm_ov xs hi) = some (pm_oo k xs o) := by
  obtain ⟨op, len, a, b, c, sw⟩ := r
  unfold pm_ltb at hlt
  dsimp only at hlt
  rw [Bool.and_eq_true, Bool.and_eq_true, Nat.blt_eq, Nat.blt_eq] at hlt
  obtain ⟨⟨ha, hb⟩, hsw⟩ := hlt
  have happ : ∀ z : pm_K, (sh ++ [z])[1]? = some pm_D := fun z => by rw [List.getElem?_append_left (List.getElem?_eq_some_iff.mp h1).1]; exact h1
  have hl1 : sh.length ≠ 1 := by have := (List.getElem?_eq_some_iff.mp h1).1; omega
  unfold pm_step at h
  dsimp only at h
  split at h
  all_goals simp only [pm_step]
  case h_30 =>
    split at h
    · rename_i hs
      obtain ⟨g1, g2⟩ := pm_so_obj (k := k) h1 ha hs
      rw [if_pos g2, pm_ov_ne g1]
      exact hk _ _ _ _ _ _ h1 h
    · cases h
  case h_31 =>
    split at h
    · rename_i hs
      obtain ⟨g1, g2⟩ := pm_so_obj (k := k) h1 ha hs
      rw [if_pos g2]
      exact hk _ _ _ _ _ _ h1 h
    · cases h
  case h_32 =>
    split at h
    · rename_i hs
      obtain ⟨g1, g2⟩ := pm_so_obj (k := k) h1 ha hs
      rw [if_pos g2, pm_ov_ne g1]
      exact hk _ _ _ _ _ _ h1 h
    · cases h
  case h_33 =>
    split at h
    · rename_i hs
      obtain ⟨g1, g2⟩ := pm_so_obj (k := k) h1 ha hs.1
      rw [if_pos ⟨g2, hs.2⟩, pm_ov_u g1]
      exact hk _ _ _ _ _ _ h1 h
    · cases h
  case h_34 =>
    split at h
    · rename_i hs
      obtain ⟨g1, g2⟩ := pm_so_obj (k := k) h1 ha hs
      rw [if_pos g2]
      exact hk _ _ _ _ _ _ h1 h
    · cases h
  case h_35 =>
    split at h
    · rename_i hs
      obtain ⟨g1, g2⟩ := pm_so_obj (k := k) h1 ha hs.1
      rw [if_pos ⟨g2, hs.2⟩, pm_ov_u g1]
      exact hk _ _ _ _ _ _ h1 h
    · cases h
  case h_36 =>
    split at h
    · rename_i hs
      obtain ⟨g1, g2⟩ := pm_so_ao (k := k) h1 hs
      rw [if_pos g2, pm_ov_ne g1]
      exact hk _ _ _ _ _ _ h1 h
    · cases h
  case h_37 =>
    split at h
    · rename_i hs
      obtain ⟨g1, g2⟩ := pm_so_ao (k := k) h1 hs
      rw [if_pos g2]
      exact hk _ _ _ _ _ _ h1 h
    · cases h
  case h_38 =>
    split at h
    · rename_i hs
      obtain ⟨g1, g2⟩ := pm_so_aw (k := k) h1 hs.1
      rw [if_pos ⟨g2, hs.2⟩, pm_ov_u g1]
      exact hk _ _ _ _ _ _ h1 h
    · cases h
  case h_39 =>
    split at h
    · rename_i hs
      obtain ⟨g1, g2⟩ := pm_so_aw (k := k) h1 hs.1
      obtain ⟨g3, g4⟩ := pm_so_obj (k := k) h1 hb hs.2
      rw [if_pos ⟨g2, g4⟩]
      exact hk _ _ _ _ _ _ h1 h
    · cases h
  case h_40 =>
    split at h
    · rename_i hs
      obtain ⟨g1, g2⟩ := pm_so_of (k := k) h1 (fun z => by cases z) hs
      rw [g2]
      exact hk _ _ _ _ _ _ h1 h
    · cases h
  case h_41 =>
    split at h
    · cases h
    · rename_i hs
      rw [if_neg hs, pm_so_len, pm_so_app h1, pm_ov_z hl1]
      exact hk _ _ _ _ _ _ (happ _) h
  case h_42 =>
    rw [pm_so_len, pm_so_app h1, pm_ov_z hl1]
    exact hk _ _ _ _ _ _ (happ _) h
  case h_43 =>
    split at h
    · rename_i hs
      rw [if_pos ⟨hs.1, hs.2.1, pm_so_rc h1 hsw hs.2.2⟩]
      split at h
      · cases h
      · rename_i v' sh' hr' hi' hcl
        obtain ⟨g1, g2⟩ := hc _ _ _ _ _ _ h1 hcl
        rw [g2]
        exact hk _ _ _ _ _ _ g1 h
    · cases h
  case h_44 =>
    split at h
    · rename_i hs
      obtain ⟨g1, g2, g3⟩ := pm_so_cp (k := k) h1 hs.1
      rw [if_pos ⟨g3, hs.2⟩, pm_ov_cp g1 g2]
      exact hk _ _ _ _ _ _ h1 h
    · cases h
  case h_45 =>
    split at h
    · rename_i hs
      rw [if_pos hs]
      cases h
      exact ⟨h1, rfl⟩
    · cases h
  case h_46 =>
    cases h
    exact ⟨h1, rfl⟩
  case h_47 =>
    cases h
    exact ⟨h1, rfl⟩
  case h_50 =>
    split at h
    · rename_i hs
      obtain ⟨g1, g2⟩ := pm_so_obj (k := k) h1 hb hs.1
      rw [if_pos ⟨g2, hs.2⟩]
      exact hk _ _ _ _ _ _ h1 h
    · cases h
  all_goals first
    | exact hk _ _ _ _ _ _ h1 h
    | (cases h; done)
    | (split at h <;> rename_i hq <;> first
        | (cases h; done)
        | (rw [if_pos hq]; exact hk _ _ _ _ _ _ h1 h)
        | (rw [if_neg hq]; exact hk _ _ _ _ _ _ h1 h)
        | (rw [hq]; exact hk _ _ _ _ _ _ h1 h)
        | exact hk _ _ _ _ _ _ h1 h)
theorem pm_exec_ov {t : pm_T} (ht : ∀ pc r, pm_at t pc = some r → pm_ltb r = true) (hc : ∀ m a sh hr hi o, sh[1]? = some pm_D → c1 m a sh hr hi = some o → o.2.1[1]? = some pm_D ∧ c2 m a (pm_so k sh) hr (pm_ov xs hi) = some (pm_oo k xs o)) : ∀ (n pc : Nat) (ls : pm_L) (st : List pm_V) (sh : pm_S) (hr : pm_A) (hi : pm_B), sh[1]? = some pm_D → pm_exec c1 t n pc ls st sh hr hi = some o → o.2.1[1]? = some pm_D ∧ pm_exec c2 t n pc ls st (pm_so k sh) hr (pm_ov xs hi) = some (pm_oo k xs o)
  | 0, _, _, _, _, _, _, _, h => by cases h
  | n + 1, pc, ls, st, sh, hr, hi, h1, h => by
    unfold pm_exec at h ⊢
    cases he : pm_at t pc with
    | none => rw [he] at h; cases h
    | some r =>
      rw [he] at h
      exact pm_step_ov hc (fun pc ls st sh hr hi h1 h => pm_exec_ov ht hc n pc ls st sh hr hi h1 h) (ht pc r he) h1 h
end PMP
theorem pm_call_ov {k : pm_K} {xs : Nat → Int32} {G : pm_G} (hG : ∀ m maxL t, G m = some (maxL, t) → ∀ pc r, pm_at t pc = some r → pm_ltb r = true) (N : Nat) : ∀ (d m : Nat) (a : List pm_V) (sh : pm_S) (hr : pm_A) (hi : pm_B) (o : Option pm_V × pm_S × pm_A × pm_B), sh[1]? = some pm_D → pm_call G N d m a sh hr hi = some o → o.2.1[1]? = some pm_D ∧ pm_call G N d m a (pm_so k sh) hr (pm_ov xs hi) = some (pm_oo k xs o)
  | 0, _, _, _, _, _, _, _, h => by cases h
  | d + 1, m, a, sh, hr, hi, o, h1, h => by
    unfold pm_call at h ⊢
    cases hg : G m with
    | none => rw [hg] at h; cases h
    | some q =>
      obtain ⟨maxL, t⟩ := q
      rw [hg] at h
      dsimp only at h ⊢
      split at h
      · rename_i hl
        rw [if_pos hl]
        exact pm_exec_ov (hG m maxL t hg) (pm_call_ov hG N d) N 0 _ _ _ _ _ h1 h
      · cases h
set_option maxRecDepth 100000 in
theorem pm_lt_all : pm_gs.all (fun l => l.all (fun q => q.2.flatten.all (fun z => pm_ltb z.2))) = true := by decide +kernel
theorem pm_lt_g : ∀ m maxL t, pm_g m = some (maxL, t) → ∀ pc r, pm_at t pc = some r → pm_ltb r = true := by
  intro m maxL t hg pc r hr
  unfold pm_g at hg
  have h1 := List.mem_of_getElem? hg
  rw [List.getD_eq_getElem?_getD] at h1
  cases hl : pm_gs[m / 16]? with
  | none => rw [hl] at h1; cases h1
  | some l =>
    rw [hl] at h1
    exact List.all_eq_true.mp (List.all_eq_true.mp (List.all_eq_true.mp pm_lt_all l (List.mem_of_getElem? hl)) _ h1) _ (pm_at_mem hr)
/-! the runs, without a script -/
def pm_e1 : pm_O := pm_call pm_g 2000 20 m_E_init [.inr 16] ((pm_sh0 0).set 1 pm_D ++ [(0, 9, 0)]) (pm_z pm_r0 16 0) (pm_z (pm_h0 (fun _ => 0)) 16 0)
def pm_e1o : Option pm_V × pm_S × pm_A × pm_B := pm_e1.getD (none, [], fun _ _ => 0, fun _ _ => 0)
def pm_e2 : pm_O := pm_call pm_g 2000 20 m_M_init [.inr 141] (pm_e1o.2.1 ++ [(0, 10, 0)]) (pm_z pm_e1o.2.2.1 141 0) (pm_z pm_e1o.2.2.2 141 0)
def pm_e2o : Option pm_V × pm_S × pm_A × pm_B := pm_e2.getD (none, [], fun _ _ => 0, fun _ _ => 0)
set_option maxRecDepth 100000 in
theorem pm_e1_ok : pm_e1.isSome = true := by decide +kernel
