/-! ===== the shape behind the constructors, printed by program; the law up to its loop ===== -/
abbrev nowF : Nat := 50
abbrev imgF : Nat := 69
abbrev triF : Nat := 88
/-- the shape: cell by cell -/
def SH (L : Nat) : pm_S := [(0, 99, 0), (2, 0, L), (2, 0, 6), (0, 11, 0), (0, 11, 0), (0, 11, 0), (0, 11, 0), (0, 11, 0), (0, 11, 0), (2, 1, 4), (2, 1, 3), (2, 1, 4), (2, 1, 3), (2, 1, 2), (2, 1, 2), (0, 99, 0),
  (0, 9, 0), (0, 1, 0), (1, 7, 15), (0, 8, 0), (1, 0, 96), (0, 8, 0), (1, 0, 96), (0, 8, 0), (1, 0, 96), (0, 8, 0), (1, 0, 96), (0, 8, 0), (1, 0, 96), (0, 8, 0), (1, 0, 96), (0, 8, 0),
  (1, 0, 96), (0, 8, 0), (1, 0, 96), (0, 8, 0), (1, 0, 96), (0, 8, 0), (1, 0, 96), (0, 8, 0), (1, 0, 96), (0, 8, 0), (1, 0, 96), (0, 8, 0), (1, 0, 96), (0, 8, 0), (1, 0, 96), (0, 8, 0),
  (1, 0, 96), (1, 0, 96), (0, 0, 0), (1, 4, 8), (0, 6, 0), (1, 0, 24), (0, 6, 0), (1, 0, 24), (0, 6, 0), (1, 0, 24), (0, 6, 0), (1, 0, 24), (0, 6, 0), (1, 0, 24), (0, 6, 0), (1, 0, 24),
  (0, 6, 0), (1, 0, 24), (0, 6, 0), (1, 0, 24), (1, 0, 3), (0, 0, 0), (1, 4, 8), (0, 6, 0), (1, 0, 24), (0, 6, 0), (1, 0, 24), (0, 6, 0), (1, 0, 24), (0, 6, 0), (1, 0, 24), (0, 6, 0),
  (1, 0, 24), (0, 6, 0), (1, 0, 24), (0, 6, 0), (1, 0, 24), (0, 6, 0), (1, 0, 24), (1, 0, 3), (0, 0, 0), (1, 4, 8), (0, 6, 0), (1, 0, 24), (0, 6, 0), (1, 0, 24), (0, 6, 0), (1, 0, 24),
  (0, 6, 0), (1, 0, 24), (0, 6, 0), (1, 0, 24), (0, 6, 0), (1, 0, 24), (0, 6, 0), (1, 0, 24), (0, 6, 0), (1, 0, 24), (1, 0, 3), (0, 7, 0), (1, 0, 96), (0, 2, 0), (0, 8, 0), (1, 0, 96),
  (1, 5, 4), (0, 4, 0), (1, 0, 24), (0, 4, 0), (1, 0, 24), (0, 4, 0), (1, 0, 24), (0, 4, 0), (1, 0, 24), (1, 6, 5), (0, 5, 0), (0, 4, 0), (1, 0, 24), (0, 5, 0), (0, 4, 0), (1, 0, 24),
  (0, 5, 0), (0, 4, 0), (1, 0, 24), (0, 5, 0), (0, 4, 0), (1, 0, 24), (0, 5, 0), (0, 4, 0), (1, 0, 24), (0, 3, 0), (1, 0, 12), (1, 0, 3), (1, 0, 60), (0, 10, 0), (1, 0, 1611), (1, 0, 1611),
  (1, 0, 1611), (1, 0, 12), (1, 0, 12), (1, 0, 13), (1, 0, 239), (1, 0, 96), (1, 2, 11), (1, 0, 4), (1, 0, 96), (1, 0, 96), (1, 3, 10), (1, 0, 96), (1, 0, 4), (1, 0, 4), (1, 0, 4), (1, 0, 96),
  (1, 0, 5), (1, 0, 5), (1, 0, 5), (1, 0, 120), (1, 0, 24), (1, 0, 60)]
def HR : pm_A := pm_e2o.2.2.1
def HI (xs : Nat → Int32) : pm_B := pm_ov xs pm_e2o.2.2.2
set_option maxRecDepth 100000 in
theorem pm_e2_ok : pm_e2.isSome = true := by decide +kernel
set_option maxRecDepth 100000 in
theorem pm_e1_len : pm_e1o.2.1.length = 141 := by decide +kernel
set_option maxRecDepth 100000 in
theorem pm_e1_1 : pm_e1o.2.1[1]? = some pm_D := by decide +kernel
set_option maxRecDepth 100000 in
theorem pm_e2_sh : pm_e2o.2.1 = [(0, 99, 0), (0, 99999, 0), (2, 0, 6), (0, 11, 0), (0, 11, 0), (0, 11, 0), (0, 11, 0), (0, 11, 0), (0, 11, 0), (2, 1, 4), (2, 1, 3), (2, 1, 4), (2, 1, 3), (2, 1, 2), (2, 1, 2), (0, 99, 0),
  (0, 9, 0), (0, 1, 0), (1, 7, 15), (0, 8, 0), (1, 0, 96), (0, 8, 0), (1, 0, 96), (0, 8, 0), (1, 0, 96), (0, 8, 0), (1, 0, 96), (0, 8, 0), (1, 0, 96), (0, 8, 0), (1, 0, 96), (0, 8, 0),
  (1, 0, 96), (0, 8, 0), (1, 0, 96), (0, 8, 0), (1, 0, 96), (0, 8, 0), (1, 0, 96), (0, 8, 0), (1, 0, 96), (0, 8, 0), (1, 0, 96), (0, 8, 0), (1, 0, 96), (0, 8, 0), (1, 0, 96), (0, 8, 0),
  (1, 0, 96), (1, 0, 96), (0, 0, 0), (1, 4, 8), (0, 6, 0), (1, 0, 24), (0, 6, 0), (1, 0, 24), (0, 6, 0), (1, 0, 24), (0, 6, 0), (1, 0, 24), (0, 6, 0), (1, 0, 24), (0, 6, 0), (1, 0, 24),
  (0, 6, 0), (1, 0, 24), (0, 6, 0), (1, 0, 24), (1, 0, 3), (0, 0, 0), (1, 4, 8), (0, 6, 0), (1, 0, 24), (0, 6, 0), (1, 0, 24), (0, 6, 0), (1, 0, 24), (0, 6, 0), (1, 0, 24), (0, 6, 0),
  (1, 0, 24), (0, 6, 0), (1, 0, 24), (0, 6, 0), (1, 0, 24), (0, 6, 0), (1, 0, 24), (1, 0, 3), (0, 0, 0), (1, 4, 8), (0, 6, 0), (1, 0, 24), (0, 6, 0), (1, 0, 24), (0, 6, 0), (1, 0, 24),
  (0, 6, 0), (1, 0, 24), (0, 6, 0), (1, 0, 24), (0, 6, 0), (1, 0, 24), (0, 6, 0), (1, 0, 24), (0, 6, 0), (1, 0, 24), (1, 0, 3), (0, 7, 0), (1, 0, 96), (0, 2, 0), (0, 8, 0), (1, 0, 96),
  (1, 5, 4), (0, 4, 0), (1, 0, 24), (0, 4, 0), (1, 0, 24), (0, 4, 0), (1, 0, 24), (0, 4, 0), (1, 0, 24), (1, 6, 5), (0, 5, 0), (0, 4, 0), (1, 0, 24), (0, 5, 0), (0, 4, 0), (1, 0, 24),
  (0, 5, 0), (0, 4, 0), (1, 0, 24), (0, 5, 0), (0, 4, 0), (1, 0, 24), (0, 5, 0), (0, 4, 0), (1, 0, 24), (0, 3, 0), (1, 0, 12), (1, 0, 3), (1, 0, 60), (0, 10, 0), (1, 0, 1611), (1, 0, 1611),
  (1, 0, 1611), (1, 0, 12), (1, 0, 12), (1, 0, 13), (1, 0, 239), (1, 0, 96), (1, 2, 11), (1, 0, 4), (1, 0, 96), (1, 0, 96), (1, 3, 10), (1, 0, 96), (1, 0, 4), (1, 0, 4), (1, 0, 4), (1, 0, 96),
  (1, 0, 5), (1, 0, 5), (1, 0, 5), (1, 0, 120), (1, 0, 24), (1, 0, 60)] := by decide +kernel
theorem pm_e1_eq : pm_e1 = some pm_e1o := by
  have h := pm_e1_ok
  unfold pm_e1o
  cases he : pm_e1 with
  | none => rw [he] at h; cases h
  | some o => rfl
theorem pm_e2_eq : pm_e2 = some pm_e2o := by
  have h := pm_e2_ok
  unfold pm_e2o
  cases he : pm_e2 with
  | none => rw [he] at h; cases h
  | some o => rfl
set_option maxRecDepth 100000 in
theorem pm_e1_v : pm_e1o.1 = none := by decide +kernel
set_option maxRecDepth 100000 in
theorem pm_e2_v : pm_e2o.1 = none := by decide +kernel
theorem pm_SH (L : Nat) : pm_so (2, 0, L) pm_e2o.2.1 = SH L := by rw [pm_e2_sh]; rfl
theorem pm_ov_h0 (xs : Nat → Int32) : pm_h0 xs = pm_ov xs (pm_h0 (fun _ => 0)) := by
  funext q j
  unfold pm_h0 pm_ov
  by_cases h : q = 1
  · rw [if_pos h, if_pos h]
  · rw [if_neg h, if_neg h]
    dsimp only
    rw [if_neg h]
theorem pm_exec_step {call : Nat → List pm_V → pm_S → pm_A → pm_B → pm_O} {t : pm_T} {n pc : Nat} {ls : pm_L} {st : List pm_V} {sh : pm_S} {hr : pm_A} {hi : pm_B} {r : pm_I} (he : pm_at t pc = some r) : pm_exec call t (n + 1) pc ls st sh hr hi = pm_step call (pm_exec call t n) r pc ls st sh hr hi := by
  show (match pm_at t pc with
    | none => none
    | some r => pm_step call (pm_exec call t n) r pc ls st sh hr hi) = _
  rw [he]
theorem pm_sl_2 (a b : pm_K) (l : pm_S) : pm_sl (a :: b :: l) = pm_ks a + (pm_ks b + pm_sl l) := by
  unfold pm_sl
  rw [List.map_cons, List.map_cons, List.sum_cons, List.sum_cons]
theorem pm_SH_2 (L : Nat) : SH L = (0, 99, 0) :: (2, 0, L) :: (SH 0).drop 2 := rfl
theorem pm_sl_SH (L : Nat) : pm_sl (SH L) = pm_ks (0, 99, 0) + (pm_ks (2, 0, L) + pm_sl ((SH 0).drop 2)) := by rw [pm_SH_2, pm_sl_2]
theorem pm_sl_SH0 : pm_ks (0, 99, 0) + pm_sl ((SH 0).drop 2) ≤ 20000 := by decide +kernel
theorem pm_SH_len (L : Nat) : (SH L).length = 166 := by rw [pm_SH_2, List.length_cons, List.length_cons, show ((SH 0).drop 2).length = 164 by decide +kernel]
/-- the law's loop is all that is left -/
theorem pm_pre {L : Nat} {xs : Nat → Int32} {d : Nat} (hd : d ≤ 2000) (hL : L ≤ 3072) (h : pm_W pm_g (SH L) HR d pm_t246 18 [some (.inr 1), some (.inr 16), some (.inr 141), some (.inl 0)] [] (HI xs) (fun v _ => v = some (.inl 1))) : pm_Law L xs := by
  obtain ⟨N, v, hi', hrun, rfl⟩ := h
  have k1 := (pm_call_ov (k := (2, 0, L)) (xs := xs) pm_lt_g 2000 20 _ _ _ _ _ _ (show ((pm_sh0 0).set 1 pm_D ++ [(0, 9, 0)])[1]? = some pm_D from rfl) pm_e1_eq).2
  have k2 := (pm_call_ov (k := (2, 0, L)) (xs := xs) pm_lt_g 2000 20 _ _ _ _ _ _ (show (pm_e1o.2.1 ++ [(0, 10, 0)])[1]? = some pm_D by rw [List.getElem?_append_left (by rw [pm_e1_len]; omega)]; exact pm_e1_1) pm_e2_eq).2
  rw [← pm_ov_z (by omega), ← pm_ov_h0] at k1
  rw [← pm_ov_z (by omega), ← pm_so_app pm_e1_1] at k2
  have m1 := pm_call_mono pm_g (show 2000 ≤ max N 2000 + 10 by omega) 20 (max d 20) (by omega) _ _ _ _ _ _ k1
  have m2 := pm_call_mono pm_g (show 2000 ≤ max N 2000 + 10 by omega) 20 (max d 20) (by omega) _ _ _ _ _ _ k2
  have e1 : pm_so (2, 0, L) ((pm_sh0 0).set 1 pm_D ++ [(0, 9, 0)]) = pm_sh0 L ++ [(0, 9, 0)] := rfl
  rw [e1] at m1
  have hlen1 : (pm_so (2, 0, L) pm_e1o.2.1).length = 141 := by rw [pm_so_len, pm_e1_len]
  have hf := pm_exec_mono (c1 := pm_call pm_g N d) (c2 := pm_call pm_g (max N 2000 + 10) (max d 20)) (fun m a sh hr hi r h => pm_call_mono pm_g (by omega) d (max d 20) (by omega) m a sh hr hi r h) pm_t246 N (max N 2000) (by omega) _ _ _ _ _ _ _ hrun
  refine ⟨max N 2000 + 10, max d 20, SH L, HR, hi', by omega, ?_, ?_, ?_⟩
  · have v1 := pm_e1_v
    have v2 := pm_e2_v
    have hSH := pm_SH L
    have hHR : HR = pm_e2o.2.2.1 := rfl
    have hHI : HI xs = pm_ov xs pm_e2o.2.2.2 := rfl
    generalize SH L = S0 at hSH hf ⊢
    generalize HR = R0 at hHR hf ⊢
    generalize HI xs = I0 at hHI hf ⊢
    generalize pm_e2o = o2 at m2 v2 hSH hHR hHI
    generalize pm_e1o = o1 at m1 m2 hlen1 v1
    subst hSH hHR hHI
    obtain ⟨w1, s1, r1, i1⟩ := o1
    obtain ⟨w2, s2, r2, i2⟩ := o2
    dsimp only at m1 m2 hlen1 v1 v2 hf ⊢
    subst v1 v2
    generalize max N 2000 = M at m1 m2 hf ⊢
    generalize pm_call pm_g (M + 10) (max d 20) = cl at m1 m2 hf ⊢
    have hst : ∀ {n pc : Nat} {ls : pm_L} {st : List pm_V} {sh : pm_S} {hr : pm_A} {hi : pm_B} {r : pm_I}, pm_at pm_t246 pc = some r → pm_exec cl pm_t246 (n + 1) pc ls st sh hr hi = pm_step cl (pm_exec cl pm_t246 n) r pc ls st sh hr hi := fun he => pm_exec_step he
    generalize pm_exec cl pm_t246 = X at hst hf ⊢
    rw [show M + 10 = (M + 9) + 1 from rfl, hst (r := (.new 0, 3, 9, 85, 0, [])) rfl]
    show X (M + 9) 3 (pm_ent 4 [.inr 1]) [.inr 16] (pm_sh0 L ++ [(0, 9, 0)]) (pm_z pm_r0 16 0) (pm_z (pm_h0 xs) 16 0) = _
    rw [show M + 9 = (M + 8) + 1 from rfl, hst (r := (.dup, 1, 0, 0, 0, [])) rfl]
    show X (M + 8) 4 (pm_ent 4 [.inr 1]) [.inr 16, .inr 16] (pm_sh0 L ++ [(0, 9, 0)]) (pm_z pm_r0 16 0) (pm_z (pm_h0 xs) 16 0) = _
    rw [show M + 8 = (M + 7) + 1 from rfl, hst (r := (.invokestatic 0, 3, 73, 1, 87, [(0, 9)])) rfl]
    simp only [pm_step]
    rw [if_pos ⟨by decide, by decide, rfl⟩, show (List.take 1 [Sum.inr 16, Sum.inr 16] : List pm_V).reverse = [.inr 16] from rfl, m1]
    show X (M + 7) 7 (pm_ent 4 [.inr 1]) [.inr 16] (pm_so (2, 0, L) s1) r1 (pm_ov xs i1) = _
    rw [show M + 7 = (M + 6) + 1 from rfl, hst (r := (.astore 1, 1, 0, 0, 0, [])) rfl]
    simp only [pm_step]
    rw [if_pos (by decide)]
    show X (M + 6) 8 [some (.inr 1), some (.inr 16), none, none] [] (pm_so (2, 0, L) s1) r1 (pm_ov xs i1) = _
    rw [show M + 6 = (M + 5) + 1 from rfl, hst (r := (.new 0, 3, 10, 1015, 0, [])) rfl]
    simp only [pm_step]
    rw [hlen1]
    show X (M + 5) 11 [some (.inr 1), some (.inr 16), none, none] [.inr 141] (pm_so (2, 0, L) s1 ++ [(0, 10, 0)]) (pm_z r1 141 0) (pm_z (pm_ov xs i1) 141 0) = _
    rw [show M + 5 = (M + 4) + 1 from rfl, hst (r := (.dup, 1, 0, 0, 0, [])) rfl]
    show X (M + 4) 12 [some (.inr 1), some (.inr 16), none, none] [.inr 141, .inr 141] (pm_so (2, 0, L) s1 ++ [(0, 10, 0)]) (pm_z r1 141 0) (pm_z (pm_ov xs i1) 141 0) = _
    rw [show M + 4 = (M + 3) + 1 from rfl, hst (r := (.invokestatic 0, 3, 135, 1, 1017, [(0, 10)])) rfl]
    simp only [pm_step]
    have hrc : ([((0 : Int32), 10)].all fun z => pm_rcv (pm_so (2, 0, L) s1 ++ [(0, 10, 0)]) z.2 (List.take 1 [Sum.inr 141, Sum.inr 141] : List pm_V).reverse) = true := by
      show (decide ((pm_so (2, 0, L) s1 ++ [(0, 10, 0)])[141]? = some (0, 10, 0)) && true) = true
      rw [List.getElem?_append_right (by rw [hlen1]; omega), hlen1]
      rfl
    rw [if_pos ⟨by decide, by decide, hrc⟩, show (List.take 1 [Sum.inr 141, Sum.inr 141] : List pm_V).reverse = [.inr 141] from rfl, m2]
    show X (M + 3) 15 [some (.inr 1), some (.inr 16), none, none] [.inr 141] (pm_so (2, 0, L) s2) r2 (pm_ov xs i2) = _
    rw [show M + 3 = (M + 2) + 1 from rfl, hst (r := (.astore 2, 1, 0, 0, 0, [])) rfl]
    simp only [pm_step]
    rw [if_pos (by decide)]
    show X (M + 2) 16 [some (.inr 1), some (.inr 16), some (.inr 141), none] [] (pm_so (2, 0, L) s2) r2 (pm_ov xs i2) = _
    rw [show M + 2 = (M + 1) + 1 from rfl, hst (r := (.ldc 0, 1, 0, 0, 0, [])) rfl]
    show X (M + 1) 17 [some (.inr 1), some (.inr 16), some (.inr 141), none] [.inl 0] (pm_so (2, 0, L) s2) r2 (pm_ov xs i2) = _
    rw [hst (r := (.istore 3, 1, 0, 0, 0, [])) rfl]
    simp only [pm_step]
    rw [if_pos (by decide)]
    exact hf
  · rw [pm_SH_len]
    omega
  · rw [pm_sl_SH]
    have h2 := pm_sl_SH0
    have h3 : pm_ks (2, 0, L) = L := rfl
    omega

