/-! ===== texts: the model's loop keeps the run ===== -/
theorem MTp.pv {hi hi' : pm_B} {bs : List Int32} (h : MTp hi bs) (hf : Fr PV hi hi') : MTp hi' bs := ⟨(hf _ _ (by unfold PV; omega)).trans h.1, h.2.to (fun j _ => hf _ _ (by unfold PV; omega))⟩
theorem sg_I {bs : List Int32} {hi : pm_B} {s : Int32} {a e : Nat} (hC : MC bs hi s a e) : f_M_signHere hi = if s = 3 then sgn (bA bs a) else 0 := by
  have t14 := hC.2.2.2.1
  unfold f_M_signHere
  rw [t14]
  by_cases h3 : s = 3
  · rw [if_pos h3, if_pos (by unfold tkn; rw [if_neg (by rw [h3]; intro x; exact absurd x.1 (by decide)), h3]), hC.2.2.2.2.1 (Or.inr h3)]
    rfl
  · rw [if_neg h3, if_neg]
    unfold tkn
    by_cases h4 : s = 2 ∧ 4 < e - a
    · rw [if_pos h4]; decide
    · rw [if_neg h4]; exact h3
section
variable {L d : Nat} {bs : List Int32} {key : Int32} {hi0 : pm_B} {Q : pm_Q}
def OKR (hi0 : pm_B) (key : Int32) (Q : pm_Q) (r : Option Nat × List Int32 × Nat) : Prop := (∀ f, r.1 = some f → ∀ hi', Fr PV hi0 hi' → hi' 141 13 = nI f → Q (some (.inl 0)) hi') ∧ (r.1 = none → ∀ hi', Fr PV hi0 hi' → hi' 141 17 = key → hi' 141 21 = nI r.2.1.length → Row (hi' 152) r.2.1 → hi' 141 22 = nI r.2.2 → Q (some (.inl 1)) hi')
def RR (L d : Nat) (bs : List Int32) (key : Int32) (hi0 : pm_B) (Q : pm_Q) : Int32 × Nat × Nat → List Int32 → List Int32 → Nat → (Nat → Int32) → Nat → Bool → Option Nat × List Int32 × Nat → Prop := fun c T oc m ts no w r => ∀ hi o4, MC bs hi c.1 c.2.1 c.2.2 → MZ key hi T oc m ts → Cu bs c.1 c.2.1 c.2.2 → (c.1 = 0 ∨ c.2.2 ≤ bs.length) → oc.length + T.length ≤ c.2.1 → T.count (-11) ≤ 8 → no ≤ 96 → Fr PV hi0 hi → OKR hi0 key Q r → pm_W pm_g (SH L) HR (d + 4) pm_t207 28 [some (.inr 141), some (.inl (nI (T.count (-11)))), some (.inl (nI no)), some (.inl (if w then 1 else 0)), o4] [] hi Q
theorem n10 : ¬ (1 : Int32) = 0 := by decide
theorem tk3 {hi : pm_B} {a e : Nat} (hC : MC bs hi 3 a e) : hi 141 14 = 3 := by
  rw [hC.2.2.2.1]; unfold tkn; rw [if_neg (fun x => absurd x.1 (by decide))]
theorem tk_ne {hi : pm_B} {s : Int32} {a e : Nat} (hC : MC bs hi s a e) (h : ¬ s = 3) : ¬ hi 141 14 = 3 := by
  rw [hC.2.2.2.1]; unfold tkn
  by_cases h4 : s = 2 ∧ 4 < e - a
  · rw [if_pos h4]; decide
  · rw [if_neg h4]; exact h
theorem tk_0 {hi : pm_B} {s : Int32} {a e : Nat} (hC : MC bs hi s a e) (h : ¬ s = 0) : ¬ hi 141 14 = 0 := by
  rw [hC.2.2.2.1]; unfold tkn
  by_cases h4 : s = 2 ∧ 4 < e - a
  · rw [if_pos h4]; decide
  · rw [if_neg h4]; exact h
/-- the loop's head again behind the next word or sign -/
theorem RR.go {s : Int32} {a e : Nat} {T oc : List Int32} {m : Nat} {ts : Nat → Int32} {no : Nat} {w : Bool} {r : Option Nat × List Int32 × Nat} {hi' : pm_B} {o4 : Option pm_V} (hW : WB bs) (h : RR L d bs key hi0 Q (stp bs s e) T oc m ts no w r) (hCu : Cu bs s a e) (hs : s = 1 ∨ s = 2 ∨ s = 3) (hC : MC bs hi' (stp bs s e).1 (stp bs s e).2.1 (stp bs s e).2.2) (hZ : MZ key hi' T oc m ts) (hl : oc.length + T.length ≤ a + 1) (h11 : T.count (-11) ≤ 8) (hno : no ≤ 96) (hf : Fr PV hi0 hi') (hQ : OKR hi0 key Q r) : pm_W pm_g (SH L) HR (d + 4) pm_t207 28 [some (.inr 141), some (.inl (nI (T.count (-11)))), some (.inl (nI no)), some (.inl (if w then 1 else 0)), o4] [] hi' Q := by
  have hst := stp_Cu hW (s := s) hCu.2.1
  have ha := hCu.2.2.1 hs
  exact h hi' o4 hC hZ hst.1 (stp_len hW) (by omega) h11 hno hf hQ
theorem cnt_le {T : List Int32} {x : Int32} : T.count x ≤ T.length := List.count_le_length
theorem c_nt (hW : WB bs) (a e : Nat) (T oc : List Int32) (m : Nat) (ts : Nat → Int32) (no : Nat) (r : Option Nat × List Int32 × Nat) (h1 : bA bs a = 33) (h2 : no < 8) (h : RR L d bs key hi0 Q (stp bs 3 e) (-10 :: T) oc m ts ((-10 :: T).count (-10)) true r) : RR L d bs key hi0 Q (3, a, e) T oc m ts no true r := by
  intro hi o4 hC hZ hCu he hl h11 hno hf hQ
  dsimp only at hC hCu he hl
  have t3 := tk3 hC
  have v33 : hi 141 15 = 33 := (hC.2.2.2.2.1 (Or.inr rfl)).trans h1
  have h8 : ¬ (8 : Int32) ≤ nI no := nI_ge (a := no) (b := 8) h2 (by omega)
  have hw := hW.1
  have ha := hCu.2.2.1 (Or.inr (Or.inr rfl))
  refine v_M_takesE_28 (d := d + 3) ⟨fun _ => ⟨fun c => absurd c n10, fun _ => ⟨fun c => absurd t3 c, fun _ => ⟨fun c => absurd v33 c, fun _ => ⟨fun c => absurd c h8, fun _ => ⟨T.length, by omega, hZ.2.2.2.2.1, fun hi1 e1 => ?_⟩⟩⟩⟩⟩, fun c => absurd n10 c⟩
  have hp := hZ.push (x := -10)
  rw [← e1] at hp
  refine go2_c (d := d + 2) hW (hC.kept hp.2) (he.resolve_left (by decide)) (Or.inr (Or.inr rfl)) hp.1 (fun hi2 hf2 hC2 hZ2 => ⟨rfl, ?_⟩)
  refine notsOpen_c (d := d + 3) hZ2 (by rw [List.length_cons]; omega) ⟨_, rfl, ?_⟩
  have c11 : (-10 :: T).count (-11) = T.count (-11) := List.count_cons_of_ne (by decide)
  have hc := cnt_le (T := -10 :: T) (x := -10)
  rw [List.length_cons] at hc
  have := RR.go (o4 := o4) hW h hCu (Or.inr (Or.inr rfl)) hC2 hZ2 (by rw [List.length_cons]; omega) (by rw [c11]; exact h11) (by omega) ((hf.tr hp.2.pz).tr hf2.pc) hQ
  rw [c11] at this
  exact this
theorem c_op (hW : WB bs) (a e : Nat) (T oc : List Int32) (m : Nat) (ts : Nat → Int32) (no : Nat) (r : Option Nat × List Int32 × Nat) (h1 : bA bs a = 40) (h2 : T.count (-11) < 8) (h : RR L d bs key hi0 Q (stp bs 3 e) (-11 :: T) oc m (updT ts (T.count (-11) + 1) 0) ((-11 :: T).count (-10)) true r) : RR L d bs key hi0 Q (3, a, e) T oc m ts no true r := by
  intro hi o4 hC hZ hCu he hl h11 hno hf hQ
  dsimp only at hC hCu he hl
  have t3 := tk3 hC
  have v40 : hi 141 15 = 40 := (hC.2.2.2.2.1 (Or.inr rfl)).trans h1
  have v33 : ¬ hi 141 15 = 33 := by rw [v40]; decide
  have h8 : ¬ (8 : Int32) ≤ nI (T.count (-11)) := nI_ge (a := T.count (-11)) (b := 8) h2 (by omega)
  have hw := hW.1
  have ha := hCu.2.2.1 (Or.inr (Or.inr rfl))
  refine v_M_takesE_28 (d := d + 3) ⟨fun _ => ⟨fun c => absurd c n10, fun _ => ⟨fun c => absurd t3 c, fun _ => ⟨fun _ => ⟨fun c => absurd t3 c, fun _ => ⟨fun c => absurd v40 c, fun _ => ⟨fun c => absurd c h8, fun _ => ⟨T.length, by omega, hZ.2.2.2.2.1, fun hi1 e1 => ⟨T.count (-11) + 1, by omega, nI_1 _, ?_⟩⟩⟩⟩⟩, fun c => absurd v33 c⟩⟩⟩, fun c => absurd n10 c⟩
  have hp := hZ.push (x := -11)
  rw [← e1] at hp
  have hg := hp.1.flag (n := T.count (-11) + 1) (v := 0)
  refine go2_c (d := d + 2) hW ((hC.kept hp.2).kept hg.2) (he.resolve_left (by decide)) (Or.inr (Or.inr rfl)) hg.1 (fun hi2 hf2 hC2 hZ2 => ⟨rfl, ?_⟩)
  refine notsOpen_c (d := d + 3) hZ2 (by rw [List.length_cons]; omega) ⟨_, rfl, ?_⟩
  have c11 : (-11 :: T).count (-11) = T.count (-11) + 1 := List.count_cons_self
  have hc := cnt_le (T := -11 :: T) (x := -10)
  rw [List.length_cons] at hc
  have := RR.go (o4 := o4) hW h hCu (Or.inr (Or.inr rfl)) hC2 hZ2 (by rw [List.length_cons]; omega) (by omega) (by omega) (((hf.tr hp.2.pz).tr hg.2.pz).tr hf2.pc) hQ
  rw [c11, ← nI_1] at this
  exact this
theorem opd_s {s : Int32} {a e : Nat} {v : Int32} (h : opd bs key s a e = some v) : s = 1 ∨ s = 2 := by
  unfold opd at h
  by_cases h1 : s = 2 ∧ e - a ≤ 4
  · exact Or.inr h1.1
  · rw [if_neg h1] at h
    by_cases h2 : s = 1 ∧ e - a = 1 ∧ 0 ≤ nameI key (bA bs a)
    · exact Or.inl h2.1
    · rw [if_neg h2] at h; cases h
theorem c_pt (hW : WB bs) (s : Int32) (a e : Nat) (T oc : List Int32) (m : Nat) (ts : Nat → Int32) (no : Nat) (r : Option Nat × List Int32 × Nat) (v : Int32) (h1 : opd bs key s a e = some v) (h : RR L d bs key hi0 Q (stp bs s e) (stl 6 T (oc ++ [enc v])).1 (stl 6 T (oc ++ [enc v])).2 (m + 1) ts ((stl 6 T (oc ++ [enc v])).1.count (-10)) false r) : RR L d bs key hi0 Q (s, a, e) T oc m ts no true r := by
  intro hi o4 hC hZ hCu he hl h11 hno hf hQ
  dsimp only at hC hCu he hl
  have hs := opd_s h1
  have t3 : ¬ hi 141 14 = 3 := tk_ne hC (fun x => by rw [x] at hs; exact absurd hs (by decide))
  have hw := hW.1
  have ha := hCu.2.2.1 (hs.imp id Or.inl)
  refine v_M_takesE_28 (d := d + 3) ⟨fun _ => ⟨fun c => absurd c n10, fun _ => ⟨fun _ => ⟨fun _ => ?_, fun c => absurd t3 c⟩, fun c => absurd t3 c⟩⟩, fun c => absurd n10 c⟩
  refine takesPart_c (d := d) hW hC hCu he hZ hl (fun hn => ?_) (fun w hv hi2 hf2 hC2 hZ2 => ⟨1, rfl, fun c => absurd c n10, fun _ => ?_⟩)
  · rw [h1] at hn; cases hn
  · have ev : v = w := Option.some.inj (h1.symm.trans hv)
    rw [← ev] at hZ2
    have hlen := stl_len 6 T (oc ++ [enc v])
    rw [List.length_append] at hlen
    have hlen : _ = T.length + (oc.length + 1) := hlen
    refine notsOpen_c (d := d + 3) hZ2 (by omega) ⟨_, rfl, ?_⟩
    have hc := cnt_le (T := (stl 6 T (oc ++ [enc v])).1) (x := -10)
    have := RR.go (o4 := o4) hW h hCu (hs.imp id Or.inl) hC2 hZ2 (by omega) (by rw [stl_cnt]; exact h11) (by omega) (hf.tr hf2) hQ
    rw [stl_cnt] at this
    exact this
theorem c_f1 (hW : WB bs) (s : Int32) (a e : Nat) (T oc : List Int32) (m : Nat) (ts : Nat → Int32) (no : Nat) (h1 : ¬ (s = 3 ∧ bA bs a = 33 ∧ no < 8)) (h2 : ¬ (s = 3 ∧ bA bs a = 40 ∧ T.count (-11) < 8)) (h3 : opd bs key s a e = none) : RR L d bs key hi0 Q (s, a, e) T oc m ts no true (some a, [], 0) := by
  intro hi o4 hC hZ hCu he hl h11 hno hf hQ
  dsimp only at hC hCu he hl
  have leaf : pm_C pm_g (SH L) HR (d + 4) m_M_takesPart [.inr 141] hi (fun v hi479 => ∃ x480 : Int32, v = some (.inl x480) ∧ (((x480 = 0) → Q (some (.inl 0)) hi479) ∧ ((¬ (x480 = 0)) → pm_C pm_g (SH L) HR (d + 4) m_M_notsOpen [.inr 141] hi479 (fun v hi482 => ∃ x483 : Int32, v = some (.inl x483) ∧ (pm_W pm_g (SH L) HR (d + 4) pm_t207 28 [some (.inr 141), some (.inl (nI (T.count (-11)))), some (.inl x483), some (.inl 0), o4] [] hi482 Q))))) :=
    takesPart_c (d := d) hW hC hCu he hZ hl (fun _ => ⟨0, rfl, fun _ => hQ.1 a rfl hi hf hC.2.2.1, fun c => absurd rfl c⟩) (fun w hv => by rw [h3] at hv; cases hv)
  by_cases c3 : s = 3
  · rw [c3] at hC
    have t3 := tk3 hC
    have ev : hi 141 15 = bA bs a := hC.2.2.2.2.1 (Or.inr rfl)
    by_cases c33 : bA bs a = 33
    · have v33 : hi 141 15 = 33 := ev.trans c33
      have v40 : ¬ hi 141 15 = 40 := by rw [v33]; decide
      have h8 : (8 : Int32) ≤ nI no := nI_le (a := 8) (b := no) (Nat.le_of_not_lt (fun x => h1 ⟨c3, c33, x⟩)) (by omega)
      exact v_M_takesE_28 (d := d + 3) ⟨fun _ => ⟨fun c => absurd c n10, fun _ => ⟨fun c => absurd t3 c, fun _ => ⟨fun c => absurd v33 c, fun _ => ⟨fun _ => ⟨fun c => absurd t3 c, fun _ => ⟨fun _ => leaf, fun c => absurd v40 c⟩⟩, fun c => absurd h8 c⟩⟩⟩⟩, fun c => absurd n10 c⟩
    · have v33 : ¬ hi 141 15 = 33 := by rw [ev]; exact c33
      by_cases c40 : bA bs a = 40
      · have v40 : hi 141 15 = 40 := ev.trans c40
        have h8 : (8 : Int32) ≤ nI (T.count (-11)) := nI_le (a := 8) (b := T.count (-11)) (Nat.le_of_not_lt (fun x => h2 ⟨c3, c40, x⟩)) (by omega)
        exact v_M_takesE_28 (d := d + 3) ⟨fun _ => ⟨fun c => absurd c n10, fun _ => ⟨fun c => absurd t3 c, fun _ => ⟨fun _ => ⟨fun c => absurd t3 c, fun _ => ⟨fun c => absurd v40 c, fun _ => ⟨fun _ => leaf, fun c => absurd h8 c⟩⟩⟩, fun c => absurd v33 c⟩⟩⟩, fun c => absurd n10 c⟩
      · have v40 : ¬ hi 141 15 = 40 := by rw [ev]; exact c40
        exact v_M_takesE_28 (d := d + 3) ⟨fun _ => ⟨fun c => absurd c n10, fun _ => ⟨fun c => absurd t3 c, fun _ => ⟨fun _ => ⟨fun c => absurd t3 c, fun _ => ⟨fun _ => leaf, fun c => absurd v40 c⟩⟩, fun c => absurd v33 c⟩⟩⟩, fun c => absurd n10 c⟩
  · have t3 : ¬ hi 141 14 = 3 := tk_ne hC c3
    exact v_M_takesE_28 (d := d + 3) ⟨fun _ => ⟨fun c => absurd c n10, fun _ => ⟨fun _ => ⟨fun _ => leaf, fun c => absurd t3 c⟩, fun c => absurd t3 c⟩⟩, fun c => absurd n10 c⟩
theorem c_en (hW : WB bs) (a e : Nat) (T oc : List Int32) (m : Nat) (ts : Nat → Int32) (no : Nat) : RR L d bs key hi0 Q (0, a, e) T oc m ts no false (if T.count (-11) = 0 then (none, (stl 0 T oc).2, m) else (some a, [], 0)) := by
  intro hi o4 hC hZ hCu he hl h11 hno hf hQ
  dsimp only at hC hCu he hl
  have t0 : hi 141 14 = 0 := by rw [hC.2.2.2.1]; unfold tkn; rw [if_neg (fun x => absurd x.1 (by decide))]
  have h96 := hCu.1
  refine v_M_takesE_28 (d := d + 3) ⟨fun c => absurd rfl c, fun _ => ⟨fun _ => ?_, fun c => absurd t0 c⟩⟩
  refine settle_c (d := d + 2) (k := 0) (by omega) hZ (by omega) (fun hi2 hf2 hZ2 => ⟨rfl, fun c => ?_, fun c => ?_⟩)
  · have c : ¬ T.count (-11) = 0 := fun x => c (by rw [x]; rfl)
    rw [if_neg c] at hQ
    exact hQ.1 a rfl hi2 (hf.tr hf2.pz) (hC.kept hf2).2.2.1
  · have c : T.count (-11) = 0 := (nI_eq (b := 0) (by omega) (by omega)).mp (Decidable.not_not.mp c)
    rw [if_pos c] at hQ
    exact hQ.2 rfl hi2 (hf.tr hf2.pz) hZ2.1 hZ2.2.1 hZ2.2.2.1 hZ2.2.2.2.1
theorem c_cl (hW : WB bs) (a e : Nat) (T oc T' oc' : List Int32) (m : Nat) (ts : Nat → Int32) (no : Nat) (r : Option Nat × List Int32 × Nat) (h1 : bA bs a = 41) (h2 : 0 < T.count (-11)) (h3 : stl 0 T oc = (-11 :: T', oc')) (h : RR L d bs key hi0 Q (stp bs 3 e) (stl 6 T' oc').1 (stl 6 T' oc').2 m ts ((stl 6 T' oc').1.count (-10)) false r) : RR L d bs key hi0 Q (3, a, e) T oc m ts no false r := by
  intro hi o4 hC hZ hCu he hl h11 hno hf hQ
  dsimp only at hC hCu he hl
  have t3 := tk3 hC
  have t0 : ¬ hi 141 14 = 0 := by rw [t3]; decide
  have v41 : hi 141 15 = 41 := (hC.2.2.2.2.1 (Or.inr rfl)).trans h1
  have hy : ¬ nI (T.count (-11)) ≤ 0 := nI_nle h2 (by omega)
  have hw := hW.1
  have ha := hCu.2.2.1 (Or.inr (Or.inr rfl))
  refine v_M_takesE_28 (d := d + 3) ⟨fun c => absurd rfl c, fun _ => ⟨fun c => absurd c t0, fun _ => ⟨fun _ => ⟨fun c => absurd t3 c, fun _ => ⟨fun c => absurd v41 c, fun _ => ⟨fun c => absurd c hy, fun _ => ?_⟩⟩⟩, fun c => absurd rfl c⟩⟩⟩
  refine settle_c (d := d + 2) (k := 0) (by omega) hZ (by omega) (fun hi2 hf2 hZ2 => ⟨rfl, ?_⟩)
  have hlen := stl_len 0 T oc
  have hcn := stl_cnt 0 T oc
  rw [h3] at hZ2 hlen hcn
  have hlen : T'.length + 1 + oc'.length = T.length + oc.length := hlen
  have hcn : T'.count (-11) + 1 = T.count (-11) := by rw [← hcn]; exact List.count_cons_self.symm
  have hx := Row.rev hZ2.2.2.2.2.2.1
  have em : hi2 141 24 - 1 = nI T'.length := by rw [hZ2.2.2.2.2.1]; exact nI_sub (b := 1) (by show 1 ≤ T'.length + 1; omega)
  have hfp : Fr PZ hi2 (pm_u hi2 141 24 (hi2 141 24 - 1)) := Fr.u (Or.inl ⟨rfl, by omega, by omega⟩)
  have hZ3 : MZ key (pm_u hi2 141 24 (hi2 141 24 - 1)) T' oc' m ts := by
    refine ⟨?_, ?_, ?_, ?_, ?_, ?_, fun j => ?_⟩
    · rw [pm_u_ne (Or.inr (by omega))]; exact hZ2.1
    · rw [pm_u_ne (Or.inr (by omega))]; exact hZ2.2.1
    · exact hZ2.2.2.1.to (fun j _ => pm_u_ne (Or.inl (by omega)))
    · rw [pm_u_ne (Or.inr (by omega))]; exact hZ2.2.2.2.1
    · rw [pm_u_at]; exact em
    · exact hx.2.to (fun j _ => pm_u_ne (Or.inl (by omega)))
    · rw [pm_u_ne (Or.inl (by omega))]; exact hZ2.2.2.2.2.2.2 j
  refine settle_c (d := d + 2) (k := 6) (by omega) hZ3 (by omega) (fun hi4 hf4 hZ4 => ⟨rfl, ?_⟩)
  have hlen6 := stl_len 6 T' oc'
  refine notsOpen_c (d := d + 3) hZ4 (by omega) ⟨_, rfl, ?_⟩
  refine go2_c (d := d + 2) hW (((hC.kept hf2).kept hfp).kept hf4) (he.resolve_left (by decide)) (Or.inr (Or.inr rfl)) hZ4 (fun hi5 hf5 hC5 hZ5 => ⟨rfl, ?_⟩)
  have hc := cnt_le (T := (stl 6 T' oc').1) (x := -10)
  have := RR.go (o4 := o4) hW h hCu (Or.inr (Or.inr rfl)) hC5 hZ5 (by omega) (by rw [stl_cnt]; omega) (by omega) ((((hf.tr hf2.pz).tr hfp.pz).tr hf4.pz).tr hf5.pc) hQ
  rw [stl_cnt, ← Nat.add_sub_cancel (n := T'.count (-11)) (m := 1), hcn, ← nI_sub (b := 1) (by omega)] at this
  have em1 : nI (T.count (-11)) + (-1) = nI (T.count (-11)) - nI 1 := by rw [Int32.sub_eq_add_neg]; rfl
  rw [em1]
  exact this
theorem c_sg (hW : WB bs) (a e : Nat) (T oc : List Int32) (m : Nat) (ts : Nat → Int32) (no : Nat) (r : Option Nat × List Int32 × Nat) (h1 : sgn (bA bs a) ≠ 0) (h2 : ¬ (rk (sgn (bA bs a)) = 3 ∧ ts (T.count (-11)) ≠ 0)) (h : RR L d bs key hi0 Q (stp bs 3 e) (sgn (bA bs a) :: (stl (rk (sgn (bA bs a))) T oc).1) (stl (rk (sgn (bA bs a))) T oc).2 m (updT ts (T.count (-11)) (if rk (sgn (bA bs a)) = 3 ∨ (3 < rk (sgn (bA bs a)) ∧ ts (T.count (-11)) ≠ 0) then 1 else 0)) no true r) : RR L d bs key hi0 Q (3, a, e) T oc m ts no false r := by
  intro hi o4 hC hZ hCu he hl h11 hno hf hQ
  dsimp only at hC hCu he hl
  have t3 := tk3 hC
  have t0 : ¬ hi 141 14 = 0 := by rw [t3]; decide
  have sa := sgn_all _ (sgn_in h1)
  have v41 : ¬ hi 141 15 = 41 := by
    rw [hC.2.2.2.2.1 (Or.inr rfl)]
    intro x
    rw [x] at h1
    exact h1 (by decide)
  have es : f_M_signHere hi = sgn (bA bs a) := by rw [sg_I hC, if_pos rfl]
  have er : f_M_rank (f_M_signHere hi) = nI (rk (sgn (bA bs a))) := by rw [es]; exact rk_I _
  have hrk := sa.2.2.2.1
  have s0 : ¬ f_M_signHere hi = 0 := by rw [es]; exact h1
  have hw := hW.1
  have ha := hCu.2.2.1 (Or.inr (Or.inr rfl))
  have hn : T.count (-11) < 10 := by omega
  have e54 := hZ.2.2.2.2.2.2 (T.count (-11))
  have leaf : ∀ v, v = (if rk (sgn (bA bs a)) = 3 ∨ (3 < rk (sgn (bA bs a)) ∧ ts (T.count (-11)) ≠ 0) then (1 : Int32) else 0) → pm_C pm_g (SH L) HR (d + 4) m_M_settle [.inr 141, .inl (f_M_rank (f_M_signHere hi))] (pm_u hi 154 (T.count (-11)) v) (fun v hi335 => v = none ∧ (∃ k336 : Nat, k336 < 96 ∧ (hi335 141 24) = nI k336 ∧ (∀ hi337 : pm_B, hi337 = pm_u (pm_u hi335 153 k336 (f_M_signHere hi)) 141 24 (((pm_u hi335 153 k336 (f_M_signHere hi)) 141 24) + 1) → (pm_C pm_g (SH L) HR (d + 4) m_M_go [.inr 141] hi337 (fun v hi338 => v = none ∧ (pm_W pm_g (SH L) HR (d + 4) pm_t207 28 [some (.inr 141), some (.inl (nI (T.count (-11)))), some (.inl (nI no)), some (.inl 1), some (.inl (f_M_signHere hi))] [] hi338 Q)))))) := by
    intro v hv
    have hg := hZ.flag (n := T.count (-11)) (v := v)
    rw [er]
    refine settle_c (d := d + 2) (k := rk (sgn (bA bs a))) (by omega) hg.1 (by omega) (fun hi2 hf2 hZ2 => ⟨rfl, ?_⟩)
    have hlen := stl_len (rk (sgn (bA bs a))) T oc
    refine ⟨(stl (rk (sgn (bA bs a))) T oc).1.length, by omega, hZ2.2.2.2.2.1, fun hi3 e3 => ?_⟩
    have hp := hZ2.push (x := f_M_signHere hi)
    rw [← e3] at hp
    rw [es] at hp
    refine go2_c (d := d + 2) hW (((hC.kept hg.2).kept hf2).kept hp.2) (he.resolve_left (by decide)) (Or.inr (Or.inr rfl)) hp.1 (fun hi5 hf5 hC5 hZ5 => ⟨rfl, ?_⟩)
    rw [← hv] at h
    have c11 : (sgn (bA bs a) :: (stl (rk (sgn (bA bs a))) T oc).1).count (-11) = T.count (-11) := by rw [List.count_cons_of_ne sa.2.2.2.2.2.1, stl_cnt]
    have := RR.go (o4 := some (.inl (f_M_signHere hi))) hW h hCu (Or.inr (Or.inr rfl)) hC5 hZ5 (by rw [List.length_cons]; omega) (by rw [c11]; exact h11) hno ((((hf.tr hg.2.pz).tr hf2.pz).tr hp.2.pz).tr hf5.pc) hQ
    rw [c11] at this
    exact this
  by_cases r3 : rk (sgn (bA bs a)) = 3
  · have o3 : f_M_rank (f_M_signHere hi) = 3 := by rw [er, r3]; rfl
    have f0 : hi 154 (T.count (-11)) = 0 := by
      rw [e54]
      exact Decidable.byContradiction (fun x => h2 ⟨r3, x⟩)
    exact v_M_takesE_28 (d := d + 3) ⟨fun c => absurd rfl c, fun _ => ⟨fun c => absurd c t0, fun _ => ⟨fun _ => ⟨fun c => absurd t3 c, fun _ => ⟨fun _ => ⟨fun c => absurd c s0, fun _ => ⟨fun c => absurd o3 c, fun _ => ⟨T.count (-11), hn, rfl, fun _ => ⟨fun _ => ⟨T.count (-11), hn, rfl, leaf 1 (by rw [if_pos (Or.inl r3)])⟩, fun c => absurd o3 c⟩, fun c => absurd f0 c⟩⟩⟩, fun c => absurd v41 c⟩⟩, fun c => absurd rfl c⟩⟩⟩
  · have o3 : ¬ f_M_rank (f_M_signHere hi) = 3 := by
      rw [er]; intro x; exact r3 ((nI_eq (b := 3) (by omega) (by omega)).mp x)
    by_cases r33 : rk (sgn (bA bs a)) ≤ 3
    · have o33 : f_M_rank (f_M_signHere hi) ≤ 3 := by rw [er]; exact nI_le (b := 3) r33 (by omega)
      exact v_M_takesE_28 (d := d + 3) ⟨fun c => absurd rfl c, fun _ => ⟨fun c => absurd c t0, fun _ => ⟨fun _ => ⟨fun c => absurd t3 c, fun _ => ⟨fun _ => ⟨fun c => absurd c s0, fun _ => ⟨fun _ => ⟨fun c => absurd c o3, fun _ => ⟨fun _ => ⟨T.count (-11), hn, rfl, leaf 0 (by rw [if_neg (by omega)])⟩, fun c => absurd o33 c⟩⟩, fun c => absurd o3 c⟩⟩, fun c => absurd v41 c⟩⟩, fun c => absurd rfl c⟩⟩⟩
    · have o33 : ¬ f_M_rank (f_M_signHere hi) ≤ 3 := by rw [er]; exact nI_ge (a := 3) (by omega) (by omega)
      refine v_M_takesE_28 (d := d + 3) ⟨fun c => absurd rfl c, fun _ => ⟨fun c => absurd c t0, fun _ => ⟨fun _ => ⟨fun c => absurd t3 c, fun _ => ⟨fun _ => ⟨fun c => absurd c s0, fun _ => ⟨fun _ => ⟨fun c => absurd c o3, fun _ => ⟨fun c => absurd c o33, fun _ => ⟨T.count (-11), hn, rfl, fun c => ⟨T.count (-11), hn, rfl, leaf 0 ?_⟩, fun c => ⟨T.count (-11), hn, rfl, leaf 1 ?_⟩⟩⟩⟩, fun c => absurd o3 c⟩⟩, fun c => absurd v41 c⟩⟩, fun c => absurd rfl c⟩⟩⟩
      · rw [e54] at c
        rw [if_neg (fun x => x.elim r3 (fun y => y.2 c))]
      · rw [e54] at c
        rw [if_pos (Or.inr ⟨by omega, c⟩)]
theorem c_f2 (hW : WB bs) (s : Int32) (a e : Nat) (T oc : List Int32) (m : Nat) (ts : Nat → Int32) (no : Nat) (h0 : s ≠ 0) (h1 : ¬ (s = 3 ∧ bA bs a = 41 ∧ 0 < T.count (-11))) (h2 : s = 3 → sgn (bA bs a) = 0 ∨ (rk (sgn (bA bs a)) = 3 ∧ ts (T.count (-11)) ≠ 0)) : RR L d bs key hi0 Q (s, a, e) T oc m ts no false (some a, [], 0) := by
  intro hi o4 hC hZ hCu he hl h11 hno hf hQ
  dsimp only at hC hCu he hl
  have t0 := tk_0 hC h0
  have hn : T.count (-11) < 10 := by omega
  have leaf : Q (some (.inl 0)) hi := hQ.1 a rfl hi hf hC.2.2.1
  have es := sg_I hC
  by_cases c3 : s = 3
  · rw [if_pos c3] at es
    rw [c3] at hC
    have t3 := tk3 hC
    have ev : hi 141 15 = bA bs a := hC.2.2.2.2.1 (Or.inr rfl)
    by_cases c41 : bA bs a = 41
    · have v41 : hi 141 15 = 41 := ev.trans c41
      have hy : nI (T.count (-11)) ≤ 0 := by
        have : T.count (-11) = 0 := Nat.eq_zero_of_not_pos (fun x => h1 ⟨c3, c41, x⟩)
        rw [this]; decide
      have s0 : f_M_signHere hi = 0 := by rw [es, c41]; decide
      exact v_M_takesE_28 (d := d + 3) ⟨fun c => absurd rfl c, fun _ => ⟨fun c => absurd c t0, fun _ => ⟨fun _ => ⟨fun c => absurd t3 c, fun _ => ⟨fun c => absurd v41 c, fun _ => ⟨fun _ => ⟨fun _ => leaf, fun c => absurd s0 c⟩, fun c => absurd hy c⟩⟩⟩, fun c => absurd rfl c⟩⟩⟩
    · have v41 : ¬ hi 141 15 = 41 := by rw [ev]; exact c41
      by_cases c0 : sgn (bA bs a) = 0
      · have s0 : f_M_signHere hi = 0 := by rw [es]; exact c0
        exact v_M_takesE_28 (d := d + 3) ⟨fun c => absurd rfl c, fun _ => ⟨fun c => absurd c t0, fun _ => ⟨fun _ => ⟨fun c => absurd t3 c, fun _ => ⟨fun _ => ⟨fun _ => leaf, fun c => absurd s0 c⟩, fun c => absurd v41 c⟩⟩, fun c => absurd rfl c⟩⟩⟩
      · have s0 : ¬ f_M_signHere hi = 0 := by rw [es]; exact c0
        have hx := (h2 c3).resolve_left c0
        have o3 : f_M_rank (f_M_signHere hi) = 3 := by rw [es, rk_I, hx.1]; rfl
        have f0 : ¬ hi 154 (T.count (-11)) = 0 := by rw [hZ.2.2.2.2.2.2]; exact hx.2
        exact v_M_takesE_28 (d := d + 3) ⟨fun c => absurd rfl c, fun _ => ⟨fun c => absurd c t0, fun _ => ⟨fun _ => ⟨fun c => absurd t3 c, fun _ => ⟨fun _ => ⟨fun c => absurd c s0, fun _ => ⟨fun c => absurd o3 c, fun _ => ⟨T.count (-11), hn, rfl, fun c => absurd c f0, fun _ => leaf⟩⟩⟩, fun c => absurd v41 c⟩⟩, fun c => absurd rfl c⟩⟩⟩
  · rw [if_neg c3] at es
    have t3 := tk_ne hC c3
    exact v_M_takesE_28 (d := d + 3) ⟨fun c => absurd rfl c, fun _ => ⟨fun c => absurd c t0, fun _ => ⟨fun _ => ⟨fun _ => ⟨fun _ => leaf, fun c => absurd es c⟩, fun c => absurd t3 c⟩, fun c => absurd rfl c⟩⟩⟩
theorem RR_all (hW : WB bs) : Cls bs key (RR L d bs key hi0 Q) :=
  ⟨fun a e T oc m ts no r => c_nt hW a e T oc m ts no r, fun a e T oc m ts no r => c_op hW a e T oc m ts no r, fun s a e T oc m ts no r v => c_pt hW s a e T oc m ts no r v, fun s a e T oc m ts no => c_f1 hW s a e T oc m ts no, fun a e T oc T' oc' m ts no r => c_cl hW a e T oc T' oc' m ts no r, fun a e T oc m ts no r => c_sg hW a e T oc m ts no r, fun s a e T oc m ts no => c_f2 hW s a e T oc m ts no, fun a e T oc m ts no => c_en hW a e T oc m ts no⟩
end
