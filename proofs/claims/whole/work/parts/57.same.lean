/-! ===== texts: both readings read the same ===== -/
section
variable {bs : List Int32} {key : Int32} {f : Nat}
theorem okP.lt {r : Nat} {x : Int32} (h : okP (r + 1) x) : okP r x := ⟨by have := h.1; omega, h.2⟩
theorem okP.s {r : Nat} {P : List Int32} (h : ∀ x ∈ P, okP r x) : ∀ x ∈ P, x ≠ -11 ∧ r ≤ rk x := fun x hx => ⟨(h x hx).2.1, (h x hx).1⟩
theorem cnt_P {r : Nat} {P T : List Int32} (h : ∀ x ∈ P, okP r x) : (P ++ T).count (-11) = T.count (-11) ∧ (P ++ T).count (-10) = T.count (-10) := by
  rw [List.count_append, List.count_append, List.count_eq_zero.mpr (fun hx => (h _ hx).2.1 rfl), List.count_eq_zero.mpr (fun hx => (h _ hx).2.2 rfl)]
  exact ⟨Nat.zero_add _, Nat.zero_add _⟩
theorem lp_4 {g : PS → PS} {ss : List Int32} {p : PS} (h : p.1 = 4) : ∀ n, lp bs g ss n p = p
  | 0 => rfl
  | n + 1 => by rw [lp, if_neg (fun x => absurd (h.symm.trans x.1) (by decide))]
theorem En.sign {p : PS} {T : List Int32} {k : Int32} (hW : WB bs) (h : En bs f p T) (h3 : p.1 = 3) (hk : k ≠ -10) (hk2 : k ≠ -11) : En bs f (pStep bs p) (k :: T) := by
  have hc := h.2.2.2.2.1
  have hs := stp_Cu hW (s := p.1) hc.2.1
  have hl := (hc.2.2.1 (Or.inr (Or.inr h3))).1
  have h4 := h.2.2.2.1
  refine ⟨h.1, ?_, ?_, ?_, hs.1, h.2.2.2.2.2⟩
  · rw [List.count_cons_of_ne hk2]; exact h.2.1
  · rw [List.count_cons_of_ne hk]; exact h.2.2.1
  · rw [List.length_cons]
    have := hs.2
    show _ ≤ (stp bs p.1 p.2.2.1).2.1
    show p.2.2.2.2.2.2.1.length + (T.length + 1) ≤ _
    omega
/-- behind a sign and what follows it -/
theorem sign_run {g : PS → PS} {r : Nat} {T c0 : List Int32} {ts0 : Nat → Int32} (hW : WB bs) (hg : Cl bs key f (r + 1) g) (hb : blk r T) {p : PS} {P oc : List Int32} {ts : Nat → Int32} (hE : Ex bs key f r c0 T ts0 p P oc ts) (h3 : p.1 = 3) (hs : sgn (bA bs p.2.1) ≠ 0) (hr : rk (sgn (bA bs p.2.1)) = r) (ht : r = 3 → ts (T.count (-11)) = 0) :
  ((g (pStep bs p)).2.2.2.2.2.1 = none → ∃ P' oc' ts', Ex bs key f r c0 T ts0 (pPut (-(bA bs p.2.1)) (g (pStep bs p))) P' oc' ts' ∧ (r = 3 → ts' (T.count (-11)) ≠ 0) ∧ NX bs (r + 1) (pPut (-(bA bs p.2.1)) (g (pStep bs p))) ts' (T.count (-11)) ∧ p.2.1 < (g (pStep bs p)).2.1 ∧ ∀ res, Run bs key (cur (g (pStep bs p))) (P' ++ T) oc' (g (pStep bs p)).2.2.2.2.2.2.2 ts' (T.count (-10)) false res → Run bs key (cur p) (P ++ T) oc p.2.2.2.2.2.2.2 ts (T.count (-10)) false res)
  ∧ (∀ x, (g (pStep bs p)).2.2.2.2.2.1 = some x → (g (pStep bs p)).1 = 4 ∧ Run bs key (cur p) (P ++ T) oc p.2.2.2.2.2.2.2 ts (T.count (-10)) false (some x, [], 0)) := by
  obtain ⟨hEn, eoc, hP, hts, hG⟩ := hE
  have sa := sgn_all _ (sgn_in hs)
  have hn := cnt_P (T := T) hP
  have e1 : stl (rk (sgn (bA bs p.2.1))) (P ++ T) oc = (T, p.2.2.2.2.2.2.1.map enc) := by rw [hr, stl_app hb P oc (okP.s hP), eoc]
  have sg : ∀ res, Run bs key (stp bs 3 p.2.2.1) (sgn (bA bs p.2.1) :: T) (p.2.2.2.2.2.2.1.map enc) p.2.2.2.2.2.2.2 (updT ts (T.count (-11)) (if r = 3 ∨ (3 < r ∧ ts (T.count (-11)) ≠ 0) then 1 else 0)) (T.count (-10)) true res → Run bs key (cur p) (P ++ T) oc p.2.2.2.2.2.2.2 ts (T.count (-10)) false res := by
    intro res h
    have h' := Run.sg (bs := bs) (key := key) (a := p.2.1) (e := p.2.2.1) (T := P ++ T) (oc := oc) (m := p.2.2.2.2.2.2.2) (ts := ts) (no := T.count (-10)) (r := res) hs (by rw [hn.1, hr]; exact fun x => x.2 (ht x.1)) (by rw [e1, hn.1, hr]; exact h)
    unfold cur
    rw [h3]
    exact h'
  generalize hk : (updT ts (T.count (-11)) (if r = 3 ∨ (3 < r ∧ ts (T.count (-11)) ≠ 0) then 1 else 0)) = ts1 at sg
  have hE1 := hEn.sign hW h3 sa.2.2.2.2.1 sa.2.2.2.2.2.1
  have c1 : (sgn (bA bs p.2.1) :: T).count (-11) = T.count (-11) := List.count_cons_of_ne sa.2.2.2.2.2.1
  have c2 : (sgn (bA bs p.2.1) :: T).count (-10) = T.count (-10) := List.count_cons_of_ne sa.2.2.2.2.1
  have hcl := hg (pStep bs p) (sgn (bA bs p.2.1) :: T) ts1 hE1 (Or.inr ⟨_, _, rfl, Or.inr (by omega)⟩) (fun h => by
    rw [c1, ← hk]
    unfold updT
    rw [if_pos rfl, if_neg (by omega)])
  have ecur : cur (pStep bs p) = stp bs 3 p.2.2.1 := by unfold cur pStep; dsimp only; rw [h3]
  rw [c1, c2, ecur] at hcl
  refine ⟨fun hn' => ?_, fun x hx => ?_⟩
  · obtain ⟨P2, oc2, ts2, ⟨hEn2, eoc2, hP2, hts2, hG2⟩, hNX, hmo, hR⟩ := hcl.1 hn'
    rw [c1] at hts2
    have hlen := hEn2.2.2.2.1
    have h96 := hEn2.2.2.2.2.1.1
    rw [List.length_cons] at hlen
    have hlt : (g (pStep bs p)).2.2.2.2.2.2.1.length < 96 := by omega
    have ec : (pPut (-(bA bs p.2.1)) (g (pStep bs p))).2.2.2.2.2.2.1 = (g (pStep bs p)).2.2.2.2.2.2.1 ++ [-(bA bs p.2.1)] := by unfold pPut; dsimp only; rw [if_pos hlt]
    have hts1 : ∀ m, (m < T.count (-11) → (ts1 m = 0 ↔ ts m = 0)) ∧ (4 ≤ r → m = T.count (-11) → (ts1 m = 0 ↔ ts m = 0)) := by
      intro m
      rw [← hk]
      unfold updT
      refine ⟨fun hm => by rw [if_neg (by omega)], fun h4 hm => ?_⟩
      rw [if_pos hm, hm]
      by_cases hz : ts (T.count (-11)) = 0
      · rw [if_neg (fun x => by rcases x with x | x; omega; exact x.2 hz)]; exact ⟨fun _ => hz, fun _ => rfl⟩
      · rw [if_pos (Or.inr ⟨by omega, hz⟩)]; exact ⟨fun x => absurd x (by decide), fun x => absurd x hz⟩
    refine ⟨P2 ++ [sgn (bA bs p.2.1)], oc2, ts2, ⟨⟨hEn2.1, ?_, ?_, ?_, hEn2.2.2.2.2⟩, ?_, ?_, ?_, ?_⟩, ?_, hNX, ?_, fun res h => sg res (hR res ?_)⟩
    · exact hEn2.2.1.trans c1
    · exact hEn2.2.2.1.trans c2
    · rw [ec, List.length_append]
      show (g (pStep bs p)).2.2.2.2.2.2.1.length + 1 + T.length ≤ (g (pStep bs p)).2.1
      omega
    · rw [ec, List.map_append, ← List.append_assoc, eoc2]
      show _ = _ ++ [enc (-(bA bs p.2.1))]
      rw [sa.2.1]
    · intro x hx
      rcases List.mem_append.mp hx with y | y
      · exact (hP2 x y).lt
      · rw [List.mem_singleton.mp y]; exact ⟨by omega, sa.2.2.2.2.2.1, sa.2.2.2.2.1⟩
    · intro m hm
      rcases hm with hm | hm
      · exact (hts2 m (Or.inl hm)).trans (((hts1 m).1 hm).trans (hts m (Or.inl hm)))
      · exact (hts2 m (Or.inr ⟨by omega, hm.2⟩)).trans (((hts1 m).2 hm.1 hm.2).trans (hts m (Or.inr hm)))
    · rw [ec]; exact hG.two hG2 hs
    · intro h
      have := hts2 (T.count (-11)) (Or.inr ⟨by omega, rfl⟩)
      intro hz
      have h1 := this.mp hz
      rw [← hk] at h1
      unfold updT at h1
      rw [if_pos rfl, if_pos (Or.inl h)] at h1
      exact absurd h1 (by decide)
    · have hs2 := (stp_Cu hW (s := p.1) hEn.2.2.2.2.1.2.1).2
      have hl := (hEn.2.2.2.2.1.2.2.1 (Or.inr (Or.inr h3))).1
      exact Nat.lt_of_lt_of_le (show p.2.1 < (pStep bs p).2.1 from (by show p.2.1 < (stp bs p.1 p.2.2.1).2.1; omega)) hmo
    · rw [List.append_assoc] at h; exact h
  · have := hcl.2 x hx
    exact ⟨this.1, sg _ this.2⟩
theorem Ex.lt {r : Nat} {c0 T : List Int32} {ts ts' : Nat → Int32} {p : PS} {P oc : List Int32} (h : Ex bs key f (r + 1) c0 T ts p P oc ts') : Ex bs key f r c0 T ts p P oc ts' := ⟨h.1, h.2.1, fun x hx => (h.2.2.1 x hx).lt, fun m hm => h.2.2.2.1 m (hm.imp id (fun y => ⟨by omega, y.2⟩)), h.2.2.2.2⟩
theorem blk_lt {r : Nat} {T : List Int32} (h : blk r T) : blk (r + 1) T := by
  rcases h with h | ⟨x, T', h1, h2⟩
  · exact Or.inl h
  · exact Or.inr ⟨x, T', h1, h2.imp id (fun y => by omega)⟩
theorem lp_run {g : PS → PS} {ss : List Int32} {r : Nat} {T c0 : List Int32} {ts0 : Nat → Int32} (hW : WB bs) (hg : Cl bs key f (r + 1) g) (hr3 : r ≠ 3) (hss : ∀ b, b ∈ ss ↔ sgn b ≠ 0 ∧ rk (sgn b) = r) (hb : blk r T) : ∀ n p P oc ts, 96 ≤ p.2.1 + n → Ex bs key f r c0 T ts0 p P oc ts → NX bs (r + 1) p ts (T.count (-11)) →
  ((lp bs g ss n p).2.2.2.2.2.1 = none → ∃ P' oc' ts', Ex bs key f r c0 T ts0 (lp bs g ss n p) P' oc' ts' ∧ NX bs r (lp bs g ss n p) ts' (T.count (-11)) ∧ p.2.1 ≤ (lp bs g ss n p).2.1 ∧ ∀ res, Run bs key (cur (lp bs g ss n p)) (P' ++ T) oc' (lp bs g ss n p).2.2.2.2.2.2.2 ts' (T.count (-10)) false res → Run bs key (cur p) (P ++ T) oc p.2.2.2.2.2.2.2 ts (T.count (-10)) false res)
  ∧ (∀ x, (lp bs g ss n p).2.2.2.2.2.1 = some x → (lp bs g ss n p).1 = 4 ∧ Run bs key (cur p) (P ++ T) oc p.2.2.2.2.2.2.2 ts (T.count (-10)) false (some x, [], 0)) := by
  intro n
  induction n with
  | zero =>
    intro p P oc ts hn hE hN
    rw [show lp bs g ss 0 p = p from rfl]
    refine ⟨fun _ => ⟨P, oc, ts, hE, fun h3 => ?_, Nat.le_refl _, fun _ h => h⟩, fun x hx => ?_⟩
    · have := (hE.1.2.2.2.2.1.2.2.1 (Or.inr (Or.inr h3))).2
      have := hW.1
      omega
    · rw [hE.1.1] at hx; exact absurd hx (by intro h; cases h)
  | succ n ih =>
    intro p P oc ts hn hE hN
    rw [lp]
    by_cases c : p.1 = 3 ∧ bA bs p.2.1 ∈ ss
    · rw [if_pos c]
      have hs := (hss _).mp c.2
      have h1 := sign_run hW hg hb hE c.1 hs.1 hs.2 (fun x => absurd x hr3)
      cases hf : (g (pStep bs p)).2.2.2.2.2.1 with
      | none =>
        obtain ⟨P1, oc1, ts1, hE1, _, hN1, hlt, hR1⟩ := h1.1 hf
        have h2 := ih (pPut (-(bA bs p.2.1)) (g (pStep bs p))) P1 oc1 ts1 (by show 96 ≤ (g (pStep bs p)).2.1 + n; omega) hE1 hN1
        refine ⟨fun hz => ?_, fun x hx => ?_⟩
        · obtain ⟨P2, oc2, ts2, a, b, c, d⟩ := h2.1 hz
          refine ⟨P2, oc2, ts2, a, b, ?_, fun res h => hR1 res (d res h)⟩
          have c : (g (pStep bs p)).2.1 ≤ _ := c
          omega
        · have := h2.2 x hx
          exact ⟨this.1, hR1 _ this.2⟩
      | some x =>
        have h2 := h1.2 x hf
        rw [lp_4 (p := pPut (-(bA bs p.2.1)) (g (pStep bs p))) h2.1]
        refine ⟨fun hz => ?_, fun y hy => ?_⟩
        · exact absurd (hf.symm.trans hz) (by intro h; cases h)
        · have : x = y := Option.some.inj (hf.symm.trans hy)
          rw [← this]; exact h2
    · rw [if_neg c]
      refine ⟨fun _ => ⟨P, oc, ts, hE, fun h3 => ?_, Nat.le_refl _, fun _ h => h⟩, fun x hx => ?_⟩
      · rcases hN h3 with x | x | x
        · exact Or.inl x
        · by_cases hz : sgn (bA bs p.2.1) = 0
          · exact Or.inl hz
          · refine Or.inr (Or.inl ?_)
            by_cases he : rk (sgn (bA bs p.2.1)) = r
            · exact absurd ⟨h3, (hss _).mpr ⟨hz, he⟩⟩ c
            · omega
        · exact Or.inr (Or.inr x)
      · rw [hE.1.1] at hx; exact absurd hx (by intro h; cases h)
theorem Cl_lp {g : PS → PS} {ss : List Int32} {r : Nat} (hW : WB bs) (hg : Cl bs key f (r + 1) g) (hr3 : r ≠ 3) (hss : ∀ b, b ∈ ss ↔ sgn b ≠ 0 ∧ rk (sgn b) = r) : Cl bs key f r (fun p => lp bs g ss 96 (g p)) := by
  intro p T ts hE hb ht
  have h1 := hg p T ts hE (blk_lt hb) (fun x => ht (by omega))
  dsimp only
  cases hf : (g p).2.2.2.2.2.1 with
  | none =>
    obtain ⟨P, oc, ts', hX, hN, hle, hR⟩ := h1.1 hf
    have h2 := lp_run hW hg hr3 hss hb 96 (g p) P oc ts' (by omega) hX.lt hN
    refine ⟨fun hz => ?_, fun x hx => ?_⟩
    · obtain ⟨P2, oc2, ts2, a, b, c, d⟩ := h2.1 hz
      exact ⟨P2, oc2, ts2, a, b, Nat.le_trans hle c, fun res h => hR res (d res h)⟩
    · have := h2.2 x hx
      exact ⟨this.1, hR _ this.2⟩
  | some x =>
    have h2 := h1.2 x hf
    rw [lp_4 h2.1]
    refine ⟨fun hz => absurd (hf.symm.trans hz) (by intro h; cases h), fun y hy => ?_⟩
    have : x = y := Option.some.inj (hf.symm.trans hy)
    rw [← this]; exact h2
theorem Cl_test {g : PS → PS} (hW : WB bs) (hg : Cl bs key f 4 g) : Cl bs key f 3 (testF bs g) := by
  intro p T ts hE hb ht
  have h1 := hg p T ts hE (blk_lt hb) (fun x => by omega)
  unfold testF
  cases hf : (g p).2.2.2.2.2.1 with
  | none =>
    obtain ⟨P, oc, ts', hX, hN, hle, hR⟩ := h1.1 hf
    by_cases c : (g p).1 = 3 ∧ bA bs (g p).2.1 ∈ [(60 : Int32), 61, 62]
    · rw [if_pos c]
      have hs := (ss3 _).mp c.2
      have h0 : ts' (T.count (-11)) = 0 := (hX.2.2.2.1 _ (Or.inr ⟨by omega, rfl⟩)).mpr (ht (by omega))
      have h2 := sign_run hW hg hb hX.lt c.1 hs.1 hs.2 (fun _ => h0)
      refine ⟨fun hz => ?_, fun x hx => ?_⟩
      · obtain ⟨P1, oc1, ts1, hE1, h31, hN1, hlt, hR1⟩ := h2.1 hz
        refine ⟨P1, oc1, ts1, hE1, fun h3 => ?_, ?_, fun res h => hR res (hR1 res h)⟩
        · rcases hN1 h3 with x | x | x
          · exact Or.inl x
          · by_cases he : rk (sgn (bA bs (pPut (-(bA bs (g p).2.1)) (g (pStep bs (g p)))).2.1)) = 3
            · exact Or.inr (Or.inr ⟨he, h31 rfl⟩)
            · exact Or.inr (Or.inl (by omega))
          · exact Or.inr (Or.inr x)
        · exact Nat.le_trans hle (Nat.le_of_lt hlt)
      · have := h2.2 x hx
        exact ⟨this.1, hR _ this.2⟩
    · rw [if_neg c]
      refine ⟨fun _ => ⟨P, oc, ts', hX.lt, fun h3 => ?_, hle, hR⟩, fun x hx => absurd (hf.symm.trans hx) (by intro h; cases h)⟩
      rcases hN h3 with x | x | x
      · exact Or.inl x
      · by_cases hz : sgn (bA bs (g p).2.1) = 0
        · exact Or.inl hz
        · refine Or.inr (Or.inl ?_)
          by_cases he : rk (sgn (bA bs (g p).2.1)) = 3
          · exact absurd ⟨h3, (ss3 _).mpr ⟨hz, he⟩⟩ c
          · omega
      · exact Or.inr (Or.inr x)
  | some x =>
    have h2 := h1.2 x hf
    rw [if_neg (fun y => absurd (h2.1.symm.trans y.1) (by decide))]
    refine ⟨fun hz => absurd (hf.symm.trans hz) (by intro h; cases h), fun y hy => ?_⟩
    have : x = y := Option.some.inj (hf.symm.trans hy)
    rw [← this]; exact h2
theorem Cl_or {g : PS → PS} (hW : WB bs) (hg : Cl bs key f 6 g) : Cl bs key f 1 (orF bs g) :=
  Cl_lp hW (Cl_lp hW (Cl_test hW (Cl_lp hW (Cl_lp hW hg (by decide) ss5) (by decide) ss4)) (by decide) ss2) (by decide) ss1
end
