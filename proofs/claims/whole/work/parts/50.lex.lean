/-! ===== texts: words and signs (class side) ===== -/
/-- the byte at a place, or -1 -/
def bA (bs : List Int32) (i : Nat) : Int32 := (bs[i]?).getD (-1)
def skp (bs : List Int32) : Nat → Nat → Nat
  | 0, a => a
  | n + 1, a => if bA bs a = 32 then skp bs n (a + 1) else a
def rn (bs : List Int32) (s : Int32) : Nat → Nat → Nat
  | 0, e => e
  | n + 1, e => if f_Parser_sortOf (bA bs e) = s then rn bs s n (e + 1) else e
/-- the next word or sign behind a word or sign: sort, start, end -/
def stq (bs : List Int32) (s : Int32) (e a : Nat) : Int32 × Nat × Nat :=
  if f_Parser_sortOf (bA bs a) = 0 then (0, a, a) else if f_Parser_sortOf (bA bs a) = 3 then (3, a, a + 1)
  else (if (s = 1 ∨ s = 2) ∧ a = e then 4 else f_Parser_sortOf (bA bs a), a, rn bs (f_Parser_sortOf (bA bs a)) 96 (a + 1))
def stp (bs : List Int32) (s : Int32) (e : Nat) : Int32 × Nat × Nat := stq bs s e (skp bs 96 e)
def WB (bs : List Int32) : Prop := bs.length ≤ 96 ∧ ∀ b ∈ bs, ∃ n, n < 256 ∧ b = nI n
theorem bA_in {bs : List Int32} {i : Nat} (h : i < bs.length) : bA bs i = bs[i] := by unfold bA; rw [List.getElem?_eq_getElem h]; rfl
theorem bA_out {bs : List Int32} {i : Nat} (h : bs.length ≤ i) : bA bs i = -1 := by unfold bA; rw [List.getElem?_eq_none h]; rfl
theorem bA_nI {bs : List Int32} (hW : WB bs) {i : Nat} (h : i < bs.length) : ∃ n, n < 256 ∧ bA bs i = nI n := by
  rw [bA_in h]; exact hW.2 _ (List.getElem_mem h)
theorem sort_end : f_Parser_sortOf (-1) = 0 := by decide
theorem sort_in : ∀ n, n < 256 → f_Parser_sortOf (nI n) = 1 ∨ f_Parser_sortOf (nI n) = 2 ∨ f_Parser_sortOf (nI n) = 3 := by decide +kernel
theorem sort_0 {bs : List Int32} (hW : WB bs) {i : Nat} : f_Parser_sortOf (bA bs i) = 0 ↔ bs.length ≤ i := by
  by_cases h : i < bs.length
  · obtain ⟨n, hn, e⟩ := bA_nI hW h
    rw [e]
    refine ⟨fun h0 => ?_, fun h1 => absurd h1 (by omega)⟩
    rcases sort_in n hn with e' | e' | e' <;> rw [e'] at h0 <;> exact absurd h0 (by decide)
  · rw [bA_out (by omega)]
    exact ⟨fun _ => by omega, fun _ => sort_end⟩
theorem skp_le {bs : List Int32} (hl : bs.length ≤ 96) : ∀ n a, a ≤ 96 → a ≤ skp bs n a ∧ skp bs n a ≤ 96
  | 0, a, h => ⟨Nat.le_refl _, h⟩
  | n + 1, a, h => by
    unfold skp
    by_cases c : bA bs a = 32
    · rw [if_pos c]
      have ha : a < bs.length := by
        by_cases hh : a < bs.length
        · exact hh
        · rw [bA_out (by omega)] at c; exact absurd c (by decide)
      have := skp_le hl n (a + 1) (by omega)
      omega
    · rw [if_neg c]; omega
theorem rn_le {bs : List Int32} (hW : WB bs) {s : Int32} (hs : ¬ s = 0) : ∀ n e, e ≤ 96 → e ≤ rn bs s n e ∧ rn bs s n e ≤ 96
  | 0, a, h => ⟨Nat.le_refl _, h⟩
  | n + 1, a, h => by
    unfold rn
    by_cases c : f_Parser_sortOf (bA bs a) = s
    · rw [if_pos c]
      have ha : a < bs.length := by
        by_cases hh : a < bs.length
        · exact hh
        · rw [bA_out (by omega), sort_end] at c; exact absurd c.symm hs
      have := rn_le hW hs n (a + 1) (by have := hW.1; omega)
      omega
    · rw [if_neg c]; omega
/-- what a step always gives -/
theorem stp_all {bs : List Int32} (hW : WB bs) {s : Int32} {e : Nat} (he : e ≤ 96) : e ≤ (stp bs s e).2.1 ∧ (stp bs s e).2.1 ≤ 96 ∧ (stp bs s e).2.2 ≤ 96 ∧ (stp bs s e).2.1 ≤ (stp bs s e).2.2 ∧ ((stp bs s e).1 = 0 ∨ ((stp bs s e).1 = 1 ∨ (stp bs s e).1 = 2 ∨ (stp bs s e).1 = 3 ∨ (stp bs s e).1 = 4) ∧ (stp bs s e).2.1 < (stp bs s e).2.2 ∧ (stp bs s e).2.1 < bs.length) := by
  have hl := hW.1
  obtain ⟨h1, h2⟩ := skp_le hl 96 e he
  unfold stp stq
  generalize skp bs 96 e = a at h1 h2
  by_cases c0 : f_Parser_sortOf (bA bs a) = 0
  · rw [if_pos c0]; exact ⟨h1, h2, h2, Nat.le_refl _, Or.inl rfl⟩
  · rw [if_neg c0]
    have ha : a < bs.length := Nat.lt_of_not_le (fun hh => c0 ((sort_0 hW).mpr hh))
    by_cases c3 : f_Parser_sortOf (bA bs a) = 3
    · rw [if_pos c3]; exact ⟨h1, h2, by dsimp only; omega, by dsimp only; omega, Or.inr ⟨Or.inr (Or.inr (Or.inl rfl)), by dsimp only; omega, ha⟩⟩
    · rw [if_neg c3]
      have hr := rn_le hW c0 96 (a + 1) (by omega)
      refine ⟨h1, h2, hr.2, by dsimp only; omega, Or.inr ⟨?_, by dsimp only; omega, ha⟩⟩
      dsimp only
      by_cases c4 : (s = 1 ∨ s = 2) ∧ a = e
      · rw [if_pos c4]; exact Or.inr (Or.inr (Or.inr rfl))
      · rw [if_neg c4]
        obtain ⟨n, hn, e'⟩ := bA_nI hW ha
        rw [e'] at c3 ⊢
        rcases sort_in n hn with e'' | e'' | e''
        · exact Or.inl e''
        · exact Or.inr (Or.inl e'')
        · exact absurd e'' c3
theorem step_c {L d e : Nat} {bs : List Int32} {s : Int32} {hi : pm_B} {Q : pm_Q} (hW : WB bs) (hb : CB hi bs) (e2 : hi 109 2 = s) (e4 : hi 109 4 = nI e) (he : e ≤ 96)
    (h : ∀ hi', Fr (fun q j => q = 109 ∧ (j = 2 ∨ j = 3 ∨ j = 4)) hi hi' → hi' 109 2 = (stp bs s e).1 → hi' 109 3 = nI (stp bs s e).2.1 → hi' 109 4 = nI (stp bs s e).2.2 → Q none hi') : pm_C pm_g (SH L) HR (d + 2) m_Parser_step [.inr 109] hi Q := by
  have hl := hW.1
  have run : ∀ (y1 : Int32) (a : Nat), ((y1 = 0 ↔ ¬ (s = 1 ∨ s = 2))) → a < bs.length → ¬ f_Parser_sortOf (bA bs a) = 0 → ¬ f_Parser_sortOf (bA bs a) = 3 → stp bs s e = stq bs s e a → ∀ n k e' hi', k + n = 96 → e' ≤ 96 → Fr (fun q j => q = 109 ∧ (j = 2 ∨ j = 3 ∨ j = 4)) hi hi' → hi' 109 2 = f_Parser_sortOf (bA bs a) → hi' 109 3 = nI a → hi' 109 4 = nI e' → rn bs (f_Parser_sortOf (bA bs a)) n e' = rn bs (f_Parser_sortOf (bA bs a)) 96 (a + 1) → pm_W pm_g (SH L) HR (d + 1) pm_t30 127 [some (.inr 109), some (.inl y1), some (.inl (nI e)), some (.inl (nI k))] [] hi' Q := by
    intro y1 a hy ha c0 c3 hst n
    have fin : ∀ e' hi', e' = rn bs (f_Parser_sortOf (bA bs a)) 96 (a + 1) → Fr (fun q j => q = 109 ∧ (j = 2 ∨ j = 3 ∨ j = 4)) hi hi' → hi' 109 2 = f_Parser_sortOf (bA bs a) → hi' 109 3 = nI a → hi' 109 4 = nI e' → ((y1 = 0) → Q none hi') ∧ ((¬ (y1 = 0)) → ((¬ (hi' 109 3) = nI e) → Q none hi') ∧ ((¬ (¬ (hi' 109 3) = nI e)) → Q none (pm_u hi' 109 2 4))) := by
      intro e' hi' ee hf g2 g3 g4
      unfold stq at hst
      rw [if_neg c0, if_neg c3] at hst
      rw [hst] at h
      rw [g3]
      refine ⟨fun c => ?_, fun c => ⟨fun c1 => ?_, fun c1 => ?_⟩⟩
      · rw [if_neg (fun x => (hy.mp c) x.1)] at h
        exact h hi' hf g2 g3 (by rw [g4, ee])
      · rw [if_neg (fun x => c1 (by rw [x.2]))] at h
        exact h hi' hf g2 g3 (by rw [g4, ee])
      · have c1 : a = e := (nI_eq (by omega) (by omega)).mp (Decidable.not_not.mp c1)
        have cs : s = 1 ∨ s = 2 := Classical.byContradiction (fun hh => c (hy.mpr hh))
        rw [if_pos ⟨cs, c1⟩] at h
        exact h _ (hf.tr (Fr.u ⟨rfl, Or.inl rfl⟩)) pm_u_at ((pm_u_ne (Or.inr (by omega))).trans g3) (by rw [pm_u_ne (Or.inr (by omega)), g4, ee])
    induction n with
    | zero =>
      intro k e' hi' hk he' hf g2 g3 g4 hr
      have ff := fin e' hi' hr hf g2 g3 g4
      exact v_Parser_step_127 ⟨fun _ => ff, fun c => absurd (nI_le (a := 96) (by omega) (by omega)) c⟩
    | succ n ih =>
      intro k e' hi' hk he' hf g2 g3 g4 hr
      have hb' : CB hi' bs := ⟨(hf _ _ (by omega)).trans hb.1, hb.2.to (fun j _ => hf _ _ (by omega))⟩
      refine v_Parser_step_127 ⟨fun c => absurd c (nI_ge (b := 96) (by omega) (by omega)), fun _ => ?_⟩
      rw [rn] at hr
      rw [g2, g4, hb'.1]
      refine ⟨fun c => absurd c (nI_pos (by omega)), fun _ => ⟨fun c => ?_, fun c => ?_⟩⟩
      · have c := (nI_leI (by omega) (by omega)).mp c
        rw [bA_out c, sort_end] at hr
        rw [if_neg (fun x => c0 x.symm)] at hr
        rw [sort_end]
        exact ⟨fun _ => fin e' hi' hr hf g2 g3 g4, fun c1 => absurd (fun x => c0 x.symm) c1⟩
      · have c : e' < bs.length := Nat.lt_of_not_le (fun hh => c (nI_le hh (by omega)))
        refine ⟨fun c' => absurd c' (nI_ge (b := 96) (by omega) (by omega)), fun _ => ⟨e', by omega, rfl, ?_⟩⟩
        rw [hb'.2.at c, ← bA_in c, nI_1]
        refine ⟨fun c1 => ?_, fun c1 => ?_⟩
        · rw [if_neg c1] at hr
          exact fin e' hi' hr hf g2 g3 g4
        · rw [if_pos (Decidable.not_not.mp c1)] at hr
          exact ih (k + 1) (e' + 1) _ (by omega) (by omega) (hf.tr (Fr.u ⟨rfl, Or.inr (Or.inr rfl)⟩)) ((pm_u_ne (Or.inr (by omega))).trans g2) ((pm_u_ne (Or.inr (by omega))).trans g3) (by rw [pm_u_at, nI_1]) hr
  have tail : ∀ (y1 : Int32) (a : Nat) (hi' : pm_B), ((y1 = 0 ↔ ¬ (s = 1 ∨ s = 2))) → a ≤ 96 → Fr (fun q j => q = 109 ∧ (j = 2 ∨ j = 3 ∨ j = 4)) hi hi' → hi' 109 3 = nI a → stp bs s e = stq bs s e a → ∀ hi3 : pm_B, hi3 = pm_u (pm_u hi' 109 2 (f_Parser_sortOf (bA bs a))) 109 4 ((pm_u hi' 109 2 (f_Parser_sortOf (bA bs a))) 109 3) → (((¬ (hi3 109 2) = 0) → ((¬ ((pm_u hi3 109 4 ((hi3 109 4) + 1)) 109 2) = 3) → pm_W pm_g (SH L) HR (d + 1) pm_t30 127 [some (.inr 109), some (.inl y1), some (.inl (nI e)), some (.inl 0)] [] (pm_u hi3 109 4 ((hi3 109 4) + 1)) Q) ∧ ((¬ (¬ ((pm_u hi3 109 4 ((hi3 109 4) + 1)) 109 2) = 3)) → Q none (pm_u hi3 109 4 ((hi3 109 4) + 1)))) ∧ ((¬ (¬ (hi3 109 2) = 0)) → Q none hi3)) := by
    intro y1 a hi' hy ha hf g3 hst hi3 e3
    have k2 : hi3 109 2 = f_Parser_sortOf (bA bs a) := by rw [e3, pm_u_ne (Or.inr (by omega)), pm_u_at]
    have k3 : hi3 109 3 = nI a := by rw [e3, pm_u_ne (Or.inr (by omega)), pm_u_ne (Or.inr (by omega))]; exact g3
    have k4 : hi3 109 4 = nI a := by rw [e3, pm_u_at, pm_u_ne (Or.inr (by omega))]; exact g3
    have kf : Fr (fun q j => q = 109 ∧ (j = 2 ∨ j = 3 ∨ j = 4)) hi hi3 := by
      rw [e3]
      exact hf.tr ((Fr.u ⟨rfl, Or.inl rfl⟩).tr (Fr.u ⟨rfl, Or.inr (Or.inr rfl)⟩))
    have hst0 := hst
    unfold stq at hst
    rw [k4, nI_1, k2, pm_u_ne (Or.inr (by omega)), k2]
    refine ⟨fun c0 => ⟨fun c3 => ?_, fun c3 => ?_⟩, fun c0 => ?_⟩
    · have ha' : a < bs.length := Nat.lt_of_not_le (fun hh => c0 ((sort_0 hW).mpr hh))
      exact run y1 a hy ha' c0 c3 hst0 96 0 (a + 1) _ rfl (by omega) (kf.tr (Fr.u ⟨rfl, Or.inr (Or.inr rfl)⟩)) ((pm_u_ne (Or.inr (by omega))).trans k2) ((pm_u_ne (Or.inr (by omega))).trans k3) pm_u_at rfl
    · have c3 := Decidable.not_not.mp c3
      rw [if_neg c0, if_pos c3] at hst
      rw [hst] at h
      exact h _ (kf.tr (Fr.u ⟨rfl, Or.inr (Or.inr rfl)⟩)) ((pm_u_ne (Or.inr (by omega))).trans (k2.trans c3)) ((pm_u_ne (Or.inr (by omega))).trans k3) pm_u_at
    · have c0 := Decidable.not_not.mp c0
      rw [if_pos c0] at hst
      rw [hst] at h
      exact h _ kf (k2.trans c0) k3 k4
  have loop : ∀ (y1 : Int32), ((y1 = 0 ↔ ¬ (s = 1 ∨ s = 2))) → ∀ n k a hi', k + n = 96 → a ≤ 96 → Fr (fun q j => q = 109 ∧ (j = 2 ∨ j = 3 ∨ j = 4)) hi hi' → hi' 109 3 = nI a → skp bs n a = skp bs 96 e → pm_W pm_g (SH L) HR (d + 1) pm_t30 34 [some (.inr 109), some (.inl y1), some (.inl (nI e)), some (.inl (nI k))] [] hi' Q := by
    intro y1 hy n
    induction n with
    | zero =>
      intro k a hi' hk ha hf g3 hs
      have hb' : CB hi' bs := ⟨(hf _ _ (by omega)).trans hb.1, hb.2.to (fun j _ => hf _ _ (by omega))⟩
      have hs : a = skp bs 96 e := hs
      have tt := tail y1 a hi' hy ha hf g3 (by rw [hs]; rfl)
      refine v_Parser_step_34 ⟨fun _ => ?_, fun c => absurd (nI_le (a := 96) (by omega) (by omega)) c⟩
      rw [g3, hb'.1]
      refine ⟨fun c => absurd c (nI_pos (by omega)), fun _ => ⟨fun c => ?_, fun c => ⟨fun c' => ?_, fun c' => ?_⟩⟩⟩
      · rw [bA_out ((nI_leI (by omega) (by omega)).mp c)] at tt; exact tt
      · have c' := (nI_leI (a := 96) (by omega) (by omega)).mp c'
        rw [bA_out (by omega)] at tt; exact tt
      · have c : a < bs.length := Nat.lt_of_not_le (fun hh => c (nI_le hh (by omega)))
        refine ⟨a, by omega, rfl, ?_⟩
        rw [hb'.2.at c, ← bA_in c]
        exact tt
    | succ n ih =>
      intro k a hi' hk ha hf g3 hs
      have hb' : CB hi' bs := ⟨(hf _ _ (by omega)).trans hb.1, hb.2.to (fun j _ => hf _ _ (by omega))⟩
      refine v_Parser_step_34 ⟨fun c => absurd c (nI_ge (b := 96) (by omega) (by omega)), fun _ => ?_⟩
      rw [skp] at hs
      rw [g3, hb'.1]
      refine ⟨fun c => absurd c (nI_pos (by omega)), fun _ => ⟨fun c => ?_, fun c => ?_⟩⟩
      · have c2 := (nI_leI (by omega) (by omega)).mp c
        have eb := bA_out (bs := bs) c2
        rw [eb, if_neg (by decide)] at hs
        have tt := tail y1 a hi' hy ha hf g3 (by rw [hs]; rfl)
        rw [eb] at tt
        exact ⟨fun c => absurd c (nI_pos (by omega)), fun _ => ⟨fun _ => tt, fun c' => absurd c c'⟩⟩
      · have c2 : a < bs.length := Nat.lt_of_not_le (fun hh => c (nI_le hh (by omega)))
        have eb := bA_in c2
        refine ⟨fun c' => absurd c' (nI_ge (b := 96) (by omega) (by omega)), fun _ => ⟨a, by omega, rfl, ?_⟩⟩
        rw [hb'.2.at c2, ← eb, nI_1]
        refine ⟨fun c3 => ?_, fun c3 => ?_⟩
        · rw [if_neg c3] at hs
          have tt := tail y1 a hi' hy ha hf g3 (by rw [hs]; rfl)
          refine ⟨fun c => absurd c (nI_pos (by omega)), fun _ => ⟨fun c' => absurd c' c, fun _ => ⟨fun c' => absurd c' (nI_ge (b := 96) (by omega) (by omega)), fun _ => ⟨a, by omega, rfl, ?_⟩⟩⟩⟩
          rw [hb'.2.at c2, ← eb]
          exact tt
        · rw [if_pos (Decidable.not_not.mp c3)] at hs
          exact ih (k + 1) (a + 1) _ (by omega) (by omega) (hf.tr (Fr.u ⟨rfl, Or.inr (Or.inl rfl)⟩)) (by rw [pm_u_at, nI_1]) hs
  refine v_Parser_step ?_
  rw [e2, e4]
  have f3 : Fr (fun q j => q = 109 ∧ (j = 2 ∨ j = 3 ∨ j = 4)) hi (pm_u hi 109 3 (nI e)) := Fr.u ⟨rfl, Or.inr (Or.inl rfl)⟩
  refine ⟨fun c => ?_, fun c => ⟨fun c2 => ?_, fun c2 => ?_⟩⟩
  · exact loop 1 ⟨fun x => absurd x (by decide), fun x => absurd (Or.inl c) x⟩ 96 0 e _ rfl he f3 pm_u_at rfl
  · exact loop 0 ⟨fun _ x => x.elim c c2, fun _ => rfl⟩ 96 0 e _ rfl he f3 pm_u_at rfl
  · exact loop 1 ⟨fun x => absurd x (by decide), fun x => absurd (Or.inr (Decidable.not_not.mp c2)) x⟩ 96 0 e _ rfl he f3 pm_u_at rfl
