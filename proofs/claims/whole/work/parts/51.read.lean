/-! ===== texts: the class's reading, as a function of the bytes ===== -/
/-- sort, start, end, open brackets, open nots, fault, code, leaves -/
abbrev PS : Type := Int32 × Nat × Nat × Nat × Nat × Option Nat × List Int32 × Nat
def fl : Option Nat → Int32
  | none => -1000000005
  | some a => nI a
def pStep (bs : List Int32) (p : PS) : PS := ((stp bs p.1 p.2.2.1).1, (stp bs p.1 p.2.2.1).2.1, (stp bs p.1 p.2.2.1).2.2, p.2.2.2)
def pFail (p : PS) : PS := (4, p.2.1, p.2.2.1, p.2.2.2.1, p.2.2.2.2.1, some (p.2.2.2.2.2.1.getD p.2.1), p.2.2.2.2.2.2)
def pPut (v : Int32) (p : PS) : PS := (p.1, p.2.1, p.2.2.1, p.2.2.2.1, p.2.2.2.2.1, p.2.2.2.2.2.1, (if p.2.2.2.2.2.2.1.length < 96 then p.2.2.2.2.2.2.1 ++ [v] else p.2.2.2.2.2.2.1), p.2.2.2.2.2.2.2)
def pLv (p : PS) : PS := (p.1, p.2.1, p.2.2.1, p.2.2.2.1, p.2.2.2.2.1, p.2.2.2.2.2.1, p.2.2.2.2.2.2.1, p.2.2.2.2.2.2.2 + 1)
def pOb (n : Nat) (p : PS) : PS := (p.1, p.2.1, p.2.2.1, n, p.2.2.2.2)
def pOn (n : Nat) (p : PS) : PS := (p.1, p.2.1, p.2.2.1, p.2.2.2.1, n, p.2.2.2.2.2)
def pLeaf (bs : List Int32) (v : Int32) (p : PS) : PS := pStep bs (pLv (pPut v p))
abbrev isS (bs : List Int32) (p : PS) (c : Int32) : Prop := p.1 = 3 ∧ bA bs p.2.1 = c
/-- what always holds while reading -/
def PWf (bs : List Int32) (fu : Nat) (p : PS) : Prop := p.2.1 ≤ 96 ∧ p.2.2.1 ≤ 96 ∧ (p.2.2.2.1 ≤ 8 ∧ 17 ≤ p.2.2.2.2.1 + p.2.2.2.1 + fu) ∧ p.2.2.2.2.1 ≤ 8 ∧ p.2.2.2.2.2.2.1.length ≤ 96 ∧ (∀ f, p.2.2.2.2.2.1 = some f → f ≤ 96) ∧ (p.1 = 0 ∨ p.1 = 4 ∨ ((p.1 = 1 ∨ p.1 = 2 ∨ p.1 = 3) ∧ p.2.1 < p.2.2.1 ∧ p.2.1 < bs.length))
def EPi (bs : List Int32) (X : Nat) (key : Int32) (hi : pm_B) (p : PS) : Prop := hi 109 1 = nI X ∧ hi 109 2 = p.1 ∧ hi 109 3 = nI p.2.1 ∧ hi 109 4 = nI p.2.2.1 ∧ hi 109 5 = nI p.2.2.2.1 ∧ hi 109 6 = nI p.2.2.2.2.1 ∧ hi 109 7 = fl p.2.2.2.2.2.1 ∧ hi X 0 = key ∧ hi X 1 = nI p.2.2.2.2.2.2.2 ∧ hi X 2 = nI p.2.2.2.2.2.2.1.length ∧ Row (hi (X + 1)) p.2.2.2.2.2.2.1 ∧ CB hi bs ∧ CK hi
def FX (X : Nat) : Nat → Nat → Prop := fun q _ => q = 109 ∨ q = X ∨ q = X + 1
def XW (X : Nat) : Prop := ∃ i, i < 15 ∧ X = 19 + 2 * i
theorem XW.tx {X : Nat} (h : XW X) : pm_tx X := Or.inl h
theorem XW.lt {X : Nat} (h : XW X) : 19 ≤ X ∧ X + 1 ≤ 48 := by obtain ⟨i, hi, rfl⟩ := h; omega
theorem fl_none {bs : List Int32} {fu : Nat} {p : PS} (h : PWf bs fu p) : fl p.2.2.2.2.2.1 = -1000000005 ↔ p.2.2.2.2.2.1 = none := by
  cases e : p.2.2.2.2.2.1 with
  | none => exact ⟨fun _ => rfl, fun _ => rfl⟩
  | some f =>
    have hf := h.2.2.2.2.2.1 f e
    refine ⟨fun h => ?_, fun h => by cases h⟩
    have h1 := nI_pos (n := f) (by omega)
    have h : nI f = -1000000005 := h
    rw [h] at h1
    exact absurd (by decide) h1
theorem PWf.fail {bs : List Int32} {fu : Nat} {p : PS} (h : PWf bs fu p) : PWf bs fu (pFail p) := by
  obtain ⟨a1, a2, a3, a4, a5, a6, a7⟩ := h
  refine ⟨a1, a2, a3, a4, a5, fun f hf => ?_, Or.inr (Or.inl rfl)⟩
  have hf : p.2.2.2.2.2.1.getD p.2.1 = f := Option.some.inj hf
  cases e : p.2.2.2.2.2.1 with
  | none => rw [e] at hf; have : p.2.1 = f := hf; omega
  | some g => rw [e] at hf; have : g = f := hf; have := a6 g e; omega
theorem PWf.put {bs : List Int32} {fu : Nat} {p : PS} (h : PWf bs fu p) (v : Int32) : PWf bs fu (pPut v p) := by
  obtain ⟨a1, a2, a3, a4, a5, a6, a7⟩ := h
  refine ⟨a1, a2, a3, a4, ?_, a6, a7⟩
  show (if p.2.2.2.2.2.2.1.length < 96 then p.2.2.2.2.2.2.1 ++ [v] else p.2.2.2.2.2.2.1).length ≤ 96
  split
  · rw [List.length_append, List.length_singleton]; omega
  · exact a5
theorem PWf.step {bs : List Int32} {fu : Nat} {p : PS} (hW : WB bs) (h : PWf bs fu p) : PWf bs fu (pStep bs p) := by
  obtain ⟨a1, a2, a3, a4, a5, a6, a7⟩ := h
  obtain ⟨b1, b2, b3, b4, b5⟩ := stp_all hW (s := p.1) a2
  refine ⟨b2, b3, a3, a4, a5, a6, ?_⟩
  rcases b5 with e | ⟨e, e', e''⟩
  · exact Or.inl e
  · rcases e with e | e | e | e
    · exact Or.inr (Or.inr ⟨Or.inl e, e', e''⟩)
    · exact Or.inr (Or.inr ⟨Or.inr (Or.inl e), e', e''⟩)
    · exact Or.inr (Or.inr ⟨Or.inr (Or.inr e), e', e''⟩)
    · exact Or.inr (Or.inl e)
theorem PWf.lv {bs : List Int32} {fu : Nat} {p : PS} (h : PWf bs fu p) : PWf bs fu (pLv p) := h
theorem PWf.ob {bs : List Int32} {fu : Nat} {p : PS} (h : PWf bs fu p) {n fv : Nat} (hn : n ≤ 8) (hf : 17 ≤ p.2.2.2.2.1 + n + fv) : PWf bs fv (pOb n p) := ⟨h.1, h.2.1, ⟨hn, hf⟩, h.2.2.2.1, h.2.2.2.2.1, h.2.2.2.2.2.1, h.2.2.2.2.2.2⟩
theorem PWf.on {bs : List Int32} {fu : Nat} {p : PS} (h : PWf bs fu p) {n fv : Nat} (hn : n ≤ 8) (hf : 17 ≤ n + p.2.2.2.1 + fv) : PWf bs fv (pOn n p) := ⟨h.1, h.2.1, ⟨h.2.2.1.1, hf⟩, hn, h.2.2.2.2.1, h.2.2.2.2.2.1, h.2.2.2.2.2.2⟩
/-- a byte within the tape -/
theorem gB {x y : Int32} {a n : Nat} {A1 A2 A3 : Prop} {B : Nat → Prop} (hx : x = nI a) (hy : y = nI n) (ha : a < n) (hn : n ≤ 96) (hb : B a) : ((x < 0) → A1) ∧ ((¬ (x < 0)) → ((y ≤ x) → A2) ∧ ((¬ (y ≤ x)) → ((96 ≤ x) → A3) ∧ ((¬ (96 ≤ x)) → ∃ k : Nat, k < 96 ∧ x = nI k ∧ B k))) := by
  subst hx hy
  exact ⟨fun c => absurd c (nI_pos (by omega)), fun _ => ⟨fun c => absurd c (nI_ge ha (by omega)), fun _ => ⟨fun c => absurd c (nI_ge (b := 96) (by omega) (by omega)), fun _ => ⟨a, by omega, rfl, hb⟩⟩⟩⟩
section
variable {L : Nat} {bs : List Int32} {X : Nat} {key : Int32} {fu : Nat}
theorem EPi.step {d : Nat} {p : PS} {hi : pm_B} {Q : pm_Q} (hW : WB bs) (hX : XW X) (hp : PWf bs fu p) (hI : EPi bs X key hi p) (h : ∀ hi', Fr (FX X) hi hi' → EPi bs X key hi' (pStep bs p) → Q none hi') : pm_C pm_g (SH L) HR (d + 2) m_Parser_step [.inr 109] hi Q := by
  have hx := hX.lt
  obtain ⟨i1, i2, i3, i4, i5, i6, i7, i8, i9, i10, i11, i12, i13⟩ := hI
  refine step_c hW i12 i2 i4 hp.2.1 (fun hi' hf g2 g3 g4 => h hi' (hf.mono (fun q j hq => Or.inl hq.1)) ?_)
  have k : ∀ q j, ¬ (q = 109 ∧ (j = 2 ∨ j = 3 ∨ j = 4)) → hi' q j = hi q j := hf
  exact ⟨(k _ _ (by omega)).trans i1, g2, g3, g4, (k _ _ (by omega)).trans i5, (k _ _ (by omega)).trans i6, (k _ _ (by omega)).trans i7, (k _ _ (by omega)).trans i8, (k _ _ (by omega)).trans i9, (k _ _ (by omega)).trans i10, i11.to (fun j _ => k _ _ (by omega)), ⟨(k _ _ (by omega)).trans i12.1, i12.2.to (fun j _ => k _ _ (by omega))⟩, fun q j u v => (k _ _ (by omega)).trans (i13 q j u v)⟩
theorem EPi.u {p : PS} {hi : pm_B} {j : Nat} {v : Int32} (hX : XW X) (hI : EPi bs X key hi p) (q : PS) (e2 : pm_u hi 109 j v 109 2 = q.1) (e3 : pm_u hi 109 j v 109 3 = nI q.2.1) (e4 : pm_u hi 109 j v 109 4 = nI q.2.2.1) (e5 : pm_u hi 109 j v 109 5 = nI q.2.2.2.1) (e6 : pm_u hi 109 j v 109 6 = nI q.2.2.2.2.1) (e7 : pm_u hi 109 j v 109 7 = fl q.2.2.2.2.2.1) (hj : j ≠ 1) (ec : q.2.2.2.2.2.2 = p.2.2.2.2.2.2) : EPi bs X key (pm_u hi 109 j v) q := by
  have hx := hX.lt
  obtain ⟨i1, i2, i3, i4, i5, i6, i7, i8, i9, i10, i11, i12, i13⟩ := hI
  have k : ∀ q' j', q' ≠ 109 → pm_u hi 109 j v q' j' = hi q' j' := fun q' j' hn => pm_u_ne (Or.inl hn)
  refine ⟨(pm_u_ne (Or.inr (Ne.symm hj))).trans i1, e2, e3, e4, e5, e6, e7, (k _ _ (by omega)).trans i8, ?_, ?_, ?_, ⟨(k _ _ (by omega)).trans i12.1, i12.2.to (fun j _ => k _ _ (by omega))⟩, fun q j u v => (k _ _ (by omega)).trans (i13 q j u v)⟩
  · rw [ec]; exact (k _ _ (by omega)).trans i9
  · rw [ec]; exact (k _ _ (by omega)).trans i10
  · rw [ec]; exact i11.to (fun j _ => k _ _ (by omega))
theorem EPi.ob {p : PS} {hi : pm_B} {n : Nat} (hX : XW X) (hI : EPi bs X key hi p) : EPi bs X key (pm_u hi 109 5 (nI n)) (pOb n p) :=
  hI.u hX (pOb n p) ((pm_u_ne (Or.inr (by omega))).trans hI.2.1) ((pm_u_ne (Or.inr (by omega))).trans hI.2.2.1) ((pm_u_ne (Or.inr (by omega))).trans hI.2.2.2.1) pm_u_at ((pm_u_ne (Or.inr (by omega))).trans hI.2.2.2.2.2.1) ((pm_u_ne (Or.inr (by omega))).trans hI.2.2.2.2.2.2.1) (by omega) rfl
theorem EPi.on {p : PS} {hi : pm_B} {n : Nat} (hX : XW X) (hI : EPi bs X key hi p) : EPi bs X key (pm_u hi 109 6 (nI n)) (pOn n p) :=
  hI.u hX (pOn n p) ((pm_u_ne (Or.inr (by omega))).trans hI.2.1) ((pm_u_ne (Or.inr (by omega))).trans hI.2.2.1) ((pm_u_ne (Or.inr (by omega))).trans hI.2.2.2.1) ((pm_u_ne (Or.inr (by omega))).trans hI.2.2.2.2.1) pm_u_at ((pm_u_ne (Or.inr (by omega))).trans hI.2.2.2.2.2.2.1) (by omega) rfl
/-- it fails -/
theorem EPi.fail {p : PS} {hi : pm_B} {G : pm_B → Prop} (hX : XW X) (hp : PWf bs fu p) (hI : EPi bs X key hi p) (h : ∀ hi', Fr (FX X) hi hi' → EPi bs X key hi' (pFail p) → G hi') : ((¬ (hi 109 7) = (-1000000005)) → ∀ hi' : pm_B, hi' = pm_u hi 109 2 4 → G hi') ∧ ((¬ (¬ (hi 109 7) = (-1000000005))) → ∀ hi' : pm_B, hi' = pm_u (pm_u hi 109 7 (hi 109 3)) 109 2 4 → G hi') := by
  have i := hI
  refine ⟨fun c hi' e => ?_, fun c hi' e => ?_⟩
  · subst e
    rw [i.2.2.2.2.2.2.1] at c
    have c : ¬ p.2.2.2.2.2.1 = none := fun e => c ((fl_none hp).mpr e)
    obtain ⟨f, ef⟩ : ∃ f, p.2.2.2.2.2.1 = some f := by
      cases e : p.2.2.2.2.2.1 with
      | none => exact absurd e c
      | some f => exact ⟨f, rfl⟩
    refine h _ (Fr.u (Or.inl rfl)) (hI.u hX (pFail p) pm_u_at ((pm_u_ne (Or.inr (by omega))).trans i.2.2.1) ((pm_u_ne (Or.inr (by omega))).trans i.2.2.2.1) ((pm_u_ne (Or.inr (by omega))).trans i.2.2.2.2.1) ((pm_u_ne (Or.inr (by omega))).trans i.2.2.2.2.2.1) ?_ (by omega) rfl)
    rw [pm_u_ne (Or.inr (by omega)), i.2.2.2.2.2.2.1, ef]
    show fl (some f) = fl (some (p.2.2.2.2.2.1.getD p.2.1))
    rw [ef]; rfl
  · subst e
    rw [i.2.2.2.2.2.2.1] at c
    have c := (fl_none hp).mp (Decidable.not_not.mp c)
    have h1 := hI.u (j := 7) (v := hi 109 3) hX (p.1, p.2.1, p.2.2.1, p.2.2.2.1, p.2.2.2.2.1, some p.2.1, p.2.2.2.2.2.2) ((pm_u_ne (Or.inr (by omega))).trans i.2.1) ((pm_u_ne (Or.inr (by omega))).trans i.2.2.1) ((pm_u_ne (Or.inr (by omega))).trans i.2.2.2.1) ((pm_u_ne (Or.inr (by omega))).trans i.2.2.2.2.1) ((pm_u_ne (Or.inr (by omega))).trans i.2.2.2.2.2.1) (by rw [pm_u_at]; exact i.2.2.1) (by omega) rfl
    have i1 := h1
    refine h _ ((Fr.u (Or.inl rfl)).tr (Fr.u (Or.inl rfl))) (h1.u hX (pFail p) pm_u_at ((pm_u_ne (Or.inr (by omega))).trans i1.2.2.1) ((pm_u_ne (Or.inr (by omega))).trans i1.2.2.2.1) ((pm_u_ne (Or.inr (by omega))).trans i1.2.2.2.2.1) ((pm_u_ne (Or.inr (by omega))).trans i1.2.2.2.2.2.1) ?_ (by omega) rfl)
    rw [pm_u_ne (Or.inr (by omega)), i1.2.2.2.2.2.2.1]
    show fl (some p.2.1) = fl (some (p.2.2.2.2.2.1.getD p.2.1))
    rw [c]; rfl
/-- a step is put behind the code -/
theorem EPi.put {p : PS} {hi : pm_B} {v : Int32} {G : pm_B → Prop} (hX : XW X) (hp : PWf bs fu p) (hI : EPi bs X key hi p) (h : ∀ hi', Fr (FX X) hi hi' → EPi bs X key hi' (pPut v p) → G hi') : ∃ t : Nat, pm_tx t ∧ (hi 109 1) = nI t ∧ ((((hi t 2) < 0) → G hi) ∧ ((¬ ((hi t 2) < 0)) → (((hi t 2) < 96) → ∃ k : Nat, k < 96 ∧ (hi t 2) = nI k ∧ (∀ hi' : pm_B, hi' = pm_u (pm_u hi (t + 1) k v) t 2 (((pm_u hi (t + 1) k v) t 2) + 1) → G hi')) ∧ ((¬ ((hi t 2) < 96)) → G hi))) := by
  have hx := hX.lt
  have hI0 := hI
  obtain ⟨i1, i2, i3, i4, i5, i6, i7, i8, i9, i10, i11, i12, i13⟩ := hI
  have hl := hp.2.2.2.2.1
  refine ⟨X, hX.tx, i1, ?_⟩
  rw [i10]
  refine ⟨fun c => absurd c (nI_pos (by omega)), fun _ => ⟨fun c => ⟨p.2.2.2.2.2.2.1.length, ?_, rfl, fun hi' e => ?_⟩, fun c => ?_⟩⟩
  · exact (nI_ltI (b := 96) (by omega) (by omega)).mp c
  · have c := (nI_ltI (b := 96) (by omega) (by omega)).mp c
    have k : ∀ q j, ¬ (q = X + 1 ∨ (q = X ∧ j = 2)) → hi' q j = hi q j := fun q j hn => by rw [e, pm_u_ne (by omega), pm_u_ne (by omega)]
    have ec : (pPut v p).2.2.2.2.2.2.1 = p.2.2.2.2.2.2.1 ++ [v] := if_pos c
    refine h hi' (fun q j hn => k q j (by unfold FX at hn; omega)) ⟨(k _ _ (by omega)).trans i1, (k _ _ (by omega)).trans i2, (k _ _ (by omega)).trans i3, (k _ _ (by omega)).trans i4, (k _ _ (by omega)).trans i5, (k _ _ (by omega)).trans i6, (k _ _ (by omega)).trans i7, (k _ _ (by omega)).trans i8, (k _ _ (by omega)).trans i9, ?_, ?_, ⟨(k _ _ (by omega)).trans i12.1, i12.2.to (fun j _ => k _ _ (by omega))⟩, fun q j u v => (k _ _ (by omega)).trans (i13 q j u v)⟩
    · rw [ec, e, pm_u_at, pm_u_ne (Or.inl (by omega)), i10, nI_1, List.length_append]; rfl
    · rw [ec, e]
      exact Row.to (f := pm_u hi (X + 1) p.2.2.2.2.2.2.1.length v (X + 1)) (i11.u rfl) (fun j _ => pm_u_ne (Or.inl (by omega)))
  · have c : ¬ p.2.2.2.2.2.2.1.length < 96 := fun hh => c (nI_lt (b := 96) hh (by omega))
    have ep : pPut v p = p := by unfold pPut; rw [if_neg c]
    rw [ep] at h
    exact h hi Fr.rf hI0
theorem isSign_c {d : Nat} {p : PS} {c : Int32} {hi : pm_B} {Q : pm_Q} (hW : WB bs) (hp : PWf bs fu p) (hI : EPi bs X key hi p) (h1 : isS bs p c → Q (some (.inl 1)) hi) (h0 : ¬ isS bs p c → Q (some (.inl 0)) hi) : pm_C pm_g (SH L) HR (d + 2) m_Parser_isSign [.inr 109, .inl c] hi Q := by
  obtain ⟨i1, i2, i3, i4, i5, i6, i7, i8, i9, i10, i11, i12, i13⟩ := hI
  refine v_Parser_isSign ?_
  rw [i2]
  refine ⟨fun c3 => h0 (fun h => c3 h.1), fun c3 => ?_⟩
  have c3 := Decidable.not_not.mp c3
  have ha : p.2.1 < bs.length := by
    rcases hp.2.2.2.2.2.2 with e | e | e
    · rw [e] at c3; exact absurd c3 (by decide)
    · rw [e] at c3; exact absurd c3 (by decide)
    · exact e.2.2
  refine gB i3 i12.1 ha hW.1 ?_
  rw [i12.2.at ha, ← bA_in ha]
  exact ⟨fun c1 => h0 (fun h => c1 h.2), fun c1 => h1 ⟨c3, Decidable.not_not.mp c1⟩⟩
/-- a reader of the class does what a function does -/
def Rd (L d : Nat) (bs : List Int32) (X : Nat) (key : Int32) (fu : Nat) (m : Nat) (g : PS → PS) : Prop := (∀ p, PWf bs fu p → PWf bs fu (g p)) ∧ ∀ p hi Q, PWf bs fu p → EPi bs X key hi p → (∀ hi', Fr (FX X) hi hi' → EPi bs X key hi' (g p) → Q none hi') → pm_C pm_g (SH L) HR d m [.inr 109] hi Q
def lp (bs : List Int32) (g : PS → PS) (ss : List Int32) : Nat → PS → PS
  | 0, p => p
  | n + 1, p => if p.1 = 3 ∧ bA bs p.2.1 ∈ ss then lp bs g ss n (pPut (-(bA bs p.2.1)) (g (pStep bs p))) else p
theorem lp_W {g : PS → PS} {ss : List Int32} (hW : WB bs) (hg : ∀ p, PWf bs fu p → PWf bs fu (g p)) : ∀ n p, PWf bs fu p → PWf bs fu (lp bs g ss n p)
  | 0, p, h => h
  | n + 1, p, h => by
    unfold lp
    split
    · exact lp_W hW hg n _ ((hg _ (h.step hW)).put _)
    · exact h
theorem readTerm_c {d : Nat} {g : PS → PS} (hW : WB bs) (hX : XW X) (hg : Rd L (d + 2) bs X key fu m_Parser_readPiece g) : Rd L (d + 3) bs X key fu m_Parser_readTerm (fun p => lp bs g [42, 47] 96 (g p)) := by
  refine ⟨fun p hp => lp_W hW hg.1 96 _ (hg.1 p hp), fun p hi Q hp hI h => ?_⟩
  dsimp only at h
  refine v_Parser_readTerm (d := d + 1) (hg.2 p hi _ hp hI (fun hi1 f1 I1 => ⟨rfl, ?_⟩))
  have key' : ∀ n k q hi' o, k + n = 96 → PWf bs fu q → Fr (FX X) hi hi' → EPi bs X key hi' q → lp bs g [42, 47] n q = lp bs g [42, 47] 96 (g p) → pm_W pm_g (SH L) HR (d + 1 + 1) pm_t39 6 [some (.inr 109), some (.inl (nI k)), o] [] hi' Q := by
    intro n
    induction n with
    | zero =>
      intro k q hi' o hk hq hf I e
      have e : q = lp bs g [42, 47] 96 (g p) := e
      rw [← e] at h
      exact v_Parser_readTerm_6 (d := d + 1) ⟨fun _ => h hi' hf I, fun c => absurd (nI_le (a := 96) (by omega) (by omega)) c⟩
    | succ n ih =>
      intro k q hi' o hk hq hf I e
      rw [lp] at e
      refine v_Parser_readTerm_6 (d := d + 1) ⟨fun c => absurd c (nI_ge (b := 96) (by omega) (by omega)), fun _ => ?_⟩
      have more : ∀ cc : Int32, isS bs q cc → (cc = 42 ∨ cc = 47) → ((((hi' 109 3) < 0) → pm_C pm_g (SH L) HR (d + 1 + 1) m_Parser_step [.inr 109] hi' (fun v hi6 => v = none ∧ (pm_C pm_g (SH L) HR (d + 1 + 1) m_Parser_readPiece [.inr 109] hi6 (fun v hi7 => v = none ∧ (∃ t8 : Nat, pm_tx t8 ∧ (hi7 109 1) = nI t8 ∧ ((((hi7 t8 2) < 0) → pm_W pm_g (SH L) HR (d + 1 + 1) pm_t39 6 [some (.inr 109), some (.inl (nI k + 1)), some (.inl (-1))] [] hi7 Q) ∧ ((¬ ((hi7 t8 2) < 0)) → (((hi7 t8 2) < 96) → ∃ k11 : Nat, k11 < 96 ∧ (hi7 t8 2) = nI k11 ∧ (∀ hi12 : pm_B, hi12 = pm_u (pm_u hi7 (t8 + 1) k11 (-(-1))) t8 2 (((pm_u hi7 (t8 + 1) k11 (-(-1))) t8 2) + 1) → (pm_W pm_g (SH L) HR (d + 1 + 1) pm_t39 6 [some (.inr 109), some (.inl (nI k + 1)), some (.inl (-1))] [] hi12 Q))) ∧ ((¬ ((hi7 t8 2) < 96)) → pm_W pm_g (SH L) HR (d + 1 + 1) pm_t39 6 [some (.inr 109), some (.inl (nI k + 1)), some (.inl (-1))] [] hi7 Q)))))))) ∧ ((¬ ((hi' 109 3) < 0)) → (((hi' 107 1) ≤ (hi' 109 3)) → pm_C pm_g (SH L) HR (d + 1 + 1) m_Parser_step [.inr 109] hi' (fun v hi14 => v = none ∧ (pm_C pm_g (SH L) HR (d + 1 + 1) m_Parser_readPiece [.inr 109] hi14 (fun v hi15 => v = none ∧ (∃ t16 : Nat, pm_tx t16 ∧ (hi15 109 1) = nI t16 ∧ ((((hi15 t16 2) < 0) → pm_W pm_g (SH L) HR (d + 1 + 1) pm_t39 6 [some (.inr 109), some (.inl (nI k + 1)), some (.inl (-1))] [] hi15 Q) ∧ ((¬ ((hi15 t16 2) < 0)) → (((hi15 t16 2) < 96) → ∃ k19 : Nat, k19 < 96 ∧ (hi15 t16 2) = nI k19 ∧ (∀ hi20 : pm_B, hi20 = pm_u (pm_u hi15 (t16 + 1) k19 (-(-1))) t16 2 (((pm_u hi15 (t16 + 1) k19 (-(-1))) t16 2) + 1) → (pm_W pm_g (SH L) HR (d + 1 + 1) pm_t39 6 [some (.inr 109), some (.inl (nI k + 1)), some (.inl (-1))] [] hi20 Q))) ∧ ((¬ ((hi15 t16 2) < 96)) → pm_W pm_g (SH L) HR (d + 1 + 1) pm_t39 6 [some (.inr 109), some (.inl (nI k + 1)), some (.inl (-1))] [] hi15 Q)))))))) ∧ ((¬ ((hi' 107 1) ≤ (hi' 109 3))) → ((96 ≤ (hi' 109 3)) → pm_C pm_g (SH L) HR (d + 1 + 1) m_Parser_step [.inr 109] hi' (fun v hi22 => v = none ∧ (pm_C pm_g (SH L) HR (d + 1 + 1) m_Parser_readPiece [.inr 109] hi22 (fun v hi23 => v = none ∧ (∃ t24 : Nat, pm_tx t24 ∧ (hi23 109 1) = nI t24 ∧ ((((hi23 t24 2) < 0) → pm_W pm_g (SH L) HR (d + 1 + 1) pm_t39 6 [some (.inr 109), some (.inl (nI k + 1)), some (.inl (-1))] [] hi23 Q) ∧ ((¬ ((hi23 t24 2) < 0)) → (((hi23 t24 2) < 96) → ∃ k27 : Nat, k27 < 96 ∧ (hi23 t24 2) = nI k27 ∧ (∀ hi28 : pm_B, hi28 = pm_u (pm_u hi23 (t24 + 1) k27 (-(-1))) t24 2 (((pm_u hi23 (t24 + 1) k27 (-(-1))) t24 2) + 1) → (pm_W pm_g (SH L) HR (d + 1 + 1) pm_t39 6 [some (.inr 109), some (.inl (nI k + 1)), some (.inl (-1))] [] hi28 Q))) ∧ ((¬ ((hi23 t24 2) < 96)) → pm_W pm_g (SH L) HR (d + 1 + 1) pm_t39 6 [some (.inr 109), some (.inl (nI k + 1)), some (.inl (-1))] [] hi23 Q)))))))) ∧ ((¬ (96 ≤ (hi' 109 3))) → ∃ k29 : Nat, k29 < 96 ∧ (hi' 109 3) = nI k29 ∧ (pm_C pm_g (SH L) HR (d + 1 + 1) m_Parser_step [.inr 109] hi' (fun v hi30 => v = none ∧ (pm_C pm_g (SH L) HR (d + 1 + 1) m_Parser_readPiece [.inr 109] hi30 (fun v hi31 => v = none ∧ (∃ t32 : Nat, pm_tx t32 ∧ (hi31 109 1) = nI t32 ∧ ((((hi31 t32 2) < 0) → pm_W pm_g (SH L) HR (d + 1 + 1) pm_t39 6 [some (.inr 109), some (.inl (nI k + 1)), some (.inl (hi' 108 k29))] [] hi31 Q) ∧ ((¬ ((hi31 t32 2) < 0)) → (((hi31 t32 2) < 96) → ∃ k35 : Nat, k35 < 96 ∧ (hi31 t32 2) = nI k35 ∧ (∀ hi36 : pm_B, hi36 = pm_u (pm_u hi31 (t32 + 1) k35 (-(hi' 108 k29))) t32 2 (((pm_u hi31 (t32 + 1) k35 (-(hi' 108 k29))) t32 2) + 1) → (pm_W pm_g (SH L) HR (d + 1 + 1) pm_t39 6 [some (.inr 109), some (.inl (nI k + 1)), some (.inl (hi' 108 k29))] [] hi36 Q))) ∧ ((¬ ((hi31 t32 2) < 96)) → pm_W pm_g (SH L) HR (d + 1 + 1) pm_t39 6 [some (.inr 109), some (.inl (nI k + 1)), some (.inl (hi' 108 k29))] [] hi31 Q)))))))))))) := by
        intro cc hs hcc
        have ha : q.2.1 < bs.length := by
          rcases hq.2.2.2.2.2.2 with x | x | x
          · have := hs.1; rw [x] at this; exact absurd this (by decide)
          · have := hs.1; rw [x] at this; exact absurd this (by decide)
          · exact x.2.2
        rw [if_pos ⟨hs.1, by rw [hs.2]; rcases hcc with x | x <;> rw [x] <;> simp⟩] at e
        refine gB I.2.2.1 I.2.2.2.2.2.2.2.2.2.2.2.1.1 ha hW.1 ?_
        rw [I.2.2.2.2.2.2.2.2.2.2.2.1.2.at ha, ← bA_in ha]
        refine EPi.step (d := d) hW hX hq I (fun hi2 f2 I2 => ⟨rfl, ?_⟩)
        refine hg.2 _ hi2 _ (hq.step hW) I2 (fun hi3 f3 I3 => ⟨rfl, ?_⟩)
        have w3 := hg.1 _ (hq.step hW)
        refine EPi.put (v := -(bA bs q.2.1)) (G := fun hi' => pm_W pm_g (SH L) HR (d + 1 + 1) pm_t39 6 [some (.inr 109), some (.inl (nI k + 1)), some (.inl (bA bs q.2.1))] [] hi' Q) hX w3 I3 (fun hi4 f4 I4 => ?_)
        rw [nI_1]
        exact ih (k + 1) _ hi4 _ (by omega) (w3.put _) (((hf.tr f2).tr f3).tr f4) I4 e
      refine isSign_c (d := d) hW hq I (fun hs => ⟨_, rfl, fun _ => more _ hs (Or.inl rfl), fun c => absurd (by decide) c⟩) (fun hs => ⟨_, rfl, fun c => absurd rfl c, fun _ => ?_⟩)
      refine isSign_c (d := d) hW hq I (fun hs2 => ⟨_, rfl, fun c => absurd c (by decide), fun _ => more _ hs2 (Or.inr rfl)⟩) (fun hs2 => ⟨_, rfl, fun _ => ?_, fun c => absurd rfl c⟩)
      rw [if_neg (fun x => (List.mem_cons.mp x.2).elim (fun y => hs ⟨x.1, y⟩) (fun y => hs2 ⟨x.1, List.mem_singleton.mp y⟩))] at e
      rw [← e] at h
      exact h hi' hf I
  exact key' 96 0 _ hi1 _ rfl (hg.1 p hp) f1 I1 rfl
theorem readSum_c {d : Nat} {g : PS → PS} (hW : WB bs) (hX : XW X) (hg : Rd L (d + 2) bs X key fu m_Parser_readTerm g) : Rd L (d + 3) bs X key fu m_Parser_readSum (fun p => lp bs g [43, 45] 96 (g p)) := by
  refine ⟨fun p hp => lp_W hW hg.1 96 _ (hg.1 p hp), fun p hi Q hp hI h => ?_⟩
  dsimp only at h
  refine v_Parser_readSum (d := d + 1) (hg.2 p hi _ hp hI (fun hi1 f1 I1 => ⟨rfl, ?_⟩))
  have key' : ∀ n k q hi' o, k + n = 96 → PWf bs fu q → Fr (FX X) hi hi' → EPi bs X key hi' q → lp bs g [43, 45] n q = lp bs g [43, 45] 96 (g p) → pm_W pm_g (SH L) HR (d + 1 + 1) pm_t38 6 [some (.inr 109), some (.inl (nI k)), o] [] hi' Q := by
    intro n
    induction n with
    | zero =>
      intro k q hi' o hk hq hf I e
      have e : q = lp bs g [43, 45] 96 (g p) := e
      rw [← e] at h
      exact v_Parser_readSum_6 (d := d + 1) ⟨fun _ => h hi' hf I, fun c => absurd (nI_le (a := 96) (by omega) (by omega)) c⟩
    | succ n ih =>
      intro k q hi' o hk hq hf I e
      rw [lp] at e
      refine v_Parser_readSum_6 (d := d + 1) ⟨fun c => absurd c (nI_ge (b := 96) (by omega) (by omega)), fun _ => ?_⟩
      have more : ∀ cc : Int32, isS bs q cc → (cc = 43 ∨ cc = 45) → ((((hi' 109 3) < 0) → pm_C pm_g (SH L) HR (d + 1 + 1) m_Parser_step [.inr 109] hi' (fun v hi6 => v = none ∧ (pm_C pm_g (SH L) HR (d + 1 + 1) m_Parser_readTerm [.inr 109] hi6 (fun v hi7 => v = none ∧ (∃ t8 : Nat, pm_tx t8 ∧ (hi7 109 1) = nI t8 ∧ ((((hi7 t8 2) < 0) → pm_W pm_g (SH L) HR (d + 1 + 1) pm_t38 6 [some (.inr 109), some (.inl (nI k + 1)), some (.inl (-1))] [] hi7 Q) ∧ ((¬ ((hi7 t8 2) < 0)) → (((hi7 t8 2) < 96) → ∃ k11 : Nat, k11 < 96 ∧ (hi7 t8 2) = nI k11 ∧ (∀ hi12 : pm_B, hi12 = pm_u (pm_u hi7 (t8 + 1) k11 (-(-1))) t8 2 (((pm_u hi7 (t8 + 1) k11 (-(-1))) t8 2) + 1) → (pm_W pm_g (SH L) HR (d + 1 + 1) pm_t38 6 [some (.inr 109), some (.inl (nI k + 1)), some (.inl (-1))] [] hi12 Q))) ∧ ((¬ ((hi7 t8 2) < 96)) → pm_W pm_g (SH L) HR (d + 1 + 1) pm_t38 6 [some (.inr 109), some (.inl (nI k + 1)), some (.inl (-1))] [] hi7 Q)))))))) ∧ ((¬ ((hi' 109 3) < 0)) → (((hi' 107 1) ≤ (hi' 109 3)) → pm_C pm_g (SH L) HR (d + 1 + 1) m_Parser_step [.inr 109] hi' (fun v hi14 => v = none ∧ (pm_C pm_g (SH L) HR (d + 1 + 1) m_Parser_readTerm [.inr 109] hi14 (fun v hi15 => v = none ∧ (∃ t16 : Nat, pm_tx t16 ∧ (hi15 109 1) = nI t16 ∧ ((((hi15 t16 2) < 0) → pm_W pm_g (SH L) HR (d + 1 + 1) pm_t38 6 [some (.inr 109), some (.inl (nI k + 1)), some (.inl (-1))] [] hi15 Q) ∧ ((¬ ((hi15 t16 2) < 0)) → (((hi15 t16 2) < 96) → ∃ k19 : Nat, k19 < 96 ∧ (hi15 t16 2) = nI k19 ∧ (∀ hi20 : pm_B, hi20 = pm_u (pm_u hi15 (t16 + 1) k19 (-(-1))) t16 2 (((pm_u hi15 (t16 + 1) k19 (-(-1))) t16 2) + 1) → (pm_W pm_g (SH L) HR (d + 1 + 1) pm_t38 6 [some (.inr 109), some (.inl (nI k + 1)), some (.inl (-1))] [] hi20 Q))) ∧ ((¬ ((hi15 t16 2) < 96)) → pm_W pm_g (SH L) HR (d + 1 + 1) pm_t38 6 [some (.inr 109), some (.inl (nI k + 1)), some (.inl (-1))] [] hi15 Q)))))))) ∧ ((¬ ((hi' 107 1) ≤ (hi' 109 3))) → ((96 ≤ (hi' 109 3)) → pm_C pm_g (SH L) HR (d + 1 + 1) m_Parser_step [.inr 109] hi' (fun v hi22 => v = none ∧ (pm_C pm_g (SH L) HR (d + 1 + 1) m_Parser_readTerm [.inr 109] hi22 (fun v hi23 => v = none ∧ (∃ t24 : Nat, pm_tx t24 ∧ (hi23 109 1) = nI t24 ∧ ((((hi23 t24 2) < 0) → pm_W pm_g (SH L) HR (d + 1 + 1) pm_t38 6 [some (.inr 109), some (.inl (nI k + 1)), some (.inl (-1))] [] hi23 Q) ∧ ((¬ ((hi23 t24 2) < 0)) → (((hi23 t24 2) < 96) → ∃ k27 : Nat, k27 < 96 ∧ (hi23 t24 2) = nI k27 ∧ (∀ hi28 : pm_B, hi28 = pm_u (pm_u hi23 (t24 + 1) k27 (-(-1))) t24 2 (((pm_u hi23 (t24 + 1) k27 (-(-1))) t24 2) + 1) → (pm_W pm_g (SH L) HR (d + 1 + 1) pm_t38 6 [some (.inr 109), some (.inl (nI k + 1)), some (.inl (-1))] [] hi28 Q))) ∧ ((¬ ((hi23 t24 2) < 96)) → pm_W pm_g (SH L) HR (d + 1 + 1) pm_t38 6 [some (.inr 109), some (.inl (nI k + 1)), some (.inl (-1))] [] hi23 Q)))))))) ∧ ((¬ (96 ≤ (hi' 109 3))) → ∃ k29 : Nat, k29 < 96 ∧ (hi' 109 3) = nI k29 ∧ (pm_C pm_g (SH L) HR (d + 1 + 1) m_Parser_step [.inr 109] hi' (fun v hi30 => v = none ∧ (pm_C pm_g (SH L) HR (d + 1 + 1) m_Parser_readTerm [.inr 109] hi30 (fun v hi31 => v = none ∧ (∃ t32 : Nat, pm_tx t32 ∧ (hi31 109 1) = nI t32 ∧ ((((hi31 t32 2) < 0) → pm_W pm_g (SH L) HR (d + 1 + 1) pm_t38 6 [some (.inr 109), some (.inl (nI k + 1)), some (.inl (hi' 108 k29))] [] hi31 Q) ∧ ((¬ ((hi31 t32 2) < 0)) → (((hi31 t32 2) < 96) → ∃ k35 : Nat, k35 < 96 ∧ (hi31 t32 2) = nI k35 ∧ (∀ hi36 : pm_B, hi36 = pm_u (pm_u hi31 (t32 + 1) k35 (-(hi' 108 k29))) t32 2 (((pm_u hi31 (t32 + 1) k35 (-(hi' 108 k29))) t32 2) + 1) → (pm_W pm_g (SH L) HR (d + 1 + 1) pm_t38 6 [some (.inr 109), some (.inl (nI k + 1)), some (.inl (hi' 108 k29))] [] hi36 Q))) ∧ ((¬ ((hi31 t32 2) < 96)) → pm_W pm_g (SH L) HR (d + 1 + 1) pm_t38 6 [some (.inr 109), some (.inl (nI k + 1)), some (.inl (hi' 108 k29))] [] hi31 Q)))))))))))) := by
        intro cc hs hcc
        have ha : q.2.1 < bs.length := by
          rcases hq.2.2.2.2.2.2 with x | x | x
          · have := hs.1; rw [x] at this; exact absurd this (by decide)
          · have := hs.1; rw [x] at this; exact absurd this (by decide)
          · exact x.2.2
        rw [if_pos ⟨hs.1, by rw [hs.2]; rcases hcc with x | x <;> rw [x] <;> simp⟩] at e
        refine gB I.2.2.1 I.2.2.2.2.2.2.2.2.2.2.2.1.1 ha hW.1 ?_
        rw [I.2.2.2.2.2.2.2.2.2.2.2.1.2.at ha, ← bA_in ha]
        refine EPi.step (d := d) hW hX hq I (fun hi2 f2 I2 => ⟨rfl, ?_⟩)
        refine hg.2 _ hi2 _ (hq.step hW) I2 (fun hi3 f3 I3 => ⟨rfl, ?_⟩)
        have w3 := hg.1 _ (hq.step hW)
        refine EPi.put (v := -(bA bs q.2.1)) (G := fun hi' => pm_W pm_g (SH L) HR (d + 1 + 1) pm_t38 6 [some (.inr 109), some (.inl (nI k + 1)), some (.inl (bA bs q.2.1))] [] hi' Q) hX w3 I3 (fun hi4 f4 I4 => ?_)
        rw [nI_1]
        exact ih (k + 1) _ hi4 _ (by omega) (w3.put _) (((hf.tr f2).tr f3).tr f4) I4 e
      refine isSign_c (d := d) hW hq I (fun hs => ⟨_, rfl, fun _ => more _ hs (Or.inl rfl), fun c => absurd (by decide) c⟩) (fun hs => ⟨_, rfl, fun c => absurd rfl c, fun _ => ?_⟩)
      refine isSign_c (d := d) hW hq I (fun hs2 => ⟨_, rfl, fun c => absurd c (by decide), fun _ => more _ hs2 (Or.inr rfl)⟩) (fun hs2 => ⟨_, rfl, fun _ => ?_, fun c => absurd rfl c⟩)
      rw [if_neg (fun x => (List.mem_cons.mp x.2).elim (fun y => hs ⟨x.1, y⟩) (fun y => hs2 ⟨x.1, List.mem_singleton.mp y⟩))] at e
      rw [← e] at h
      exact h hi' hf I
  exact key' 96 0 _ hi1 _ rfl (hg.1 p hp) f1 I1 rfl
theorem readAnd_c {d : Nat} {g : PS → PS} (hW : WB bs) (hX : XW X) (hg : Rd L (d + 2) bs X key fu m_Parser_readTest g) : Rd L (d + 3) bs X key fu m_Parser_readAnd (fun p => lp bs g [38] 96 (g p)) := by
  refine ⟨fun p hp => lp_W hW hg.1 96 _ (hg.1 p hp), fun p hi Q hp hI h => ?_⟩
  dsimp only at h
  refine v_Parser_readAnd (d := d + 1) (hg.2 p hi _ hp hI (fun hi1 f1 I1 => ⟨rfl, ?_⟩))
  have key' : ∀ n k q hi', k + n = 96 → PWf bs fu q → Fr (FX X) hi hi' → EPi bs X key hi' q → lp bs g [38] n q = lp bs g [38] 96 (g p) → pm_W pm_g (SH L) HR (d + 1 + 1) pm_t36 6 [some (.inr 109), some (.inl (nI k))] [] hi' Q := by
    intro n
    induction n with
    | zero =>
      intro k q hi' hk hq hf I e
      have e : q = lp bs g [38] 96 (g p) := e
      rw [← e] at h
      exact v_Parser_readAnd_6 (d := d + 1) ⟨fun _ => h hi' hf I, fun c => absurd (nI_le (a := 96) (by omega) (by omega)) c⟩
    | succ n ih =>
      intro k q hi' hk hq hf I e
      rw [lp] at e
      refine v_Parser_readAnd_6 (d := d + 1) ⟨fun c => absurd c (nI_ge (b := 96) (by omega) (by omega)), fun _ => ?_⟩
      refine isSign_c (d := d) hW hq I (fun hs => ⟨_, rfl, fun c => absurd c (by decide), fun _ => ?_⟩) (fun hs => ⟨_, rfl, fun _ => ?_, fun c => absurd rfl c⟩)
      · rw [if_pos ⟨hs.1, by rw [hs.2]; simp⟩, hs.2] at e
        refine EPi.step (d := d) hW hX hq I (fun hi2 f2 I2 => ⟨rfl, ?_⟩)
        refine hg.2 _ hi2 _ (hq.step hW) I2 (fun hi3 f3 I3 => ⟨rfl, ?_⟩)
        have w3 := hg.1 _ (hq.step hW)
        refine EPi.put (v := -38) (G := fun hi' => pm_W pm_g (SH L) HR (d + 1 + 1) pm_t36 6 [some (.inr 109), some (.inl (nI k + 1))] [] hi' Q) hX w3 I3 (fun hi4 f4 I4 => ?_)
        rw [nI_1]
        exact ih (k + 1) _ hi4 (by omega) (w3.put _) (((hf.tr f2).tr f3).tr f4) I4 e
      · rw [if_neg (fun x => hs ⟨x.1, List.mem_singleton.mp x.2⟩)] at e
        rw [← e] at h
        exact h hi' hf I
  exact key' 96 0 _ hi1 rfl (hg.1 p hp) f1 I1 rfl
theorem readOr_c {d : Nat} {g : PS → PS} (hW : WB bs) (hX : XW X) (hg : Rd L (d + 2) bs X key fu m_Parser_readAnd g) : Rd L (d + 3) bs X key fu m_Parser_readOr (fun p => lp bs g [124] 96 (g p)) := by
  refine ⟨fun p hp => lp_W hW hg.1 96 _ (hg.1 p hp), fun p hi Q hp hI h => ?_⟩
  dsimp only at h
  refine v_Parser_readOr (d := d + 1) (hg.2 p hi _ hp hI (fun hi1 f1 I1 => ⟨rfl, ?_⟩))
  have key' : ∀ n k q hi', k + n = 96 → PWf bs fu q → Fr (FX X) hi hi' → EPi bs X key hi' q → lp bs g [124] n q = lp bs g [124] 96 (g p) → pm_W pm_g (SH L) HR (d + 1 + 1) pm_t35 6 [some (.inr 109), some (.inl (nI k))] [] hi' Q := by
    intro n
    induction n with
    | zero =>
      intro k q hi' hk hq hf I e
      have e : q = lp bs g [124] 96 (g p) := e
      rw [← e] at h
      exact v_Parser_readOr_6 (d := d + 1) ⟨fun _ => h hi' hf I, fun c => absurd (nI_le (a := 96) (by omega) (by omega)) c⟩
    | succ n ih =>
      intro k q hi' hk hq hf I e
      rw [lp] at e
      refine v_Parser_readOr_6 (d := d + 1) ⟨fun c => absurd c (nI_ge (b := 96) (by omega) (by omega)), fun _ => ?_⟩
      refine isSign_c (d := d) hW hq I (fun hs => ⟨_, rfl, fun c => absurd c (by decide), fun _ => ?_⟩) (fun hs => ⟨_, rfl, fun _ => ?_, fun c => absurd rfl c⟩)
      · rw [if_pos ⟨hs.1, by rw [hs.2]; simp⟩, hs.2] at e
        refine EPi.step (d := d) hW hX hq I (fun hi2 f2 I2 => ⟨rfl, ?_⟩)
        refine hg.2 _ hi2 _ (hq.step hW) I2 (fun hi3 f3 I3 => ⟨rfl, ?_⟩)
        have w3 := hg.1 _ (hq.step hW)
        refine EPi.put (v := -124) (G := fun hi' => pm_W pm_g (SH L) HR (d + 1 + 1) pm_t35 6 [some (.inr 109), some (.inl (nI k + 1))] [] hi' Q) hX w3 I3 (fun hi4 f4 I4 => ?_)
        rw [nI_1]
        exact ih (k + 1) _ hi4 (by omega) (w3.put _) (((hf.tr f2).tr f3).tr f4) I4 e
      · rw [if_neg (fun x => hs ⟨x.1, List.mem_singleton.mp x.2⟩)] at e
        rw [← e] at h
        exact h hi' hf I
  exact key' 96 0 _ hi1 rfl (hg.1 p hp) f1 I1 rfl
end
