/-! ===== texts: the key, the whole reading (class side) ===== -/
def wd (S : Nat) : List Int32 := if S = 3 then [107, 101, 101, 112] else if S = 4 then [102, 101, 101] else [102, 105, 110, 101]
def wEq (bs : List Int32) : Nat → List Int32 → Bool
  | _, [] => true
  | a, w :: r => decide (bA bs a = w) && wEq bs (a + 1) r
def isW (bs : List Int32) (p : PS) (S : Nat) : Prop := p.1 = 1 ∧ p.2.2.1 - p.2.1 = (wd S).length ∧ wEq bs p.2.1 (wd S) = true
theorem rn_len {bs : List Int32} (hW : WB bs) {s : Int32} (hs : ¬ s = 0) : ∀ n e, e ≤ bs.length → rn bs s n e ≤ bs.length
  | 0, a, h => h
  | n + 1, a, h => by
    unfold rn
    by_cases c : f_Parser_sortOf (bA bs a) = s
    · rw [if_pos c]
      have ha : a < bs.length := by
        by_cases hh : a < bs.length
        · exact hh
        · rw [bA_out (by omega), sort_end] at c; exact absurd c.symm hs
      exact rn_len hW hs n (a + 1) (by omega)
    · rw [if_neg c]; exact h
theorem stp_len {bs : List Int32} (hW : WB bs) {s : Int32} {e : Nat} : (stp bs s e).1 = 0 ∨ (stp bs s e).2.2 ≤ bs.length := by
  unfold stp stq
  generalize skp bs 96 e = a
  by_cases c0 : f_Parser_sortOf (bA bs a) = 0
  · rw [if_pos c0]; exact Or.inl rfl
  · rw [if_neg c0]
    have ha : a < bs.length := Nat.lt_of_not_le (fun hh => c0 ((sort_0 hW).mpr hh))
    by_cases c3 : f_Parser_sortOf (bA bs a) = 3
    · rw [if_pos c3]; exact Or.inr ha
    · rw [if_neg c3]; exact Or.inr (rn_len hW c0 96 (a + 1) ha)
theorem wd_len : ∀ S, S < 6 → 3 ≤ S → (wd S).length = slen S ∧ (wd S).length ≤ 4 := by decide +kernel
theorem wd_at : ∀ S, S < 6 → 3 ≤ S → ∀ k, k < slen S → (Int32.toUInt32 ((HI (fun _ => 0) (S + 6) k) &&& 255) % 65536).toInt32 = (wd S).getD k 0 ∧ (Int32.toUInt32 ((wd S).getD k 0) % 65536).toInt32 = (wd S).getD k 0 := by decide +kernel
theorem wEq_drop {bs : List Int32} {a k : Nat} {w : List Int32} (hk : k < w.length) : wEq bs (a + k) (w.drop k) = (decide (bA bs (a + k) = w.getD k 0) && wEq bs (a + (k + 1)) (w.drop (k + 1))) := by
  rw [List.drop_eq_getElem_cons hk, wEq, List.getD_eq_getElem?_getD, List.getElem?_eq_getElem hk]
  rfl
section
variable {L : Nat} {bs : List Int32} {X : Nat} {key : Int32} {fu : Nat}
theorem isWordOf_c {d S : Nat} {p : PS} {hi : pm_B} {Q : pm_Q} (hS : S < 6) (hS3 : 3 ≤ S) (hW : WB bs) (hp : PWf bs fu p) (hI : EPi bs X key hi p) (he : p.1 = 1 → p.2.2.1 ≤ bs.length) (h1 : isW bs p S → Q (some (.inl 1)) hi) (h0 : ¬ isW bs p S → Q (some (.inl 0)) hi) : pm_C pm_g (SH L) HR (d + 5) m_Parser_isWordOf [.inr 109, .inr S] hi Q := by
  have hsr : pm_sr S := by unfold pm_sr; omega
  obtain ⟨i1, i2, i3, i4, i5, i6, i7, i8, i9, i10, i11, i12, i13⟩ := hI
  have z : hi S 1 = 0 := by rw [i13 S 1 (by omega) (by omega)]; exact str_c S (by omega) hS3
  have b : ∀ k, hi (S + 6) k = HI (fun _ => 0) (S + 6) k := fun k => i13 (S + 6) k (by omega) (by omega)
  obtain ⟨wl, wl4⟩ := wd_len S hS hS3
  have pe := hp.2.1
  have pa := hp.1
  refine v_Parser_isWordOf (d := d) hsr ?_
  rw [i2, z, sh0]
  refine ⟨fun c => h0 (fun x => c x.1), fun c => ⟨fit0, ?_⟩⟩
  have c := Decidable.not_not.mp c
  have he := he c
  have hlt : p.2.1 < p.2.2.1 := by
    rcases hp.2.2.2.2.2.2 with x | x | x
    · rw [x] at c; exact absurd c (by decide)
    · rw [x] at c; exact absurd c (by decide)
    · exact x.2.1
  rw [i3, i4, nI_sub (by omega)]
  refine ⟨fun cl => ?_, fun cl => h0 (fun x => cl (by rw [x.2.1, wl]))⟩
  have cl : p.2.2.1 - p.2.1 = slen S := (nI_eq (by omega) (by omega)).mp cl
  have key' : ∀ n k, k + n = slen S → wEq bs (p.2.1 + k) ((wd S).drop k) = wEq bs p.2.1 (wd S) → pm_W pm_g (SH L) HR (d + 4) pm_t33 28 [some (.inr 109), some (.inr S), some (.inl (nI k))] [] hi Q := by
    intro n
    induction n with
    | zero =>
      intro k hk hw
      refine v_Parser_isWordOf_28 (d := d) hsr ?_
      rw [z, sh0]
      refine ⟨fit0, fun _ => h1 ⟨c, by omega, ?_⟩, fun c => absurd (nI_le (by omega) (by omega)) c⟩
      rw [List.drop_of_length_le (by omega)] at hw
      exact hw.symm
    | succ n ih =>
      intro k hk hw
      have hkw : k < (wd S).length := by omega
      rw [wEq_drop hkw] at hw
      obtain ⟨w1, w2⟩ := wd_at S hS hS3 k (by omega)
      refine v_Parser_isWordOf_28 (d := d) hsr ?_
      rw [z, sh0]
      refine ⟨fit0, fun c => absurd c (nI_ge (by omega) (by omega)), fun _ => ?_⟩
      have hak : p.2.1 + k < bs.length := by omega
      refine gB (a := p.2.1 + k) (by rw [i3, nI_add]) i12.1 hak hW.1 ⟨fun c => absurd rfl c, fun _ => ⟨fun c => absurd c (nI_pos (by omega)), fun _ => ⟨fun _ => ⟨k, by omega, rfl, ?_⟩, fun c => absurd (nI_lt (by omega) (by omega)) c⟩⟩⟩
      rw [b k, w1, i12.2.at hak, ← bA_in hak, nI_1]
      refine ⟨w2, w2, fun ce => ?_, fun ce => h0 (fun x => ?_)⟩
      · rw [decide_eq_true ce, Bool.true_and] at hw
        exact ih (k + 1) (by omega) hw
      · rw [decide_eq_false ce, Bool.false_and] at hw
        rw [x.2.2] at hw
        cases hw
  exact key' _ 0 (Nat.zero_add _) rfl
/-- the key that the first word is -/
noncomputable def pKey (bs : List Int32) (p : PS) : Int32 × PS := @ite _ (isW bs p 3) (Classical.propDecidable _) (0, pStep bs p) (@ite _ (isW bs p 4) (Classical.propDecidable _) (1, pStep bs p) (@ite _ (isW bs p 5) (Classical.propDecidable _) (2, pStep bs p) (0, pFail p)))
theorem EPi.ky {p : PS} {hi : pm_B} {k : Int32} (hX : XW X) (hI : EPi bs X key hi p) : EPi bs X k (pm_u hi X 0 k) p := by
  have hx := hX.lt
  obtain ⟨i1, i2, i3, i4, i5, i6, i7, i8, i9, i10, i11, i12, i13⟩ := hI
  have kk : ∀ q j, ¬ (q = X ∧ j = 0) → pm_u hi X 0 k q j = hi q j := fun q j hn => pm_u_ne (by omega)
  exact ⟨(kk _ _ (by omega)).trans i1, (kk _ _ (by omega)).trans i2, (kk _ _ (by omega)).trans i3, (kk _ _ (by omega)).trans i4, (kk _ _ (by omega)).trans i5, (kk _ _ (by omega)).trans i6, (kk _ _ (by omega)).trans i7, pm_u_at, (kk _ _ (by omega)).trans i9, (kk _ _ (by omega)).trans i10, i11.to (fun j _ => kk _ _ (by omega)), ⟨(kk _ _ (by omega)).trans i12.1, i12.2.to (fun j _ => kk _ _ (by omega))⟩, fun q j u v => (kk _ _ (by omega)).trans (i13 q j u v)⟩
theorem readKey_c {d : Nat} {p : PS} {hi : pm_B} {Q : pm_Q} (hW : WB bs) (hX : XW X) (hp : PWf bs fu p) (hI : EPi bs X 0 hi p) (he : p.1 = 1 → p.2.2.1 ≤ bs.length) (h : ∀ hi', Fr (FX X) hi hi' → EPi bs X (pKey bs p).1 hi' (pKey bs p).2 → Q none hi') : pm_C pm_g (SH L) HR (d + 6) m_Parser_readKey [.inr 109] hi Q := by
  have ok : ∀ (k : Int32) (S : Nat), isW bs p S → (∀ hi', Fr (FX X) hi hi' → EPi bs X k hi' (pStep bs p) → Q none hi') → ∃ t23 : Nat, pm_tx t23 ∧ (hi 109 1) = nI t23 ∧ (((((pm_u hi t23 0 k) 109 2) = 4) → Q none (pm_u hi t23 0 k)) ∧ ((¬ (((pm_u hi t23 0 k) 109 2) = 4)) → pm_C pm_g (SH L) HR (d + 4 + 1) m_Parser_step [.inr 109] (pm_u hi t23 0 k) (fun v hi25 => v = none ∧ (Q none hi25)))) := by
    intro k S hs hq
    have I := hI.ky (k := k) hX
    refine ⟨X, hX.tx, hI.1, ?_⟩
    rw [I.2.1]
    refine ⟨fun c => ?_, fun _ => ?_⟩
    · rw [hs.1] at c; exact absurd c (by decide)
    · exact EPi.step (d := d + 3) hW hX hp I (fun hi2 f2 I2 => ⟨rfl, hq hi2 ((Fr.u (Or.inr (Or.inl rfl))).tr f2) I2⟩)
  unfold pKey at h
  refine v_Parser_readKey (d := d + 4) ?_
  refine isWordOf_c (d := d) (S := 3) (by omega) (by omega) hW hp hI he (fun hs => ⟨_, rfl, fun c => absurd c (by decide), fun _ => ?_⟩) (fun hs1 => ⟨_, rfl, fun _ => ?_, fun c => absurd rfl c⟩)
  · rw [if_pos hs] at h; exact ok 0 3 hs h
  · rw [if_neg hs1] at h
    refine isWordOf_c (d := d) (S := 4) (by omega) (by omega) hW hp hI he (fun hs => ⟨_, rfl, fun c => absurd c (by decide), fun _ => ?_⟩) (fun hs2 => ⟨_, rfl, fun _ => ?_, fun c => absurd rfl c⟩)
    · rw [if_pos hs] at h; exact ok 1 4 hs h
    · rw [if_neg hs2] at h
      refine isWordOf_c (d := d) (S := 5) (by omega) (by omega) hW hp hI he (fun hs => ⟨_, rfl, fun c => absurd c (by decide), fun _ => ?_⟩) (fun hs3 => ⟨_, rfl, fun _ => ?_, fun c => absurd rfl c⟩)
      · rw [if_pos hs] at h; exact ok 2 5 hs h
      · rw [if_neg hs3] at h
        refine EPi.fail (G := fun hi11 => (((hi11 109 2) = 4) → Q none hi11) ∧ ((¬ ((hi11 109 2) = 4)) → pm_C pm_g (SH L) HR (d + 4 + 1) m_Parser_step [.inr 109] hi11 (fun v hi13 => v = none ∧ (Q none hi13)))) hX hp hI (fun hi' hf I' => ⟨fun _ => h hi' hf I', fun c => absurd I'.2.1 c⟩)
def pEnd (p : PS) : PS := if p.1 = 0 then p else pFail p
def p0 : PS := (0, 0, 0, 0, 0, none, [], 0)
/-- what the reading of a tape ends with: the key; the state -/
noncomputable def pAll (bs : List Int32) : Int32 × PS := ((pKey bs (pStep bs p0)).1, pEnd (orF bs (pieceF bs (pKey bs (pStep bs p0)).1 17) (pKey bs (pStep bs p0)).2))
theorem key_012 {p : PS} : (pKey bs p).1 = 0 ∨ (pKey bs p).1 = 1 ∨ (pKey bs p).1 = 2 := by
  unfold pKey
  by_cases a : isW bs p 3
  · rw [if_pos a]; exact Or.inl rfl
  · rw [if_neg a]
    by_cases b : isW bs p 4
    · rw [if_pos b]; exact Or.inr (Or.inl rfl)
    · rw [if_neg b]
      by_cases c : isW bs p 5
      · rw [if_pos c]; exact Or.inr (Or.inr rfl)
      · rw [if_neg c]; exact Or.inl rfl
theorem key_W {p : PS} (hW : WB bs) (h : PWf bs fu p) : PWf bs fu (pKey bs p).2 := by
  unfold pKey
  by_cases a : isW bs p 3
  · rw [if_pos a]; exact h.step hW
  · rw [if_neg a]
    by_cases b : isW bs p 4
    · rw [if_pos b]; exact h.step hW
    · rw [if_neg b]
      by_cases c : isW bs p 5
      · rw [if_pos c]; exact h.step hW
      · rw [if_neg c]; exact h.fail
theorem p0_W : PWf bs 17 p0 := ⟨by decide, by decide, ⟨by decide, by decide⟩, by decide, by decide, (fun f h => by cases h), Or.inl rfl⟩
theorem parse_c {d : Nat} {hi : pm_B} {Q : pm_Q} (hW : WB bs) (hX : XW X) (hb : CB hi bs) (hK : CK hi) (h : ∀ hi', Fr (FX X) hi hi' → EPi bs X (pAll bs).1 hi' (pAll bs).2 → Q (some (.inl (fl (pAll bs).2.2.2.2.2.2.1))) hi') : pm_C pm_g (SH L) HR (d + 200) m_Parser_parse [.inr 109, .inr X] hi Q := by
  have hx := hX.lt
  unfold pAll at h
  refine v_Parser_parse (d := d + 198) hX.tx ⟨X, hX.tx, pm_u_at, fun hi2 e2 hi3 e3 hi4 e4 hi5 e5 hi6 e6 => ?_⟩
  have k : ∀ q j, ¬ (q = 109 ∨ q = X) → hi6 q j = hi q j := fun q j hn => by
    rw [e6, pm_u_ne (Or.inl (by omega)), pm_u_ne (Or.inl (by omega)), e5, pm_u_ne (Or.inl (by omega)), pm_u_ne (Or.inl (by omega)), e4, pm_u_ne (Or.inl (by omega)), pm_u_ne (Or.inl (by omega)), e3, pm_u_ne (Or.inl (by omega)), e2, pm_u_ne (Or.inl (by omega)), pm_u_ne (Or.inl (by omega)), pm_u_ne (Or.inl (by omega))]
  have g : ∀ j, j ≠ 2 → j ≠ 3 → j ≠ 4 → j ≠ 5 → j ≠ 6 → j ≠ 7 → hi6 109 j = hi3 109 j := fun j a b c d e f => by
    rw [e6, pm_u_ne (Or.inr (by omega)), pm_u_ne (Or.inr (by omega)), e5, pm_u_ne (Or.inr (by omega)), pm_u_ne (Or.inr (by omega)), e4, pm_u_ne (Or.inr (by omega)), pm_u_ne (Or.inr (by omega))]
  have gX : ∀ j, hi6 X j = hi3 X j := fun j => by
    rw [e6, pm_u_ne (Or.inl (by omega)), pm_u_ne (Or.inl (by omega)), e5, pm_u_ne (Or.inl (by omega)), pm_u_ne (Or.inl (by omega)), e4, pm_u_ne (Or.inl (by omega)), pm_u_ne (Or.inl (by omega))]
  have I6 : EPi bs X 0 hi6 p0 := by
    refine ⟨?_, ?_, ?_, ?_, ?_, ?_, ?_, ?_, ?_, ?_, Row.nil, ⟨(k _ _ (by omega)).trans hb.1, hb.2.to (fun j _ => k _ _ (by omega))⟩, fun q j u v => (k _ _ (by omega)).trans (hK q j u v)⟩
    · rw [g 1 (by omega) (by omega) (by omega) (by omega) (by omega) (by omega), e3, pm_u_ne (Or.inl (by omega)), e2, pm_u_ne (Or.inl (by omega)), pm_u_ne (Or.inl (by omega)), pm_u_at]
    · rw [e6, pm_u_ne (Or.inr (by omega)), pm_u_ne (Or.inr (by omega)), e5, pm_u_ne (Or.inr (by omega)), pm_u_ne (Or.inr (by omega)), e4, pm_u_ne (Or.inr (by omega)), pm_u_at]; rfl
    · rw [e6, pm_u_ne (Or.inr (by omega)), pm_u_ne (Or.inr (by omega)), e5, pm_u_ne (Or.inr (by omega)), pm_u_ne (Or.inr (by omega)), e4, pm_u_at]; rfl
    · rw [e6, pm_u_ne (Or.inr (by omega)), pm_u_ne (Or.inr (by omega)), e5, pm_u_ne (Or.inr (by omega)), pm_u_at]; rfl
    · rw [e6, pm_u_ne (Or.inr (by omega)), pm_u_ne (Or.inr (by omega)), e5, pm_u_at]; rfl
    · rw [e6, pm_u_ne (Or.inr (by omega)), pm_u_at]; rfl
    · rw [e6, pm_u_at]; rfl
    · rw [gX, e3, pm_u_ne (Or.inr (by omega)), e2, pm_u_ne (Or.inr (by omega)), pm_u_at]
    · rw [gX, e3, pm_u_ne (Or.inr (by omega)), e2, pm_u_at]; rfl
    · rw [gX, e3, pm_u_at]; rfl
  have f6 : Fr (FX X) hi hi6 := fun q j hn => k q j (by unfold FX at hn; omega)
  clear e2 e3 e4 e5 e6
  have w1 := p0_W.step (bs := bs) hW
  have he : (pStep bs p0).1 = 1 → (pStep bs p0).2.2.1 ≤ bs.length := fun e1 => by
    rcases stp_len (s := p0.1) (e := p0.2.2.1) hW with x | x
    · have : (pStep bs p0).1 = 0 := x
      rw [e1] at this
      exact absurd this (by decide)
    · exact x
  refine EPi.step (d := d + 197) hW hX p0_W I6 (fun hi7 f7 I7 => ⟨rfl, ?_⟩)
  refine readKey_c (d := d + 193) hW hX w1 I7 he (fun hi8 f8 I8 => ⟨rfl, ?_⟩)
  have w2 := key_W hW w1
  have hk := key_012 (bs := bs) (p := pStep bs p0)
  generalize (pKey bs (pStep bs p0)).1 = ky at h I8 hk
  generalize (pKey bs (pStep bs p0)).2 = q at h I8 w2
  have hP : Rd L (d + 192) bs X ky 17 m_Parser_readPiece (pieceF bs ky 17) := Rd.up (readPiece_c hW hX hk 17 d) (by omega)
  have hO := readOrAll_c (d := d + 190) hW hX hP
  refine Rd.up (d' := d + 198 + 1) hO (by omega) |>.2 q hi8 _ w2 I8 (fun hi9 f9 I9 => ⟨rfl, ?_⟩)
  have w3 := hO.1 q w2
  generalize orF bs (pieceF bs ky 17) q = r at h I9 w3
  have fr := ((f6.tr f7).tr f8).tr f9
  unfold pEnd at h
  rw [I9.2.1]
  refine ⟨fun c => ?_, fun c => ?_⟩
  · rw [if_pos c] at h
    rw [I9.2.2.2.2.2.2.1]
    exact h hi9 fr I9
  · rw [if_neg c] at h
    refine EPi.fail (G := fun hi12 => Q (some (.inl (hi12 109 7))) hi12) hX w3 I9 (fun hi' hf I' => ?_)
    rw [I'.2.2.2.2.2.2.1]
    exact h hi' (fr.tr hf) I'
end
