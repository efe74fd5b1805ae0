/-! ===== texts: tests, pieces, keys (class side) ===== -/
def testF (bs : List Int32) (g : PS → PS) (p : PS) : PS := if (g p).1 = 3 ∧ bA bs (g p).2.1 ∈ [60, 61, 62] then pPut (-(bA bs (g p).2.1)) (g (pStep bs (g p))) else g p
def nv (bs : List Int32) (a : Nat) : Nat → Int32
  | 0 => 0
  | k + 1 => nv bs a k * 10 + bA bs (a + k) - 48
def nameI (key b : Int32) : Int32 := if key = 0 then (if b = 101 then 0 else if b = 102 then 1 else if b = 119 then 2 else -1) else if key = 1 then (if b = 115 then 0 else if b = 108 then 1 else -1) else (if b = 115 then 0 else if b = 102 then 1 else -1)
def pNum (bs : List Int32) (p : PS) : PS := if p.2.2.1 - p.2.1 ≤ 4 then pLeaf bs (nv bs p.2.1 (p.2.2.1 - p.2.1)) p else pFail p
def pName (bs : List Int32) (key : Int32) (p : PS) : PS := if p.2.2.1 - p.2.1 = 1 ∧ 0 ≤ nameI key (bA bs p.2.1) then pLeaf bs (-1 - nameI key (bA bs p.2.1)) p else pFail p
def pNot (bs : List Int32) (g : PS → PS) (p : PS) : PS := if p.2.2.2.2.1 < 8 then pOn ((pPut (-33) (g (pStep bs (pOn (p.2.2.2.2.1 + 1) p)))).2.2.2.2.1 - 1) (pPut (-33) (g (pStep bs (pOn (p.2.2.2.2.1 + 1) p)))) else pFail p
def pCl (bs : List Int32) (q : PS) : PS := if isS bs q 41 then pStep bs q else pFail q
def pBr (bs : List Int32) (g : PS → PS) (p : PS) : PS := if p.2.2.2.1 < 8 then pOb ((pCl bs (g (pStep bs (pOb (p.2.2.2.1 + 1) p)))).2.2.2.1 - 1) (pCl bs (g (pStep bs (pOb (p.2.2.2.1 + 1) p)))) else pFail p
def orF (bs : List Int32) (g : PS → PS) : PS → PS := fun p => lp bs (fun p => lp bs (testF bs (fun p => lp bs (fun p => lp bs g [42, 47] 96 (g p)) [43, 45] 96 (lp bs g [42, 47] 96 (g p)))) [38] 96 (testF bs (fun p => lp bs (fun p => lp bs g [42, 47] 96 (g p)) [43, 45] 96 (lp bs g [42, 47] 96 (g p))) p)) [124] 96 (lp bs (testF bs (fun p => lp bs (fun p => lp bs g [42, 47] 96 (g p)) [43, 45] 96 (lp bs g [42, 47] 96 (g p)))) [38] 96 (testF bs (fun p => lp bs (fun p => lp bs g [42, 47] 96 (g p)) [43, 45] 96 (lp bs g [42, 47] 96 (g p))) p))
def pieceF (bs : List Int32) (key : Int32) : Nat → PS → PS
  | 0, p => p
  | f + 1, p => if p.1 = 2 then pNum bs p else if p.1 = 1 then pName bs key p else if isS bs p 33 then pNot bs (pieceF bs key f) p else if isS bs p 40 then pBr bs (orF bs (pieceF bs key f)) p else pFail p
section
variable {L : Nat} {bs : List Int32} {X : Nat} {key : Int32} {fu : Nat}
theorem readTest_c {d : Nat} {g : PS → PS} (hW : WB bs) (hX : XW X) (hg : Rd L (d + 2) bs X key fu m_Parser_readSum g) : Rd L (d + 3) bs X key fu m_Parser_readTest (testF bs g) := by
  refine ⟨fun p hp => ?_, fun p hi Q hp hI h => ?_⟩
  · unfold testF
    split
    · exact (hg.1 _ ((hg.1 p hp).step hW)).put _
    · exact hg.1 p hp
  · refine v_Parser_readTest (d := d + 1) (hg.2 p hi _ hp hI (fun hi1 f1 I => ⟨rfl, ?_⟩))
    have w1 := hg.1 p hp
    unfold testF at h
    have ha : ∀ c, isS bs (g p) c → (g p).2.1 < bs.length := fun c hs => by
      rcases w1.2.2.2.2.2.2 with x | x | x
      · have := hs.1; rw [x] at this; exact absurd this (by decide)
      · have := hs.1; rw [x] at this; exact absurd this (by decide)
      · exact x.2.2
    refine isSign_c (d := d) hW w1 I (fun hs => ⟨_, rfl, fun _ => ?_, fun c => absurd (by decide) c⟩) (fun hs1 => ⟨_, rfl, fun c => absurd rfl c, fun _ => ?_⟩)
    · skip
      refine gB I.2.2.1 I.2.2.2.2.2.2.2.2.2.2.2.1.1 (ha _ hs) hW.1 ?_
      rw [I.2.2.2.2.2.2.2.2.2.2.2.1.2.at (ha _ hs), ← bA_in (ha _ hs)]
      rw [if_pos ⟨hs.1, by rw [hs.2]; simp⟩] at h
      refine EPi.step (d := d) hW hX w1 I (fun hi2 f2 I2 => ⟨rfl, ?_⟩)
      refine hg.2 _ hi2 _ (w1.step hW) I2 (fun hi3 f3 I3 => ⟨rfl, ?_⟩)
      exact EPi.put (v := -(bA bs (g p).2.1)) (G := fun hi' => Q none hi') hX (hg.1 _ (w1.step hW)) I3 (fun hi4 f4 I4 => h hi4 (((f1.tr f2).tr f3).tr f4) I4)
    refine isSign_c (d := d) hW w1 I (fun hs => ⟨_, rfl, fun _ => ?_, fun c => absurd (by decide) c⟩) (fun hs2 => ⟨_, rfl, fun c => absurd rfl c, fun _ => ?_⟩)
    · skip
      refine gB I.2.2.1 I.2.2.2.2.2.2.2.2.2.2.2.1.1 (ha _ hs) hW.1 ?_
      rw [I.2.2.2.2.2.2.2.2.2.2.2.1.2.at (ha _ hs), ← bA_in (ha _ hs)]
      rw [if_pos ⟨hs.1, by rw [hs.2]; simp⟩] at h
      refine EPi.step (d := d) hW hX w1 I (fun hi2 f2 I2 => ⟨rfl, ?_⟩)
      refine hg.2 _ hi2 _ (w1.step hW) I2 (fun hi3 f3 I3 => ⟨rfl, ?_⟩)
      exact EPi.put (v := -(bA bs (g p).2.1)) (G := fun hi' => Q none hi') hX (hg.1 _ (w1.step hW)) I3 (fun hi4 f4 I4 => h hi4 (((f1.tr f2).tr f3).tr f4) I4)
    refine isSign_c (d := d) hW w1 I (fun hs => ⟨_, rfl, fun c => absurd c (by decide), fun _ => ?_⟩) (fun hs3 => ⟨_, rfl, fun _ => ?_, fun c => absurd rfl c⟩)
    · skip
      refine gB I.2.2.1 I.2.2.2.2.2.2.2.2.2.2.2.1.1 (ha _ hs) hW.1 ?_
      rw [I.2.2.2.2.2.2.2.2.2.2.2.1.2.at (ha _ hs), ← bA_in (ha _ hs)]
      rw [if_pos ⟨hs.1, by rw [hs.2]; simp⟩] at h
      refine EPi.step (d := d) hW hX w1 I (fun hi2 f2 I2 => ⟨rfl, ?_⟩)
      refine hg.2 _ hi2 _ (w1.step hW) I2 (fun hi3 f3 I3 => ⟨rfl, ?_⟩)
      exact EPi.put (v := -(bA bs (g p).2.1)) (G := fun hi' => Q none hi') hX (hg.1 _ (w1.step hW)) I3 (fun hi4 f4 I4 => h hi4 (((f1.tr f2).tr f3).tr f4) I4)
    · rw [if_neg (fun x => ?_)] at h
      · exact h hi1 f1 I
      · rcases List.mem_cons.mp x.2 with y | y
        · exact hs1 ⟨x.1, y⟩
        · rcases List.mem_cons.mp y with y | y
          · exact hs2 ⟨x.1, y⟩
          · exact hs3 ⟨x.1, List.mem_singleton.mp y⟩
theorem EPi.lv {p : PS} {hi : pm_B} (hX : XW X) (hI : EPi bs X key hi p) : EPi bs X key (pm_u hi X 1 ((hi X 1) + 1)) (pLv p) := by
  have hx := hX.lt
  obtain ⟨i1, i2, i3, i4, i5, i6, i7, i8, i9, i10, i11, i12, i13⟩ := hI
  have k : ∀ q j, ¬ (q = X ∧ j = 1) → pm_u hi X 1 ((hi X 1) + 1) q j = hi q j := fun q j hn => pm_u_ne (by omega)
  refine ⟨(k _ _ (by omega)).trans i1, (k _ _ (by omega)).trans i2, (k _ _ (by omega)).trans i3, (k _ _ (by omega)).trans i4, (k _ _ (by omega)).trans i5, (k _ _ (by omega)).trans i6, (k _ _ (by omega)).trans i7, (k _ _ (by omega)).trans i8, ?_, (k _ _ (by omega)).trans i10, i11.to (fun j _ => k _ _ (by omega)), ⟨(k _ _ (by omega)).trans i12.1, i12.2.to (fun j _ => k _ _ (by omega))⟩, fun q j u v => (k _ _ (by omega)).trans (i13 q j u v)⟩
  rw [pm_u_at, i9, nI_1]
  rfl
theorem putLeaf_c {d : Nat} {p : PS} {v : Int32} {hi : pm_B} {Q : pm_Q} (hW : WB bs) (hX : XW X) (hp : PWf bs fu p) (hI : EPi bs X key hi p) (h : ∀ hi', Fr (FX X) hi hi' → EPi bs X key hi' (pLeaf bs v p) → Q none hi') : pm_C pm_g (SH L) HR (d + 3) m_Parser_putLeaf [.inr 109, .inl v] hi Q := by
  refine v_Parser_putLeaf (d := d + 1) (EPi.put (v := v) (G := fun hi => ∃ t3 : Nat, pm_tx t3 ∧ (hi 109 1) = nI t3 ∧ (pm_C pm_g (SH L) HR (d + 1 + 1) m_Parser_step [.inr 109] (pm_u hi t3 1 ((hi t3 1) + 1)) (fun v hi4 => v = none ∧ (Q none hi4)))) hX hp hI (fun hi1 f1 I1 => ⟨X, hX.tx, I1.1, ?_⟩))
  exact EPi.step (d := d) hW hX ((hp.put v).lv) (I1.lv hX) (fun hi2 f2 I2 => ⟨rfl, h hi2 ((f1.tr (Fr.u (Or.inr (Or.inl rfl)))).tr f2) I2⟩)
theorem readNumber_c {d : Nat} {p : PS} {hi : pm_B} {Q : pm_Q} (hW : WB bs) (hX : XW X) (hp : PWf bs fu p) (hI : EPi bs X key hi p) (hlt : p.2.1 < p.2.2.1) (h : ∀ hi', Fr (FX X) hi hi' → EPi bs X key hi' (pNum bs p) → Q none hi') : pm_C pm_g (SH L) HR (d + 4) m_Parser_readNumber [.inr 109] hi Q := by
  have I := hI
  have he := hp.2.1
  unfold pNum at h
  refine v_Parser_readNumber (d := d + 2) ?_
  rw [I.2.2.1, I.2.2.2.1, nI_sub (by omega)]
  refine ⟨fun c => ?_, fun c => ?_⟩
  · rw [if_pos ((nI_leI (b := 4) (by omega) (by omega)).mp c)] at h
    have key' : ∀ m k, k + m = p.2.2.1 - p.2.1 → pm_W pm_g (SH L) HR (d + 2 + 1) pm_t41 25 [some (.inr 109), some (.inl (nv bs p.2.1 k)), some (.inl (nI (p.2.1 + k)))] [] hi Q := by
      intro m
      induction m with
      | zero =>
        intro k hk
        refine v_Parser_readNumber_25 (d := d + 2) ?_
        rw [I.2.2.2.1]
        refine ⟨fun _ => ?_, fun c => absurd (nI_le (by omega) (by omega)) c⟩
        rw [Nat.add_zero] at hk
        rw [hk]
        exact putLeaf_c (d := d) hW hX hp hI (fun hi' hf I' => ⟨rfl, h hi' hf I'⟩)
      | succ m ih =>
        intro k hk
        refine v_Parser_readNumber_25 (d := d + 2) ?_
        rw [I.2.2.2.1, I.2.2.2.2.2.2.2.2.2.2.2.1.1, nI_1]
        have nx := ih (k + 1) (by omega)
        rw [nv] at nx
        have hl := hW.1
        refine ⟨fun c => absurd c (nI_ge (by omega) (by omega)), fun _ => ⟨fun c => absurd c (nI_pos (by omega)), fun _ => ⟨fun c => ?_, fun c => ?_⟩⟩⟩
        · rw [bA_out ((nI_leI (by omega) (by omega)).mp c)] at nx; exact nx
        · have c : p.2.1 + k < bs.length := Nat.lt_of_not_le (fun hh => c (nI_le hh (by omega)))
          refine ⟨fun c' => absurd c' (nI_ge (b := 96) (by omega) (by omega)), fun _ => ⟨p.2.1 + k, by omega, rfl, ?_⟩⟩
          rw [I.2.2.2.2.2.2.2.2.2.2.2.1.2.at c, ← bA_in c]
          exact nx
    exact key' _ 0 (Nat.zero_add _)
  · rw [if_neg (fun hh => c (nI_le (b := 4) hh (by omega)))] at h
    have hh := EPi.fail (G := fun hi' => Q none hi') hX hp hI h
    rw [I.2.2.1] at hh
    exact hh
end
theorem str_c : ∀ S, S < 9 → 3 ≤ S → HI (fun _ => 0) S 1 = 0 := by decide +kernel
theorem str6 : HI (fun _ => 0) 12 0 = 101 ∧ HI (fun _ => 0) 12 1 = 102 ∧ HI (fun _ => 0) 12 2 = 119 ∧ HI (fun _ => 0) 13 0 = 115 ∧ HI (fun _ => 0) 13 1 = 108 ∧ HI (fun _ => 0) 14 0 = 115 ∧ HI (fun _ => 0) 14 1 = 102 := by decide +kernel
theorem nm_n : ∀ n, n < 256 → (nameI 0 (nI n) = (if (101 : Int32) = (Int32.toInt8 (nI n)).toInt32 then 0 else if (102 : Int32) = (Int32.toInt8 (nI n)).toInt32 then 1 else if (119 : Int32) = (Int32.toInt8 (nI n)).toInt32 then 2 else -1)) ∧ (nameI 1 (nI n) = (if (115 : Int32) = (Int32.toInt8 (nI n)).toInt32 then 0 else if (108 : Int32) = (Int32.toInt8 (nI n)).toInt32 then 1 else -1)) ∧ (nameI 2 (nI n) = (if (115 : Int32) = (Int32.toInt8 (nI n)).toInt32 then 0 else if (102 : Int32) = (Int32.toInt8 (nI n)).toInt32 then 1 else -1)) := by decide +kernel
theorem fit0 : pm_fit 1 0 := by
  show (0 : Int32).toInt8.toInt32 = 0
  decide
theorem sh0 (n : Nat) : (nI n) >>> ((0 : Int32) &&& 31) = nI n := by
  have : ((0 : Int32) &&& 31) = 0 := by decide
  rw [this]
  apply Int32.toInt_inj.mp
  rw [pk_shr (nI n) 0 0 (by decide)]
  exact Int.shiftRight_zero _
theorem chr {n : Nat} (h : n < 256) : (Int32.toUInt32 (nI n) % 65536).toInt32 = nI n := by
  rw [pk_char, pk_tn (by omega), Nat.mod_eq_of_lt (by omega)]
theorem idx6_c {L d n : Nat} {hi : pm_B} {Q : pm_Q} (hn : n < 256) (hK : CK hi) (h : Q (some (.inl (nameI 0 (nI n)))) hi) : pm_C pm_g (SH L) HR (d + 6) m_String_indexOf [.inr 6, .inl ((Int32.toUInt32 (nI n) % 65536).toInt32)] hi Q := by
  have z : hi 6 1 = 0 := by rw [hK 6 1 (by omega) (by omega)]; exact str_c 6 (by omega) (by omega)
  have b : ∀ k, hi 12 k = HI (fun _ => 0) 12 k := fun k => hK 12 k (by omega) (by omega)
  have e4 : (nI (slen 6)) >>> ((0 : Int32) &&& 31) = nI 3 := sh0 3
  rw [chr hn]
  rw [(nm_n n hn).1] at h
  obtain ⟨s0, s1, s2, _⟩ := str6
  refine v_String_indexOf (d := d + 5) (by unfold pm_sr; omega) (v_String_indexOf2 (d := d + 2) (by unfold pm_sr; omega) ?_)
  rw [z]
  refine ⟨fun c => absurd rfl c, fun _ => ⟨fit0, ?_⟩⟩
  rw [e4]
  refine v_StringLatin1_indexOf (d := d + 2) sh_l12 (by omega) ⟨fun c => absurd c (nI_pos (by omega)), fun _ => ⟨fun c => absurd c (nI_nlt (a := 255) (by omega) (by omega)), fun _ => ⟨fun _ => ?_, fun c => absurd (by decide) c⟩⟩⟩
  have e0 : (if (0 : Int32) < 0 then (0 : Int32) else 0) = nI 0 := rfl
  have e3 : (if nI 3 < nI 3 then nI 3 else nI 3) = nI 3 := by split <;> rfl
  rw [e0, e3]
  refine v_StringLatin1_indexOfChar (d := d + 2) sh_l12 (by omega) ?_
  generalize (Int32.toInt8 (nI n)).toInt32 = y at h
  refine v_StringLatin1_indexOfChar_7 sh_l12 (by omega) ⟨fun c => absurd c (by decide), fun _ => ⟨0, by omega, rfl, ?_⟩⟩
  rw [b, s0]
  refine ⟨fun c0 => ?_, fun c0 => ?_⟩
  · rw [if_neg c0] at h
    refine v_StringLatin1_indexOfChar_7 sh_l12 (by omega) ⟨fun c => absurd c (by decide), fun _ => ⟨1, by omega, by decide, ?_⟩⟩
    rw [b, s1]
    refine ⟨fun c1 => ?_, fun c1 => ?_⟩
    · rw [if_neg c1] at h
      refine v_StringLatin1_indexOfChar_7 sh_l12 (by omega) ⟨fun c => absurd c (by decide), fun _ => ⟨2, by omega, by decide, ?_⟩⟩
      rw [b, s2]
      refine ⟨fun c2 => ?_, fun c2 => ?_⟩
      · rw [if_neg c2] at h
        exact v_StringLatin1_indexOfChar_7 sh_l12 (by omega) ⟨fun _ => ⟨_, rfl, ⟨_, rfl, ⟨_, rfl, h⟩⟩⟩, fun c => absurd (by decide) c⟩
      · rw [if_pos (Decidable.not_not.mp c2)] at h
        exact ⟨_, rfl, ⟨_, rfl, ⟨_, rfl, h⟩⟩⟩
    · rw [if_pos (Decidable.not_not.mp c1)] at h
      exact ⟨_, rfl, ⟨_, rfl, ⟨_, rfl, h⟩⟩⟩
  · rw [if_pos (Decidable.not_not.mp c0)] at h
    exact ⟨_, rfl, ⟨_, rfl, ⟨_, rfl, h⟩⟩⟩
theorem idx7_c {L d n : Nat} {hi : pm_B} {Q : pm_Q} (hn : n < 256) (hK : CK hi) (h : Q (some (.inl (nameI 1 (nI n)))) hi) : pm_C pm_g (SH L) HR (d + 6) m_String_indexOf [.inr 7, .inl ((Int32.toUInt32 (nI n) % 65536).toInt32)] hi Q := by
  have z : hi 7 1 = 0 := by rw [hK 7 1 (by omega) (by omega)]; exact str_c 7 (by omega) (by omega)
  have b : ∀ k, hi 13 k = HI (fun _ => 0) 13 k := fun k => hK 13 k (by omega) (by omega)
  have e4 : (nI (slen 7)) >>> ((0 : Int32) &&& 31) = nI 2 := sh0 2
  rw [chr hn]
  rw [(nm_n n hn).2.1] at h
  have s0 := str6.2.2.2.1
  have s1 := str6.2.2.2.2.1
  refine v_String_indexOf (d := d + 5) (by unfold pm_sr; omega) (v_String_indexOf2 (d := d + 2) (by unfold pm_sr; omega) ?_)
  rw [z]
  refine ⟨fun c => absurd rfl c, fun _ => ⟨fit0, ?_⟩⟩
  rw [e4]
  refine v_StringLatin1_indexOf (d := d + 2) sh_l13 (by omega) ⟨fun c => absurd c (nI_pos (by omega)), fun _ => ⟨fun c => absurd c (nI_nlt (a := 255) (by omega) (by omega)), fun _ => ⟨fun _ => ?_, fun c => absurd (by decide) c⟩⟩⟩
  have e0 : (if (0 : Int32) < 0 then (0 : Int32) else 0) = nI 0 := rfl
  have e3 : (if nI 2 < nI 2 then nI 2 else nI 2) = nI 2 := by split <;> rfl
  rw [e0, e3]
  refine v_StringLatin1_indexOfChar (d := d + 2) sh_l13 (by omega) ?_
  generalize (Int32.toInt8 (nI n)).toInt32 = y at h
  refine v_StringLatin1_indexOfChar_7 sh_l13 (by omega) ⟨fun c => absurd c (by decide), fun _ => ⟨0, by omega, rfl, ?_⟩⟩
  rw [b, s0]
  refine ⟨fun c0 => ?_, fun c0 => ?_⟩
  · rw [if_neg c0] at h
    refine v_StringLatin1_indexOfChar_7 sh_l13 (by omega) ⟨fun c => absurd c (by decide), fun _ => ⟨1, by omega, by decide, ?_⟩⟩
    rw [b, s1]
    refine ⟨fun c1 => ?_, fun c1 => ?_⟩
    · rw [if_neg c1] at h
      exact v_StringLatin1_indexOfChar_7 sh_l13 (by omega) ⟨fun _ => ⟨_, rfl, ⟨_, rfl, ⟨_, rfl, h⟩⟩⟩, fun c => absurd (by decide) c⟩
    · rw [if_pos (Decidable.not_not.mp c1)] at h
      exact ⟨_, rfl, ⟨_, rfl, ⟨_, rfl, h⟩⟩⟩
  · rw [if_pos (Decidable.not_not.mp c0)] at h
    exact ⟨_, rfl, ⟨_, rfl, ⟨_, rfl, h⟩⟩⟩
theorem idx8_c {L d n : Nat} {hi : pm_B} {Q : pm_Q} (hn : n < 256) (hK : CK hi) (h : Q (some (.inl (nameI 2 (nI n)))) hi) : pm_C pm_g (SH L) HR (d + 6) m_String_indexOf [.inr 8, .inl ((Int32.toUInt32 (nI n) % 65536).toInt32)] hi Q := by
  have z : hi 8 1 = 0 := by rw [hK 8 1 (by omega) (by omega)]; exact str_c 8 (by omega) (by omega)
  have b : ∀ k, hi 14 k = HI (fun _ => 0) 14 k := fun k => hK 14 k (by omega) (by omega)
  have e4 : (nI (slen 8)) >>> ((0 : Int32) &&& 31) = nI 2 := sh0 2
  rw [chr hn]
  rw [(nm_n n hn).2.2] at h
  have s0 := str6.2.2.2.2.2.1
  have s1 := str6.2.2.2.2.2.2
  refine v_String_indexOf (d := d + 5) (by unfold pm_sr; omega) (v_String_indexOf2 (d := d + 2) (by unfold pm_sr; omega) ?_)
  rw [z]
  refine ⟨fun c => absurd rfl c, fun _ => ⟨fit0, ?_⟩⟩
  rw [e4]
  refine v_StringLatin1_indexOf (d := d + 2) sh_l14 (by omega) ⟨fun c => absurd c (nI_pos (by omega)), fun _ => ⟨fun c => absurd c (nI_nlt (a := 255) (by omega) (by omega)), fun _ => ⟨fun _ => ?_, fun c => absurd (by decide) c⟩⟩⟩
  have e0 : (if (0 : Int32) < 0 then (0 : Int32) else 0) = nI 0 := rfl
  have e3 : (if nI 2 < nI 2 then nI 2 else nI 2) = nI 2 := by split <;> rfl
  rw [e0, e3]
  refine v_StringLatin1_indexOfChar (d := d + 2) sh_l14 (by omega) ?_
  generalize (Int32.toInt8 (nI n)).toInt32 = y at h
  refine v_StringLatin1_indexOfChar_7 sh_l14 (by omega) ⟨fun c => absurd c (by decide), fun _ => ⟨0, by omega, rfl, ?_⟩⟩
  rw [b, s0]
  refine ⟨fun c0 => ?_, fun c0 => ?_⟩
  · rw [if_neg c0] at h
    refine v_StringLatin1_indexOfChar_7 sh_l14 (by omega) ⟨fun c => absurd c (by decide), fun _ => ⟨1, by omega, by decide, ?_⟩⟩
    rw [b, s1]
    refine ⟨fun c1 => ?_, fun c1 => ?_⟩
    · rw [if_neg c1] at h
      exact v_StringLatin1_indexOfChar_7 sh_l14 (by omega) ⟨fun _ => ⟨_, rfl, ⟨_, rfl, ⟨_, rfl, h⟩⟩⟩, fun c => absurd (by decide) c⟩
    · rw [if_pos (Decidable.not_not.mp c1)] at h
      exact ⟨_, rfl, ⟨_, rfl, ⟨_, rfl, h⟩⟩⟩
  · rw [if_pos (Decidable.not_not.mp c0)] at h
    exact ⟨_, rfl, ⟨_, rfl, ⟨_, rfl, h⟩⟩⟩
