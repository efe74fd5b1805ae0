/-! ===== texts: names, nots, brackets, all of a text (class side) ===== -/
section
variable {L : Nat} {bs : List Int32} {X : Nat} {key : Int32} {fu : Nat}
theorem Rd.up {d d' m : Nat} {g : PS → PS} (h : Rd L d bs X key fu m g) (hd : d ≤ d') : Rd L d' bs X key fu m g := ⟨h.1, fun p hi Q hp hI hq => pm_C_up hd (h.2 p hi Q hp hI hq)⟩
theorem readName_c {d : Nat} {p : PS} {hi : pm_B} {Q : pm_Q} (hW : WB bs) (hX : XW X) (hk : key = 0 ∨ key = 1 ∨ key = 2) (hp : PWf bs fu p) (hI : EPi bs X key hi p) (hlt : p.2.1 < p.2.2.1) (hal : p.2.1 < bs.length) (h : ∀ hi', Fr (FX X) hi hi' → EPi bs X key hi' (pName bs key p) → Q none hi') : pm_C pm_g (SH L) HR (d + 7) m_Parser_readName [.inr 109] hi Q := by
  have I := hI
  have he := hp.2.1
  obtain ⟨n, hn, eb⟩ := bA_nI hW hal
  unfold pName at h
  rw [eb] at h
  refine v_Parser_readName (d := d + 5) ⟨fun c => ?_, fun c => ⟨X, hX.tx, I.1, ?_⟩⟩
  · rw [I.2.2.1, I.2.2.2.1, nI_sub (by omega)] at c
    rw [if_neg (fun x => c (by rw [x.1]; rfl))] at h
    exact EPi.fail (G := fun hi' => Q none hi') hX hp hI h
  · rw [I.2.2.1, I.2.2.2.1, nI_sub (by omega)] at c
    have c : p.2.2.1 - p.2.1 = 1 := (nI_eq (b := 1) (by omega) (by omega)).mp (Decidable.not_not.mp c)
    rw [I.2.2.2.2.2.2.2.1]
    rcases hk with e | e | e
    · subst e
      refine ⟨fun _ => ?_, fun c => absurd rfl c⟩
      refine gB I.2.2.1 I.2.2.2.2.2.2.2.2.2.2.2.1.1 hal hW.1 ?_
      rw [I.2.2.2.2.2.2.2.2.2.2.2.1.2.at hal, ← bA_in hal, eb]
      refine idx6_c (d := d) hn I.2.2.2.2.2.2.2.2.2.2.2.2 ⟨_, rfl, fun c0 => ?_, fun c0 => ?_⟩
      · rw [if_pos ⟨c, c0⟩] at h
        exact putLeaf_c (d := d + 3) hW hX hp hI (fun hi' hf I' => ⟨rfl, h hi' hf I'⟩)
      · rw [if_neg (fun x => c0 x.2)] at h
        exact EPi.fail (G := fun hi' => Q none hi') hX hp hI h
    · subst e
      refine ⟨fun c => absurd c (by decide), fun _ => ⟨fun _ => ?_, fun c => absurd rfl c⟩⟩
      refine gB I.2.2.1 I.2.2.2.2.2.2.2.2.2.2.2.1.1 hal hW.1 ?_
      rw [I.2.2.2.2.2.2.2.2.2.2.2.1.2.at hal, ← bA_in hal, eb]
      refine idx7_c (d := d) hn I.2.2.2.2.2.2.2.2.2.2.2.2 ⟨_, rfl, fun c0 => ?_, fun c0 => ?_⟩
      · rw [if_pos ⟨c, c0⟩] at h
        exact putLeaf_c (d := d + 3) hW hX hp hI (fun hi' hf I' => ⟨rfl, h hi' hf I'⟩)
      · rw [if_neg (fun x => c0 x.2)] at h
        exact EPi.fail (G := fun hi' => Q none hi') hX hp hI h
    · subst e
      refine ⟨fun c => absurd c (by decide), fun _ => ⟨fun c => absurd c (by decide), fun _ => ?_⟩⟩
      refine gB I.2.2.1 I.2.2.2.2.2.2.2.2.2.2.2.1.1 hal hW.1 ?_
      rw [I.2.2.2.2.2.2.2.2.2.2.2.1.2.at hal, ← bA_in hal, eb]
      refine idx8_c (d := d) hn I.2.2.2.2.2.2.2.2.2.2.2.2 ⟨_, rfl, fun c0 => ?_, fun c0 => ?_⟩
      · rw [if_pos ⟨c, c0⟩] at h
        exact putLeaf_c (d := d + 3) hW hX hp hI (fun hi' hf I' => ⟨rfl, h hi' hf I'⟩)
      · rw [if_neg (fun x => c0 x.2)] at h
        exact EPi.fail (G := fun hi' => Q none hi') hX hp hI h
theorem readNot_c {d : Nat} {g : PS → PS} {p : PS} {hi : pm_B} {Q : pm_Q} (hW : WB bs) (hX : XW X) (hg : Rd L (d + 2) bs X key fu m_Parser_readPiece g) (hgo : ∀ q, PWf bs fu q → 1 ≤ q.2.2.2.2.1 → 1 ≤ (g q).2.2.2.2.1) (hp : PWf bs (fu + 1) p) (hI : EPi bs X key hi p) (h : ∀ hi', Fr (FX X) hi hi' → EPi bs X key hi' (pNot bs g p) → Q none hi') : pm_C pm_g (SH L) HR (d + 3) m_Parser_readNot [.inr 109] hi Q := by
  have I := hI
  have h8 := hp.2.2.2.1
  have hbd := hp.2.2.1.2
  unfold pNot at h
  refine v_Parser_readNot (d := d + 1) ?_
  rw [I.2.2.2.2.2.1, nI_1]
  refine ⟨fun c => ?_, fun c => ?_⟩
  · have c := (nI_ltI (b := 8) (by omega) (by omega)).mp c
    rw [if_pos c] at h
    have w0 : PWf bs fu (pOn (p.2.2.2.2.1 + 1) p) := hp.on (by omega) (by omega)
    have w1 := w0.step hW
    have w2 := hg.1 _ w1
    have o1 := hgo _ w1 (show 1 ≤ p.2.2.2.2.1 + 1 by omega)
    generalize hq : g (pStep bs (pOn (p.2.2.2.2.1 + 1) p)) = q at h w2 o1
    refine EPi.step (d := d) hW hX w0 (hI.on hX) (fun hi2 f2 I2 => ⟨rfl, ?_⟩)
    refine hg.2 _ hi2 _ w1 I2 (fun hi3 f3 I3 => ⟨rfl, ?_⟩)
    rw [hq] at I3
    refine EPi.put (v := -33) (G := fun hi8 => Q none (pm_u hi8 109 6 ((hi8 109 6) - 1))) hX w2 I3 (fun hi4 f4 I4 => ?_)
    have e6 : hi4 109 6 - 1 = nI (q.2.2.2.2.1 - 1) := by
      rw [I4.2.2.2.2.2.1]
      exact nI_sub (b := 1) o1
    rw [e6]
    exact h _ ((((Fr.u (Or.inl rfl)).tr f2).tr f3).tr (f4.tr (Fr.u (Or.inl rfl)))) (I4.on hX)
  · rw [if_neg (fun hh => c (nI_lt (b := 8) hh (by omega)))] at h
    exact EPi.fail (G := fun hi' => Q none hi') hX hp hI h
theorem readBr_c {d : Nat} {g : PS → PS} {p : PS} {hi : pm_B} {Q : pm_Q} (hW : WB bs) (hX : XW X) (hg : Rd L (d + 2) bs X key fu m_Parser_readOr g) (hgo : ∀ q, PWf bs fu q → 1 ≤ q.2.2.2.1 → 1 ≤ (g q).2.2.2.1) (hp : PWf bs (fu + 1) p) (hI : EPi bs X key hi p) (h : ∀ hi', Fr (FX X) hi hi' → EPi bs X key hi' (pBr bs g p) → Q none hi') : pm_C pm_g (SH L) HR (d + 3) m_Parser_readBrackets [.inr 109] hi Q := by
  have I := hI
  have h8 := hp.2.2.1.1
  have hbd := hp.2.2.1.2
  unfold pBr at h
  refine v_Parser_readBrackets (d := d + 1) ?_
  rw [I.2.2.2.2.1, nI_1]
  refine ⟨fun c => ?_, fun c => ?_⟩
  · have c := (nI_ltI (b := 8) (by omega) (by omega)).mp c
    rw [if_pos c] at h
    have w0 : PWf bs fu (pOb (p.2.2.2.1 + 1) p) := hp.ob (by omega) (by omega)
    have w1 := w0.step hW
    have w2 := hg.1 _ w1
    have o1 := hgo _ w1 (show 1 ≤ p.2.2.2.1 + 1 by omega)
    generalize hq : g (pStep bs (pOb (p.2.2.2.1 + 1) p)) = q at h w2 o1
    refine EPi.step (d := d) hW hX w0 (hI.ob hX) (fun hi2 f2 I2 => ⟨rfl, ?_⟩)
    refine hg.2 _ hi2 _ w1 I2 (fun hi3 f3 I3 => ⟨rfl, ?_⟩)
    rw [hq] at I3
    have fr := ((Fr.u (Or.inl rfl) : Fr (FX X) hi (pm_u hi 109 5 (nI (p.2.2.2.1 + 1)))).tr f2).tr f3
    unfold pCl at h
    refine isSign_c (d := d) hW w2 I3 (fun hs => ⟨_, rfl, fun c => absurd c (by decide), fun _ => ?_⟩) (fun hs => ⟨_, rfl, fun _ => ?_, fun c => absurd rfl c⟩)
    · rw [if_pos hs] at h
      refine EPi.step (d := d) hW hX w2 I3 (fun hi4 f4 I4 => ⟨rfl, ?_⟩)
      have e5 : hi4 109 5 - 1 = nI (q.2.2.2.1 - 1) := by
        rw [I4.2.2.2.2.1]
        exact nI_sub (b := 1) o1
      rw [e5]
      exact h _ (fr.tr (f4.tr (Fr.u (Or.inl rfl)))) (I4.ob hX)
    · rw [if_neg hs] at h
      refine EPi.fail (G := fun hi8 => Q none (pm_u hi8 109 5 ((hi8 109 5) - 1))) hX w2 I3 (fun hi4 f4 I4 => ?_)
      have e5 : hi4 109 5 - 1 = nI (q.2.2.2.1 - 1) := by
        rw [I4.2.2.2.2.1]
        exact nI_sub (b := 1) o1
      rw [e5]
      exact h _ (fr.tr (f4.tr (Fr.u (Or.inl rfl)))) (I4.ob hX)
  · rw [if_neg (fun hh => c (nI_lt (b := 8) hh (by omega)))] at h
    exact EPi.fail (G := fun hi' => Q none hi') hX hp hI h
/-- what the readers leave: as many open brackets and nots -/
def Kp (g : PS → PS) : Prop := ∀ p, (g p).2.2.2.1 = p.2.2.2.1 ∧ (g p).2.2.2.2.1 = p.2.2.2.2.1
theorem lp_K {g : PS → PS} {ss : List Int32} (hg : Kp g) : ∀ n, Kp (lp bs g ss n)
  | 0, p => ⟨rfl, rfl⟩
  | n + 1, p => by
    unfold lp
    split
    · have h1 := lp_K (ss := ss) hg n (pPut (-(bA bs p.2.1)) (g (pStep bs p)))
      have h2 := hg (pStep bs p)
      exact ⟨h1.1.trans h2.1, h1.2.trans h2.2⟩
    · exact ⟨rfl, rfl⟩
theorem lp2_K {g : PS → PS} {ss : List Int32} (hg : Kp g) : Kp (fun p => lp bs g ss 96 (g p)) := fun p => ⟨(lp_K hg 96 (g p)).1.trans (hg p).1, (lp_K hg 96 (g p)).2.trans (hg p).2⟩
theorem test_K {g : PS → PS} (hg : Kp g) : Kp (testF bs g) := by
  intro p
  unfold testF
  split
  · have h2 := hg (pStep bs (g p))
    exact ⟨h2.1.trans (hg p).1, h2.2.trans (hg p).2⟩
  · exact hg p
theorem or_K {g : PS → PS} (hg : Kp g) : Kp (orF bs g) := lp2_K (lp2_K (test_K (lp2_K (lp2_K hg))))
theorem piece_K : ∀ f, Kp (pieceF bs key f)
  | 0, p => ⟨rfl, rfl⟩
  | f + 1, p => by
    have ih := piece_K f
    unfold pieceF
    split
    · unfold pNum; split <;> exact ⟨rfl, rfl⟩
    · split
      · unfold pName; split <;> exact ⟨rfl, rfl⟩
      · split
        · unfold pNot
          split
          · have h1 := ih (pStep bs (pOn (p.2.2.2.2.1 + 1) p))
            refine ⟨h1.1, ?_⟩
            show (pieceF bs key f (pStep bs (pOn (p.2.2.2.2.1 + 1) p))).2.2.2.2.1 - 1 = _
            rw [h1.2]
            rfl
          · exact ⟨rfl, rfl⟩
        · split
          · unfold pBr
            split
            · have h1 := or_K (bs := bs) ih (pStep bs (pOb (p.2.2.2.1 + 1) p))
              generalize orF bs (pieceF bs key f) (pStep bs (pOb (p.2.2.2.1 + 1) p)) = q at h1
              have h2 : (pCl bs q).2.2.2.1 = q.2.2.2.1 ∧ (pCl bs q).2.2.2.2.1 = q.2.2.2.2.1 := by unfold pCl; split <;> exact ⟨rfl, rfl⟩
              refine ⟨?_, h2.2.trans h1.2⟩
              show (pCl bs q).2.2.2.1 - 1 = _
              rw [h2.1, h1.1]
              rfl
            · exact ⟨rfl, rfl⟩
          · exact ⟨rfl, rfl⟩
theorem readOrAll_c {d : Nat} {g : PS → PS} (hW : WB bs) (hX : XW X) (hg : Rd L (d + 2) bs X key fu m_Parser_readPiece g) : Rd L (d + 7) bs X key fu m_Parser_readOr (orF bs g) :=
  readOr_c (d := d + 4) hW hX (readAnd_c (d := d + 3) hW hX (readTest_c (d := d + 2) hW hX (readSum_c (d := d + 1) hW hX (readTerm_c (d := d) hW hX hg))))
theorem piece_W (hW : WB bs) : ∀ f p, PWf bs f p → PWf bs f (pieceF bs key f p)
  | 0, p, hp => hp
  | f + 1, p, hp => by
    have ih := piece_W hW f
    have k0 := piece_K (bs := bs) (key := key) f
    have h8 := hp.2.2.2.1
    have h9 := hp.2.2.1
    unfold pieceF
    split
    · unfold pNum
      split
      · exact ((hp.put _).lv).step hW
      · exact hp.fail
    · split
      · unfold pName
        split
        · exact ((hp.put _).lv).step hW
        · exact hp.fail
      · split
        · unfold pNot
          split
          · rename_i c
            have w0 : PWf bs f (pOn (p.2.2.2.2.1 + 1) p) := hp.on (by omega) (by omega)
            have w2 := (ih _ (w0.step hW)).put (-33)
            have k2 := k0 (pStep bs (pOn (p.2.2.2.2.1 + 1) p))
            have k3 : (pPut (-33) (pieceF bs key f (pStep bs (pOn (p.2.2.2.2.1 + 1) p)))).2.2.2.1 = p.2.2.2.1 := k2.1
            have k4 : (pPut (-33) (pieceF bs key f (pStep bs (pOn (p.2.2.2.2.1 + 1) p)))).2.2.2.2.1 = p.2.2.2.2.1 + 1 := k2.2
            generalize pPut (-33) (pieceF bs key f (pStep bs (pOn (p.2.2.2.2.1 + 1) p))) = q at w2 k3 k4
            exact w2.on (by omega) (by omega)
          · exact hp.fail
        · split
          · unfold pBr
            split
            · rename_i c
              have w0 : PWf bs f (pOb (p.2.2.2.1 + 1) p) := hp.ob (by omega) (by omega)
              have w1 : PWf bs f (orF bs (pieceF bs key f) (pStep bs (pOb (p.2.2.2.1 + 1) p))) := by
                have l1 : ∀ p, PWf bs f p → PWf bs f (lp bs (pieceF bs key f) [42, 47] 96 (pieceF bs key f p)) := fun p h => lp_W hW ih 96 _ (ih p h)
                have l2 : ∀ p, PWf bs f p → PWf bs f (lp bs (fun p => lp bs (pieceF bs key f) [42, 47] 96 (pieceF bs key f p)) [43, 45] 96 (lp bs (pieceF bs key f) [42, 47] 96 (pieceF bs key f p))) := fun p h => lp_W hW l1 96 _ (l1 p h)
                have l3 : ∀ p, PWf bs f p → PWf bs f (testF bs (fun p => lp bs (fun p => lp bs (pieceF bs key f) [42, 47] 96 (pieceF bs key f p)) [43, 45] 96 (lp bs (pieceF bs key f) [42, 47] 96 (pieceF bs key f p))) p) := fun p h => by
                  unfold testF
                  split
                  · exact (l2 _ ((l2 p h).step hW)).put _
                  · exact l2 p h
                have l4 := fun p h => lp_W (ss := [38]) hW l3 96 _ (l3 p h)
                exact lp_W (ss := [124]) hW l4 96 _ (l4 _ (w0.step hW))
              have k2 := or_K (bs := bs) k0 (pStep bs (pOb (p.2.2.2.1 + 1) p))
              generalize orF bs (pieceF bs key f) (pStep bs (pOb (p.2.2.2.1 + 1) p)) = q at w1 k2
              have w2 : PWf bs f (pCl bs q) := by
                unfold pCl
                split
                · exact w1.step hW
                · exact w1.fail
              have h2 : (pCl bs q).2.2.2.1 = q.2.2.2.1 ∧ (pCl bs q).2.2.2.2.1 = q.2.2.2.2.1 := by unfold pCl; split <;> exact ⟨rfl, rfl⟩
              have k3 : (pCl bs q).2.2.2.1 = p.2.2.2.1 + 1 := h2.1.trans k2.1
              have k4 : (pCl bs q).2.2.2.2.1 = p.2.2.2.2.1 := h2.2.trans k2.2
              generalize pCl bs q = r at w2 k3 k4
              exact w2.ob (by omega) (by omega)
            · exact hp.fail
          · exact hp.fail
theorem readPiece_c (hW : WB bs) (hX : XW X) (hk : key = 0 ∨ key = 1 ∨ key = 2) : ∀ f d, Rd L (d + 9 + 10 * f) bs X key f m_Parser_readPiece (pieceF bs key f)
  | 0, d => ⟨fun p hp => hp, fun p hi Q hp hI h => by have := hp.2.2.1; have := hp.2.2.2.1; omega⟩
  | f + 1, d => by
    have ih := readPiece_c hW hX hk f d
    rw [show d + 9 + 10 * (f + 1) = (d + 9 + 10 * f) + 10 by omega]
    generalize d + 9 + 10 * f = D at ih
    have ihO : Rd L (D + 7) bs X key f m_Parser_readOr (orF bs (pieceF bs key f)) := readOrAll_c (d := D) hW hX (Rd.up ih (by omega))
    have k0 := piece_K (bs := bs) (key := key) f
    refine ⟨piece_W hW (f + 1), fun p hi Q hp hI h => ?_⟩
    have I := hI
    have w := hp.2.2.2.2.2.2
    unfold pieceF at h
    refine v_Parser_readPiece (d := D + 8) ?_
    rw [I.2.1]
    refine ⟨fun c2 => ⟨fun c1 => ?_, fun c1 => ?_⟩, fun c2 => ?_⟩
    · rw [if_neg c2, if_neg c1] at h
      refine isSign_c (d := D + 7) hW hp hI (fun hs => ⟨_, rfl, fun c => absurd c (by decide), fun _ => ?_⟩) (fun hs => ⟨_, rfl, fun _ => ?_, fun c => absurd rfl c⟩)
      · rw [if_pos hs] at h
        refine readNot_c (d := D + 6) hW hX ?_ (fun q _ hq => by rw [(k0 q).2]; exact hq) hp hI (fun hi' hf I' => ⟨rfl, h hi' hf I'⟩)
        exact Rd.up ih (by omega)
      · rw [if_neg hs] at h
        refine isSign_c (d := D + 7) hW hp hI (fun hs2 => ⟨_, rfl, fun c => absurd c (by decide), fun _ => ?_⟩) (fun hs2 => ⟨_, rfl, fun _ => ?_, fun c => absurd rfl c⟩)
        · rw [if_pos hs2] at h
          refine readBr_c (d := D + 6) hW hX ?_ (fun q _ hq => by rw [(or_K k0 q).1]; exact hq) hp hI (fun hi' hf I' => ⟨rfl, h hi' hf I'⟩)
          exact Rd.up ihO (by omega)
        · rw [if_neg hs2] at h
          exact EPi.fail (G := fun hi' => Q none hi') hX hp hI h
    · have c1 := Decidable.not_not.mp c1
      rw [if_neg c2, if_pos c1] at h
      have w3 : p.2.1 < p.2.2.1 ∧ p.2.1 < bs.length := by
        rcases w with x | x | x
        · rw [x] at c1; exact absurd c1 (by decide)
        · rw [x] at c1; exact absurd c1 (by decide)
        · exact x.2
      exact readName_c (d := D + 2) hW hX hk hp hI w3.1 w3.2 (fun hi' hf I' => ⟨rfl, h hi' hf I'⟩)
    · have c2 := Decidable.not_not.mp c2
      rw [if_pos c2] at h
      have w3 : p.2.1 < p.2.2.1 ∧ p.2.1 < bs.length := by
        rcases w with x | x | x
        · rw [x] at c2; exact absurd c2 (by decide)
        · rw [x] at c2; exact absurd c2 (by decide)
        · exact x.2
      exact readNumber_c (d := D + 5) hW hX hp hI w3.1 (fun hi' hf I' => ⟨rfl, h hi' hf I'⟩)
end
