/-! ===== texts: the key, and all of a text ===== -/
def koff (w : Nat) : Nat := if w = 0 then 0 else if w = 1 then 4 else 7
theorem ktab : ∀ w, w < 3 → HI (fun _ => 0) 151 w = nI (koff w) ∧ HI (fun _ => 0) 151 (w + 1) = nI (koff w + (wd (3 + w)).length) ∧ koff w + (wd (3 + w)).length ≤ 11 ∧ (wd (3 + w)).length ≤ 4 ∧ ∀ k, k < (wd (3 + w)).length → HI (fun _ => 0) 150 (koff w + k) = (wd (3 + w)).getD k 0 := by decide +kernel
section
variable {L : Nat} {bs : List Int32}
theorem tkey_in {d w : Nat} {p : PS} {hi : pm_B} {Q : pm_Q} (hw : w < 3) (hW : WB bs) (h1 : p.1 = 1) (hC : MC bs hi p.1 p.2.1 p.2.2.1) (hCu : Cu bs p.1 p.2.1 p.2.2.1) (he : p.2.2.1 ≤ bs.length) (hK : MK hi) (hY : isW bs p (3 + w) → pm_C pm_g (SH L) HR d m_M_go [.inr 141] (pm_u hi 141 17 (nI w)) (fun v hi3 => v = none ∧ (Q (some (.inl 1)) hi3))) (hN : ¬ isW bs p (3 + w) → ∀ o2 o3 o4, pm_W pm_g (SH L) HR d pm_t201 12 [some (.inr 141), some (.inl (nI (w + 1))), o2, o3, o4] [] hi Q) (o2 o3 o4 : Option pm_V) : pm_W pm_g (SH L) HR d pm_t201 12 [some (.inr 141), some (.inl (nI w)), o2, o3, o4] [] hi Q := by
  have ha := hCu.2.2.1 (Or.inl h1)
  have h96 := hCu.2.1
  have hb96 := hW.1
  obtain ⟨t1, t2, t3, t4, t5⟩ := ktab w hw
  have e1 : hi 151 w = nI (koff w) := (hK _ _ (Or.inr rfl)).trans t1
  have e2 : hi 151 (w + 1) = nI (koff w + (wd (3 + w)).length) := (hK _ _ (Or.inr rfl)).trans t2
  have en : hi 151 (w + 1) - hi 151 w = nI (wd (3 + w)).length := by rw [e1, e2, nI_sub (by omega), Nat.add_sub_cancel_left]
  have ed : hi 141 12 - hi 141 13 = nI (p.2.2.1 - p.2.1) := by rw [hC.2.1, hC.2.2.1]; exact nI_sub (by omega)
  refine v_M_takesKey_12 ⟨fun c => ?_, fun _ => ⟨w + 1, by omega, nI_1 _, w, by omega, rfl, fun c => ?_, fun c => ?_⟩⟩
  · exact absurd c (nI_ge (a := w) (b := 3) hw (by omega))
  · rw [en, ed] at c
    have hn : ¬ isW bs p (3 + w) := fun x => c (by rw [x.2.1])
    have h := hN hn
    rw [← nI_1] at h
    rw [en]
    refine v_M_takesKey_55 ⟨fun _ => ⟨fun _ => h _ _ _, fun c => absurd rfl c⟩, fun _ => ⟨fun _ => ⟨fun _ => h _ _ _, fun c => absurd rfl c⟩, fun c => absurd rfl c⟩⟩
  · rw [en, ed] at c
    have hl : p.2.2.1 - p.2.1 = (wd (3 + w)).length := ((nI_eq (by omega) (by omega)).mp (Decidable.not_not.mp c)).symm
    rw [en]
    have loop : ∀ n k, k + n = (wd (3 + w)).length → (wEq bs p.2.1 (wd (3 + w)) = wEq bs (p.2.1 + k) ((wd (3 + w)).drop k)) → pm_W pm_g (SH L) HR d pm_t201 55 [some (.inr 141), some (.inl (nI w)), some (.inl (nI (wd (3 + w)).length)), some (.inl 1), some (.inl (nI k))] [] hi Q := by
      intro n
      induction n with
      | zero =>
        intro k hk hq
        rw [List.drop_of_length_le (by omega)] at hq
        have hy : isW bs p (3 + w) := ⟨h1, hl, hq⟩
        exact v_M_takesKey_55 ⟨fun _ => ⟨fun c => absurd c (by decide), fun _ => hY hy⟩, fun c => absurd (nI_le (by omega) (by omega)) c⟩
      | succ n ih =>
        intro k hk hq
        rw [wEq_drop (by omega)] at hq
        have ek : hi 150 (koff w + k) = (wd (3 + w)).getD k 0 := (hK _ _ (Or.inl rfl)).trans (t5 k (by omega))
        have hlt : p.2.1 + k < bs.length := by omega
        have et : hi 149 (p.2.1 + k) = bA bs (p.2.1 + k) := by rw [hC.1.2.at hlt, bA_in hlt]
        refine v_M_takesKey_55 ⟨fun c => absurd c (nI_ge (by omega) (by omega)), fun _ => ⟨fun c => absurd c (by decide), fun _ => ⟨p.2.1 + k, by omega, by rw [hC.2.2.1, nI_add], w, by omega, rfl, koff w + k, by omega, by rw [e1, nI_add], fun c => ?_, fun c => ?_⟩⟩⟩
        · rw [et, ek] at c
          rw [decide_eq_false c, Bool.false_and] at hq
          have hn : ¬ isW bs p (3 + w) := fun x => absurd (hq.symm.trans x.2.2) (by decide)
          have h := hN hn
          rw [← nI_1] at h
          exact v_M_takesKey_55 ⟨fun _ => ⟨fun _ => h _ _ _, fun c => absurd rfl c⟩, fun _ => ⟨fun _ => ⟨fun _ => h _ _ _, fun c => absurd rfl c⟩, fun c => absurd rfl c⟩⟩
        · rw [et, ek] at c
          rw [decide_eq_true (Decidable.not_not.mp c), Bool.true_and] at hq
          rw [nI_1]
          exact ih (k + 1) (by omega) hq
    exact loop _ 0 (Nat.zero_add _) rfl
theorem takesKey_c {d : Nat} {p : PS} {hi : pm_B} {Q : pm_Q} (hW : WB bs) (hC : MC bs hi p.1 p.2.1 p.2.2.1) (hCu : Cu bs p.1 p.2.1 p.2.2.1) (he : p.1 = 0 ∨ p.2.2.1 ≤ bs.length) (hK : MK hi) (h0 : pKey bs p = (0, pFail p) → Q (some (.inl 0)) hi) (h1 : ∀ w, w < 3 → pKey bs p = (nI w, pStep bs p) → ∀ hi', Fr PV hi hi' → MC bs hi' (pStep bs p).1 (pStep bs p).2.1 (pStep bs p).2.2.1 → hi' 141 17 = nI w → Q (some (.inl 1)) hi') : pm_C pm_g (SH L) HR (d + 3) m_M_takesKey [.inr 141] hi Q := by
  refine v_M_takesKey (d := d + 2) ⟨fun c => ?_, fun c => ?_⟩
  · have hs : p.1 = 1 := by
      rw [hC.2.2.2.1] at c
      unfold tkn at c
      by_cases h4 : p.1 = 2 ∧ 4 < p.2.2.1 - p.2.1
      · rw [if_pos h4] at c; exact absurd c (by decide)
      · rw [if_neg h4] at c; exact c
    have he : p.2.2.1 ≤ bs.length := he.resolve_left (fun x => absurd (hs.symm.trans x) (by decide))
    have go : ∀ w, w < 3 → pKey bs p = (nI w, pStep bs p) → pm_C pm_g (SH L) HR (d + 2) m_M_go [.inr 141] (pm_u hi 141 17 (nI w)) (fun v hi3 => v = none ∧ (Q (some (.inl 1)) hi3)) := by
      intro w hw hk
      have hu : Fr PZ hi (pm_u hi 141 17 (nI w)) := Fr.u (Or.inl ⟨rfl, by omega, by omega⟩)
      have hC' := hC.kept hu
      refine mgo_c hW hC'.1 hC'.2.1 he (Or.inl ⟨Or.inl hs, hC'.2.2.2.2.2.2.1 (Or.inl hs)⟩) (fun hi2 hf2 hC2 => ⟨rfl, h1 w hw hk hi2 (hu.pz.tr hf2.pc) hC2 ?_⟩)
      rw [hf2 141 17 (by unfold PC; omega), pm_u_at]
    unfold pKey at h0 go
    refine tkey_in (w := 0) (by omega) hW hs hC hCu he hK (fun x => go 0 (by omega) (if_pos x)) (fun x3 => ?_) none none none
    refine tkey_in (w := 1) (by omega) hW hs hC hCu he hK (fun x => go 1 (by omega) ((if_neg x3).trans (if_pos x))) (fun x4 => ?_)
    refine tkey_in (w := 2) (by omega) hW hs hC hCu he hK (fun x => go 2 (by omega) ((if_neg x3).trans ((if_neg x4).trans (if_pos x)))) (fun x5 o2 o3 o4 => ?_)
    exact v_M_takesKey_12 ⟨fun _ => h0 ((if_neg x3).trans ((if_neg x4).trans (if_neg x5))), fun c => absurd (nI_le (a := 3) (b := 3) (by omega) (by omega)) c⟩
  · have hs : ¬ p.1 = 1 := fun x => c (by rw [hC.2.2.2.1, x]; unfold tkn; rw [if_neg (fun y => absurd y.1 (by decide))])
    have ni : ∀ S, ¬ isW bs p S := fun S x => hs x.1
    refine h0 ?_
    unfold pKey
    exact (if_neg (ni 3)).trans ((if_neg (ni 4)).trans (if_neg (ni 5)))
theorem all_W (hW : WB bs) : PWf bs 17 (pAll bs).2 := by
  have w2 := key_W hW (p0_W.step (bs := bs) hW)
  have hk := key_012 (bs := bs) (p := pStep bs p0)
  unfold pAll
  generalize (pKey bs (pStep bs p0)).1 = ky at hk
  generalize (pKey bs (pStep bs p0)).2 = q at w2
  have hX : XW 19 := ⟨0, by omega, rfl⟩
  have hP : Rd 0 (0 + 192) bs 19 ky 17 m_Parser_readPiece (pieceF bs ky 17) := Rd.up (readPiece_c hW hX hk 17 0) (by omega)
  have w3 := (readOrAll_c (d := 0 + 190) hW hX hP).1 q w2
  dsimp only
  unfold pEnd
  by_cases c : (orF bs (pieceF bs ky 17) q).1 = 0
  · rw [if_pos c]; exact w3
  · rw [if_neg c]; exact w3.fail
/-- what has failed stays so -/
theorem or_4 {g : PS → PS} {x : Nat} {p : PS} (e1 : g p = pFail p) (hf : p.2.2.2.2.2.1 = some x) : (pEnd (orF bs g p)).2.2.2.2.2.1 = some x := by
  have e4 : (pFail p).1 = 4 := rfl
  have ef : (pFail p).2.2.2.2.2.1 = some x := by
    show some (p.2.2.2.2.2.1.getD p.2.1) = some x
    rw [hf]; rfl
  have e2 : orF bs g p = pFail p := by
    unfold orF
    have et : testF bs (fun p => lp bs (fun p => lp bs g [42, 47] 96 (g p)) [43, 45] 96 (lp bs g [42, 47] 96 (g p))) p = pFail p := by
      have eq : lp bs (fun p => lp bs g [42, 47] 96 (g p)) [43, 45] 96 (lp bs g [42, 47] 96 (g p)) = pFail p := by rw [e1, lp_4 e4, lp_4 e4]
      unfold testF
      dsimp only
      exact (if_neg (fun y => by rw [eq] at y; exact absurd (show (4 : Int32) = 3 from y.1) (by decide))).trans eq
    rw [et, lp_4 e4, lp_4 e4]
  rw [e2]
  unfold pEnd
  rw [if_neg (by rw [e4]; decide)]
  show some ((pFail p).2.2.2.2.2.1.getD (pFail p).2.1) = some x
  rw [ef]; rfl
theorem piece_4 {ky : Int32} {f : Nat} {p : PS} (h4 : p.1 = 4) : pieceF bs ky (f + 1) p = pFail p := by
  rw [pieceF, if_neg (by rw [h4]; decide), if_neg (by rw [h4]; decide), if_neg (fun y => absurd (h4.symm.trans y.1) (by decide)), if_neg (fun y => absurd (h4.symm.trans y.1) (by decide))]
theorem all_no (h : pKey bs (pStep bs p0) = (0, pFail (pStep bs p0))) : (pAll bs).2.2.2.2.2.2.1 = some (pStep bs p0).2.1 := by
  unfold pAll
  rw [h]
  dsimp only
  have hg : pieceF bs 0 17 (pFail (pStep bs p0)) = pFail (pFail (pStep bs p0)) := piece_4 (f := 16) rfl
  have hf : (pFail (pStep bs p0)).2.2.2.2.2.1 = some (pStep bs p0).2.1 := rfl
  exact or_4 hg hf
theorem En_key (hW : WB bs) : En bs 17 (pStep bs (pStep bs p0)) [] := by
  have h1 := stp_Cu hW (s := p0.1) (e := p0.2.2.1) (by decide)
  have h2 := stp_Cu hW (s := (pStep bs p0).1) (e := (pStep bs p0).2.2.1) h1.1.2.1
  exact ⟨rfl, rfl, rfl, Nat.zero_le _, h2.1, Nat.zero_le _, Nat.zero_le _, Nat.le_refl _⟩
theorem all_yes {w : Nat} {ts : Nat → Int32} (hW : WB bs) (h0 : ts 0 = 0) (h : pKey bs (pStep bs p0) = (nI w, pStep bs (pStep bs p0))) :
  ((pAll bs).2.2.2.2.2.2.1 = none → Gd (nI w) [] (pAll bs).2.2.2.2.2.2.2.1 ∧ (pAll bs).2.2.2.2.2.2.2.1.length ≤ 96 ∧ Run bs (nI w) (cur (pStep bs (pStep bs p0))) [] [] 0 ts 0 true (none, (pAll bs).2.2.2.2.2.2.2.1.map enc, (pAll bs).2.2.2.2.2.2.2.2))
  ∧ (∀ x, (pAll bs).2.2.2.2.2.2.1 = some x → Run bs (nI w) (cur (pStep bs (pStep bs p0))) [] [] 0 ts 0 true (some x, [], 0)) := by
  have hr := all_run (key := nI w) (ts := ts) hW (En_key hW) rfl h0
  have e : (pStep bs (pStep bs p0)).2.2.2.2.2.2.2 = 0 := rfl
  rw [e] at hr
  unfold pAll
  rw [h]
  dsimp only
  exact hr
theorem all_key (hW : WB bs) : pKey bs (pStep bs p0) = (0, pFail (pStep bs p0)) ∨ ∃ w, w < 3 ∧ pKey bs (pStep bs p0) = (nI w, pStep bs (pStep bs p0)) := by
  unfold pKey
  by_cases x3 : isW bs (pStep bs p0) 3
  · exact Or.inr ⟨0, by omega, if_pos x3⟩
  by_cases x4 : isW bs (pStep bs p0) 4
  · exact Or.inr ⟨1, by omega, (if_neg x3).trans (if_pos x4)⟩
  by_cases x5 : isW bs (pStep bs p0) 5
  · exact Or.inr ⟨2, by omega, (if_neg x3).trans ((if_neg x4).trans (if_pos x5))⟩
  · exact Or.inl ((if_neg x3).trans ((if_neg x4).trans (if_neg x5)))
theorem takesE_c {d w : Nat} {hi : pm_B} {Q : pm_Q} (hW : WB bs) (hk : pKey bs (pStep bs p0) = (nI w, pStep bs (pStep bs p0))) (hC : MC bs hi (pStep bs (pStep bs p0)).1 (pStep bs (pStep bs p0)).2.1 (pStep bs (pStep bs p0)).2.2.1) (h17 : hi 141 17 = nI w) (h0 : ∀ x, (pAll bs).2.2.2.2.2.2.1 = some x → ∀ hi', Fr PV hi hi' → hi' 141 13 = nI x → Q (some (.inl 0)) hi') (h1 : (pAll bs).2.2.2.2.2.2.1 = none → ∀ hi', Fr PV hi hi' → hi' 141 17 = nI w → hi' 141 21 = nI (pAll bs).2.2.2.2.2.2.2.1.length → Row (hi' 152) ((pAll bs).2.2.2.2.2.2.2.1.map enc) → hi' 141 22 = nI (pAll bs).2.2.2.2.2.2.2.2 → Q (some (.inl 1)) hi') : pm_C pm_g (SH L) HR (d + 5) m_M_takesE [.inr 141] hi Q := by
  refine v_M_takesE (d := d + 3) (fun hi1 e1 hi2 e2 => ?_)
  have hf : Fr PZ hi hi2 := fun q j hn => by
    unfold PZ at hn
    rw [e2, pm_u_ne (by omega), pm_u_ne (by omega), e1, pm_u_ne (by omega), pm_u_ne (by omega)]
  have hZ : MZ (nI w) hi2 [] [] 0 (fun j => hi2 154 j) := by
    refine ⟨?_, ?_, Row.nil, ?_, ?_, Row.nil, fun j => rfl⟩
    · rw [e2, pm_u_ne (Or.inl (by omega)), pm_u_ne (Or.inr (by omega)), e1, pm_u_ne (Or.inr (by omega)), pm_u_ne (Or.inr (by omega))]; exact h17
    · rw [e2, pm_u_ne (Or.inl (by omega)), pm_u_ne (Or.inr (by omega)), e1, pm_u_ne (Or.inr (by omega)), pm_u_at]; rfl
    · rw [e2, pm_u_ne (Or.inl (by omega)), pm_u_ne (Or.inr (by omega)), e1, pm_u_at]; rfl
    · rw [e2, pm_u_ne (Or.inl (by omega)), pm_u_at]; rfl
  have hall := all_yes (ts := fun j => hi2 154 j) hW (show hi2 154 0 = 0 by rw [e2, pm_u_at]) hk
  generalize (pAll bs).2 = pa at h0 h1 hall
  have hEn := En_key hW
  have hc2 := stp_len (s := (pStep bs p0).1) (e := (pStep bs p0).2.2.1) hW
  have fin : ∀ r, Run bs (nI w) (cur (pStep bs (pStep bs p0))) [] [] 0 (fun j => hi2 154 j) 0 true r → OKR hi2 (nI w) Q r → pm_W pm_g (SH L) HR (d + 3 + 1) pm_t207 28 [some (.inr 141), some (.inl 0), some (.inl 0), some (.inl 1), none] [] hi2 Q := by
    intro r hr hQ
    exact hr _ (RR_all (L := L) (d := d) (hi0 := hi2) (Q := Q) hW) hi2 none (hC.kept hf) hZ hEn.2.2.2.2.1 hc2 (Nat.zero_le _) (Nat.zero_le _) (Nat.zero_le _) Fr.rf hQ
  cases hp : pa.2.2.2.2.2.1 with
  | none =>
    exact fin _ (hall.1 hp).2.2 ⟨fun f hff => (by cases hff), fun _ hi' hf' k1 k2 k3 k4 => h1 hp hi' (hf.pz.tr hf') k1 (by rw [k2, List.length_map]) k3 k4⟩
  | some x =>
    exact fin _ (hall.2 x hp) ⟨fun f hff hi' hf' k => h0 x hp hi' (hf.pz.tr hf') (by rw [k, Option.some.inj hff]), fun hn => (by cases hn)⟩
end
