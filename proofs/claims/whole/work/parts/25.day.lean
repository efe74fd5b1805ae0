/-! ===== the folk: lessons and days (class side) ===== -/
/-- a folk: speakers, talk, spoken, lost, day, z, texts -/
abbrev AF : Type := List ASp × Int32 × Int32 × Int32 × Int32 × Int32 × List AT
def CF (hi : pm_B) (F : Nat) (f : AF) : Prop := match f with
  | (sps, talk, spoken, lost, day, z, txs) => hi F 2 = nI sps.length ∧ hi F 3 = talk ∧ hi F 4 = spoken ∧ hi F 5 = lost ∧ hi F 6 = day ∧ hi F 7 = z ∧ hi F 8 = nI txs.length ∧ (∀ k, k < 3 → hi (F + 18) k = lix (lk txs (nI k))) ∧ ∀ i p, sps[i]? = some p → CS hi (F + 2 + 2 * i) p
def WS (p : ASp) : Prop := WEar p ∧ p.2.2.2.2.length ≤ 12
def WF (f : AF) : Prop := f.1.length ≤ 8 ∧ ∀ p ∈ f.1, WS p
def zn (z : Int32) : Int32 := z * 1103515245 + 12345
def drN (z : Int32) : Nat := (zn z).toBitVec.toNat / 256
theorem nI_bv (y : Int32) : nI y.toBitVec.toNat = y := by
  apply Int32.toBitVec_inj.mp
  show BitVec.ofNat 32 y.toBitVec.toNat = y.toBitVec
  simp
theorem dr_eq (z : Int32) : ((Int32.toUInt32 (zn z) >>> (Int32.toUInt32 8 &&& Int32.toUInt32 31)).toInt32) = nI (drN z) ∧ drN z < 16777216 := by
  have h := pk_ushr (zn z) 8 8 (by decide)
  refine ⟨?_, ?_⟩
  · rw [← nI_bv ((Int32.toUInt32 (zn z) >>> (Int32.toUInt32 8 &&& Int32.toUInt32 31)).toInt32), h]
    rfl
  · have := (zn z).toBitVec.isLt
    unfold drN
    omega
theorem drawBelow_c {L d F n : Nat} {z : Int32} {hi : pm_B} {Q : pm_Q} (hF : pm_fo F) (hn : 0 < n) (hn2 : n ≤ 1000) (hz : hi F 7 = z) (h : Q (some (.inl (nI (drN z % n)))) (pm_u hi F 7 (zn z))) : pm_C pm_g (SH L) HR (d + 1) m_Folk_drawBelow [.inr F, .inl (nI n)] hi Q := by
  refine v_Folk_drawBelow hF ⟨fun hc => absurd hc (nI_nle hn (by omega)), fun _ => ⟨nI_ne0 hn (by omega), ?_⟩⟩
  obtain ⟨e1, e2⟩ := dr_eq z
  rw [pm_u_at, hz, show z * 1103515245 + 12345 = zn z from rfl, e1, pk_rem (by omega) hn (by omega)]
  exact h
def goesN (p : ASp) : Nat := (f_Kinds_goesOf p.1).toNatClampNeg
theorem goes_eq (p : ASp) : f_Kinds_goesOf p.1 = nI (goesN p) ∧ goesN p ≤ 9 ∧ 2 ≤ goesN p := by
  unfold goesN f_Kinds_goesOf
  split
  · decide
  split
  · decide
  split
  · decide
  split
  · decide
  · decide
/-- the piece that one speaks from place k on -/
def arow (p : ASp) (k : Nat) : List Int32 := (p.2.2.2.2.drop k).take (goesN p)
theorem arow_len {p : ASp} {k : Nat} : (arow p k).length = min (goesN p) (p.2.2.2.2.length - k) := by unfold arow; rw [List.length_take, List.length_drop]
/-- one (i) speaks to another (j) from place k on -/
def asay (f : AF) (i j k : Nat) : AF := match f with
  | (sps, talk, spoken, lost, day, z, txs) => match sps[i]?, sps[j]? with
    | some p, some q => ((sps.set j (ahears txs q (arow p k))).set i (p.1, p.2.1, p.2.2.1, p.2.2.2.1 + nI (arow p k).length, p.2.2.2.2), talk, spoken + 1, lost + nI (ahl txs q (arow p k)), day, z, txs)
    | _, _ => f
theorem CS.said {hi : pm_B} {S : Nat} {p : ASp} (h : CS hi S p) (v : Int32) : CS (pm_u hi S 3 v) S (p.1, p.2.1, p.2.2.1, v, p.2.2.2.2) := by
  obtain ⟨a, b, c, d, e, f⟩ := h
  refine ⟨?_, ?_, ?_, pm_u_at, ?_, ?_⟩
  · rw [pm_u_ne (Or.inr (by omega))]; exact a
  · rw [pm_u_ne (Or.inr (by omega))]; exact b
  · rw [pm_u_ne (Or.inr (by omega))]; exact c
  · rw [pm_u_ne (Or.inr (by omega))]; exact e
  · exact f.to (fun k _ => pm_u_ne (Or.inl (by omega)))
def PF (F : Nat) : Nat → Nat → Prop := fun q _ => q = 49 ∨ q = F ∨ (F + 2 ≤ q ∧ q < F + 18)
theorem speakTo_c {L d F i j k : Nat} {f : AF} {p q : ASp} {hi : pm_B} {Q : pm_Q} (hF : pm_fo F) (hij : i ≠ j) (hpi : f.1[i]? = some p) (hpj : f.1[j]? = some q) (hk : k < p.2.2.2.2.length) (hW : WF f) (hC : CF hi F f) (hX : CX hi f.2.2.2.2.2.2)
    (h : ∀ hi', Fr (PF F) hi hi' → CF hi' F (asay f i j k) → Q (some (.inl (nI (arow p k).length))) hi') : pm_C pm_g (SH L) HR (d + 6) m_Folk_speakTo [.inr F, .inr (F + 2 + 2 * i), .inr (F + 2 + 2 * j), .inl (nI k)] hi Q := by
  obtain ⟨sps, talk, spoken, lost, day, z, txs⟩ := f
  obtain ⟨c2, c3, c4, c5, c6, c7, c8, c9, cS⟩ := hC
  dsimp only at hpi hpj hX
  have hi8 : i < sps.length := (List.getElem?_eq_some_iff.mp hpi).1
  have hj8 : j < sps.length := (List.getElem?_eq_some_iff.mp hpj).1
  have hl8 : sps.length ≤ 8 := hW.1
  have hp := cS i p hpi
  have hq := cS j q hpj
  have wp := hW.2 p (List.mem_of_getElem? hpi)
  have wq := hW.2 q (List.mem_of_getElem? hpj)
  obtain ⟨g1, g2, g3⟩ := goes_eq p
  have hS1 := sk_of hF (show i < 8 by omega)
  have hS2 := sk_of hF (show j < 8 by omega)
  have hF49 : F ≠ 49 ∧ 49 < F := by rcases hF with rfl | rfl | rfl <;> omega
  refine v_Folk_speakTo (d := d + 4) hF hS1 hS2 ?_
  have hl12 := wp.2
  have hlen : (if (hi (F + 2 + 2 * i) 4 - nI k) < f_Kinds_goesOf (hi (F + 2 + 2 * i) 0) then (hi (F + 2 + 2 * i) 4 - nI k) else f_Kinds_goesOf (hi (F + 2 + 2 * i) 0)) = nI (arow p k).length := by
    rw [hp.1, hp.2.2.2.2.1, g1, nI_sub (by omega), arow_len]
    by_cases hlt : p.2.2.2.2.length - k < goesN p
    · rw [if_pos (nI_lt hlt (by omega)), Nat.min_eq_right (by omega)]
    · rw [if_neg (nI_nlt (by omega) (by omega)), Nat.min_eq_left (by omega)]
  rw [hlen]
  have hal := arow_len (p := p) (k := k)
  refine hears_c (d := d) (p := q) (row := arow p k) (txs := txs) hF hS2 (sh_sk1 hS1) (by omega) (by omega) (by omega) hq wq.1 wq.2 ((hp.2.2.2.2.2.drop k).take _) (by omega) (c9 0 (by omega)) hX (fun hi1 hF1 hq1 h5 => ⟨rfl, ?_⟩)
  intro hi2 e2
  have es3 : hi1 (F + 2 + 2 * i) 3 = p.2.2.2.1 := by rw [hF1 _ _ (by omega)]; exact hp.2.2.2.1
  have eF4 : pm_u hi1 (F + 2 + 2 * i) 3 (hi1 (F + 2 + 2 * i) 3 + nI (arow p k).length) F 4 = spoken := by rw [pm_u_ne (Or.inl (by omega)), hF1 F 4 (by omega)]; exact c4
  rw [eF4, es3] at e2
  subst e2
  have tF : ∀ j', j' ≠ 4 → j' ≠ 5 → pm_u (pm_u hi1 (F + 2 + 2 * i) 3 (p.2.2.2.1 + nI (arow p k).length)) F 4 (spoken + 1) F j' = hi F j' := fun j' a b => by
    rw [pm_u_ne (Or.inr a), pm_u_ne (Or.inl (by omega)), hF1 F j' (by omega)]
  refine h _ ?_ ?_
  · intro q' j' hn
    unfold PF at hn
    rw [pm_u_ne (Or.inl (by omega)), pm_u_ne (Or.inl (by omega)), hF1 q' j' (by omega)]
  · unfold asay
    dsimp only
    rw [hpi, hpj]
    dsimp only
    refine ⟨?_, (tF 3 (by omega) (by omega)).trans c3, pm_u_at, ?_, (tF 6 (by omega) (by omega)).trans c6, (tF 7 (by omega) (by omega)).trans c7, (tF 8 (by omega) (by omega)).trans c8, fun k' hk' => ?_, fun m r hr => ?_⟩
    · rw [List.length_set, List.length_set]
      exact (tF 2 (by omega) (by omega)).trans c2
    · rw [pm_u_ne (Or.inr (by omega)), pm_u_ne (Or.inl (by omega)), h5, c5]
    · rw [pm_u_ne (Or.inl (by omega)), pm_u_ne (Or.inl (by omega)), hF1 _ _ (by omega)]
      exact c9 k' hk'
    · have hm8 : m < sps.length := by
        have := (List.getElem?_eq_some_iff.mp hr).1
        rw [List.length_set, List.length_set] at this
        exact this
      by_cases hmi : m = i
      · subst hmi
        rw [List.getElem?_set_self (by rw [List.length_set]; exact hi8)] at hr
        cases hr
        have hpk : CS hi1 (F + 2 + 2 * m) p := hp.kept (fun j' => hF1 _ _ (by omega)) (fun j' => hF1 _ _ (by omega))
        exact (hpk.said _).kept (fun j' => pm_u_ne (Or.inl (by omega))) (fun j' => pm_u_ne (Or.inl (by omega)))
      · rw [List.getElem?_set_ne (Ne.symm hmi)] at hr
        by_cases hmj : m = j
        · subst hmj
          rw [List.getElem?_set_self hj8] at hr
          cases hr
          exact hq1.kept (fun j' => by rw [pm_u_ne (Or.inl (by omega)), pm_u_ne (Or.inl (by omega))]) (fun j' => by rw [pm_u_ne (Or.inl (by omega)), pm_u_ne (Or.inl (by omega))])
        · rw [List.getElem?_set_ne (Ne.symm hmj)] at hr
          exact (cS m r hr).kept (fun j' => by rw [pm_u_ne (Or.inl (by omega)), pm_u_ne (Or.inl (by omega)), hF1 _ _ (by omega)]) (fun j' => by rw [pm_u_ne (Or.inl (by omega)), pm_u_ne (Or.inl (by omega)), hF1 _ _ (by omega)])
