/-! ===== the folk: lessons and days (class side) ===== -/
/-- a folk: speakers, talk, spoken, lost, day, z, texts -/
abbrev AF : Type := List ASp × Int32 × Int32 × Int32 × Int32 × Int32 × List AT
def CF (hi : pm_B) (F : Nat) (f : AF) : Prop := match f with
  | (sps, talk, spoken, lost, day, z, txs) => hi F 2 = nI sps.length ∧ hi F 3 = talk ∧ hi F 4 = spoken ∧ hi F 5 = lost ∧ hi F 6 = day ∧ hi F 7 = z ∧ hi F 8 = nI txs.length ∧ (∀ k, k < 3 → hi (F + 18) k = lix (lk txs (nI k))) ∧ ∀ i p, sps[i]? = some p → CS hi (F + 2 + 2 * i) p
def WS (p : ASp) : Prop := WEar p ∧ p.2.2.2.2.length ≤ 12
def WF (f : AF) : Prop := f.1.length ≤ 8 ∧ ∀ p ∈ f.1, WS p
def zn (z : Int32) : Int32 := z * 1103515245 + 12345
def drN (z : Int32) : Nat := (zn z).toBitVec.toNat / 256
theorem nI_bv (y : Int32) : nI y.toBitVec.toNat = y := by
  apply Int32.toBitVec_inj.mp
  show BitVec.ofNat 32 y.toBitVec.toNat = y.toBitVec
  simp
theorem dr_eq (z : Int32) : ((Int32.toUInt32 (zn z) >>> (Int32.toUInt32 8 &&& Int32.toUInt32 31)).toInt32) = nI (drN z) ∧ drN z < 16777216 := by
  have h := pk_ushr (zn z) 8 8 (by decide)
  refine ⟨?_, ?_⟩
  · rw [← nI_bv ((Int32.toUInt32 (zn z) >>> (Int32.toUInt32 8 &&& Int32.toUInt32 31)).toInt32), h]
    rfl
  · have := (zn z).toBitVec.isLt
    unfold drN
    omega
theorem drawBelow_c {L d F n : Nat} {z : Int32} {hi : pm_B} {Q : pm_Q} (hF : pm_fo F) (hn : 0 < n) (hn2 : n ≤ 1000) (hz : hi F 7 = z) (h : Q (some (.inl (nI (drN z % n)))) (pm_u hi F 7 (zn z))) : pm_C pm_g (SH L) HR (d + 1) m_Folk_drawBelow [.inr F, .inl (nI n)] hi Q := by
  refine v_Folk_drawBelow hF ⟨fun hc => absurd hc (nI_nle hn (by omega)), fun _ => ⟨nI_ne0 hn (by omega), ?_⟩⟩
  obtain ⟨e1, e2⟩ := dr_eq z
  rw [pm_u_at, hz, show z * 1103515245 + 12345 = zn z from rfl, e1, pk_rem (by omega) hn (by omega)]
  exact h
def goesN (p : ASp) : Nat := (f_Kinds_goesOf p.1).toNatClampNeg
theorem goes_eq (p : ASp) : f_Kinds_goesOf p.1 = nI (goesN p) ∧ goesN p ≤ 9 ∧ 2 ≤ goesN p := by
  unfold goesN f_Kinds_goesOf
  split
  · decide
  split
  · decide
  split
  · decide
  split
  · decide
  · decide
/-- the piece that one speaks from place k on -/
def arow (p : ASp) (k : Nat) : List Int32 := (p.2.2.2.2.drop k).take (goesN p)
theorem arow_len {p : ASp} {k : Nat} : (arow p k).length = min (goesN p) (p.2.2.2.2.length - k) := by unfold arow; rw [List.length_take, List.length_drop]
/-- one (i) speaks to another (j) from place k on -/
def asay (f : AF) (i j k : Nat) : AF := match f with
  | (sps, talk, spoken, lost, day, z, txs) => match sps[i]?, sps[j]? with
    | some p, some q => ((sps.set j (ahears txs q (arow p k))).set i (p.1, p.2.1, p.2.2.1, p.2.2.2.1 + nI (arow p k).length, p.2.2.2.2), talk, spoken + 1, lost + nI (ahl txs q (arow p k)), day, z, txs)
    | _, _ => f
theorem CS.said {hi : pm_B} {S : Nat} {p : ASp} (h : CS hi S p) (v : Int32) : CS (pm_u hi S 3 v) S (p.1, p.2.1, p.2.2.1, v, p.2.2.2.2) := by
  obtain ⟨a, b, c, d, e, f⟩ := h
  refine ⟨?_, ?_, ?_, pm_u_at, ?_, ?_⟩
  · rw [pm_u_ne (Or.inr (by omega))]; exact a
  · rw [pm_u_ne (Or.inr (by omega))]; exact b
  · rw [pm_u_ne (Or.inr (by omega))]; exact c
  · rw [pm_u_ne (Or.inr (by omega))]; exact e
  · exact f.to (fun k _ => pm_u_ne (Or.inl (by omega)))
def PF (F : Nat) : Nat → Nat → Prop := fun q _ => q = 49 ∨ q = F ∨ (F + 2 ≤ q ∧ q < F + 18)
theorem speakTo_c {L d F i j k : Nat} {f : AF} {p q : ASp} {hi : pm_B} {Q : pm_Q} (hF : pm_fo F) (hij : i ≠ j) (hpi : f.1[i]? = some p) (hpj : f.1[j]? = some q) (hk : k < p.2.2.2.2.length) (hW : WF f) (hC : CF hi F f) (hX : CX hi f.2.2.2.2.2.2)
    (h : ∀ hi', Fr (PF F) hi hi' → CF hi' F (asay f i j k) → Q (some (.inl (nI (arow p k).length))) hi') : pm_C pm_g (SH L) HR (d + 6) m_Folk_speakTo [.inr F, .inr (F + 2 + 2 * i), .inr (F + 2 + 2 * j), .inl (nI k)] hi Q := by
  obtain ⟨sps, talk, spoken, lost, day, z, txs⟩ := f
  obtain ⟨c2, c3, c4, c5, c6, c7, c8, c9, cS⟩ := hC
  dsimp only at hpi hpj hX
  have hi8 : i < sps.length := (List.getElem?_eq_some_iff.mp hpi).1
  have hj8 : j < sps.length := (List.getElem?_eq_some_iff.mp hpj).1
  have hl8 : sps.length ≤ 8 := hW.1
  have hp := cS i p hpi
  have hq := cS j q hpj
  have wp := hW.2 p (List.mem_of_getElem? hpi)
  have wq := hW.2 q (List.mem_of_getElem? hpj)
  obtain ⟨g1, g2, g3⟩ := goes_eq p
  have hS1 := sk_of hF (show i < 8 by omega)
  have hS2 := sk_of hF (show j < 8 by omega)
  have hF49 : F ≠ 49 ∧ 49 < F := by rcases hF with rfl | rfl | rfl <;> omega
  refine v_Folk_speakTo (d := d + 4) hF hS1 hS2 ?_
  have hl12 := wp.2
  have hlen : (if (hi (F + 2 + 2 * i) 4 - nI k) < f_Kinds_goesOf (hi (F + 2 + 2 * i) 0) then (hi (F + 2 + 2 * i) 4 - nI k) else f_Kinds_goesOf (hi (F + 2 + 2 * i) 0)) = nI (arow p k).length := by
    rw [hp.1, hp.2.2.2.2.1, g1, nI_sub (by omega), arow_len]
    by_cases hlt : p.2.2.2.2.length - k < goesN p
    · rw [if_pos (nI_lt hlt (by omega)), Nat.min_eq_right (by omega)]
    · rw [if_neg (nI_nlt (by omega) (by omega)), Nat.min_eq_left (by omega)]
  rw [hlen]
  have hal := arow_len (p := p) (k := k)
  refine hears_c (d := d) (p := q) (row := arow p k) (txs := txs) hF hS2 (sh_sk1 hS1) (by omega) (by omega) (by omega) hq wq.1 wq.2 ((hp.2.2.2.2.2.drop k).take _) (by omega) (c9 0 (by omega)) hX (fun hi1 hF1 hq1 h5 => ⟨rfl, ?_⟩)
  intro hi2 e2
  have es3 : hi1 (F + 2 + 2 * i) 3 = p.2.2.2.1 := by rw [hF1 _ _ (by omega)]; exact hp.2.2.2.1
  have eF4 : pm_u hi1 (F + 2 + 2 * i) 3 (hi1 (F + 2 + 2 * i) 3 + nI (arow p k).length) F 4 = spoken := by rw [pm_u_ne (Or.inl (by omega)), hF1 F 4 (by omega)]; exact c4
  rw [eF4, es3] at e2
  subst e2
  have tF : ∀ j', j' ≠ 4 → j' ≠ 5 → pm_u (pm_u hi1 (F + 2 + 2 * i) 3 (p.2.2.2.1 + nI (arow p k).length)) F 4 (spoken + 1) F j' = hi F j' := fun j' a b => by
    rw [pm_u_ne (Or.inr a), pm_u_ne (Or.inl (by omega)), hF1 F j' (by omega)]
  refine h _ ?_ ?_
  · intro q' j' hn
    unfold PF at hn
    rw [pm_u_ne (Or.inl (by omega)), pm_u_ne (Or.inl (by omega)), hF1 q' j' (by omega)]
  · unfold asay
    dsimp only
    rw [hpi, hpj]
    dsimp only
    refine ⟨?_, (tF 3 (by omega) (by omega)).trans c3, pm_u_at, ?_, (tF 6 (by omega) (by omega)).trans c6, (tF 7 (by omega) (by omega)).trans c7, (tF 8 (by omega) (by omega)).trans c8, fun k' hk' => ?_, fun m r hr => ?_⟩
    · rw [List.length_set, List.length_set]
      exact (tF 2 (by omega) (by omega)).trans c2
    · rw [pm_u_ne (Or.inr (by omega)), pm_u_ne (Or.inl (by omega)), h5, c5]
    · rw [pm_u_ne (Or.inl (by omega)), pm_u_ne (Or.inl (by omega)), hF1 _ _ (by omega)]
      exact c9 k' hk'
    · have hm8 : m < sps.length := by
        have := (List.getElem?_eq_some_iff.mp hr).1
        rw [List.length_set, List.length_set] at this
        exact this
      by_cases hmi : m = i
      · subst hmi
        rw [List.getElem?_set_self (by rw [List.length_set]; exact hi8)] at hr
        cases hr
        have hpk : CS hi1 (F + 2 + 2 * m) p := hp.kept (fun j' => hF1 _ _ (by omega)) (fun j' => hF1 _ _ (by omega))
        exact (hpk.said _).kept (fun j' => pm_u_ne (Or.inl (by omega))) (fun j' => pm_u_ne (Or.inl (by omega)))
      · rw [List.getElem?_set_ne (Ne.symm hmi)] at hr
        by_cases hmj : m = j
        · subst hmj
          rw [List.getElem?_set_self hj8] at hr
          cases hr
          exact hq1.kept (fun j' => by rw [pm_u_ne (Or.inl (by omega)), pm_u_ne (Or.inl (by omega))]) (fun j' => by rw [pm_u_ne (Or.inl (by omega)), pm_u_ne (Or.inl (by omega))])
        · rw [List.getElem?_set_ne (Ne.symm hmj)] at hr
          exact (cS m r hr).kept (fun j' => by rw [pm_u_ne (Or.inl (by omega)), pm_u_ne (Or.inl (by omega)), hF1 _ _ (by omega)]) (fun j' => by rw [pm_u_ne (Or.inl (by omega)), pm_u_ne (Or.inl (by omega)), hF1 _ _ (by omega)])
theorem CF.z {hi : pm_B} {F : Nat} {sps : List ASp} {talk spoken lost day z : Int32} {txs : List AT} (h : CF hi F (sps, talk, spoken, lost, day, z, txs)) (v : Int32) : CF (pm_u hi F 7 v) F (sps, talk, spoken, lost, day, v, txs) := by
  obtain ⟨c2, c3, c4, c5, c6, c7, c8, c9, cS⟩ := h
  have t : ∀ j, j ≠ 7 → pm_u hi F 7 v F j = hi F j := fun j hj => pm_u_ne (Or.inr hj)
  refine ⟨(t 2 (by omega)).trans c2, (t 3 (by omega)).trans c3, (t 4 (by omega)).trans c4, (t 5 (by omega)).trans c5, (t 6 (by omega)).trans c6, pm_u_at, (t 8 (by omega)).trans c8, fun k hk => ?_, fun i p hp => ?_⟩
  · rw [pm_u_ne (Or.inl (by omega))]; exact c9 k hk
  · exact (cS i p hp).kept (fun j => pm_u_ne (Or.inl (by omega))) (fun j => pm_u_ne (Or.inl (by omega)))
theorem CF.day {hi : pm_B} {F : Nat} {sps : List ASp} {talk spoken lost day z : Int32} {txs : List AT} (h : CF hi F (sps, talk, spoken, lost, day, z, txs)) (v : Int32) : CF (pm_u hi F 6 v) F (sps, talk, spoken, lost, v, z, txs) := by
  obtain ⟨c2, c3, c4, c5, c6, c7, c8, c9, cS⟩ := h
  have t : ∀ j, j ≠ 6 → pm_u hi F 6 v F j = hi F j := fun j hj => pm_u_ne (Or.inr hj)
  refine ⟨(t 2 (by omega)).trans c2, (t 3 (by omega)).trans c3, (t 4 (by omega)).trans c4, (t 5 (by omega)).trans c5, pm_u_at, (t 7 (by omega)).trans c7, (t 8 (by omega)).trans c8, fun k hk => ?_, fun i p hp => ?_⟩
  · rw [pm_u_ne (Or.inl (by omega))]; exact c9 k hk
  · exact (cS i p hp).kept (fun j => pm_u_ne (Or.inl (by omega))) (fun j => pm_u_ne (Or.inl (by omega)))
theorem CX.keep {hi hi' : pm_B} {txs : List AT} {F : Nat} (hF : pm_fo F) (hf : Fr (PF F) hi hi') (h : CX hi txs) : CX hi' txs :=
  h.kept (fun q j h1 h2 => hf q j (fun hp => by unfold PF at hp; rcases hF with rfl | rfl | rfl <;> omega))
theorem WF.cz {sps : List ASp} {talk spoken lost day z : Int32} {txs : List AT} (h : WF (sps, talk, spoken, lost, day, z, txs)) (day' z' : Int32) : WF (sps, talk, spoken, lost, day', z', txs) := ⟨h.1, h.2⟩
/-- the lesson of a day: one (i) to another (j), if the one has words -/
def atail (f : AF) (i j : Nat) : AF := match f with
  | (sps, talk, spoken, lost, day, z, txs) => match sps[i]? with
    | none => f
    | some p => if p.2.2.2.2.length = 0 then f else asay (sps, talk, spoken, lost, day, zn z, txs) i j (drN z % p.2.2.2.2.length)
theorem day_tail {L d F i j : Nat} {f : AF} {hi : pm_B} {Q : pm_Q} {x y : Int32} (hF : pm_fo F) (hij : i ≠ j) (hi8 : i < f.1.length) (hj8 : j < f.1.length) (hW : WF f) (hC : CF hi F f) (hX : CX hi f.2.2.2.2.2.2) (hx : x = nI i) (hy : y = nI j)
    (h : ∀ hi', Fr (PF F) hi hi' → CF hi' F (atail f i j) → Q none hi') : ((x < 0) → Q none hi) ∧ ((¬ (x < 0)) → (((hi F 2) ≤ x) → Q none hi) ∧ ((¬ ((hi F 2) ≤ x)) → ((8 ≤ x) → Q none hi) ∧ ((¬ (8 ≤ x)) → ((y < 0) → Q none hi) ∧ ((¬ (y < 0)) → (((hi F 2) ≤ y) → Q none hi) ∧ ((¬ ((hi F 2) ≤ y)) → ((8 ≤ y) → Q none hi) ∧ ((¬ (8 ≤ y)) → ∃ k16 : Nat, k16 < 8 ∧ x = nI k16 ∧ ((((hi (F + 2 + 2 * k16) 4) ≤ 0) → Q none hi) ∧ ((¬ ((hi (F + 2 + 2 * k16) 4) ≤ 0)) → ∃ k18 : Nat, k18 < 8 ∧ y = nI k18 ∧ (pm_C pm_g (SH L) HR (d + 6) m_Folk_drawBelow [.inr F, .inl (hi (F + 2 + 2 * k16) 4)] hi (fun v hi19 => ∃ x20 : Int32, v = some (.inl x20) ∧ (pm_C pm_g (SH L) HR (d + 6) m_Folk_speakTo [.inr F, .inr (F + 2 + 2 * k16), .inr (F + 2 + 2 * k18), .inl x20] hi19 (fun v hi21 => ∃ x22 : Int32, v = some (.inl x22) ∧ (Q none hi21))))))))))))) := by
  subst hx hy
  obtain ⟨sps, talk, spoken, lost, day, z, txs⟩ := f
  have hC0 := hC
  obtain ⟨c2, c3, c4, c5, c6, c7, c8, c9, cS⟩ := hC
  have hl8 : sps.length ≤ 8 := hW.1
  dsimp only at hi8 hj8 hX
  have e8 : (8 : Int32) = nI 8 := rfl
  rw [c2, e8]
  refine ⟨fun hc => absurd hc (nI_pos (by omega)), fun _ => ⟨fun hc => absurd hc (nI_ge hi8 (by omega)), fun _ => ⟨fun hc => absurd hc (nI_ge (by omega) (by omega)), fun _ => ⟨fun hc => absurd hc (nI_pos (by omega)), fun _ => ⟨fun hc => absurd hc (nI_ge hj8 (by omega)), fun _ => ⟨fun hc => absurd hc (nI_ge (by omega) (by omega)), fun _ => ⟨i, by omega, rfl, ?_⟩⟩⟩⟩⟩⟩⟩
  obtain ⟨p, hp⟩ : ∃ p, sps[i]? = some p := ⟨_, List.getElem?_eq_getElem hi8⟩
  obtain ⟨q, hq⟩ : ∃ q, sps[j]? = some q := ⟨_, List.getElem?_eq_getElem hj8⟩
  have hSp := cS i p hp
  have w12 := (hW.2 p (List.mem_of_getElem? hp)).2
  rw [hSp.2.2.2.2.1]
  have ea : atail (sps, talk, spoken, lost, day, z, txs) i j = if p.2.2.2.2.length = 0 then (sps, talk, spoken, lost, day, z, txs) else asay (sps, talk, spoken, lost, day, zn z, txs) i j (drN z % p.2.2.2.2.length) := by
    unfold atail; dsimp only; rw [hp]
  rw [ea] at h
  refine ⟨fun hc => ?_, fun hc => ⟨j, by omega, rfl, ?_⟩⟩
  · have h0 : p.2.2.2.2.length = 0 := Nat.eq_zero_of_not_pos (fun h0 => absurd hc (nI_nle h0 (by omega)))
    rw [if_pos h0] at h
    exact h hi Fr.rf hC0
  · have h0 : 0 < p.2.2.2.2.length := Nat.pos_of_ne_zero (fun h0 => hc (by rw [h0]; decide))
    rw [if_neg (by omega)] at h
    have hC1 := hC0.z (zn z)
    have fr1 : Fr (PF F) hi (pm_u hi F 7 (zn z)) := fun q' j' hn => pm_u_ne (Or.inl (fun hh => hn (Or.inr (Or.inl hh))))
    refine drawBelow_c (d := d + 5) hF h0 (by omega) c7 ⟨_, rfl, ?_⟩
    have hX1 : CX (pm_u hi F 7 (zn z)) txs := hX.keep hF fr1
    have hW1 := hW.cz day (zn z)
    have hk := Nat.mod_lt (drN z) h0
    generalize drN z % p.2.2.2.2.length = k at h hk ⊢
    generalize zn z = z' at h hC1 fr1 hX1 hW1 ⊢
    exact speakTo_c (d := d) (f := (sps, talk, spoken, lost, day, z', txs)) hF hij hp hq hk hW1 hC1 hX1 (fun hi' hf hc' => ⟨_, rfl, h hi' (fr1.tr hf) hc'⟩)
/-- one day -/
def aday (f : AF) : AF := match f with
  | (sps, talk, spoken, lost, day, z, txs) =>
    if talk ≤ nI (drN z % 100) then (sps, talk, spoken, lost, day + 1, zn z, txs)
    else if sps.length < 2 then (sps, talk, spoken, lost, day + 1, zn z, txs)
    else atail (sps, talk, spoken, lost, day + 1, zn (zn (zn z)), txs) (drN (zn z) % sps.length)
          (if drN (zn (zn z)) % (sps.length - 1) < drN (zn z) % sps.length then drN (zn (zn z)) % (sps.length - 1) else drN (zn (zn z)) % (sps.length - 1) + 1)
theorem passDay_c {L d F : Nat} {f : AF} {hi : pm_B} {Q : pm_Q} (hF : pm_fo F) (hW : WF f) (hC : CF hi F f) (hX : CX hi f.2.2.2.2.2.2)
    (h : ∀ hi', Fr (PF F) hi hi' → CF hi' F (aday f) → Q none hi') : pm_C pm_g (SH L) HR (d + 7) m_Folk_passDay [.inr F] hi Q := by
  obtain ⟨sps, talk, spoken, lost, day, z, txs⟩ := f
  have hl8 : sps.length ≤ 8 := hW.1
  dsimp only at hX
  refine v_Folk_passDay (d := d + 5) hF ?_
  have fru : ∀ (a : pm_B) (v : Int32) (j : Nat), Fr (PF F) a (pm_u a F j v) := fun a v j q' j' hn => pm_u_ne (Or.inl (fun hh => hn (Or.inr (Or.inl hh))))
  have hC1 := hC.z (zn z)
  refine drawBelow_c (d := d + 5) (n := 100) hF (by omega) (by omega) hC.2.2.2.2.2.1 ⟨_, rfl, ?_⟩
  rw [hC1.2.1, hC1.1, hC1.2.2.2.2.1]
  have hC2 := hC1.day (day + 1)
  have fr2 := (fru hi (zn z) 7).tr (fru (pm_u hi F 7 (zn z)) (day + 1) 6)
  unfold aday at h
  dsimp only at h
  refine ⟨fun c => ?_, fun c => ⟨fun c' => ?_, fun c' => ?_⟩⟩
  · rw [if_pos c] at h
    exact h _ fr2 hC2
  · rw [if_neg c, if_pos ((nI_ltI (a := sps.length) (b := 2) (by omega) (by omega)).mp c')] at h
    exact h _ fr2 hC2
  · have c2 : ¬ sps.length < 2 := fun hh => c' (nI_lt (b := 2) hh (by omega))
    rw [if_neg c, if_neg c2] at h
    have fr2' := fr2
    generalize pm_u (pm_u hi F 7 (zn z)) F 6 (day + 1) = hi2 at hC2 fr2' ⊢
    rw [hC2.1]
    refine drawBelow_c (d := d + 5) hF (by omega) (by omega) hC2.2.2.2.2.2.1 ⟨_, rfl, ?_⟩
    have hC3 := hC2.z (zn (zn z))
    have fr3 := fr2'.tr (fru hi2 (zn (zn z)) 7)
    generalize pm_u hi2 F 7 (zn (zn z)) = hi3 at hC3 fr3 ⊢
    rw [hC3.1, show nI sps.length - 1 = nI (sps.length - 1) from nI_sub (b := 1) (by omega)]
    refine drawBelow_c (d := d + 5) hF (by omega) (by omega) hC3.2.2.2.2.2.1 ⟨_, rfl, ?_⟩
    have hC4 := hC3.z (zn (zn (zn z)))
    have fr4 := fr3.tr (fru hi3 (zn (zn (zn z))) 7)
    generalize pm_u hi3 F 7 (zn (zn (zn z))) = hi4 at hC4 fr4 ⊢
    have hX4 := hX.keep hF fr4
    have hm1 := Nat.mod_lt (drN (zn z)) (show 0 < sps.length by omega)
    have hm2 := Nat.mod_lt (drN (zn (zn z))) (show 0 < sps.length - 1 by omega)
    refine ⟨fun c3 => ?_, fun c3 => ?_⟩
    · have c4 := (nI_ltI (by omega) (by omega)).mp c3
      rw [if_pos c4] at h
      exact day_tail (d := d) (f := (sps, talk, spoken, lost, day + 1, zn (zn (zn z)), txs)) hF (by omega) hm1 (by dsimp only; omega) (hW.cz _ _) hC4 hX4 rfl rfl (fun hi' hf hc => h hi' (fr4.tr hf) hc)
    · have c4 : ¬ _ := fun hh => c3 (nI_lt hh (by omega))
      rw [if_neg c4] at h
      exact day_tail (d := d) (f := (sps, talk, spoken, lost, day + 1, zn (zn (zn z)), txs)) hF (by omega) hm1 (by dsimp only; omega) (hW.cz _ _) hC4 hX4 rfl (nI_1 _) (fun hi' hf hc => h hi' (fr4.tr hf) hc)
