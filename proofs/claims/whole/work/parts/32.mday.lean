/-! ===== lessons (model side) ===== -/
def WV (f : AF) : Prop := ∀ p ∈ f.1, ∀ w ∈ p.2.2.2.2, ¬ w < 0
def PT : Nat → Nat → Prop := fun q j => (q = 142 ∧ j < 239) ∨ (q = 141 ∧ j = 5) ∨ q = 145 ∨ q = 155 ∨ q = 156
theorem mtells_c {L d i j k : Nat} {f : AF} {p q : ASp} {hi : pm_B} {Q : pm_Q} (hij : i ≠ j) (hpi : f.1[i]? = some p) (hpj : f.1[j]? = some q) (hk : k < p.2.2.2.2.length) (hW : WF f) (hV : WV f) (hM : MF (hi 142) f) (hX : MX (hi 142) f.2.2.2.2.2.2) (hO : WX f.2.2.2.2.2.2)
    (h : ∀ hi', Fr PT hi hi' → MF (hi' 142) (asay f i j k) → Q (some (.inl (nI (arow p k).length))) hi') : pm_C pm_g (SH L) HR (d + 8) m_M_tells [.inr 141, .inl (nI i), .inl (nI j), .inl (nI k)] hi Q := by
  obtain ⟨sps, talk, spoken, lost, day, z, txs⟩ := f
  obtain ⟨c0, c1, c2, c3, c4, c5, c6, cS⟩ := hM
  dsimp only at hpi hpj hX hO
  have hi8 : i < sps.length := (List.getElem?_eq_some_iff.mp hpi).1
  have hj8 : j < sps.length := (List.getElem?_eq_some_iff.mp hpj).1
  have hl8 : sps.length ≤ 8 := hW.1
  have hp := cS i p hpi
  have hq := cS j q hpj
  have wp := hW.2 p (List.mem_of_getElem? hpi)
  have wq := hW.2 q (List.mem_of_getElem? hpj)
  have vp := hV p (List.mem_of_getElem? hpi)
  have hl12 := wp.2
  have hq12 := wq.2
  have hal := arow_len (p := p) (k := k)
  refine v_M_tells (d := d + 6) (mgoesOf_c (d := d + 5) (by omega) hp ⟨_, rfl, ?_⟩)
  refine mbegins_c (d := d + 5) (by omega) hp (by omega) vp (by omega) (fun hi3 f3 hR => ⟨rfl, 7 + 29 * i + 3, by omega, ix i 3, 7 + 29 * i + 3, by omega, ix i 3, fun hi6 e6 => ?_⟩)
  have r3 : ∀ j', hi3 142 j' = hi 142 j' := fun j' => f3 142 j' (by unfold PR; omega)
  rw [r3, hp.2.2.2.1, hR.1] at e6
  have r6 : ∀ j', j' ≠ 7 + 29 * i + 3 → hi6 142 j' = hi 142 j' := fun j' hj' => by rw [e6, pm_u_ne (Or.inr hj')]; exact r3 j'
  rw [r6 4 (by omega), c4]
  have r7 : ∀ j', j' ≠ 7 + 29 * i + 3 → j' ≠ 4 → pm_u hi6 142 4 (spoken + 1) 142 j' = hi 142 j' := fun j' a b => by rw [pm_u_ne (Or.inr b)]; exact r6 j' a
  have r73 : pm_u hi6 142 4 (spoken + 1) 142 (7 + 29 * i + 3) = p.2.2.2.1 + nI (arow p k).length := by rw [pm_u_ne (Or.inr (by omega)), e6, pm_u_at]
  have r74 : pm_u hi6 142 4 (spoken + 1) 142 4 = spoken + 1 := pm_u_at
  have fo : ∀ q' j', q' ≠ 142 → pm_u hi6 142 4 (spoken + 1) q' j' = hi3 q' j' := fun q' j' hq' => by rw [pm_u_ne (Or.inl hq'), e6, pm_u_ne (Or.inl hq')]
  generalize pm_u hi6 142 4 (spoken + 1) = hi7 at r7 r73 r74 fo ⊢
  have hR7 : MR hi7 (arow p k) := ⟨(fo 141 5 (by omega)).trans hR.1, hR.2.to (fun j' _ => fo 145 j' (by omega))⟩
  have hq7 : MS (hi7 142) j q := hq.kept (fun j' a b => r7 j' (by omega) (by omega))
  refine mhears_c (d := d + 1) (txs := txs) (row := arow p k) (by omega) hq7 wq.1 hq12 hR7 (by have := (goes_eq p).2.1; omega) ((r7 6 (by omega) (by omega)).trans c6) (hX.kept (fun j' hj' => r7 j' (by omega) (by omega))) hO (fun hi9 f9 hq9 h59 => ⟨rfl, ?_⟩)
  have r9 : ∀ j', j' ≠ 5 → ¬ (7 + 29 * j + 4 ≤ j' ∧ j' < 7 + 29 * j + 29) → hi9 142 j' = hi7 142 j' := fun j' a b => f9 142 j' (by unfold PH PW PK; omega)
  have e5 : hi9 141 5 = nI (arow p k).length := by rw [f9 141 5 (by unfold PH PW PK; omega)]; exact hR7.1
  rw [e5]
  refine h hi9 (fun q' j' hn => ?_) ?_
  · unfold PT at hn
    rw [f9 q' j' (by unfold PH PW PK; omega)]
    by_cases hq' : q' = 142
    · subst hq'
      exact r7 j' (by omega) (by omega)
    · rw [fo q' j' hq', f3 q' j' (by unfold PR; omega)]
  · unfold asay
    dsimp only
    rw [hpi, hpj]
    dsimp only
    have t : ∀ j', j' < 7 → j' ≠ 4 → j' ≠ 5 → hi9 142 j' = hi 142 j' := fun j' a b c => by rw [r9 j' c (by omega)]; exact r7 j' (by omega) b
    refine ⟨(t 0 (by omega) (by omega) (by omega)).trans c0, ?_, (t 2 (by omega) (by omega) (by omega)).trans c2, (t 3 (by omega) (by omega) (by omega)).trans c3, ?_, ?_, (t 6 (by omega) (by omega) (by omega)).trans c6, fun m r hr => ?_⟩
    · rw [List.length_set, List.length_set]
      exact (t 1 (by omega) (by omega) (by omega)).trans c1
    · rw [r9 4 (by omega) (by omega)]; exact r74
    · rw [h59, r7 5 (by omega) (by omega), c5]
    · have hm8 : m < sps.length := by
        have := (List.getElem?_eq_some_iff.mp hr).1
        rw [List.length_set, List.length_set] at this
        exact this
      by_cases hmi : m = i
      · subst hmi
        rw [List.getElem?_set_self (by rw [List.length_set]; exact hi8)] at hr
        cases hr
        have u : ∀ j', 7 + 29 * m ≤ j' → j' < 7 + 29 * m + 29 → j' ≠ 7 + 29 * m + 3 → hi9 142 j' = hi 142 j' := fun j' a b c => by rw [r9 j' (by omega) (by omega)]; exact r7 j' c (by omega)
        obtain ⟨s0, s1, s2, s3, s4, sR⟩ := hp
        refine ⟨(u _ (by omega) (by omega) (by omega)).trans s0, (u _ (by omega) (by omega) (by omega)).trans s1, (u _ (by omega) (by omega) (by omega)).trans s2, ?_, (u _ (by omega) (by omega) (by omega)).trans s4, sR.to (fun k' hk' => u _ (by omega) (by omega) (by omega))⟩
        rw [r9 _ (by omega) (by omega)]
        exact r73
      · rw [List.getElem?_set_ne (Ne.symm hmi)] at hr
        by_cases hmj : m = j
        · subst hmj
          rw [List.getElem?_set_self hj8] at hr
          cases hr
          exact hq9
        · rw [List.getElem?_set_ne (Ne.symm hmj)] at hr
          have wr := (hW.2 r (List.mem_of_getElem? hr)).2
          exact (cS m r hr).kept (fun j' a b => by rw [r9 j' (by omega) (by omega)]; exact r7 j' (by omega) (by omega))
theorem MF.z {r r' : Nat → Int32} {sps : List ASp} {talk spoken lost day z v : Int32} {txs : List AT} (h : MF r (sps, talk, spoken, lost, day, z, txs)) (h0 : r' 0 = v) (hr : ∀ j, j ≠ 0 → r' j = r j) : MF r' (sps, talk, spoken, lost, day, v, txs) := by
  obtain ⟨c0, c1, c2, c3, c4, c5, c6, cS⟩ := h
  exact ⟨h0, (hr 1 (by omega)).trans c1, (hr 2 (by omega)).trans c2, (hr 3 (by omega)).trans c3, (hr 4 (by omega)).trans c4, (hr 5 (by omega)).trans c5, (hr 6 (by omega)).trans c6, fun i p hp => (cS i p hp).kept (fun j a b => hr j (by omega))⟩
theorem MF.day {r r' : Nat → Int32} {sps : List ASp} {talk spoken lost day z v : Int32} {txs : List AT} (h : MF r (sps, talk, spoken, lost, day, z, txs)) (h0 : r' 2 = v) (hr : ∀ j, j ≠ 2 → r' j = r j) : MF r' (sps, talk, spoken, lost, v, z, txs) := by
  obtain ⟨c0, c1, c2, c3, c4, c5, c6, cS⟩ := h
  exact ⟨(hr 0 (by omega)).trans c0, (hr 1 (by omega)).trans c1, h0, (hr 3 (by omega)).trans c3, (hr 4 (by omega)).trans c4, (hr 5 (by omega)).trans c5, (hr 6 (by omega)).trans c6, fun i p hp => (cS i p hp).kept (fun j a b => hr j (by omega))⟩
/-- a lesson and the day's number do not meet -/
theorem asay_day {sps : List ASp} {talk spoken lost day z : Int32} {txs : List AT} {i j k : Nat} {p q : ASp} (hp : sps[i]? = some p) (hq : sps[j]? = some q) {r r' : Nat → Int32} {v : Int32} (h : MF r (asay (sps, talk, spoken, lost, day, z, txs) i j k)) (h0 : r' 2 = v) (hr : ∀ j, j ≠ 2 → r' j = r j) : MF r' (asay (sps, talk, spoken, lost, v, z, txs) i j k) := by
  unfold asay at h ⊢
  dsimp only at h ⊢
  rw [hp, hq] at h ⊢
  dsimp only at h ⊢
  exact h.day h0 hr
theorem mtalk_tail {L d i j : Nat} {f : AF} {hi : pm_B} {Q : pm_Q} {x y : Int32} (hij : i ≠ j) (hi8 : i < f.1.length) (hj8 : j < f.1.length) (hW : WF f) (hV : WV f) (hM : MF (hi 142) f) (hX : MX (hi 142) f.2.2.2.2.2.2) (hO : WX f.2.2.2.2.2.2) (hx : x = nI i) (hy : y = nI j)
    (h : ∀ hi', Fr PT hi hi' → (∀ v r', r' 2 = v → (∀ j', j' ≠ 2 → r' j' = hi' 142 j') → MF r' (atail (f.1, f.2.1, f.2.2.1, f.2.2.2.1, v, f.2.2.2.2.2.1, f.2.2.2.2.2.2) i j)) → hi' 142 2 = f.2.2.2.2.1 → Q none hi') : ∃ k6 : Nat, k6 < 1611 ∧ ((7 + (29 * x)) + 4) = nI k6 ∧ ((((hi 142 k6) ≤ 0) → Q none hi) ∧ ((¬ ((hi 142 k6) ≤ 0)) → pm_C pm_g (SH L) HR (d + 8) m_M_draw [.inr 141] hi (fun v hi8 => ∃ x9 : Int32, v = some (.inl x9) ∧ (∃ k10 : Nat, k10 < 1611 ∧ ((7 + (29 * x)) + 4) = nI k10 ∧ ((¬ (hi8 142 k10) = 0) ∧ (pm_C pm_g (SH L) HR (d + 8) m_M_tells [.inr 141, .inl x, .inl y, .inl (x9 - x9 / (hi8 142 k10) * (hi8 142 k10))] hi8 (fun v hi11 => ∃ x12 : Int32, v = some (.inl x12) ∧ (Q none hi11)))))))) := by
  subst hx hy
  obtain ⟨sps, talk, spoken, lost, day, z, txs⟩ := f
  have hM0 := hM
  obtain ⟨c0, c1, c2, c3, c4, c5, c6, cS⟩ := hM
  have hl8 : sps.length ≤ 8 := hW.1
  dsimp only at hi8 hj8 hX hO h
  obtain ⟨p, hp⟩ : ∃ p, sps[i]? = some p := ⟨_, List.getElem?_eq_getElem hi8⟩
  obtain ⟨q, hq⟩ : ∃ q, sps[j]? = some q := ⟨_, List.getElem?_eq_getElem hj8⟩
  have hSp := cS i p hp
  have w12 := (hW.2 p (List.mem_of_getElem? hp)).2
  refine ⟨7 + 29 * i + 4, by omega, ix i 4, ?_⟩
  rw [hSp.2.2.2.2.1]
  have ea : ∀ v, atail (sps, talk, spoken, lost, v, z, txs) i j = if p.2.2.2.2.length = 0 then (sps, talk, spoken, lost, v, z, txs) else asay (sps, talk, spoken, lost, v, zn z, txs) i j (drN z % p.2.2.2.2.length) := by
    intro v; unfold atail; dsimp only; rw [hp]
  refine ⟨fun hc => ?_, fun hc => ?_⟩
  · have h0 : p.2.2.2.2.length = 0 := Nat.eq_zero_of_not_pos (fun h0 => absurd hc (nI_nle h0 (by omega)))
    refine h hi Fr.rf (fun v r' e1 e2 => ?_) c2
    rw [ea, if_pos h0]
    exact hM0.day e1 e2
  · have h0 : 0 < p.2.2.2.2.length := Nat.pos_of_ne_zero (fun h0 => hc (by rw [h0]; decide))
    refine mdraw_c (d := d + 7) c0 ⟨_, rfl, 7 + 29 * i + 4, by omega, ix i 4, ?_⟩
    have e4 : pm_u hi 142 0 (zn z) 142 (7 + 29 * i + 4) = nI p.2.2.2.2.length := by rw [pm_u_ne (Or.inr (by omega))]; exact hSp.2.2.2.2.1
    rw [e4, pk_rem (by have := (dr_eq z).2; omega) h0 (by omega)]
    refine ⟨nI_ne0 h0 (by omega), ?_⟩
    have hM1 : MF (pm_u hi 142 0 (zn z) 142) (sps, talk, spoken, lost, day, zn z, txs) := hM0.z pm_u_at (fun j' hj' => pm_u_ne (Or.inr hj'))
    have hX1 : MX (pm_u hi 142 0 (zn z) 142) txs := hX.kept (fun j' hj' => pm_u_ne (Or.inr (by omega)))
    have fr1 : Fr PT hi (pm_u hi 142 0 (zn z)) := fun q' j' hn => pm_u_ne (by unfold PT at hn; omega)
    have hk := Nat.mod_lt (drN z) h0
    have hW1 := hW.cz day (zn z)
    have hV1 : ∀ z', WV (sps, talk, spoken, lost, day, z', txs) := fun z' => hV
    have hV2 := hV1 (zn z)
    have h2 : ∀ hi' : pm_B, MF (hi' 142) (asay (sps, talk, spoken, lost, day, zn z, txs) i j (drN z % p.2.2.2.2.length)) → hi' 142 2 = day := fun hi' hm => by
      unfold asay at hm; dsimp only at hm; rw [hp, hq] at hm; exact hm.2.2.1
    simp only [ea, if_neg (show ¬ p.2.2.2.2.length = 0 by omega)] at h
    clear ea hM0 hW hV hV1
    generalize drN z % p.2.2.2.2.length = k at h h2 hk ⊢
    generalize zn z = z' at h h2 hM1 fr1 hX1 hW1 hV2 ⊢
    exact mtells_c (d := d) (f := (sps, talk, spoken, lost, day, z', txs)) hij hp hq hk hW1 hV2 hM1 hX1 hO (fun hi' hf hc' => ⟨_, rfl, h hi' (fr1.tr hf) (fun v r' a b => asay_day hp hq hc' a b) (h2 hi' hc')⟩)
theorem mday_c {L d : Nat} {f : AF} {hi : pm_B} {Q : pm_Q} (hW : WF f) (hV : WV f) (hM : MF (hi 142) f) (hX : MX (hi 142) f.2.2.2.2.2.2) (hO : WX f.2.2.2.2.2.2)
    (h : ∀ hi', Fr PT hi hi' → MF (hi' 142) (aday f) → Q none hi') : pm_C pm_g (SH L) HR (d + 10) m_M_day [.inr 141] hi Q := by
  obtain ⟨sps, talk, spoken, lost, day, z, txs⟩ := f
  have hl8 : sps.length ≤ 8 := hW.1
  dsimp only at hX hO
  have fru : ∀ (a : pm_B) (v : Int32) (j : Nat), j < 239 → Fr PT a (pm_u a 142 j v) := fun a v j hj q' j' hn => pm_u_ne (by unfold PT at hn; omega)
  have hXk : ∀ a : pm_B, Fr PT hi a → MX (a 142) txs := fun a ha => hX.kept (fun j hj => ha 142 j (by unfold PT; omega))
  refine v_M_day (d := d + 9) (mdraw_c (d := d + 8) hM.1 ⟨_, rfl, ?_⟩)
  have hM1 : MF (pm_u hi 142 0 (zn z) 142) (sps, talk, spoken, lost, day, zn z, txs) := hM.z pm_u_at (fun j' hj' => pm_u_ne (Or.inr hj'))
  have fr1 := fru hi (zn z) 0 (by omega)
  unfold aday at h
  dsimp only at h
  have hdr := (dr_eq z).2
  rw [show (100 : Int32) = nI 100 from rfl, pk_rem (by omega) (by omega) (by omega)]
  generalize pm_u hi 142 0 (zn z) = hi1 at hM1 fr1 ⊢
  rw [hM1.2.2.2.1, hM1.2.1, hM1.2.2.1]
  have hM2 : MF (pm_u hi1 142 2 (day + 1) 142) (sps, talk, spoken, lost, day + 1, zn z, txs) := hM1.day pm_u_at (fun j' hj' => pm_u_ne (Or.inr hj'))
  have fr2 := fr1.tr (fru hi1 (day + 1) 2 (by omega))
  refine ⟨fun c => ?_, fun c => ⟨fun c' => ?_, fun c' => ?_⟩⟩
  · rw [if_pos c] at h
    exact h _ fr2 hM2
  · have c2 : sps.length < 2 := by have := (nI_leI (a := sps.length) (b := 1) (by omega) (by omega)).mp c'; omega
    rw [if_neg c, if_pos c2] at h
    exact h _ fr2 hM2
  · have c2 : ¬ sps.length < 2 := fun hh => c' (nI_le (b := 1) (by omega) (by omega))
    rw [if_neg c, if_neg c2] at h
    refine v_M_talks (d := d + 7) (mdraw_c (d := d + 7) hM1.1 ⟨_, rfl, ?_⟩)
    have hd1 := (dr_eq (zn z)).2
    have hd2 := (dr_eq (zn (zn z))).2
    have hM3 : MF (pm_u hi1 142 0 (zn (zn z)) 142) (sps, talk, spoken, lost, day, zn (zn z), txs) := hM1.z pm_u_at (fun j' hj' => pm_u_ne (Or.inr hj'))
    have fr3 := fr1.tr (fru hi1 (zn (zn z)) 0 (by omega))
    generalize pm_u hi1 142 0 (zn (zn z)) = hi3 at hM3 fr3 ⊢
    rw [hM3.2.1, pk_rem (by omega) (by omega) (by omega)]
    refine ⟨nI_ne0 (by omega) (by omega), mdraw_c (d := d + 7) hM3.1 ⟨_, rfl, ?_⟩⟩
    have hM4 : MF (pm_u hi3 142 0 (zn (zn (zn z))) 142) (sps, talk, spoken, lost, day, zn (zn (zn z)), txs) := hM3.z pm_u_at (fun j' hj' => pm_u_ne (Or.inr hj'))
    have fr4 := fr3.tr (fru hi3 (zn (zn (zn z))) 0 (by omega))
    generalize pm_u hi3 142 0 (zn (zn (zn z))) = hi4 at hM4 fr4 ⊢
    rw [hM4.2.1, show nI sps.length - 1 = nI (sps.length - 1) from nI_sub (b := 1) (by omega), pk_rem (by omega) (by omega) (by omega)]
    refine ⟨nI_ne0 (by omega) (by omega), ?_⟩
    have hm1 := Nat.mod_lt (drN (zn z)) (show 0 < sps.length by omega)
    have hm2 := Nat.mod_lt (drN (zn (zn z))) (show 0 < sps.length - 1 by omega)
    have hX4 := hXk hi4 fr4
    have hW4 := hW.cz day (zn (zn (zn z)))
    have hV0 : ∀ z', WV (sps, talk, spoken, lost, day, z', txs) := fun z' => hV
    have hV4 := hV0 (zn (zn (zn z)))
    clear hV0 hV hW hM hM1 hM2 hM3 hdr hd1 hd2
    generalize drN (zn (zn z)) % (sps.length - 1) = b at h hm2 ⊢
    generalize drN (zn z) % sps.length = a at h hm1 ⊢
    generalize zn (zn (zn z)) = z' at h hM4 fr4 hW4 hV4 ⊢
    refine ⟨fun c3 => ?_, fun c3 => ?_⟩
    · have c4 := (nI_ltI (by omega) (by omega)).mp c3
      rw [if_pos c4] at h
      exact mtalk_tail (d := d) (i := a) (j := b) (Q := fun v hi5 => v = none ∧ Q none (pm_u hi5 142 2 ((hi5 142 2) + 1))) (f := (sps, talk, spoken, lost, day, z', txs)) (by omega) hm1 (by dsimp only; omega) hW4 hV4 hM4 hX4 hO rfl (Int32.add_zero _) (fun hi' hf hr h2 => ⟨rfl, h _ ((fr4.tr hf).tr (fru hi' _ 2 (by omega))) (hr _ _ (by rw [pm_u_at, h2]) (fun j' hj' => pm_u_ne (Or.inr hj')))⟩)
    · have c4 : ¬ b < a := fun hh => c3 (nI_lt hh (by omega))
      rw [if_neg c4] at h
      exact mtalk_tail (d := d) (i := a) (j := b + 1) (Q := fun v hi5 => v = none ∧ Q none (pm_u hi5 142 2 ((hi5 142 2) + 1))) (f := (sps, talk, spoken, lost, day, z', txs)) (by omega) hm1 (by dsimp only; omega) hW4 hV4 hM4 hX4 hO rfl (nI_1 _) (fun hi' hf hr h2 => ⟨rfl, h _ ((fr4.tr hf).tr (fru hi' _ 2 (by omega))) (hr _ _ (by rw [pm_u_at, h2]) (fun j' hj' => pm_u_ne (Or.inr hj')))⟩)
