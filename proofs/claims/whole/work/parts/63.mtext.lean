/-! ===== text: the model's side ===== -/
theorem MI.add {hi hi' : pm_B} {s : St} {t : AT} (h : MI hi s) (hW : WI s) (hn : (txo s.1).length < 14) (hk : ∀ q j, 141 ≤ q → q ≠ 142 → hi' q j = hi q j) (hkk : ∀ j, j ≠ 6 → ¬ (239 + 2 * (txo s.1).length ≤ j ∧ j ≤ 240 + 2 * (txo s.1).length) → ¬ (267 + 96 * (txo s.1).length ≤ j ∧ j < 267 + 96 * (txo s.1).length + 96) → hi' 142 j = hi 142 j) (h6 : hi' 142 6 = nI ((txo s.1).length + 1)) (hT : MT (hi' 142) (txo s.1).length t) : MI hi' (aTx s.1 t, s.2) := by
  obtain ⟨a1, a2, a3, a4, a5, a6, a7, a8, a9, a10⟩ := h
  have k : ∀ q j, 141 ≤ q ∧ q ≠ 142 → hi' q j = hi q j := fun q j c => hk q j c.1 c.2
  have l24 := hW.1.l24
  have l8 := hW.1.1
  refine ⟨?_, fun hz => (a2 hz).kept hW.2.2.1.l24 hW.2.2.1.1 (fun j u => k _ j (by omega)), ?_, a4.kept' (fun j u v => k _ j (by omega)), (k _ _ (by omega)).trans a5, ⟨(k _ _ (by omega)).trans a6.1, a6.2.to (fun j _ => k _ _ (by omega))⟩, fun i hi4 => (a7 i hi4).kept (fun q j u v => k q j (by omega)), fun i hi5 => (a8 i hi5).kept (fun q j u v => k q j (by omega)), ⟨(k _ _ (by omega)).trans a9.1, a9.2.to (fun j _ => k _ _ (by omega))⟩, fun q j u => (k q j (by omega)).trans (a10 q j u)⟩
  · generalize s.1 = f at *
    obtain ⟨sps, talk, spoken, lost, day, z, txs⟩ := f
    obtain ⟨c0, c1, c2, c3, c4, c5, c6, cS⟩ := a1
    dsimp only at l8 l24 hkk h6
    have g : ∀ j, j < 239 → j ≠ 6 → hi' 142 j = hi 142 j := fun j h1 h2 => hkk j h2 (by omega) (by omega)
    refine ⟨(g _ (by omega) (by omega)).trans c0, (g _ (by omega) (by omega)).trans c1, (g _ (by omega) (by omega)).trans c2, (g _ (by omega) (by omega)).trans c3, (g _ (by omega) (by omega)).trans c4, (g _ (by omega) (by omega)).trans c5, ?_, fun m q hq => ?_⟩
    · rw [h6, List.length_append]; rfl
    · have hm : m < sps.length := (List.getElem?_eq_some_iff.mp hq).1
      have := l24 q (List.mem_of_getElem? hq)
      exact (cS m q hq).kept (fun j a b => g j (by omega) (by omega))
  · refine ⟨?_, fun i t' hi' => ?_⟩
    · show (txo s.1 ++ [t]).length ≤ 14
      rw [List.length_append]
      show (txo s.1).length + 1 ≤ 14
      omega
    · have hl := (List.getElem?_eq_some_iff.mp hi').1
      have hl : i < (txo s.1 ++ [t]).length := hl
      rw [List.length_append] at hl
      have hl : i < (txo s.1).length + 1 := hl
      by_cases c : i < (txo s.1).length
      · have hi' : (txo s.1 ++ [t])[i]? = some t' := hi'
        rw [List.getElem?_append_left c] at hi'
        obtain ⟨K, b1, b2, b3, b4, b5, b6⟩ := a3.2 i t' hi'
        refine ⟨K, b1, b2, b3, (hkk _ (by omega) (by omega) (by omega)).trans b4, (hkk _ (by omega) (by omega) (by omega)).trans b5, b6.to (fun j hj => ?_)⟩
        rw [List.length_map] at hj
        exact hkk _ (by omega) (by omega) (by omega)
      · have e : i = (txo s.1).length := by omega
        have hi' : (txo s.1 ++ [t])[i]? = some t' := hi'
        rw [e, List.getElem?_concat_length] at hi'
        rw [← Option.some.inj hi', e]
        exact hT
theorem M_text {L d : Nat} {s : St} {hi : pm_B} {Q : pm_Q} (hW : WI s) (hM : MI hi s) (h : MP hi (o_text s) Q) : pm_C pm_g (SH L) HR (d + 20) m_M_text [.inr 141] hi Q := by
  have hB := hW.wb
  have hT0 : WI (uT s []) := tape_WI hW (Nat.zero_le _) (fun b hb => absurd hb List.not_mem_nil)
  have hn14 := hM.2.2.1.1
  have e6 := hM.1.tn
  have hb := hM.2.2.2.2.2.1
  have fin : ∀ hi2, Fr PV hi hi2 → MI (pm_u hi2 141 11 0) (uT s []) ∧ Fr PQ hi (pm_u hi2 141 11 0) := by
    intro hi2 hf
    refine ⟨hM.tape hW (fun q j hq hn => ?_) ⟨pm_u_at, Row.nil⟩, fun q j hn => ?_⟩
    · rw [pm_u_ne (by omega)]; exact hf q j (by unfold PV; omega)
    · unfold PQ at hn
      rw [pm_u_ne (by omega)]; exact hf q j (by unfold PV; omega)
  unfold o_text at h
  refine v_M_text (d := d + 19) (fun hi1 e1 => ?_)
  have hf1 : Fr PV hi hi1 := fun q j hn => by
    unfold PV at hn
    rw [e1, pm_u_ne (by omega), pm_u_ne (by omega)]
  have hT1 : MTp hi1 s.2.2.2.1 := MTp.pv hb hf1
  have g2 : hi1 141 12 = nI 0 := by rw [e1, pm_u_ne (Or.inr (by omega)), pm_u_at]; rfl
  have g6 : hi1 141 16 = -1 := by rw [e1, pm_u_at]
  refine mgo_c (d := d + 17) (s := 0) hB hT1 g2 (Nat.zero_le _) (Or.inr ⟨by decide, fun x _ hx hh => ?_⟩) (fun hi2 hf2 hC2 => ⟨rfl, ?_⟩)
  · rw [g6] at hh
    exact absurd (show nI x < 0 by rw [← hh]; decide) (nI_nlt (b := 0) (by omega) (by omega))
  have hfa := hf1.tr hf2.pc
  have hK2 : MK hi2 := fun q j hq => (hfa q j (by unfold PV; omega)).trans (hM.2.2.2.2.2.2.2.2.2 q j hq)
  have hCu := stp_Cu hB (s := 0) (e := 0) (by decide)
  have hno := fun x => all_no (bs := s.2.2.2.1) x
  have hok := txt_ok hB
  refine takesKey_c (d := d + 16) (p := pStep s.2.2.2.1 p0) hB hC2 hCu.1 (stp_len hB) hK2 (fun hk => ⟨_, rfl, fun _ => ?_, fun c => absurd rfl c⟩) (fun w hw hk hi3 hf3 hC3 h17 => ⟨_, rfl, fun c => absurd c (by decide), fun _ => ?_⟩)
  · have hp := hno hk
    unfold oText at h
    have hfin := fin hi2 hfa
    have e13 : pm_u hi2 141 11 0 141 13 = nI (pStep s.2.2.2.1 p0).2.1 := by rw [pm_u_ne (Or.inr (by omega))]; exact hC2.2.2.1
    rw [e13]
    generalize pAll s.2.2.2.1 = pa at h hp
    rw [if_neg (by rw [hp]; intro y; cases y), hp] at h
    exact h _ hfin.2 hfin.1
  · have hfb := hfa.tr hf3
    refine takesE_c (d := d + 14) hB hk hC3 h17 (fun x hx hi6 hf6 e13 => ⟨_, rfl, fun _ => ?_, fun c => absurd rfl c⟩) (fun hx hi6 hf6 k17 k21 k52 k22 => ⟨_, rfl, fun c => absurd c (by decide), fun _ => ?_⟩)
    · unfold oText at h
      have hfin := fin hi6 (hfb.tr hf6)
      have e13 : pm_u hi6 141 11 0 141 13 = nI x := by rw [pm_u_ne (Or.inr (by omega))]; exact e13
      rw [e13]
      generalize pAll s.2.2.2.1 = pa at h hx
      rw [if_neg (by rw [hx]; intro y; cases y), hx] at h
      exact h _ hfin.2 hfin.1
    · obtain ⟨w', hw', e1', h1', h2', h3'⟩ := hok hx
      have eky : (pAll s.2.2.2.1).1 = nI w := by unfold pAll; rw [hk]
      unfold oText at h
      have hfc := hfb.tr hf6
      have hfin := fin hi6 hfc
      clear hok hno hk
      generalize pAll s.2.2.2.1 = pa at h hx e1' h1' h2' h3' k21 k52 k22 eky
      rw [if_pos hx] at h
      have e6' : pm_u hi6 141 11 0 142 6 = nI (txo s.1).length := by rw [pm_u_ne (Or.inl (by omega)), hfc 142 6 (by unfold PV; omega)]; exact e6
      have i17 : pm_u hi6 141 11 0 141 17 = nI w := by rw [pm_u_ne (Or.inr (by omega))]; exact k17
      have i21 : pm_u hi6 141 11 0 141 21 = nI pa.2.2.2.2.2.2.2.1.length := by rw [pm_u_ne (Or.inr (by omega))]; exact k21
      have i22 : pm_u hi6 141 11 0 141 22 = nI pa.2.2.2.2.2.2.2.2 := by rw [pm_u_ne (Or.inr (by omega))]; exact k22
      have i52 : Row (pm_u hi6 141 11 0 152) (pa.2.2.2.2.2.2.2.1.map enc) := k52.to (fun j _ => pm_u_ne (Or.inl (by omega)))
      generalize pm_u hi6 141 11 0 = hz at hfin e6' i17 i21 i22 i52 ⊢
      have hlen := h1'.2
      by_cases c14 : (txo s.1).length = 14
      · rw [if_pos c14] at h
        refine ⟨fun c => absurd (e6'.trans (by rw [c14]; rfl)) c, fun _ => h _ hfin.2 hfin.1⟩
      · rw [if_neg c14] at h
        have hn : (txo s.1).length < 14 := by omega
        rw [e6']
        refine ⟨fun _ => ⟨239 + 2 * (txo s.1).length, by omega, ixt _, fun hi11 e11 => ⟨240 + 2 * (txo s.1).length, by omega, ?_, ?_⟩⟩, fun c => ?_⟩
        · rw [ixt, nI_1]
          congr 1
          omega
        · have ev : (1000 * hz 141 17 + hz 141 21 : Int32) = nI (1000 * w + pa.2.2.2.2.2.2.2.1.length) := by
            rw [i17, i21]
            show nI 1000 * nI w + _ = _
            rw [pk_mul, nI_add]
          rw [ev] at e11
          have i22' : hi11 141 22 = nI pa.2.2.2.2.2.2.2.2 := by rw [e11, pm_u_ne (Or.inl (by omega))]; exact i22
          rw [i22']
          have hf0 : ∀ q j, ¬ (q = 142 ∧ (j = 239 + 2 * (txo s.1).length ∨ j = 240 + 2 * (txo s.1).length)) → pm_u hi11 142 (240 + 2 * (txo s.1).length) (nI pa.2.2.2.2.2.2.2.2) q j = hz q j := fun q j hn' => by rw [pm_u_ne (by omega), e11, pm_u_ne (by omega)]
          have v1 : pm_u hi11 142 (240 + 2 * (txo s.1).length) (nI pa.2.2.2.2.2.2.2.2) 142 (239 + 2 * (txo s.1).length) = nI (1000 * w + pa.2.2.2.2.2.2.2.1.length) := by rw [pm_u_ne (Or.inr (by omega)), e11, pm_u_at]
          have v2 : pm_u hi11 142 (240 + 2 * (txo s.1).length) (nI pa.2.2.2.2.2.2.2.2) 142 (240 + 2 * (txo s.1).length) = nI pa.2.2.2.2.2.2.2.2 := pm_u_at
          generalize pm_u hi11 142 (240 + 2 * (txo s.1).length) (nI pa.2.2.2.2.2.2.2.2) = hy at hf0 v1 v2 ⊢
          have loop : ∀ n k hx', k + n = pa.2.2.2.2.2.2.2.1.length → (∀ q j, ¬ (q = 142 ∧ 267 + 96 * (txo s.1).length ≤ j ∧ j < 267 + 96 * (txo s.1).length + 96) → hx' q j = hy q j) → Row (fun j => hx' 142 (267 + 96 * (txo s.1).length + j)) ((pa.2.2.2.2.2.2.2.1.map enc).take k) → pm_W pm_g (SH L) HR (d + 19) pm_t209 119 [some (.inr 141), some (.inl 1), some (.inl (nI (txo s.1).length)), some (.inl (nI k))] [] hx' Q := by
            intro n
            induction n with
            | zero =>
              intro k hx' hk hfx hrow
              have j21 : hx' 141 21 = nI pa.2.2.2.2.2.2.2.1.length := by rw [hfx _ _ (by omega), hf0 _ _ (by omega)]; exact i21
              have j6 : hx' 142 6 = nI (txo s.1).length := by rw [hfx _ _ (by omega), hf0 _ _ (by omega)]; exact e6'
              refine v_M_text_119 ⟨fun _ => ?_, fun c => ?_⟩
              · rw [j6, nI_1]
                rw [List.take_of_length_le (by rw [List.length_map]; omega)] at hrow
                have hadd := MI.add (hi' := pm_u hx' 142 6 (nI ((txo s.1).length + 1))) (t := (pa.1, nI pa.2.2.2.2.2.2.2.2, pa.2.2.2.2.2.2.2.1)) hfin.1 hT0 hn (fun q j h1 h2 => by rw [pm_u_ne (by omega), hfx _ _ (by omega), hf0 _ _ (by omega)]) (fun j h1 h2 h3 => by
                  have h2' : ¬ (239 + 2 * (txo s.1).length ≤ j ∧ j ≤ 240 + 2 * (txo s.1).length) := h2
                  have h3' : ¬ (267 + 96 * (txo s.1).length ≤ j ∧ j < 267 + 96 * (txo s.1).length + 96) := h3
                  rw [pm_u_ne (by omega), hfx _ _ (by omega), hf0 _ _ (by omega)]) pm_u_at ⟨w, hw, eky, hlen, ?_, ?_, ?_⟩
                · refine h _ (fun q j hn' => ?_) hadd
                  have hn2 := hn'
                  unfold PQ at hn'
                  rw [pm_u_ne (by omega), hfx _ _ (by omega), hf0 _ _ (by omega)]
                  exact hfin.2 q j hn2
                · show pm_u hx' 142 6 (nI ((txo s.1).length + 1)) 142 (239 + 2 * (txo s.1).length) = _
                  rw [pm_u_ne (Or.inr (by omega)), hfx _ _ (by omega)]; exact v1
                · show pm_u hx' 142 6 (nI ((txo s.1).length + 1)) 142 (240 + 2 * (txo s.1).length) = _
                  rw [pm_u_ne (Or.inr (by omega)), hfx _ _ (by omega)]; exact v2
                · exact hrow.to (fun j _ => pm_u_ne (Or.inr (by show ¬ 267 + 96 * (txo s.1).length + j = 6; omega)))
              · rw [j21] at c; exact absurd (nI_le (by omega) (by omega)) c
            | succ n ih =>
              intro k hx' hk hfx hrow
              have j21 : hx' 141 21 = nI pa.2.2.2.2.2.2.2.1.length := by rw [hfx _ _ (by omega), hf0 _ _ (by omega)]; exact i21
              have hkl : k < (pa.2.2.2.2.2.2.2.1.map enc).length := by rw [List.length_map]; omega
              have j52 : hx' 152 k = (pa.2.2.2.2.2.2.2.1.map enc)[k] := by rw [hfx _ _ (by omega), hf0 _ _ (by omega)]; exact i52.at hkl
              refine v_M_text_119 ⟨fun c => ?_, fun _ => ⟨k, by omega, rfl, 267 + 96 * (txo s.1).length + k, by omega, ixc _ _, ?_⟩⟩
              · rw [j21] at c; exact absurd c (nI_ge (by omega) (by omega))
              · rw [nI_1, j52]
                refine ih (k + 1) _ (by omega) (fun q j hn' => by rw [pm_u_ne (by omega), hfx _ _ hn']) ?_
                have et : (pa.2.2.2.2.2.2.2.1.map enc).take (k + 1) = (pa.2.2.2.2.2.2.2.1.map enc).take k ++ [(pa.2.2.2.2.2.2.2.1.map enc)[k]] := by rw [List.take_succ, List.getElem?_eq_getElem hkl]; rfl
                rw [et]
                refine Row.snoc (hrow.to (fun j hj => ?_)) ?_
                · rw [List.length_take] at hj
                  exact pm_u_ne (Or.inr (by omega))
                · rw [List.length_take, Nat.min_eq_left (by omega)]
                  exact pm_u_at
          exact loop _ 0 hy (Nat.zero_add _) (fun q j _ => rfl) Row.nil
        · exact absurd ((nI_eq (b := 14) (by omega) (by omega)).mp (Decidable.not_not.mp c)) c14
