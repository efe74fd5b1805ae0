/-! ===== text ===== -/
def aTx (f : AF) (t : AT) : AF := (f.1, f.2.1, f.2.2.1, f.2.2.2.1, f.2.2.2.2.1, f.2.2.2.2.2.1, txo f ++ [t])
def oText (s : St) (pa : Int32 × PS) : St × Int32 := if pa.2.2.2.2.2.2.1 = none then (if (txo s.1).length = 14 then (uT s [], -1000000003) else ((aTx s.1 (pa.1, nI pa.2.2.2.2.2.2.2.2, pa.2.2.2.2.2.2.2.1), (uT s []).2), nI (txo s.1).length)) else (uT s [], -100 - nI (pa.2.2.2.2.2.2.1.getD 0))
noncomputable def o_text (s : St) : St × Int32 := oText s (pAll s.2.2.2.1)
theorem txt_ok {bs : List Int32} (hW : WB bs) (hn : (pAll bs).2.2.2.2.2.2.1 = none) : ∃ w, w < 3 ∧ (pAll bs).1 = nI w ∧ wfp (pAll bs).2.2.2.2.2.2.2.1 ∧ (∀ c ∈ (pAll bs).2.2.2.2.2.2.2.1, okc c) ∧ (nI w = 0 ∨ ∀ c ∈ (pAll bs).2.2.2.2.2.2.2.1, c ≠ -3) := by
  rcases all_key hW with h | ⟨w, hw, h⟩
  · have := all_no h
    rw [hn] at this
    cases this
  · have e1 : (pAll bs).1 = nI w := by unfold pAll; rw [h]
    have ha := (all_yes (ts := fun _ => 0) hW rfl h).1 hn
    obtain ⟨D, eD, hD, oD⟩ := ha.1
    refine ⟨w, hw, e1, ⟨?_, ha.2.1⟩, fun c hc => ?_, ?_⟩
    · rw [eD]; exact hD 0
    · rw [eD] at hc; exact (oD c hc).1
    · by_cases h0 : nI w = 0
      · exact Or.inl h0
      · refine Or.inr (fun c hc => ?_)
        rw [eD] at hc
        exact (oD c hc).2.resolve_left h0
theorem txt_le {bs : List Int32} (hW : WB bs) {x : Nat} (h : (pAll bs).2.2.2.2.2.2.1 = some x) : x ≤ 96 := (all_W hW).2.2.2.2.2.1 x h
theorem CF.tn {hi : pm_B} {F : Nat} {f : AF} (h : CF hi F f) : hi F 8 = nI (txo f).length := by
  obtain ⟨sps, talk, spoken, lost, day, z, txs⟩ := f
  exact h.2.2.2.2.2.2.1
theorem MF.tn {r : Nat → Int32} {f : AF} (h : MF r f) : r 6 = nI (txo f).length := by
  obtain ⟨sps, talk, spoken, lost, day, z, txs⟩ := f
  exact h.2.2.2.2.2.2.1
theorem CX.keptX {hi hi' : pm_B} {txs : List AT} {m : Nat} (h : CX hi txs) (hm : txs.length ≤ m) (hF : ∀ q j, 19 ≤ q → q < 19 + 2 * m → hi' q j = hi q j) : CX hi' txs := by
  refine ⟨fun i t ht => ?_, h.2⟩
  have hi14 : i < txs.length := (List.getElem?_eq_some_iff.mp ht).1
  obtain ⟨a, b, c, d⟩ := h.1 i t ht
  have e0 : ∀ j, hi' (19 + 2 * i) j = hi (19 + 2 * i) j := fun j => hF _ j (by omega) (by omega)
  exact ⟨(e0 _).trans a, (e0 _).trans b, (e0 _).trans c, d.to (fun k _ => hF _ k (by omega) (by omega))⟩
theorem CI.read {hi hi' : pm_B} {s : St} {m : Nat} (h : CI hi s) (hW : WI s) (hm : (txo s.1).length ≤ m) (hm15 : m < 15) (hk : ∀ q j, q < 141 → ¬ (q = 107 ∨ q = 109 ∨ q = 19 + 2 * m ∨ q = 19 + 2 * m + 1) → hi' q j = hi q j) (hb : CB hi' []) : CI hi' (uT s []) := by
  obtain ⟨a1, a2, a3, a4, a5, a6, a7, a8, a9, a10⟩ := h
  have hm2 := hW.2.2.2.2.1
  have k : ∀ q j, q < 141 ∧ ¬ (q = 107 ∨ q = 109 ∨ q = 19 + 2 * m ∨ q = 19 + 2 * m + 1) → hi' q j = hi q j := fun q j c => hk q j c.1 c.2
  exact ⟨a1.kept hW.1.1 (fun q j u v => k q j (by omega)), a2.kept hW.2.2.1.1 (fun q j u v => k q j (by omega)), a3.keptX hm (fun q j u v => k q j (by omega)), a4.keptX (Nat.le_trans hm2 hm) (fun q j u v => k q j (by omega)), (k _ _ (by omega)).trans a5, hb, fun i hi4 => (a7 i hi4).kept (fun q j u v => k q j (by omega)), fun i hi5 => (a8 i hi5).kept (fun q j u v => k q j (by omega)), ⟨(k _ _ (by omega)).trans a9.1, a9.2.to (fun j _ => k _ _ (by omega))⟩, fun q j u v => (k q j (by omega)).trans (a10 q j u v)⟩
theorem CI.add {hi : pm_B} {s : St} {t : AT} {k : Nat} (h : CI hi s) (hW : WI s) (hn : (txo s.1).length < 14) (hk : k < 3) (ht : t.1 = nI k) (hT : CT hi (19 + 2 * (txo s.1).length) t) (hw : wfp t.2.2) : CI (pm_u (pm_u hi 68 k (nI (txo s.1).length)) 50 8 (nI ((txo s.1).length + 1))) (aTx s.1 t, s.2) := by
  obtain ⟨a1, a2, a3, a4, a5, a6, a7, a8, a9, a10⟩ := h
  have kk : ∀ q j, ¬ (q = 68 ∨ q = 50) → pm_u (pm_u hi 68 k (nI (txo s.1).length)) 50 8 (nI ((txo s.1).length + 1)) q j = hi q j := fun q j c => by rw [pm_u_ne (by omega), pm_u_ne (by omega)]
  refine ⟨?_, a2.kept hW.2.2.1.1 (fun q j u v => kk q j (by omega)), ?_, a4.kept (fun q j u v => kk q j (by omega)), (kk _ _ (by omega)).trans a5, ⟨(kk _ _ (by omega)).trans a6.1, a6.2.to (fun j _ => kk _ _ (by omega))⟩, fun i hi4 => (a7 i hi4).kept (fun q j u v => kk q j (by omega)), fun i hi5 => (a8 i hi5).kept (fun q j u v => kk q j (by omega)), ⟨(kk _ _ (by omega)).trans a9.1, a9.2.to (fun j _ => kk _ _ (by omega))⟩, fun q j u v => (kk q j (by omega)).trans (a10 q j u v)⟩
  · exact CF.law (F := 50) (sps := s.1.1) (talk := s.1.2.1) (spoken := s.1.2.2.1) (lost := s.1.2.2.2.1) (day := s.1.2.2.2.2.1) (z := s.1.2.2.2.2.2.1) (txs := txo s.1) a1 hk ht hW.1.1
  · have a3' := a3.kept (fun q j u v => kk q j (by omega))
    refine ⟨fun i t' hi' => ?_, ?_, fun t' ht' => ?_⟩
    · have hl := (List.getElem?_eq_some_iff.mp hi').1
      have hl : i < (txo s.1 ++ [t]).length := hl
      rw [List.length_append] at hl
      have hl : i < (txo s.1).length + 1 := hl
      by_cases c : i < (txo s.1).length
      · have hi' : (txo s.1 ++ [t])[i]? = some t' := hi'
        rw [List.getElem?_append_left c] at hi'
        exact a3'.1 i t' hi'
      · have e : i = (txo s.1).length := by omega
        have hi' : (txo s.1 ++ [t])[i]? = some t' := hi'
        rw [e, List.getElem?_concat_length] at hi'
        rw [← Option.some.inj hi', e]
        exact ⟨(kk _ _ (by omega)).trans hT.1, (kk _ _ (by omega)).trans hT.2.1, (kk _ _ (by omega)).trans hT.2.2.1, hT.2.2.2.to (fun j _ => kk _ _ (by omega))⟩
    · show (txo s.1 ++ [t]).length ≤ 14
      rw [List.length_append]
      show (txo s.1).length + 1 ≤ 14
      omega
    · rcases List.mem_append.mp (show t' ∈ txo s.1 ++ [t] from ht') with y | y
      · exact a3.2.2 t' y
      · rw [List.mem_singleton.mp y]; exact hw
theorem WI.wb {s : St} (hW : WI s) : WB s.2.2.2.1 := ⟨hW.2.2.2.2.2.2.1.1, hW.2.2.2.2.2.2.1.2⟩
theorem W_text {s : St} (hW : WI s) (hn : (txo s.1).length ≤ 14) : WI (o_text s).1 := by
  have hB := hW.wb
  have hT : WI (uT s []) := tape_WI hW (Nat.zero_le _) (fun b hb => absurd hb List.not_mem_nil)
  unfold o_text oText
  by_cases c : (pAll s.2.2.2.1).2.2.2.2.2.2.1 = none
  · rw [if_pos c]
    by_cases c14 : (txo s.1).length = 14
    · rw [if_pos c14]; exact hT
    · rw [if_neg c14]
      obtain ⟨w, hw, e1, h1, h2, h3⟩ := txt_ok hB c
      generalize pAll s.2.2.2.1 = pa at e1 h1 h2 h3
      obtain ⟨a1, a2, a3, a4, a5, a6, a7, a8, a9, a10⟩ := hT
      refine ⟨⟨a1.1, a1.2.1, fun t ht => ?_⟩, a2, a3, a4, ?_, a6, a7, a8, a9, a10⟩
      · rcases List.mem_append.mp (show t ∈ txo s.1 ++ [_] from ht) with y | y
        · exact a1.2.2 t y
        · rw [List.mem_singleton.mp y]
          exact ⟨h1, h2, h3.imp (fun y => e1.trans y) id⟩
      · show (txo s.2.1).length ≤ (txo s.1 ++ [_]).length
        rw [List.length_append]
        exact Nat.le_trans a5 (Nat.le_add_right _ _)
  · rw [if_neg c]; exact hT
theorem E_text {L d : Nat} {s : St} {hi : pm_B} {Q : pm_Q} (hW : WI s) (hC : CI hi s) (h : EP hi (o_text s) Q) : pm_C pm_g (SH L) HR (d + 220) m_E_text [.inr 16] hi Q := by
  have hB := hW.wb
  have hn14 := hC.2.2.1.2.1
  have e8 := hC.1.tn
  have hb := hC.2.2.2.2.2.1
  have fin : ∀ m hi2, (txo s.1).length ≤ m → m < 15 → Fr (FX (19 + 2 * m)) hi hi2 → CI (pm_u hi2 107 1 0) (uT s []) ∧ Fr PE hi (pm_u hi2 107 1 0) := by
    intro m hi2 hm hm15 hf
    refine ⟨hC.read hW hm hm15 (fun q j hq hn => ?_) ⟨pm_u_at, Row.nil⟩, fun q j hn => ?_⟩
    · rw [pm_u_ne (by omega)]; exact hf q j (by unfold FX; omega)
    · unfold PE at hn
      rw [pm_u_ne (by omega)]; exact hf q j (by unfold FX; omega)
  unfold o_text oText at h
  have hok := txt_ok hB
  have hle : ∀ x, (pAll s.2.2.2.1).2.2.2.2.2.2.1 = some x → x ≤ 96 := fun x hx => txt_le hB hx
  by_cases c14 : (txo s.1).length < 14
  · rw [if_neg (by omega : ¬ (txo s.1).length = 14)] at h
    have hX : XW (19 + 2 * (txo s.1).length) := ⟨(txo s.1).length, by omega, rfl⟩
    refine v_E_text (d := d + 218) ⟨fun c => ?_, fun _ => ⟨fun c => ?_, fun _ => ⟨(txo s.1).length, by omega, e8, ?_⟩⟩⟩
    · rw [e8] at c; exact absurd c (nI_nlt (b := 0) (by omega) (by omega))
    · rw [e8] at c; exact absurd c (nI_ge (a := (txo s.1).length) (b := 14) c14 (by omega))
    refine parse_c (d := d + 19) hB hX hb hC.2.2.2.2.2.2.2.2.2 (fun hi2 hf hI => ⟨_, rfl, ?_⟩)
    have hfin := fin _ hi2 (Nat.le_refl _) (by omega) hf
    generalize pAll s.2.2.2.1 = pa at h hok hle hI
    cases hp : pa.2.2.2.2.2.2.1 with
    | none =>
      rw [if_pos hp] at h
      obtain ⟨w, hw, e1, h1, h2, h3⟩ := hok hp
      obtain ⟨i1, i2, i3, i4, i5, i6, i7, i8, i9, i10, i11, i12, i13⟩ := hI
      have ek : pm_u hi2 107 1 0 (19 + 2 * (txo s.1).length) 0 = nI w := by rw [pm_u_ne (Or.inl (by omega)), i8, e1]
      refine ⟨fun _ => ⟨fun _ => ⟨fun c => ?_, fun _ => ⟨fun _ => ⟨w, hw, ek, fun hi9 e9 => ?_⟩, fun c => ?_⟩⟩, fun c => ?_⟩, fun c => absurd rfl c⟩
      · rw [ek] at c; exact absurd c (nI_nlt (b := 0) (by omega) (by omega))
      · have e58 : pm_u hi2 107 1 0 50 8 = nI (txo s.1).length := by rw [pm_u_ne (Or.inl (by omega)), hf 50 8 (by unfold FX; omega)]; exact e8
        rw [e58, pm_u_ne (Or.inl (by omega)), e58, nI_1] at e9
        rw [e8, e9]
        have hadd := CI.add (t := (pa.1, nI pa.2.2.2.2.2.2.2.2, pa.2.2.2.2.2.2.2.1)) hfin.1 (tape_WI hW (Nat.zero_le _) (fun b hb => absurd hb List.not_mem_nil)) c14 hw e1 ⟨?_, ?_, ?_, ?_⟩ h1
        · refine h _ (fun q j hn => ?_) hadd
          have hn' := hn
          unfold PE at hn
          rw [pm_u_ne (by omega), pm_u_ne (by omega)]
          exact hfin.2 q j hn'
        · show pm_u hi2 107 1 0 (19 + 2 * (txo s.1).length) 0 = pa.1
          rw [ek, e1]
        · show pm_u hi2 107 1 0 (19 + 2 * (txo s.1).length) 1 = _
          rw [pm_u_ne (Or.inl (by omega)), i9]
        · show pm_u hi2 107 1 0 (19 + 2 * (txo s.1).length) 2 = _
          rw [pm_u_ne (Or.inl (by omega)), i10]
        · exact i11.to (fun j _ => pm_u_ne (Or.inl (by show ¬ 19 + 2 * (txo s.1).length + 1 = 107; omega)))
      · rw [ek] at c; exact absurd (nI_lt (a := w) (b := 3) hw (by omega)) c
      · rw [e8] at c; exact absurd (nI_lt (b := 14) c14 (by omega)) c
    | some x =>
      rw [if_neg (by rw [hp]; intro y; cases y), hp] at h
      have hx := hle x hp
      refine ⟨fun c => ?_, fun _ => h _ hfin.2 hfin.1⟩
      have c : nI x = -1000000005 := c
      exact absurd (show nI x < 0 by rw [c]; decide) (nI_nlt (b := 0) (by omega) (by omega))
  · have e14 : (txo s.1).length = 14 := by omega
    rw [if_pos e14] at h
    rw [e14] at e8
    have hX : XW (19 + 2 * 14) := ⟨14, by omega, rfl⟩
    refine v_E_text (d := d + 218) ⟨fun c => ?_, fun _ => ⟨fun _ => ?_, fun c => ?_⟩⟩
    · rw [e8] at c; exact absurd c (by decide)
    · refine parse_c (d := d + 19) hB hX hb hC.2.2.2.2.2.2.2.2.2 (fun hi2 hf hI => ⟨_, rfl, ?_⟩)
      have hfin := fin 14 hi2 (by omega) (by omega) hf
      generalize pAll s.2.2.2.1 = pa at h hok hle hI
      cases hp : pa.2.2.2.2.2.2.1 with
      | none =>
        rw [if_pos hp] at h
        refine ⟨fun _ => ⟨fun c => ?_, fun _ => h _ hfin.2 hfin.1⟩, fun c => absurd rfl c⟩
        rw [e8] at c; exact absurd c (by decide)
      | some x =>
        rw [if_neg (by rw [hp]; intro y; cases y), hp] at h
        have hx := hle x hp
        refine ⟨fun c => ?_, fun _ => h _ hfin.2 hfin.1⟩
        have c : nI x = -1000000005 := c
        exact absurd (show nI x < 0 by rw [c]; decide) (nI_nlt (b := 0) (by omega) (by omega))
    · rw [e8] at c; exact absurd (by decide) c
