/-! ===== how a speaker hears (model side) ===== -/
theorem within_held (x : Int32) : f_M_within x 0 12 = f_E_held x 0 12 := by
  unfold f_M_within f_E_held
  by_cases h1 : x < 12
  · rw [if_pos h1]
    by_cases h2 : 0 < x
    · rw [if_pos h2, if_pos (Int32.le_of_lt h2), if_pos (Int32.le_of_lt h1)]
    · rw [if_neg h2]
      by_cases h3 : 0 ≤ x
      · rw [if_pos h3, if_pos (Int32.le_of_lt h1)]
        exact Int32.le_antisymm (Int32.not_lt.mp h2) h3
      · rw [if_neg h3]
  · rw [if_neg h1, if_pos (Int32.le_trans (by decide) (Int32.not_lt.mp h1)), if_pos (show (0 : Int32) < 12 by decide)]
    by_cases h2 : x ≤ 12
    · rw [if_pos h2]
      exact Int32.le_antisymm h2 (Int32.not_lt.mp h1)
    · rw [if_neg h2]
theorem keep_chain {Q : pm_Q} {hi : pm_B} {z w : Int32} (hw : 0 ≤ w ∧ w ≤ 12) (h : Q (some (.inl (f_Kinds_keepsOf z w))) hi) : ((z = 1) → Q (some (.inl (w / 2))) hi) ∧ ((¬ z = 1) → ((z = 2) → Q (some (.inl (f_M_within (w - 2) 0 12))) hi) ∧ ((¬ z = 2) → ((z = 3) → Q (some (.inl ((w / 2) + 3))) hi) ∧ ((¬ z = 3) → ((z = 4) → Q (some (.inl (f_M_within (w - 2) 0 12))) hi) ∧ ((¬ z = 4) → ((z = 5) → Q (some (.inl 0)) hi) ∧ ((¬ z = 5) → Q (some (.inl w)) hi))))) := by
  obtain ⟨k, hk, rfl⟩ := in12 hw
  have e2 : ∀ k, k < 13 → f_M_within (nI k - 2) 0 12 = if 0 < nI k - 2 then nI k - 2 else 0 := by decide +kernel
  rw [e2 k (by omega)]
  unfold f_Kinds_keepsOf at h
  refine ⟨fun c => ?_, fun c1 => ⟨fun c => ?_, fun c2 => ⟨fun c => ?_, fun c3 => ⟨fun c => ?_, fun c4 => ⟨fun c => ?_, fun c5 => ?_⟩⟩⟩⟩⟩
  · rw [if_pos c] at h; exact h
  · rw [if_neg c1, if_pos c] at h; exact h
  · rw [if_neg c1, if_neg c2, if_pos c] at h; exact h
  · rw [if_neg c1, if_neg c2, if_neg c3, if_pos c] at h; exact h
  · rw [if_neg c1, if_neg c2, if_neg c3, if_neg c4, if_pos c] at h; exact h
  · rw [if_neg c1, if_neg c2, if_neg c3, if_neg c4, if_neg c5] at h; exact h
/-- texts that hold what a text may -/
def WX (txs : List AT) : Prop := ∀ t ∈ txs, wfp t.2.2 ∧ ∀ c ∈ t.2.2, okc c
def PK : Nat → Nat → Prop := fun q _ => q = 155 ∨ q = 156
theorem mkeepsOf_c {L d p : Nat} {s : ASp} {txs : List AT} {hi : pm_B} {Q : pm_Q} (hp : p < 8) (hS : MS (hi 142) p s) (hn : hi 142 6 = nI txs.length) (hX : MX (hi 142) txs) (hW : WX txs)
    (h : ∀ hi', Fr PK hi hi' → Q (some (.inl (akeeps txs s s.2.2.2.2.length))) hi') : pm_C pm_g (SH L) HR (d + 4) m_M_keepsOf [.inr 141, .inl (nI p)] hi Q := by
  refine v_M_keepsOf (d := d + 2) (mcounts_c (d := d + 2) hn hX ⟨_, rfl, ?_⟩)
  refine ⟨7 + 29 * p + 1, by omega, ix p 1, 7 + 29 * p + 2, by omega, ix p 2, fun hi5 e5 => ⟨7 + 29 * p + 4, by omega, ix p 4, ?_⟩⟩
  have f5 : ∀ q j, q ≠ 156 → hi5 q j = hi q j := fun q j hq => by rw [e5, pm_u_ne (Or.inl hq), pm_u_ne (Or.inl hq)]
  have f6 : ∀ q j, q ≠ 156 → pm_u hi5 156 2 (hi5 142 (7 + 29 * p + 4)) q j = hi q j := fun q j hq => by rw [pm_u_ne (Or.inl hq), f5 q j hq]
  have b2 : pm_u hi5 156 2 (hi5 142 (7 + 29 * p + 4)) 156 2 = nI s.2.2.2.2.length := by rw [pm_u_at, f5 _ _ (by omega)]; exact hS.2.2.2.2.1
  have b1 : pm_u hi5 156 2 (hi5 142 (7 + 29 * p + 4)) 156 1 = s.2.2.1 := by rw [pm_u_ne (Or.inr (by omega)), e5, pm_u_at, pm_u_ne (Or.inl (by omega))]; exact hS.2.2.1
  have b0 : pm_u hi5 156 2 (hi5 142 (7 + 29 * p + 4)) 156 0 = s.2.1 := by rw [pm_u_ne (Or.inr (by omega)), e5, pm_u_ne (Or.inr (by omega)), pm_u_at]; exact hS.2.1
  generalize pm_u hi5 156 2 (hi5 142 (7 + 29 * p + 4)) = hi6 at f6 b0 b1 b2 ⊢
  have r6 : hi6 142 = hi 142 := funext (fun j => f6 142 j (by omega))
  have fr6 : Fr PK hi hi6 := fun q j hq => f6 q j (fun hh => hq (Or.inr hh))
  cases hk : lk txs 0 with
  | none =>
    refine ⟨fun hc => absurd hc (by decide), fun _ => ⟨7 + 29 * p + 0, by omega, ix p 0, ?_⟩⟩
    rw [r6, hS.1]
    have h1 := h hi6 fr6
    unfold akeeps given at h1
    rw [hk] at h1
    exact keep_chain (w := 12) (by decide) h1
  | some i =>
    have hi1 := lkn_lt hk
    have hl := hX.1
    have ht : txs[i]? = some (txs.getD i (0, 0, [])) := by rw [List.getD_eq_getElem?_getD, List.getElem?_eq_getElem hi1]; rfl
    have hwt := hW _ (List.mem_of_getElem? ht)
    refine ⟨fun _ => ?_, fun hc => absurd (nI_pos' (by omega)) hc⟩
    refine mworksOut_c (d := d + 1) (by omega) (by rw [r6]; exact hX.2 i _ ht) hwt.2 hwt.1 b0 b1 b2 (fun hi8 f8 => ⟨_, rfl, 7 + 29 * p + 0, by omega, ix p 0, ?_⟩)
    have e0 : hi8 142 (7 + 29 * p + 0) = s.1 := by rw [f8 142 _ (by omega), r6]; exact hS.1
    rw [e0, within_held]
    have h1 := h hi8 (fr6.tr (f8.mono (fun q j hq => Or.inl hq)))
    unfold akeeps given at h1
    rw [hk] at h1
    exact keep_chain (held_in _) h1
theorem MX.kept {r r' : Nat → Int32} {txs : List AT} (h : MX r txs) (hk : ∀ j, 239 ≤ j → r' j = r j) : MX r' txs := by
  refine ⟨h.1, fun i t ht => ?_⟩
  obtain ⟨K, a, b, c, d, e, f⟩ := h.2 i t ht
  exact ⟨K, a, b, c, (hk _ (by omega)).trans d, (hk _ (by omega)).trans e, f.to (fun k _ => hk _ (by omega))⟩
theorem within_min {a b : Nat} (ha : a < 2 ^ 31) (hb : b < 2 ^ 31) : f_M_within (nI a) 0 (nI b) = nI (min a b) := by
  unfold f_M_within
  rw [if_pos (nI_pos' ha)]
  by_cases h : a ≤ b
  · rw [if_pos (nI_le h hb), Nat.min_eq_left h]
  · rw [if_neg (nI_ge (by omega) ha), Nat.min_eq_right (by omega)]
def PH (p : Nat) : Nat → Nat → Prop := fun q j => PW p q j ∨ PK q j
theorem mhears_c {L d p : Nat} {s : ASp} {row : List Int32} {txs : List AT} {hi : pm_B} {Q : pm_Q} (hp : p < 8) (hS : MS (hi 142) p s) (hE : WEar s) (hl12 : s.2.2.2.2.length ≤ 12) (hR : MR hi row) (hr12 : row.length ≤ 12) (hn : hi 142 6 = nI txs.length) (hX : MX (hi 142) txs) (hW : WX txs)
    (h : ∀ hi', Fr (PH p) hi hi' → MS (hi' 142) p (ahears txs s row) → hi' 142 5 = hi 142 5 + nI (ahl txs s row) → Q none hi') : pm_C pm_g (SH L) HR (d + 6) m_M_hears [.inr 141, .inl (nI p)] hi Q := by
  obtain ⟨ht, ht11⟩ := takes_eq hE
  have hwl : (ahw s row).length = s.2.2.2.2.length + min (takesN s) row.length := by unfold ahw; rw [List.length_append, List.length_take]
  refine v_M_hears (d := d + 4) (mtakesOf_c (d := d + 3) hp hS hE ⟨_, rfl, ?_⟩)
  rw [hR.1, within_min (by omega) (by omega)]
  have two : ∀ c m hi', m + c = (ahw s row).length → Fr (PH p) hi hi' → MS (hi' 142) p (s.1, s.2.1, s.2.2.1, s.2.2.2.1, (ahw s row).drop m) → hi' 142 5 = hi 142 5 + nI m → aleft (akeeps txs s) c = aleft (akeeps txs s) (ahw s row).length → ∀ y2 y3, pm_W pm_g (SH L) HR (d + 5) pm_t159 60 [some (.inr 141), some (.inl (nI p)), some (.inl y2), some (.inl y3)] [] hi' Q := by
    intro c
    induction c with
    | zero =>
      intro m hi' hm hf hs h5 ha y2 y3
      refine v_M_hears_60 ⟨7 + 29 * p + 4, by omega, ix p 4, ?_⟩
      refine mkeepsOf_c (d := d + 1) hp hs ((hf 142 6 (by unfold PH PW PK; omega)).trans hn) (hX.kept (fun j hj => hf 142 j (by unfold PH PW PK; omega))) hW (fun hi2 f2 => ⟨_, rfl, ?_⟩)
      have hlen : ((ahw s row).drop m).length = 0 := by rw [List.length_drop]; omega
      rw [hs.2.2.2.2.1]
      dsimp only
      rw [hlen]
      have e142 : hi2 142 = hi' 142 := funext (fun j => f2 142 j (by unfold PK; omega))
      have hal : ahl txs s row = m := by unfold ahl; rw [← ha]; show _ - 0 = m; omega
      refine ⟨fun _ => h hi2 (hf.tr (f2.mono (fun q j hq => Or.inr hq))) ?_ ?_, fun hc => absurd (akeeps_in txs _ 0).1 hc⟩
      · rw [e142]; unfold ahears; rw [hal]; exact hs
      · rw [e142, hal]; exact h5
    | succ c ih =>
      intro m hi' hm hf hs h5 ha y2 y3
      refine v_M_hears_60 ⟨7 + 29 * p + 4, by omega, ix p 4, ?_⟩
      have hn' := (hf 142 6 (by unfold PH PW PK; omega)).trans hn
      have hX' := hX.kept (r' := hi' 142) (fun j hj => hf 142 j (by unfold PH PW PK; omega))
      refine mkeepsOf_c (d := d + 1) hp hs hn' hX' hW (fun hi2 f2 => ⟨_, rfl, ?_⟩)
      have hlen : ((ahw s row).drop m).length = c + 1 := by rw [List.length_drop]; omega
      have e142 : hi2 142 = hi' 142 := funext (fun j => f2 142 j (by unfold PK; omega))
      rw [hs.2.2.2.2.1]
      dsimp only
      rw [hlen]
      rw [aleft] at ha
      refine ⟨fun hc => ?_, fun hc => ?_⟩
      · have hc' : nI (c + 1) ≤ akeeps txs s (c + 1) := hc
        rw [if_pos hc'] at ha
        have hal : ahl txs s row = m := by unfold ahl; rw [← ha]; omega
        refine h hi2 (hf.tr (f2.mono (fun q j hq => Or.inr hq))) ?_ ?_
        · rw [e142]; unfold ahears; rw [hal]; exact hs
        · rw [e142, hal]; exact h5
      · have hc' : ¬ nI (c + 1) ≤ akeeps txs s (c + 1) := hc
        rw [if_neg hc'] at ha
        refine mforget_c (d := d + 3) hp (s := (s.1, s.2.1, s.2.2.1, s.2.2.2.1, (ahw s row).drop m)) (by rw [e142]; exact hs) (by dsimp only; omega) (by dsimp only; omega) (fun hi3 f3 hs3 h53 => ⟨rfl, ?_⟩)
        refine ih (m + 1) hi3 (by omega) ((hf.tr (f2.mono (fun q j hq => Or.inr hq))).tr (f3.mono (fun q j hq => Or.inl hq))) ?_ ?_ ha y2 y3
        · dsimp only at hs3
          rw [List.drop_drop] at hs3
          exact hs3
        · rw [h53, e142, h5, Int32.add_assoc, nI_1]
  have one : ∀ m k hi', k + m = min (takesN s) row.length → (∀ q j, ¬ (q = 142 ∧ 7 + 29 * p + 4 ≤ j ∧ j < 7 + 29 * p + 29) → hi' q j = hi q j) → MS (hi' 142) p (s.1, s.2.1, s.2.2.1, s.2.2.2.1, s.2.2.2.2 ++ row.take k) → pm_W pm_g (SH L) HR (d + 5) pm_t159 16 [some (.inr 141), some (.inl (nI p)), some (.inl (nI (min (takesN s) row.length))), some (.inl (nI k))] [] hi' Q := by
    intro m
    induction m with
    | zero =>
      intro k hi' hk hf hs
      refine v_M_hears_16 ⟨fun _ => ?_, fun hc => absurd (nI_le (by omega) (by omega)) hc⟩
      have e : s.2.2.2.2 ++ row.take k = (ahw s row).drop 0 := by
        rw [List.drop_zero]
        unfold ahw
        congr 1
        rw [show k = min (takesN s) row.length by omega, ← List.take_eq_take_min]
      rw [e] at hs
      refine two _ 0 hi' (Nat.zero_add _) (fun q j hq => hf q j (by unfold PH PW PK at hq; omega)) hs ?_ rfl _ _
      rw [hf 142 5 (by omega)]
      exact (Int32.add_zero _).symm
    | succ m ih =>
      intro k hi' hk hf hs
      have hkr : k < row.length := by omega
      have hlen : (s.2.2.2.2 ++ row.take k).length = s.2.2.2.2.length + k := by rw [List.length_append, List.length_take]; omega
      have h4 : hi' 142 (7 + 29 * p + 4) = nI (s.2.2.2.2.length + k) := by rw [← hlen]; exact hs.2.2.2.2.1
      refine v_M_hears_16 ⟨fun hc => absurd hc (nI_ge (by omega) (by omega)), fun _ => ⟨7 + 29 * p + 4, by omega, ix p 4, k, by omega, rfl, 7 + 29 * p + (5 + (s.2.2.2.2.length + k)), by omega, by rw [h4]; exact ix5 p _, fun hi5 e5 => ⟨7 + 29 * p + 4, by omega, ix p 4, 7 + 29 * p + 4, by omega, ix p 4, fun hi8 e8 => ?_⟩⟩⟩
      have h45 : hi5 142 (7 + 29 * p + 4) = nI (s.2.2.2.2.length + k) := by rw [e5, pm_u_ne (Or.inr (by omega))]; exact h4
      rw [h45, nI_1] at e8
      rw [nI_1]
      have hv : hi' 145 k = row[k] := by rw [hf 145 k (by omega)]; exact hR.2.at hkr
      have w : ∀ j, j ≠ 7 + 29 * p + 4 → j ≠ 7 + 29 * p + (5 + (s.2.2.2.2.length + k)) → hi8 142 j = hi' 142 j := fun j a b => by rw [e8, pm_u_ne (Or.inr a), e5, pm_u_ne (Or.inr b)]
      refine ih (k + 1) hi8 (by omega) (fun q j hq => ?_) ?_
      · rw [e8, pm_u_ne (by omega), e5, pm_u_ne (by omega)]
        exact hf q j hq
      · obtain ⟨s0, s1, s2, s3, s4, sR⟩ := hs
        rw [List.take_succ_eq_append_getElem hkr, ← List.append_assoc]
        refine ⟨(w _ (by omega) (by omega)).trans s0, (w _ (by omega) (by omega)).trans s1, (w _ (by omega) (by omega)).trans s2, (w _ (by omega) (by omega)).trans s3, ?_, ?_⟩
        · rw [e8, pm_u_at]
          dsimp only
          rw [List.length_append, hlen]
          rfl
        · refine Row.snoc (sR.to (fun j hj => ?_)) ?_
          · dsimp only at hj
            rw [hlen] at hj
            exact w _ (by omega) (by omega)
          · rw [hlen, e8, pm_u_ne (Or.inr (by omega)), e5, pm_u_at]
            exact hv
  refine one _ 0 hi (Nat.zero_add _) (fun _ _ _ => rfl) ?_
  rw [List.take_zero, List.append_nil]
  exact hS
