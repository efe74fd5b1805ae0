/-! ===== speakers: what they keep, how they hear (class side) ===== -/
/-- a speaker: kind, ear, fame, said, words -/
abbrev ASp : Type := Int32 × Int32 × Int32 × Int32 × List Int32
def CS (hi : pm_B) (S : Nat) (p : ASp) : Prop := hi S 0 = p.1 ∧ hi S 1 = p.2.1 ∧ hi S 2 = p.2.2.1 ∧ hi S 3 = p.2.2.2.1 ∧ hi S 4 = nI p.2.2.2.2.length ∧ Row (hi (S + 1)) p.2.2.2.2
theorem CS.kept {hi hi' : pm_B} {S : Nat} {p : ASp} (h : CS hi S p) (h0 : ∀ j, hi' S j = hi S j) (h1 : ∀ j, hi' (S + 1) j = hi (S + 1) j) : CS hi' S p := by
  obtain ⟨a, b, c, d, e, f⟩ := h
  exact ⟨(h0 _).trans a, (h0 _).trans b, (h0 _).trans c, (h0 _).trans d, (h0 _).trans e, f.to (fun k _ => h1 k)⟩
/-- the last text of a key, among the first n -/
def lkn (txs : List AT) (k : Int32) : Nat → Option Nat
  | 0 => none
  | n + 1 => if (txs.getD n (0, 0, [])).1 = k then some n else lkn txs k n
def lk (txs : List AT) (k : Int32) : Option Nat := lkn txs k txs.length
theorem lkn_lt {txs : List AT} {k : Int32} : ∀ {n i : Nat}, lkn txs k n = some i → i < n
  | n + 1, i, h => by
    unfold lkn at h
    split at h
    · cases h; omega
    · have := lkn_lt h; omega
def lix (o : Option Nat) : Int32 := match o with
  | none => -1000000005
  | some i => nI i
theorem lix_none {txs : List AT} (hl : txs.length ≤ 15) (k : Int32) : lix (lk txs k) = (-1000000005) ↔ lk txs k = none := by
  constructor
  · intro h
    cases hk : lk txs k with
    | none => rfl
    | some i =>
      rw [hk] at h
      have hi := lkn_lt hk
      exfalso
      have h2 : nI i = (-1000000005) := h
      have h3 := nI_pos (n := i) (by omega)
      rw [h2] at h3
      exact h3 (by decide)
  · intro h
    rw [h]
    rfl
def given (txs : List AT) (p : ASp) (n : Int32) : Int32 := match lk txs 0 with
  | none => 12
  | some i => aval (txs.getD i (0, 0, [])).2.2 p.2.1 p.2.2.1 n
def akeeps (txs : List AT) (p : ASp) (n : Nat) : Int32 := f_Kinds_keepsOf p.1 (f_E_held (given txs p (nI n)) 0 12)
def CX (hi : pm_B) (txs : List AT) : Prop := (∀ i t, txs[i]? = some t → CT hi (19 + 2 * i) t) ∧ txs.length ≤ 14 ∧ ∀ t ∈ txs, wfp t.2.2
theorem CX.kept {hi hi' : pm_B} {txs : List AT} (h : CX hi txs) (hF : ∀ q j, 19 ≤ q → q < 49 → hi' q j = hi q j) : CX hi' txs := by
  refine ⟨fun i t ht => ?_, h.2⟩
  have hi14 : i < txs.length := (List.getElem?_eq_some_iff.mp ht).1
  have hl := h.2.1
  obtain ⟨a, b, c, d⟩ := h.1 i t ht
  have e0 : ∀ j, hi' (19 + 2 * i) j = hi (19 + 2 * i) j := fun j => hF _ j (by omega) (by omega)
  exact ⟨(e0 _).trans a, (e0 _).trans b, (e0 _).trans c, d.to (fun k _ => hF _ k (by omega) (by omega))⟩
theorem sk_ne {S F : Nat} (hS : pm_sk S) (hF : pm_fo F) : S ≠ F ∧ S + 1 ≠ F ∧ S ≠ F + 18 ∧ S + 1 ≠ F + 18 ∧ S ≠ 49 ∧ S + 1 ≠ 49 ∧ F ≠ 49 ∧ F + 18 ≠ 49 ∧ 51 < S ∧ S < 105 ∧ 49 < F := by
  obtain ⟨F', i, hF', hi, rfl⟩ := hS
  rcases hF' with rfl | rfl | rfl <;> rcases hF with rfl | rfl | rfl <;> omega
theorem sk_ne2 {S T : Nat} (hS : pm_sk S) (hT : pm_sk T) : S + 1 ≠ T ∧ (S ≠ T → S + 1 ≠ T + 1) := by
  obtain ⟨F, i, hF, hi, rfl⟩ := hS
  obtain ⟨F', j, hF', hj, rfl⟩ := hT
  refine ⟨?_, fun h => by omega⟩
  rcases hF' with rfl | rfl | rfl <;> rcases hF with rfl | rfl | rfl <;> omega
theorem keepsOf_c {L d F S n : Nat} {p : ASp} {txs : List AT} {hi : pm_B} {Q : pm_Q} (hF : pm_fo F) (hS : pm_sk S) (hp : CS hi S p) (hlaw : hi (F + 18) 0 = lix (lk txs 0)) (hX : CX hi txs) (h : ∀ hi', Fr (fun q _ => q = 49) hi hi' → Q (some (.inl (akeeps txs p n))) hi') : pm_C pm_g (SH L) HR (d + 3) m_Folk_keepsOf [.inr F, .inr S, .inl (nI n)] hi Q := by
  have hne := sk_ne hS hF
  refine v_Folk_keepsOf (d := d + 1) hF hS ⟨fun hc => ?_, fun hc => ?_⟩
  · rw [hlaw] at hc ⊢
    cases hk : lk txs 0 with
    | none => rw [hk] at hc; exact absurd rfl hc
    | some i =>
      have hi1 := lkn_lt hk
      have hl := hX.2.1
      have ht : txs[i]? = some (txs.getD i (0, 0, [])) := by rw [List.getD_eq_getElem?_getD, List.getElem?_eq_getElem hi1]; rfl
      refine valueOf_c (by omega) (hX.1 i _ ht) (hX.2.2 _ (List.mem_of_getElem? ht)) (fun hi' hF' => ⟨_, rfl, ?_⟩)
      rw [hF' S 0 hne.2.2.2.2.1, hp.1, hp.2.1, hp.2.2.1]
      have := h hi' hF'
      unfold akeeps given at this
      rw [hk] at this
      exact this
  · have hk : lk txs 0 = none := (lix_none (by have := hX.2.1; omega) 0).mp (by rw [← hlaw]; exact Classical.byContradiction hc)
    have := h hi Fr.rf
    unfold akeeps given at this
    rw [hk] at this
    rw [hp.1]
    exact this
/-- how many are left, of n -/
def aleft (kp : Nat → Int32) : Nat → Nat
  | 0 => 0
  | n + 1 => if nI (n + 1) ≤ kp (n + 1) then n + 1 else aleft kp n
theorem aleft_le (kp : Nat → Int32) : ∀ n, aleft kp n ≤ n
  | 0 => Nat.le_refl _
  | n + 1 => by
    unfold aleft
    split
    · exact Nat.le_refl _
    · have := aleft_le kp n; omega
theorem held_in (v : Int32) : 0 ≤ f_E_held v 0 12 ∧ f_E_held v 0 12 ≤ 12 := by
  unfold f_E_held
  by_cases h2 : v < 12
  · rw [if_pos h2]
    by_cases h1 : 0 < v
    · rw [if_pos h1]
      exact ⟨Int32.le_of_lt h1, Int32.le_of_lt h2⟩
    · rw [if_neg h1]
      exact ⟨by decide, by decide⟩
  · rw [if_neg h2]
    exact ⟨by decide, by decide⟩
theorem in12 {x : Int32} (h : 0 ≤ x ∧ x ≤ 12) : ∃ k : Nat, k ≤ 12 ∧ x = nI k := nI_of2 (M := 12) (n := 12) (by decide) (Int32.not_lt.mpr h.1) h.2
theorem akeeps_in (txs : List AT) (p : ASp) (n : Nat) : 0 ≤ akeeps txs p n ∧ akeeps txs p n ≤ 12 := by
  obtain ⟨k, hk, e⟩ := in12 (held_in (given txs p (nI n)))
  unfold akeeps
  rw [e]
  have key : ∀ k, k ≤ 12 → ∀ z : Int32, 0 ≤ f_Kinds_keepsOf z (nI k) ∧ f_Kinds_keepsOf z (nI k) ≤ 12 := by
    intro k hk z
    unfold f_Kinds_keepsOf
    have : ∀ k, k < 13 → (0 ≤ nI k / 2 ∧ nI k / 2 ≤ 12) ∧ (0 ≤ (if 0 < nI k - 2 then nI k - 2 else 0) ∧ (if 0 < nI k - 2 then nI k - 2 else 0) ≤ 12) ∧ (0 ≤ nI k / 2 + 3 ∧ nI k / 2 + 3 ≤ 12) ∧ (0 ≤ nI k ∧ nI k ≤ 12) := by decide +kernel
    obtain ⟨a1, a2, a3, a4⟩ := this k (by omega)
    split
    · exact a1
    split
    · exact a2
    split
    · exact a3
    split
    · exact a2
    split
    · exact ⟨by decide, by decide⟩
    · exact a4
  exact key k hk p.1
/-- what a speaker takes of a row -/
def WEar (p : ASp) : Prop := ∃ e : Nat, p.2.1 = nI e ∧ 1 ≤ e ∧ e ≤ 9
def takesN (p : ASp) : Nat := (f_Kinds_takesOf p.1 p.2.1).toNatClampNeg
theorem takes_eq {p : ASp} (h : WEar p) : f_Kinds_takesOf p.1 p.2.1 = nI (takesN p) ∧ takesN p ≤ 11 := by
  obtain ⟨e, he, h1, h9⟩ := h
  unfold takesN
  rw [he]
  have key : ∀ e, e < 10 → ∀ z : Int32, f_Kinds_takesOf z (nI e) = nI (f_Kinds_takesOf z (nI e)).toNatClampNeg ∧ (f_Kinds_takesOf z (nI e)).toNatClampNeg ≤ 11 := by
    intro e he z
    unfold f_Kinds_takesOf
    have : ∀ e, e < 10 → (nI e + 2 = nI (nI e + 2).toNatClampNeg ∧ (nI e + 2).toNatClampNeg ≤ 11) ∧ (nI e / 2 = nI (nI e / 2).toNatClampNeg ∧ (nI e / 2).toNatClampNeg ≤ 11) ∧ (nI e / 2 + 1 = nI (nI e / 2 + 1).toNatClampNeg ∧ (nI e / 2 + 1).toNatClampNeg ≤ 11) ∧ (nI e = nI (nI e).toNatClampNeg ∧ (nI e).toNatClampNeg ≤ 11) := by decide +kernel
    obtain ⟨a1, a2, a3, a4⟩ := this e he
    split
    · exact a1
    split
    · exact a2
    split
    · exact a1
    split
    · exact a3
    split
    · exact ⟨by decide, by decide⟩
    · exact a4
  exact key e (by omega) p.1
/-- a speaker hears a row; how many words it loses -/
def ahw (p : ASp) (row : List Int32) : List Int32 := p.2.2.2.2 ++ row.take (takesN p)
def ahl (txs : List AT) (p : ASp) (row : List Int32) : Nat := (ahw p row).length - aleft (akeeps txs p) (ahw p row).length
def ahears (txs : List AT) (p : ASp) (row : List Int32) : ASp := (p.1, p.2.1, p.2.2.1, p.2.2.2.1, (ahw p row).drop (ahl txs p row))
theorem hears_c {L d F S R nR f : Nat} {p : ASp} {row : List Int32} {txs : List AT} {hi : pm_B} {Q : pm_Q} (hF : pm_fo F) (hS : pm_sk S) (hR : (SH L)[R]? = some (1, 0, nR)) (hnR : nR ≤ 1000) (hne : R ≠ S + 1) (hne2 : R ≠ S) (hp : CS hi S p) (he : WEar p) (hl12 : p.2.2.2.2.length ≤ 12) (hrow : Row (fun k => hi R (f + k)) row) (hb : f + row.length ≤ nR) (hlaw : hi (F + 18) 0 = lix (lk txs 0)) (hX : CX hi txs)
    (h : ∀ hi', Fr (fun q j => q = 49 ∨ q = S + 1 ∨ (q = S ∧ j = 4) ∨ (q = F ∧ j = 5)) hi hi' → CS hi' S (ahears txs p row) → hi' F 5 = hi F 5 + nI (ahl txs p row) → Q none hi') : pm_C pm_g (SH L) HR (d + 5) m_Folk_hears [.inr F, .inr S, .inr R, .inl (nI f), .inl (nI row.length)] hi Q := by
  obtain ⟨ht, ht11⟩ := takes_eq he
  have hne' := sk_ne hS hF
  refine v_Folk_hears (d := d + 3) hF hS hR (by omega) ?_
  rw [hp.1, hp.2.1, ht]
  have hmin : (if nI (takesN p) < nI row.length then nI (takesN p) else nI row.length) = nI (row.take (takesN p)).length := by
    rw [List.length_take]
    by_cases hlt : takesN p < row.length
    · rw [if_pos (nI_lt hlt (by omega)), Nat.min_eq_left (by omega)]
    · rw [if_neg (nI_nlt (by omega) (by omega)), Nat.min_eq_right (by omega)]
  rw [hmin]
  have hlt : (row.take (takesN p)).length ≤ 11 := by rw [List.length_take]; omega
  have hlt2 : (row.take (takesN p)).length ≤ row.length := by rw [List.length_take]; omega
  refine putBehind_c (d := d + 3) hS hR hnR hne hne2 hp.2.2.2.2.1 hp.2.2.2.2.2 (hrow.take _) (by omega) (by omega) (fun hi1 hF1 h4 hr1 => ⟨rfl, ?_⟩)
  have hw : p.2.2.2.2 ++ row.take (takesN p) = ahw p row := rfl
  rw [hw] at h4 hr1
  have hwl : (ahw p row).length ≤ 23 := by unfold ahw; rw [List.length_append]; omega
  rw [h4]
  have hS1 : ∀ j, j ≠ 4 → hi1 S j = hi S j := fun j hj => hF1 S j (by omega)
  have hp1 : CS hi1 S (p.1, p.2.1, p.2.2.1, p.2.2.2.1, ahw p row) := ⟨(hS1 0 (by omega)).trans hp.1, (hS1 1 (by omega)).trans hp.2.1, (hS1 2 (by omega)).trans hp.2.2.1, (hS1 3 (by omega)).trans hp.2.2.2.1, h4, hr1⟩
  have hlaw1 : hi1 (F + 18) 0 = lix (lk txs 0) := by rw [hF1 (F + 18) 0 (by omega)]; exact hlaw
  have hX1 : CX hi1 txs := hX.kept (fun q j h1 h2 => hF1 q j (by omega))
  have fin : ∀ n hi3, n = aleft (akeeps txs p) (ahw p row).length → Fr (fun q _ => q = 49) hi1 hi3 → pm_C pm_g (SH L) HR (d + 4) m_Speaker_forgetOldest [.inr S, .inl ((pm_u hi3 F 5 (hi3 F 5 + (hi3 S 4 - nI n))) S 4 - nI n)] (pm_u hi3 F 5 (hi3 F 5 + (hi3 S 4 - nI n))) (fun v hi6 => v = none ∧ Q none hi6) := by
    intro n hi3 hn hF3
    have hnl : n ≤ (ahw p row).length := by rw [hn]; exact aleft_le _ _
    have g4 : hi3 S 4 = nI (ahw p row).length := by rw [hF3 S 4 (by omega)]; exact h4
    have g5 : hi3 F 5 = hi F 5 := by rw [hF3 F 5 (by omega), hF1 F 5 (by omega)]
    rw [pm_u_ne (Or.inl (by omega)), g4, g5, nI_sub hnl]
    refine forgetOldest_c (d := d + 3) (ws := ahw p row) hS ?_ ?_ (by omega) (by omega) (fun hi6 hF6 k4 kr => ⟨rfl, ?_⟩)
    · rw [pm_u_ne (Or.inl (by omega))]
      exact g4
    · refine hr1.to (fun j _ => ?_)
      rw [pm_u_ne (Or.inl (by omega))]
      exact hF3 _ _ (by omega)
    · have el : (ahw p row).length - n = ahl txs p row := by unfold ahl; rw [hn]
      rw [el] at k4 kr
      have tS : ∀ j, j ≠ 4 → hi6 S j = hi S j := fun j hj => by
        rw [hF6 S j (by omega), pm_u_ne (Or.inl (by omega)), hF3 S j (by omega)]
        exact hS1 j hj
      refine h hi6 ?_ ⟨(tS 0 (by omega)).trans hp.1, (tS 1 (by omega)).trans hp.2.1, (tS 2 (by omega)).trans hp.2.2.1, (tS 3 (by omega)).trans hp.2.2.2.1, k4, kr⟩ ?_
      · intro q j hq
        rw [hF6 q j (by omega), pm_u_ne (by omega), hF3 q j (by omega), hF1 q j (by omega)]
      · rw [hF6 F 5 (by omega), pm_u_at, el]
  have key : ∀ n m hi', n + m = (ahw p row).length → aleft (akeeps txs p) n = aleft (akeeps txs p) (ahw p row).length → Fr (fun q _ => q = 49) hi1 hi' → pm_W pm_g (SH L) HR (d + 4) pm_t10 31 [some (.inr F), some (.inr S), some (.inr R), some (.inl (nI f)), some (.inl (nI row.length)), some (.inl (nI n)), some (.inl (nI m))] [] hi' Q := by
    intro n
    induction n with
    | zero =>
      intro m hi' hm hal hF'
      refine v_Folk_hears_31 (d := d + 3) hF hS hR (by omega) ⟨fun hc => absurd hc (nI_ge (b := 24) (by omega) (by omega)), fun _ => ?_⟩
      refine keepsOf_c (d := d + 1) (txs := txs) hF hS (hp1.kept (fun j => hF' _ _ (by omega)) (fun j => hF' _ _ (by omega))) (by rw [hF' _ _ (by omega)]; exact hlaw1) (hX1.kept (fun q j h1 h2 => hF' _ _ (by omega))) (fun hi3 hF3 => ⟨_, rfl, fun _ => fin 0 hi3 hal (hF'.tr hF3), fun hc => absurd ?_ hc⟩)
      exact (akeeps_in txs p 0).1
    | succ n ih =>
      intro m hi' hm hal hF'
      refine v_Folk_hears_31 (d := d + 3) hF hS hR (by omega) ⟨fun hc => absurd hc (nI_ge (b := 24) (by omega) (by omega)), fun _ => ?_⟩
      refine keepsOf_c (d := d + 1) (txs := txs) hF hS (hp1.kept (fun j => hF' _ _ (by omega)) (fun j => hF' _ _ (by omega))) (by rw [hF' _ _ (by omega)]; exact hlaw1) (hX1.kept (fun q j h1 h2 => hF' _ _ (by omega))) (fun hi3 hF3 => ⟨_, rfl, fun hc => fin (n + 1) hi3 ?_ (hF'.tr hF3), fun hc => ?_⟩)
      · rw [← hal]
        unfold aleft
        exact (if_pos hc).symm
      · rw [pk_m1, nI_1]
        refine ih (m + 1) hi3 (by omega) ?_ (hF'.tr hF3)
        rw [← hal]
        conv => rhs; unfold aleft
        exact (if_neg hc).symm
  exact key (ahw p row).length 0 hi1 (by omega) rfl Fr.rf
