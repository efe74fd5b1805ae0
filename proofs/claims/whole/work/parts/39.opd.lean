/-! breaths, wanting, who -/
theorem shr_bit (x : Int32) {j : Nat} (hj : j < 20) : ((x >>> (nI j &&& 31)) &&& 1) = (((Int32.toUInt32 x >>> (Int32.toUInt32 (nI j) &&& Int32.toUInt32 31)).toInt32) &&& 1) := by
  rw [pk_and _ (m := 1) 1 (by decide), pk_and _ (m := 1) 1 (by decide)]
  have e31 : ∀ j, j < 20 → ((nI j &&& 31).toBitVec.smod 32).toNat = j ∧ (((nI j).toUInt32 &&& Int32.toUInt32 31).toBitVec % 32).toNat = j := by decide +kernel
  have h1 := pk_shr x (nI j &&& 31) j (e31 j hj).1
  have h2 := pk_ushr x (nI j) j (e31 j hj).2
  rw [h2]
  generalize x >>> (nI j &&& 31) = y at h1 ⊢
  have h3 : y.toInt = if 2 * y.toBitVec.toNat < 2 ^ 32 then (y.toBitVec.toNat : Int) else (y.toBitVec.toNat : Int) - 2 ^ 32 := BitVec.toInt_eq_toNat_cond y.toBitVec
  have h4 : x.toInt = if 2 * x.toBitVec.toNat < 2 ^ 32 then (x.toBitVec.toNat : Int) else (x.toBitVec.toNat : Int) - 2 ^ 32 := BitVec.toInt_eq_toNat_cond x.toBitVec
  rw [h3, h4, Int.shiftRight_eq_div_pow] at h1
  have hx := x.toBitVec.isLt
  have hy := y.toBitVec.isLt
  congr 1
  generalize x.toBitVec.toNat = a at h1 hx ⊢
  generalize y.toBitVec.toNat = b at h1 hy ⊢
  clear h2 h3 h4 e31
  rcases (show j = 0 ∨ j = 1 ∨ j = 2 ∨ j = 3 ∨ j = 4 ∨ j = 5 ∨ j = 6 ∨ j = 7 ∨ j = 8 ∨ j = 9 ∨ j = 10 ∨ j = 11 ∨ j = 12 ∨ j = 13 ∨ j = 14 ∨ j = 15 ∨ j = 16 ∨ j = 17 ∨ j = 18 ∨ j = 19 by omega) with rfl | rfl | rfl | rfl | rfl | rfl | rfl | rfl | rfl | rfl | rfl | rfl | rfl | rfl | rfl | rfl | rfl | rfl | rfl | rfl <;> simp only [Nat.reducePow] at h1 ⊢ <;> split at h1 <;> split at h1 <;> omega
theorem srt {t : AH} (h : WH t) : 0 ≤ t.1 ↔ ¬ t.1 = -1 := by
  rcases h.1 with e | e | e <;> rw [e] <;> decide
theorem readSay_c {L d i : Nat} {t : AH} {hi : pm_B} {Q : pm_Q} (hi4 : i < 4) (hC : CH hi (113 + 2 * i) t) (hl : t.2.length ≤ 24) (h1 : t.1 = -1 → Q (some (.inl (-1000000011))) hi)
    (h2 : ¬ t.1 = -1 → ∀ hi', Fr PG hi hi' → CY hi' (aread t.2) → Q (some (.inl (if (aread t.2).length = 0 then -1000000014 else 0))) hi') : pm_C pm_g (SH L) HR (d + 3) m_E_readSaying [.inr 16, .inl (nI i)] hi Q := by
  refine v_E_readSaying (d := d + 1) ⟨fun c => absurd c (nI_pos (by omega)), fun _ => ⟨fun c => absurd c (nI_ge (b := 4) (by omega) (by omega)), fun _ => ⟨i, hi4, rfl, ?_⟩⟩⟩
  rw [hC.1]
  refine ⟨fun c => ⟨i, hi4, rfl, ?_⟩, fun c => h1 (Decidable.not_not.mp c)⟩
  refine read_c (d := d) (by exact Or.inl ⟨i, hi4, rfl⟩) hC hl (fun hi' hf hY => ⟨rfl, ?_⟩)
  have h3 := h2 c hi' (hf.mono (fun q j hq => by unfold PG; omega)) hY
  have hal := (aread_W t.2).1
  rw [hY.1]
  refine ⟨fun c1 => ?_, fun c1 => ?_⟩
  · rw [if_neg (fun e => c1 (by rw [e]; rfl))] at h3; exact h3
  · rw [if_pos (Nat.eq_zero_of_not_pos (fun e => c1 (nI_ne0 e (by omega))))] at h3; exact h3
theorem CF.beside {hi hi' : pm_B} {F : Nat} {f : AF} (h : CF hi F f) (h8 : f.1.length ≤ 8) (hF : F = 50) (hf : Fr PG hi hi') : CF hi' F f := h.kept h8 (fun q j a b => hf q j (by unfold PG; omega))
def asayS (t : AH) (g : List Int32 → Int32) : Int32 := if t.1 = -1 then -1000000011 else if (aread t.2).length = 0 then -1000000014 else g (aread t.2)
def o_breaths (s : St) (a b : Int32) : St × Int32 := match ixo a 4 with
  | none => (s, -1000000001)
  | some i => match ixo b s.1.1.length with
    | none => (s, -1000000001)
    | some j => (s, asayS (s.2.2.2.2.1 i) (fun ws => abreaths ws (spa s.1 j)))
theorem E_breaths {L d : Nat} {s : St} {a b : Int32} {hi : pm_B} {Q : pm_Q} (hW : WI s) (hC : CI hi s) (h : EP hi (o_breaths s a b) Q) : pm_C pm_g (SH L) HR (d + 20) m_E_breaths [.inr 16, .inl a, .inl b] hi Q := by
  have h8 := hW.1.1
  unfold o_breaths at h
  refine v_E_breaths (d := d + 18) (gL 4 rfl (by omega) (fun x => ?_) (fun i hi4 hx x => gE hC.1.n hW.1.1 (fun y => ?_) (fun j hj8 hy y => ?_)))
  · rw [x] at h; exact h.same hC
  · rw [x] at h; dsimp only at h; rw [y] at h; exact h.same hC
  · rw [x] at h; dsimp only at h; rw [y] at h; dsimp only at h
    subst hx
    have hH := hC.2.2.2.2.2.2.1 i hi4
    have wH := hW.2.2.2.2.2.2.2.1 i hi4
    generalize s.2.2.2.2.1 i = t at h hH wH
    unfold asayS at h
    refine readSay_c (d := d + 16) hi4 hH wH.2 (fun c => ⟨_, rfl, fun e => absurd e (by decide), fun _ => ?_⟩) (fun c hi' hf hY => ⟨_, rfl, fun e => ⟨j, by omega, hy, ?_⟩, fun e => ?_⟩)
    · rw [if_pos c] at h; exact h.same hC
    · have hc := (hC.1.beside h8 rfl hf).at hj8
      have hl := (hW.1.at hj8).2.2.1
      have e0 : ¬ (aread t.2).length = 0 := fun hh => by rw [if_pos hh] at e; exact absurd e (by decide)
      rw [if_neg c, if_neg e0] at h
      exact breathsOf_c (d := d + 15) (sk_of fo50 (by omega)) hc (by omega) hY (aread_W _) ⟨_, rfl, h.sameF hC hW hf⟩
    · have e0 : (aread t.2).length = 0 := Classical.byContradiction (fun hh => e (by rw [if_neg hh]))
      rw [if_neg c, if_pos e0] at h
      rw [if_pos e0]
      exact h.sameF hC hW hf
theorem abreaths_enc {ws : List Int32} {p : ASp} : abreaths ws p = match bro ws p with
  | none => -1000000005
  | some b => nI b := rfl
theorem bro_le {ws : List Int32} {p : ASp} {i : Nat} (h : bro ws p = some i) : i ≤ 12 := abr_le 12 0 0 i h
theorem PY.ph {a b : pm_B} (h : Fr PY a b) : Fr PH' a b := h.mono (fun q j hp => by unfold PY at hp; unfold PH'; omega)
theorem PB.ph {a b : pm_B} (h : Fr PB a b) : Fr PH' a b := h.mono (fun q j hp => by unfold PB at hp; unfold PH'; omega)
theorem MF.beside {hi hi' : pm_B} {f : AF} (h : MF (hi 142) f) (hW : WA f) (hf : Fr PH' hi hi') : MF (hi' 142) f := h.kept hW.l24 hW.1 (fun j _ => hf 142 j (by unfold PH'; omega))
theorem M_breaths {L d : Nat} {s : St} {a b : Int32} {hi : pm_B} {Q : pm_Q} (hW : WI s) (hM : MI hi s) (h : MP hi (o_breaths s a b) Q) : pm_C pm_g (SH L) HR (d + 20) m_M_breaths [.inr 141, .inl a, .inl b] hi Q := by
  have h8 := hW.1.1
  unfold o_breaths at h
  refine v_M_breaths (d := d + 17) (gT 3 rfl (by omega) (fun x => ?_) (fun i hi4 hx x => gM hM.1.n (by omega) (fun y => ?_) (fun j hj8 hy y => ⟨i, hi4, hx, ?_⟩)))
  · rw [x] at h; exact h.same hM
  · rw [x] at h; dsimp only at h; rw [y] at h; exact h.same hM
  · rw [x] at h; dsimp only at h; rw [y] at h; dsimp only at h
    subst hx hy
    have hH := hM.2.2.2.2.2.2.1 i hi4
    have wH := hW.2.2.2.2.2.2.2.1 i hi4
    generalize s.2.2.2.2.1 i = t at h hH wH
    unfold asayS at h
    rw [hH.1]
    refine ⟨fun c => ?_, fun c => ?_⟩
    · rw [if_neg ((srt wH).mp c)] at h
      refine mreads_c (d := d + 16) hi4 hH wH.2 (fun hi' hf hY => ⟨rfl, ?_⟩)
      have hal := (aread_W t.2).1
      rw [hY.1]
      refine ⟨fun c1 => ?_, fun c1 => ⟨fun c2 => absurd c2 c1, fun _ => ?_⟩⟩
      · have e0 : ¬ (aread t.2).length = 0 := fun hh => c1 (by rw [hh]; rfl)
        rw [if_neg e0] at h
        have hp := (hM.1.beside hW.1 (PY.ph hf)).at hj8
        refine mbreathsOf_c (d := d + 15) (by omega) hp (hW.1.at hj8).2.2.1 hY hal (fun hi2 f2 => ⟨_, rfl, ?_⟩)
        rw [f2 141 7 (by unfold PB; omega), hY.1]
        refine ⟨fun _ => ?_, fun hh => absurd c1 hh⟩
        dsimp only at h
        rw [abreaths_enc] at h
        cases hb : bro (aread t.2) (spa s.1 j) with
        | none =>
          rw [hb] at h
          exact ⟨fun hh => absurd hh (by decide), fun _ => h.sameF hM hW ((PY.ph hf).tr (PB.ph f2))⟩
        | some n =>
          rw [hb] at h
          exact ⟨fun _ => h.sameF hM hW ((PY.ph hf).tr (PB.ph f2)), fun hh => absurd (nI_pos' (by have := bro_le hb; omega)) hh⟩
      · have e0 : (aread t.2).length = 0 := Nat.eq_zero_of_not_pos (fun e => c1 (nI_ne0 e (by omega)))
        rw [if_pos e0] at h
        exact h.sameF hM hW (PY.ph hf)
    · rw [if_pos (Classical.byContradiction (fun hh => c ((srt wH).mpr hh)))] at h
      exact h.same hM
theorem W_breaths {s : St} {a b : Int32} (hW : WI s) : WI (o_breaths s a b).1 := by
  unfold o_breaths
  cases ixo a 4
  · exact hW
  · dsimp only
    cases ixo b s.1.1.length <;> exact hW
/-! wanting -/
def o_wanting (s : St) (a : Int32) : St × Int32 := match ixo a 4 with
  | none => (s, -1000000001)
  | some i => (s, if (s.2.2.2.2.1 i).1 = -1 then -1000000011 else aout (aany s.1.1) (aread (s.2.2.2.2.1 i).2))
theorem E_wanting {L d : Nat} {s : St} {a : Int32} {hi : pm_B} {Q : pm_Q} (hW : WI s) (hC : CI hi s) (h : EP hi (o_wanting s a) Q) : pm_C pm_g (SH L) HR (d + 20) m_E_wanting [.inr 16, .inl a] hi Q := by
  have h8 := hW.1.1
  unfold o_wanting at h
  refine v_E_wanting (d := d + 18) (gL 4 rfl (by omega) (fun x => ?_) (fun i hi4 hx x => ?_))
  · rw [x] at h; exact h.same hC
  · rw [x] at h; dsimp only at h
    subst hx
    have hH := hC.2.2.2.2.2.2.1 i hi4
    have wH := hW.2.2.2.2.2.2.2.1 i hi4
    generalize s.2.2.2.2.1 i = t at h hH wH
    refine readSay_c (d := d + 16) hi4 hH wH.2 (fun c => ⟨_, rfl, fun e => absurd rfl e, fun _ => ?_⟩) (fun c hi' hf hY => ⟨_, rfl, fun e => ?_, fun e => absurd (by split <;> decide) e⟩)
    · rw [if_pos c] at h; exact h.same hC
    · rw [if_neg c] at h
      exact wordsOfSomebody_c (d := d + 17) fo50 hW.1.wf (hC.1.beside h8 rfl hf) ⟨_, rfl, firstOutside_c (d := d + 18) hY (aread_W _) ⟨_, rfl, h.sameF hC hW hf⟩⟩
theorem isw_nI {w : Int32} (h : isw w) : ∃ j, j < 20 ∧ w = nI j := by
  rcases pk_ix w (n := 20) (by omega) with e | e | e
  · exact absurd e h.1
  · exact absurd e h.2
  · exact e
theorem M_wanting {L d : Nat} {s : St} {a : Int32} {hi : pm_B} {Q : pm_Q} (hW : WI s) (hM : MI hi s) (h : MP hi (o_wanting s a) Q) : pm_C pm_g (SH L) HR (d + 20) m_M_wanting [.inr 141, .inl a] hi Q := by
  have h8 := hW.1.1
  unfold o_wanting at h
  refine v_M_wanting (d := d + 17) (gT 3 rfl (by omega) (fun x => ?_) (fun i hi4 hx x => ⟨i, hi4, hx, ?_⟩))
  · rw [x] at h; exact h.same hM
  · rw [x] at h; dsimp only at h
    subst hx
    have hH := hM.2.2.2.2.2.2.1 i hi4
    have wH := hW.2.2.2.2.2.2.2.1 i hi4
    generalize s.2.2.2.2.1 i = t at h hH wH
    rw [hH.1]
    refine ⟨fun c => ?_, fun c => ?_⟩
    · rw [if_neg ((srt wH).mp c)] at h
      refine mreads_c (d := d + 16) hi4 hH wH.2 (fun hi' hf hY => ⟨rfl, ?_⟩)
      have hal := aread_W t.2
      refine mknown_c (d := d + 16) hW.1 (hM.1.beside hW.1 (PY.ph hf)) ⟨_, rfl, ?_⟩
      have h := h.sameF hM hW (PY.ph hf)
      generalize aread t.2 = ws at h hY hal
      have hl12 := hal.1
      have key : ∀ n k, k + n = ws.length → aout (aany s.1.1) (ws.drop k) = aout (aany s.1.1) ws → pm_W pm_g (SH L) HR (d + 17 + 2) pm_t182 34 [some (.inr 141), some (.inl (nI i)), some (.inl (aany s.1.1)), some (.inl (nI k))] [] hi' Q := by
        intro n
        induction n with
        | zero =>
          intro k hk ha
          refine v_M_wanting_34 ?_
          rw [hY.1]
          rw [List.drop_of_length_le (by omega)] at ha
          rw [← ha] at h
          exact ⟨fun _ => h, fun hh => absurd (nI_le (by omega) (by omega)) hh⟩
        | succ n ih =>
          intro k hk ha
          refine v_M_wanting_34 ?_
          rw [hY.1]
          have hk' : k < ws.length := by omega
          rw [List.drop_eq_getElem_cons hk', aout] at ha
          refine ⟨fun hh => absurd hh (nI_ge (by omega) (by omega)), fun _ => ⟨k, by omega, rfl, ?_⟩⟩
          obtain ⟨j, hj, ej⟩ := isw_nI (hal.2 _ (List.getElem_mem hk'))
          rw [hY.2.at hk', ej, shr_bit _ hj, ← ej]
          refine ⟨fun hh => ?_, fun hh => ⟨k, by omega, rfl, ?_⟩⟩
          · rw [if_neg hh] at ha
            rw [nI_1]
            exact ih (k + 1) (by omega) ha
          · rw [if_pos (Decidable.not_not.mp hh)] at ha
            rw [hY.2.at hk', ha]
            exact h
      exact key _ 0 (Nat.zero_add _) rfl
    · rw [if_pos (Classical.byContradiction (fun hh => c ((srt wH).mpr hh)))] at h
      exact h.same hM
theorem W_wanting {s : St} {a : Int32} (hW : WI s) : WI (o_wanting s a).1 := by
  unfold o_wanting
  cases ixo a 4 <;> exact hW
/-! who -/
def whoN (ws : List Int32) (f : AF) : Nat → Int32
  | 0 => 0
  | k + 1 => if bro ws (spa f k) = none then whoN ws f k else whoN ws f k ||| (1 <<< (nI k &&& 31))
def o_who (s : St) (a : Int32) : St × Int32 := match ixo a 4 with
  | none => (s, -1000000001)
  | some i => (s, asayS (s.2.2.2.2.1 i) (fun ws => whoN ws s.1 s.1.1.length))
theorem abreaths_none {ws : List Int32} {p : ASp} : abreaths ws p = -1000000005 ↔ bro ws p = none := by
  rw [abreaths_enc]
  cases hb : bro ws p with
  | none => exact ⟨fun _ => rfl, fun _ => rfl⟩
  | some n =>
    refine ⟨fun h => ?_, fun h => by cases h⟩
    have h1 := nI_pos (n := n) (by have := bro_le hb; omega)
    have h : nI n = -1000000005 := h
    rw [h] at h1
    exact absurd (by decide) h1
theorem E_who {L d : Nat} {s : St} {a : Int32} {hi : pm_B} {Q : pm_Q} (hW : WI s) (hC : CI hi s) (h : EP hi (o_who s a) Q) : pm_C pm_g (SH L) HR (d + 20) m_E_who [.inr 16, .inl a] hi Q := by
  have h8 := hW.1.1
  unfold o_who at h
  refine v_E_who (d := d + 18) (gL 4 rfl (by omega) (fun x => ?_) (fun i hi4 hx x => ?_))
  · rw [x] at h; exact h.same hC
  · rw [x] at h; dsimp only at h
    subst hx
    have hH := hC.2.2.2.2.2.2.1 i hi4
    have wH := hW.2.2.2.2.2.2.2.1 i hi4
    generalize s.2.2.2.2.1 i = t at h hH wH
    unfold asayS at h
    refine readSay_c (d := d + 16) hi4 hH wH.2 (fun c => ⟨_, rfl, fun e => absurd e (by decide), fun _ => ?_⟩) (fun c hi' hf hY => ⟨_, rfl, fun e => ?_, fun e => ?_⟩)
    · rw [if_pos c] at h; exact h.same hC
    · have e0 : ¬ (aread t.2).length = 0 := fun hh => by rw [if_pos hh] at e; exact absurd e (by decide)
      rw [if_neg c, if_neg e0] at h
      have h := h.sameF hC hW hf
      have hc := hC.1.beside h8 rfl hf
      have hal := aread_W t.2
      rw [if_neg e0]
      generalize aread t.2 = ws at h hY hal
      have key : ∀ n k, k + n = s.1.1.length → pm_W pm_g (SH L) HR (d + 18 + 1) pm_t90 27 [some (.inr 16), some (.inl (nI i)), some (.inl 0), some (.inl (whoN ws s.1 k)), some (.inl (nI k))] [] hi' Q := by
        intro n
        induction n with
        | zero =>
          intro k hk
          refine v_E_who_27 ?_
          rw [hc.n]
          rw [Nat.add_zero] at hk
          rw [hk]
          exact ⟨fun _ => h, fun hh => absurd (nI_le (by omega) (by omega)) hh⟩
        | succ n ih =>
          intro k hk
          refine v_E_who_27 ?_
          rw [hc.n]
          have hk' : k < s.1.1.length := by omega
          refine ⟨fun hh => absurd hh (nI_ge (by omega) (by omega)), fun _ => ⟨k, by omega, rfl, ?_⟩⟩
          have hl := (hW.1.at hk').2.2.1
          refine breathsOf_c (d := d + 15) (sk_of fo50 (by omega)) (hc.at hk') (by omega) hY hal ⟨_, rfl, ?_⟩
          have := ih (k + 1) (by omega)
          unfold whoN at this
          rw [nI_1]
          refine ⟨fun hh => ?_, fun hh => ?_⟩
          · rw [if_pos (abreaths_none.mp hh)] at this; exact this
          · rw [if_neg (fun e => hh (abreaths_none.mpr e))] at this; exact this
      exact key _ 0 (Nat.zero_add _)
    · have e0 : (aread t.2).length = 0 := Classical.byContradiction (fun hh => e (by rw [if_neg hh]))
      rw [if_neg c, if_pos e0] at h
      rw [if_pos e0]
      exact h.sameF hC hW hf
theorem encO_pos {ws : List Int32} {p : ASp} (hl : ws.length ≤ 12) (h0 : ¬ ws.length = 0) : encO (bro ws p) ≤ 0 ↔ bro ws p = none := by
  have hb := bro_L (p := p) hl
  cases e : bro ws p with
  | none => exact ⟨fun _ => rfl, fun _ => by decide⟩
  | some i =>
    rw [e] at hb
    refine ⟨fun hh => ?_, fun hh => by cases hh⟩
    have hi0 : 0 < i := by
      cases i with
      | zero => have := hb.1; exact absurd this (by show ¬ ws.length ≤ 0; omega)
      | succ i => omega
    exact absurd hh (nI_nle hi0 (by have := bro_le e; omega))
theorem M_who {L d : Nat} {s : St} {a : Int32} {hi : pm_B} {Q : pm_Q} (hW : WI s) (hM : MI hi s) (h : MP hi (o_who s a) Q) : pm_C pm_g (SH L) HR (d + 20) m_M_who [.inr 141, .inl a] hi Q := by
  have h8 := hW.1.1
  unfold o_who at h
  refine v_M_who (d := d + 17) (gT 3 rfl (by omega) (fun x => ?_) (fun i hi4 hx x => ⟨i, hi4, hx, ?_⟩))
  · rw [x] at h; exact h.same hM
  · rw [x] at h; dsimp only at h
    subst hx
    have hH := hM.2.2.2.2.2.2.1 i hi4
    have wH := hW.2.2.2.2.2.2.2.1 i hi4
    generalize s.2.2.2.2.1 i = t at h hH wH
    unfold asayS at h
    rw [hH.1]
    refine ⟨fun c => ?_, fun c => ?_⟩
    · rw [if_neg ((srt wH).mp c)] at h
      refine mreads_c (d := d + 16) hi4 hH wH.2 (fun hi' hf hY => ⟨rfl, ?_⟩)
      have hal := (aread_W t.2).1
      generalize aread t.2 = ws at h hY hal
      have hm0 := hM.1.beside hW.1 (PY.ph hf)
      by_cases e0 : ws.length = 0
      · rw [if_pos e0] at h
        have h := h.sameF hM hW (PY.ph hf)
        refine v_M_who_31 ?_
        rw [hY.1, e0]
        exact ⟨fun _ => ⟨fun hh => absurd rfl hh, fun _ => h⟩, fun _ => ⟨fun _ => ⟨fun hh => absurd rfl hh, fun _ => h⟩, fun hh => absurd (by decide) hh⟩⟩
      · rw [if_neg e0] at h
        have key : ∀ n k hi2, k + n = s.1.1.length → Fr PB hi' hi2 → pm_W pm_g (SH L) HR (d + 17 + 2) pm_t183 31 [some (.inr 141), some (.inl (nI i)), some (.inl (whoN ws s.1 k)), some (.inl (nI k))] [] hi2 Q := by
          intro n
          induction n with
          | zero =>
            intro k hi2 hk f2
            refine v_M_who_31 ?_
            rw [f2 142 1 (by unfold PB; omega), hm0.n, f2 141 7 (by unfold PB; omega), hY.1]
            rw [Nat.add_zero] at hk
            rw [hk]
            exact ⟨fun _ => ⟨fun _ => h.sameF hM hW ((PY.ph hf).tr (PB.ph f2)), fun hh => absurd (nI_ne0 (by omega) (by omega)) hh⟩, fun hh => absurd (nI_le (by omega) (by omega)) hh⟩
          | succ n ih =>
            intro k hi2 hk f2
            refine v_M_who_31 ?_
            rw [f2 142 1 (by unfold PB; omega), hm0.n, f2 141 7 (by unfold PB; omega), hY.1]
            have hk' : k < s.1.1.length := by omega
            have hY2 : MY hi2 ws := ⟨(f2 141 7 (by unfold PB; omega)).trans hY.1, hY.2.to (fun j _ => f2 146 j (by unfold PB; omega))⟩
            have hm2 := hm0.beside hW.1 (PB.ph f2)
            refine ⟨fun hh => absurd hh (nI_ge (by omega) (by omega)), fun _ => ⟨fun hh => absurd hh (nI_nle (by omega) (by omega)), fun _ => ?_⟩⟩
            refine mbreathsOf_c (d := d + 15) (by omega) (hm2.at hk') (hW.1.at hk').2.2.1 hY2 hal (fun hi3 f3 => ⟨_, rfl, ?_⟩)
            have := ih (k + 1) hi3 (by omega) (f2.tr f3)
            unfold whoN at this
            rw [nI_1, Int32.or_zero]
            refine ⟨fun hh => ?_, fun hh => ?_⟩
            · rw [if_pos ((encO_pos hal e0).mp hh)] at this; exact this
            · rw [if_neg (fun e => hh ((encO_pos hal e0).mpr e))] at this; exact this
        exact key _ 0 hi' (Nat.zero_add _) Fr.rf
    · rw [if_pos (Classical.byContradiction (fun hh => c ((srt wH).mpr hh)))] at h
      exact h.same hM
theorem W_who {s : St} {a : Int32} (hW : WI s) : WI (o_who s a).1 := by
  unfold o_who
  cases ixo a 4 <;> exact hW
