/-! pour, reads -/
theorem within99 (x : Int32) : f_M_within x 0 99 = f_E_held x 0 99 := by
  unfold f_M_within f_E_held
  by_cases h1 : x < 99
  · rw [if_pos h1]
    by_cases h2 : 0 < x
    · rw [if_pos h2, if_pos (Int32.le_of_lt h2), if_pos (Int32.le_of_lt h1)]
    · rw [if_neg h2]
      by_cases h3 : 0 ≤ x
      · rw [if_pos h3, if_pos (Int32.le_of_lt h1)]
        exact Int32.le_antisymm (Int32.not_lt.mp h2) h3
      · rw [if_neg h3]
  · rw [if_neg h1, if_pos (Int32.le_trans (by decide) (Int32.not_lt.mp h1)), if_pos (show (0 : Int32) < 99 by decide)]
    by_cases h2 : x ≤ 99
    · rw [if_pos h2]
      exact Int32.le_antisymm h2 (Int32.not_lt.mp h1)
    · rw [if_neg h2]
/-- the fame of speaker k becomes v -/
def famed (f : AF) (k : Nat) (v : Int32) : AF := spu f k ((spa f k).1, (spa f k).2.1, v, (spa f k).2.2.2)
def apour1 (pl : List Int32) (f : AF) (c k : Nat) : AF × Nat := match pl[k]? with
  | none => (f, c)
  | some v => if v = -1000000005 then (f, c) else (famed f k (f_E_held v 0 99), if f_E_held v 0 99 = (spa f k).2.2.1 then c else c + 1)
def apour (pl : List Int32) (f : AF) : Nat → AF × Nat
  | 0 => (f, 0)
  | k + 1 => apour1 pl (apour pl f k).1 (apour pl f k).2 k
theorem famed_all {f : AF} {k : Nat} {v : Int32} (h : WA f) (hk : k < f.1.length) : WA (famed f k v) ∧ txo (famed f k v) = txo f ∧ (famed f k v).2.2.2.2.1 = f.2.2.2.2.1 ∧ (famed f k v).1.length = f.1.length := by
  have wp := h.at hk
  exact ⟨h.spu ⟨wp.1, wp.2.1, wp.2.2⟩, rfl, rfl, List.length_set⟩
theorem pour_all {pl : List Int32} {f : AF} (h : WA f) : ∀ k, k ≤ f.1.length → WA (apour pl f k).1 ∧ txo (apour pl f k).1 = txo f ∧ (apour pl f k).1.2.2.2.2.1 = f.2.2.2.2.1 ∧ (apour pl f k).1.1.length = f.1.length ∧ (apour pl f k).2 ≤ k
  | 0, _ => ⟨h, rfl, rfl, rfl, Nat.le_refl _⟩
  | k + 1, hk => by
    obtain ⟨a, b, c, d, e⟩ := pour_all h k (by omega)
    unfold apour apour1
    generalize apour pl f k = g at a b c d e ⊢
    cases pl[k]? with
    | none => exact ⟨a, b, c, d, by dsimp only; omega⟩
    | some v =>
      dsimp only
      by_cases c0 : v = -1000000005
      · rw [if_pos c0]; exact ⟨a, b, c, d, by dsimp only; omega⟩
      · rw [if_neg c0]
        obtain ⟨a', b', c', d'⟩ := famed_all (v := f_E_held v 0 99) a (show k < g.1.1.length by omega)
        refine ⟨a', b'.trans b, c'.trans c, d'.trans d, ?_⟩
        dsimp only
        split <;> omega
def o_pour (s : St) (a : Int32) : St × Int32 := match ixo a 4 with
  | none => (s, -1000000001)
  | some i => if (s.2.2.2.2.1 i).1 = -1 then (s, -1000000011) else (((apour (s.2.2.2.2.1 i).2 s.1 (min s.1.1.length (s.2.2.2.2.1 i).2.length)).1, s.2), nI (apour (s.2.2.2.2.1 i).2 s.1 (min s.1.1.length (s.2.2.2.2.1 i).2.length)).2)
theorem E_pour {L d : Nat} {s : St} {a : Int32} {hi : pm_B} {Q : pm_Q} (hW : WI s) (hC : CI hi s) (h : EP hi (o_pour s a) Q) : pm_C pm_g (SH L) HR (d + 20) m_E_pour [.inr 16, .inl a] hi Q := by
  have h8 := hW.1.1
  unfold o_pour at h
  refine v_E_pour (d := d + 18) (gL 4 rfl (by omega) (fun x => ?_) (fun i hi4 hx x => ⟨i, hi4, hx, ?_⟩))
  · rw [x] at h; exact h.same hC
  · rw [x] at h; dsimp only at h
    have hH := hC.2.2.2.2.2.2.1 i hi4
    have wH := hW.2.2.2.2.2.2.2.1 i hi4
    generalize s.2.2.2.2.1 i = t at h hH wH
    have hl := wH.2
    rw [hH.1]
    refine ⟨fun c => ?_, fun c => ?_⟩
    · rw [if_neg c] at h
      generalize hM : min s.1.1.length t.2.length = M at h
      have key : ∀ m k hi' o, k + m = M → Fr (PF 50) hi hi' → CF hi' 50 (apour t.2 s.1 k).1 → pm_W pm_g (SH L) HR (d + 18 + 1) pm_t106 33 [some (.inr 16), some (.inl a), some (.inr (113 + 2 * i)), some (.inl (nI (apour t.2 s.1 k).2)), some (.inl (nI k)), o] [] hi' Q := by
        intro m
        induction m with
        | zero =>
          intro k hi' o hk hf hc
          rw [Nat.add_zero] at hk
          subst hk
          obtain ⟨wa, wt, _, wl, _⟩ := pour_all (pl := t.2) hW.1 k (by omega)
          have done : Q (some (.inl (nI (apour t.2 s.1 k).2))) hi' := h.nowF hC hW hf hc wt
          have hH1 : hi' (113 + 2 * i) 1 = nI t.2.length := by rw [hf _ _ (by unfold PF; omega)]; exact hH.2.1
          refine v_E_pour_33 (d := d + 18) (st_of hi4) ?_
          rw [hc.n, wl, hH1]
          refine ⟨fun _ => done, fun c1 => ⟨fun c => absurd c (nI_pos (by omega)), fun _ => ⟨fun _ => done, fun c2 => ?_⟩⟩⟩
          have c1 : ¬ s.1.1.length ≤ k := fun hh => c1 (nI_le hh (by omega))
          have c2 : ¬ t.2.length ≤ k := fun hh => c2 (nI_le hh (by omega))
          omega
        | succ m ih =>
          intro k hi' o hk hf hc
          obtain ⟨wa, wt, _, wl, _⟩ := pour_all (pl := t.2) hW.1 k (by omega)
          have hH1 : ∀ q j, (q = 113 + 2 * i ∨ q = 113 + 2 * i + 1) → hi' q j = hi q j := fun q j hq => hf q j (by unfold PF; omega)
          have hkt : k < t.2.length := by omega
          have hks : k < (apour t.2 s.1 k).1.1.length := by omega
          refine v_E_pour_33 (d := d + 18) (st_of hi4) ?_
          rw [hc.n, wl, hH1 _ 1 (Or.inl rfl), hH.2.1]
          refine ⟨fun c => absurd c (nI_ge (by omega) (by omega)), fun _ => ⟨fun c => absurd c (nI_pos (by omega)), fun _ => ⟨fun c => absurd c (nI_ge (by omega) (by omega)), fun _ => ⟨fun c => absurd c (nI_ge (b := 24) (by omega) (by omega)), fun _ => ⟨k, by omega, rfl, ?_⟩⟩⟩⟩⟩
          have hcell : hi' (113 + 2 * i + 1) k = t.2[k] := by rw [hH1 _ k (Or.inr rfl)]; exact hH.2.2.at hkt
          rw [hcell]
          have nx := ih (k + 1)
          have ea : apour t.2 s.1 (k + 1) = apour1 t.2 (apour t.2 s.1 k).1 (apour t.2 s.1 k).2 k := rfl
          rw [ea] at nx
          unfold apour1 at nx
          rw [List.getElem?_eq_getElem hkt] at nx
          dsimp only at nx
          rw [nI_1]
          have hp := hc.at hks
          refine ⟨fun c1 => ⟨k, by omega, rfl, k, by omega, rfl, ?_⟩, fun c1 => ?_⟩
          · rw [if_neg c1] at nx
            rw [hcell, hp.2.2.1]
            have wr : CF (pm_u hi' (50 + 2 + 2 * k) 2 (f_E_held t.2[k] 0 99)) 50 (famed (apour t.2 s.1 k).1 k (f_E_held t.2[k] 0 99)) ∧ Fr (PF 50) hi (pm_u hi' (50 + 2 + 2 * k) 2 (f_E_held t.2[k] 0 99)) := ⟨hc.sp (by omega) hks (hp.u2 _) (fun q j a b c d => pm_u_ne (Or.inl c)), hf.tr (Fr.u (by unfold PF; omega))⟩
            refine ⟨fun c2 => ⟨k, by omega, rfl, ?_⟩, fun c2 => ⟨k, by omega, rfl, ?_⟩⟩
            · rw [if_pos c2] at nx
              exact nx _ _ (by omega) wr.2 wr.1
            · rw [if_neg c2] at nx
              rw [nI_1]
              exact nx _ _ (by omega) wr.2 wr.1
          · rw [if_pos (Decidable.not_not.mp c1)] at nx
            exact nx _ _ (by omega) hf hc
      exact key M 0 hi _ (by omega) Fr.rf hC.1
    · rw [if_pos (Decidable.not_not.mp c)] at h; exact h.same hC
theorem M_pour {L d : Nat} {s : St} {a : Int32} {hi : pm_B} {Q : pm_Q} (hW : WI s) (hM : MI hi s) (h : MP hi (o_pour s a) Q) : pm_C pm_g (SH L) HR (d + 20) m_M_pour [.inr 141, .inl a] hi Q := by
  have h8 := hW.1.1
  unfold o_pour at h
  refine v_M_pour (d := d + 17) (gT 3 rfl (by omega) (fun x => ?_) (fun i hi4 hx x => ⟨i, hi4, hx, ?_⟩))
  · rw [x] at h; exact h.same hM
  · rw [x] at h; dsimp only at h
    have hH := hM.2.2.2.2.2.2.1 i hi4
    have wH := hW.2.2.2.2.2.2.2.1 i hi4
    generalize s.2.2.2.2.1 i = t at h hH wH
    have hl := wH.2
    rw [hH.1]
    refine ⟨fun c => ?_, fun c => ?_⟩
    · rw [if_neg ((srt wH).mp c)] at h
      subst hx
      generalize hM' : min s.1.1.length t.2.length = M at h
      have key : ∀ m k hi' o4 o5, k + m = M → Fr (fun q j => q = 142 ∧ j < 239) hi hi' → MF (hi' 142) (apour t.2 s.1 k).1 → pm_W pm_g (SH L) HR (d + 17 + 2) pm_t219 26 [some (.inr 141), some (.inl (nI i)), some (.inl (nI (apour t.2 s.1 k).2)), some (.inl (nI k)), o4, o5] [] hi' Q := by
        intro m
        induction m with
        | zero =>
          intro k hi' o4 o5 hk hf hc
          rw [Nat.add_zero] at hk
          subst hk
          obtain ⟨wa, wt, _, wl, _⟩ := pour_all (pl := t.2) hW.1 k (by omega)
          have done : Q (some (.inl (nI (apour t.2 s.1 k).2))) hi' := h.nowF hM hW (hf.mono (fun q j hq => by unfold PL; omega)) hc wt
          refine v_M_pour_26 (d := d + 17) ⟨i, hi4, rfl, ?_⟩
          rw [hf 158 i (by omega), hH.2.1, hc.n, wl]
          refine ⟨fun _ => done, fun c1 => ⟨fun _ => done, fun c2 => ?_⟩⟩
          have c1 : ¬ t.2.length ≤ k := fun hh => c1 (nI_le hh (by omega))
          have c2 : ¬ s.1.1.length ≤ k := fun hh => c2 (nI_le hh (by omega))
          omega
        | succ m ih =>
          intro k hi' o4 o5 hk hf hc
          obtain ⟨wa, wt, _, wl, _⟩ := pour_all (pl := t.2) hW.1 k (by omega)
          have hkt : k < t.2.length := by omega
          have hks : k < (apour t.2 s.1 k).1.1.length := by omega
          refine v_M_pour_26 (d := d + 17) ⟨i, hi4, rfl, ?_⟩
          rw [hf 158 i (by omega), hH.2.1, hc.n, wl]
          refine ⟨fun c => absurd c (nI_ge (by omega) (by omega)), fun _ => ⟨fun c => absurd c (nI_ge (by omega) (by omega)), fun _ => ⟨24 * i + k, by omega, ix24 i k, ?_⟩⟩⟩
          have hcell : hi' 159 (24 * i + k) = t.2[k] := by rw [hf 159 _ (by omega)]; exact hH.2.2.at hkt
          rw [hcell, within99]
          have nx := ih (k + 1)
          have ea : apour t.2 s.1 (k + 1) = apour1 t.2 (apour t.2 s.1 k).1 (apour t.2 s.1 k).2 k := rfl
          rw [ea] at nx
          unfold apour1 at nx
          rw [List.getElem?_eq_getElem hkt] at nx
          dsimp only at nx
          rw [nI_1]
          have hp := hc.at hks
          refine ⟨fun c1 => ⟨7 + 29 * k + 2, by omega, ix k 2, 7 + 29 * k + 2, by omega, ix k 2, fun hi8 e8 => ?_⟩, fun c1 => ⟨7 + 29 * k + 2, by omega, ix k 2, 7 + 29 * k + 2, by omega, ix k 2, 7 + 29 * k + 2, by omega, ix k 2, fun hi8 e8 => ⟨fun c2 => absurd rfl c2, fun _ => ?_⟩⟩⟩
          · rw [if_neg c1] at nx
            have wr : MF (hi8 142) (famed (apour t.2 s.1 k).1 k (f_E_held t.2[k] 0 99)) ∧ Fr (fun q j => q = 142 ∧ j < 239) hi hi8 := by
              rw [e8]
              exact ⟨hc.sp wa.l24 wa.1 hks (hp.u2 _) (fun j' a b => pm_u_ne (Or.inr (by omega))), hf.tr (Fr.u ⟨rfl, by omega⟩)⟩
            rw [hp.2.2.1]
            refine ⟨fun c2 => ?_, fun c2 => ?_⟩
            · rw [if_neg (fun e => c2 e.symm)] at nx
              rw [nI_1]
              exact nx _ _ _ (by omega) wr.2 wr.1
            · rw [if_pos (Decidable.not_not.mp c2).symm] at nx
              rw [Int32.add_zero, nI_1]
              exact nx _ _ _ (by omega) wr.2 wr.1
          · rw [if_pos (Decidable.not_not.mp c1)] at nx
            rw [Int32.add_zero, nI_1]
            have e8' : hi8 = hi' := by
              rw [e8]
              funext q j
              by_cases e : q = 142 ∧ j = 7 + 29 * k + 2
              · rw [e.1, e.2, pm_u_at]
              · exact pm_u_ne (by omega)
            rw [e8']
            exact nx _ _ _ (by omega) hf hc
      exact key M 0 hi _ _ (by omega) Fr.rf hM.1
    · rw [if_pos (Classical.byContradiction (fun hh => c ((srt wH).mpr hh)))] at h
      exact h.same hM
theorem W_pour {s : St} {a : Int32} (hW : WI s) : WI (o_pour s a).1 := by
  unfold o_pour
  cases ixo a 4 with
  | none => exact hW
  | some i =>
    dsimp only
    by_cases c : (s.2.2.2.2.1 i).1 = -1
    · rw [if_pos c]; exact hW
    · rw [if_neg c]
      obtain ⟨a, b, e, _⟩ := pour_all (pl := (s.2.2.2.2.1 i).2) hW.1 (min s.1.1.length (s.2.2.2.2.1 i).2.length) (by omega)
      exact now_WI hW a e b
/-- the first place that reads otherwise -/
def rdN (pl : List Int32) (f : AF) : Nat → Nat → Int32
  | 0, _ => -1000000005
  | n + 1, k => match pl[k]? with
    | none => -1000000005
    | some v => if v = -1000000005 then rdN pl f n (k + 1) else if k < f.1.length then (if v = nI (spa f k).2.2.2.2.length then rdN pl f n (k + 1) else nI k) else nI k
def o_reads (s : St) (a : Int32) : St × Int32 := match ixo a 4 with
  | none => (s, -1000000001)
  | some i => (s, if (s.2.2.2.2.1 i).1 = -1 then -1000000011 else rdN (s.2.2.2.2.1 i).2 s.1 24 0)
theorem E_reads {L d : Nat} {s : St} {a : Int32} {hi : pm_B} {Q : pm_Q} (hW : WI s) (hC : CI hi s) (h : EP hi (o_reads s a) Q) : pm_C pm_g (SH L) HR (d + 20) m_E_reads [.inr 16, .inl a] hi Q := by
  have h8 := hW.1.1
  unfold o_reads at h
  refine v_E_reads (d := d + 18) (gL 4 rfl (by omega) (fun x => ?_) (fun i hi4 hx x => ⟨i, hi4, hx, ?_⟩))
  · rw [x] at h; exact h.same hC
  · rw [x] at h; dsimp only at h
    have hH := hC.2.2.2.2.2.2.1 i hi4
    have wH := hW.2.2.2.2.2.2.2.1 i hi4
    generalize s.2.2.2.2.1 i = t at h hH wH
    have hl := wH.2
    have h := h.same hC
    rw [hH.1]
    refine ⟨fun c => ?_, fun c => ?_⟩
    · rw [if_neg c] at h
      have key : ∀ n k, k + n = 24 → rdN t.2 s.1 n k = rdN t.2 s.1 24 0 → pm_W pm_g (SH L) HR (d + 18 + 1) pm_t107 30 [some (.inr 16), some (.inl a), some (.inr (113 + 2 * i)), some (.inl (nI k))] [] hi Q := by
        intro n
        induction n with
        | zero =>
          intro k hk he
          rw [← he] at h
          exact v_E_reads_30 (d := d + 18) (st_of hi4) ⟨fun _ => h, fun c => absurd (nI_le (a := 24) (by omega) (by omega)) c⟩
        | succ n ih =>
          intro k hk he
          refine v_E_reads_30 (d := d + 18) (st_of hi4) ?_
          rw [hH.2.1, hC.1.n]
          rw [rdN] at he
          refine ⟨fun c => absurd c (nI_ge (b := 24) (by omega) (by omega)), fun _ => ⟨fun c => absurd c (nI_pos (by omega)), fun _ => ⟨fun c => ?_, fun c => ?_⟩⟩⟩
          · have c := (nI_leI (by omega) (by omega)).mp c
            rw [List.getElem?_eq_none c] at he
            rw [← he] at h
            exact h
          · have c : k < t.2.length := Nat.lt_of_not_le (fun hh => c (nI_le hh (by omega)))
            rw [List.getElem?_eq_getElem c] at he
            dsimp only at he
            refine ⟨fun c => absurd c (nI_ge (b := 24) (by omega) (by omega)), fun _ => ⟨k, by omega, rfl, ?_⟩⟩
            rw [hH.2.2.at c, nI_1]
            refine ⟨fun c1 => ⟨fun c => absurd c (nI_pos (by omega)), fun _ => ⟨fun c2 => ?_, fun c2 => ⟨fun c3 => ?_, fun c3 => ⟨k, by omega, rfl, k, ?_, rfl, ?_⟩⟩⟩⟩, fun c1 => ?_⟩
            · have c2 := (nI_leI (by omega) (by omega)).mp c2
              rw [if_neg c1, if_neg (by omega)] at he
              rw [← he] at h
              exact h
            · have c3 := (nI_leI (a := 8) (by omega) (by omega)).mp c3
              rw [if_neg c1, if_neg (by omega)] at he
              rw [← he] at h
              exact h
            · exact Nat.lt_of_not_le (fun hh => c3 (nI_le (a := 8) hh (by omega)))
            · have c2 : k < s.1.1.length := Nat.lt_of_not_le (fun hh => c2 (nI_le hh (by omega)))
              rw [if_neg c1, if_pos c2] at he
              rw [hH.2.2.at c, (hC.1.at c2).2.2.2.2.1]
              refine ⟨fun c4 => ?_, fun c4 => ?_⟩
              · rw [if_pos c4] at he
                exact ih (k + 1) (by omega) he
              · rw [if_neg c4] at he
                rw [← he] at h
                exact h
            · rw [if_pos (Decidable.not_not.mp c1)] at he
              exact ih (k + 1) (by omega) he
      exact key 24 0 rfl rfl
    · rw [if_pos (Decidable.not_not.mp c)] at h; exact h
theorem M_reads {L d : Nat} {s : St} {a : Int32} {hi : pm_B} {Q : pm_Q} (hW : WI s) (hM : MI hi s) (h : MP hi (o_reads s a) Q) : pm_C pm_g (SH L) HR (d + 20) m_M_reads [.inr 141, .inl a] hi Q := by
  have h8 := hW.1.1
  unfold o_reads at h
  refine v_M_reads (d := d + 17) (gT 3 rfl (by omega) (fun x => ?_) (fun i hi4 hx x => ⟨i, hi4, hx, ?_⟩))
  · rw [x] at h; exact h.same hM
  · rw [x] at h; dsimp only at h
    have hH := hM.2.2.2.2.2.2.1 i hi4
    have wH := hW.2.2.2.2.2.2.2.1 i hi4
    generalize s.2.2.2.2.1 i = t at h hH wH
    have hl := wH.2
    have h := h.same hM
    rw [hH.1]
    refine ⟨fun c => ?_, fun c => ?_⟩
    · rw [if_neg ((srt wH).mp c)] at h
      subst hx
      have key : ∀ n k o, k + n = 24 → rdN t.2 s.1 n k = rdN t.2 s.1 24 0 → pm_W pm_g (SH L) HR (d + 17 + 2) pm_t220 24 [some (.inr 141), some (.inl (nI i)), some (.inl (nI k)), o] [] hi Q := by
        intro n
        induction n with
        | zero =>
          intro k o hk he
          rw [← he] at h
          refine v_M_reads_24 (d := d + 17) ⟨i, hi4, rfl, ?_⟩
          rw [hH.2.1]
          exact ⟨fun _ => h, fun c => absurd (nI_le (by omega) (by omega)) c⟩
        | succ n ih =>
          intro k o hk he
          refine v_M_reads_24 (d := d + 17) ⟨i, hi4, rfl, ?_⟩
          rw [hH.2.1, hM.1.n]
          rw [rdN] at he
          refine ⟨fun c => ?_, fun c => ?_⟩
          · have c := (nI_leI (by omega) (by omega)).mp c
            rw [List.getElem?_eq_none c] at he
            rw [← he] at h
            exact h
          · have c : k < t.2.length := Nat.lt_of_not_le (fun hh => c (nI_le hh (by omega)))
            rw [List.getElem?_eq_getElem c] at he
            dsimp only at he
            refine ⟨24 * i + k, by omega, ix24 i k, ?_⟩
            have hcell : hi 159 (24 * i + k) = t.2[k] := hH.2.2.at c
            rw [hcell, nI_1]
            refine ⟨fun c1 => ?_, fun c1 => ?_⟩
            · rw [if_pos c1] at he
              exact ih (k + 1) _ (by omega) he
            · rw [if_neg c1] at he
              refine gM rfl (by omega) (fun y => ?_) (fun j hj hy y => ⟨7 + 29 * k + 4, ?_, ix k 4, ?_⟩)
              · have : ¬ k < s.1.1.length := fun hh => by
                  rcases ixo_cases (nI k) s.1.1.length with ⟨_, hne⟩ | ⟨_, _, _, e⟩
                  · exact hne k hh rfl
                  · rw [y] at e; cases e
                rw [if_neg this] at he
                rw [← he] at h
                exact h
              · have : k = j := (nI_eq (by omega) (by omega)).mp hy
                omega
              · have hkj : k = j := (nI_eq (by omega) (by omega)).mp hy
                have c2 : k < s.1.1.length := by omega
                rw [if_pos c2] at he
                rw [(hM.1.at c2).2.2.2.2.1]
                refine ⟨fun c4 => ?_, fun c4 => ?_⟩
                · rw [if_pos c4] at he
                  exact ih (k + 1) _ (by omega) he
                · rw [if_neg c4] at he
                  rw [← he] at h
                  exact h
      exact key 24 0 _ rfl rfl
    · rw [if_pos (Classical.byContradiction (fun hh => c ((srt wH).mpr hh)))] at h
      exact h
theorem W_reads {s : St} {a : Int32} (hW : WI s) : WI (o_reads s a).1 := by
  unfold o_reads
  cases ixo a 4 <;> exact hW
