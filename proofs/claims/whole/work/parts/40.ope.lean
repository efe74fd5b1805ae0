/-! ===== what will be: it is done aside, or done and put back ===== -/
theorem mthinks_c {L d : Nat} {hi : pm_B} {Q : pm_Q} (h : ∀ hi', Fr (fun q _ => q = 148) hi hi' → (∀ j, j < 239 → hi' 148 j = hi 142 j) → Q none hi') : pm_C pm_g (SH L) HR (d + 1) m_M_thinks [.inr 141] hi Q := by
  refine v_M_thinks ?_
  have key : ∀ m k hi', k + m = 239 → Fr (fun q _ => q = 148) hi hi' → (∀ j, j < k → hi' 148 j = hi 142 j) → pm_W pm_g (SH L) HR d pm_t184 2 [some (.inr 141), some (.inl (nI k))] [] hi' Q := by
    intro m
    induction m with
    | zero =>
      intro k hi' hk hf hj
      exact v_M_thinks_2 ⟨fun _ => h hi' hf (fun j hjk => hj j (by omega)), fun hc => absurd (nI_le (a := 239) (by omega) (by omega)) hc⟩
    | succ m ih =>
      intro k hi' hk hf hj
      refine v_M_thinks_2 ⟨fun hc => absurd hc (nI_ge (b := 239) (by omega) (by omega)), fun _ => ⟨k, by omega, rfl, k, by omega, rfl, ?_⟩⟩
      rw [nI_1]
      refine ih (k + 1) _ (by omega) (hf.tr (Fr.u rfl)) (fun j hjk => ?_)
      by_cases e : j = k
      · subst e; rw [pm_u_at]; exact hf 142 j (by omega)
      · rw [pm_u_ne (Or.inr e)]; exact hj j (by omega)
  exact key 239 0 hi rfl Fr.rf (fun j hj => absurd hj (by omega))
theorem mputsBack_c {L d : Nat} {hi : pm_B} {Q : pm_Q} (h : ∀ hi', Fr (fun q j => q = 142 ∧ j < 239) hi hi' → (∀ j, j < 239 → hi' 142 j = hi 148 j) → Q none hi') : pm_C pm_g (SH L) HR (d + 1) m_M_putsBack [.inr 141] hi Q := by
  refine v_M_putsBack ?_
  have key : ∀ m k hi', k + m = 239 → Fr (fun q j => q = 142 ∧ j < 239) hi hi' → (∀ j, j < k → hi' 142 j = hi 148 j) → pm_W pm_g (SH L) HR d pm_t185 2 [some (.inr 141), some (.inl (nI k))] [] hi' Q := by
    intro m
    induction m with
    | zero =>
      intro k hi' hk hf hj
      exact v_M_putsBack_2 ⟨fun _ => h hi' hf (fun j hjk => hj j (by omega)), fun hc => absurd (nI_le (a := 239) (by omega) (by omega)) hc⟩
    | succ m ih =>
      intro k hi' hk hf hj
      refine v_M_putsBack_2 ⟨fun hc => absurd hc (nI_ge (b := 239) (by omega) (by omega)), fun _ => ⟨k, by omega, rfl, k, by omega, rfl, ?_⟩⟩
      rw [nI_1]
      refine ih (k + 1) _ (by omega) (hf.tr (Fr.u ⟨rfl, by omega⟩)) (fun j hjk => ?_)
      by_cases e : j = k
      · subst e; rw [pm_u_at]; exact hf 148 j (by omega)
      · rw [pm_u_ne (Or.inr e)]; exact hj j (by omega)
  exact key 239 0 hi rfl Fr.rf (fun j hj => absurd hj (by omega))
/-- what a thought may write -/
def PX : Nat → Nat → Prop := fun q j => (q = 142 ∧ j < 239) ∨ (q = 141 ∧ j = 5) ∨ q = 145 ∨ q = 147 ∨ q = 155 ∨ q = 156
theorem PT.px {a b : pm_B} (h : Fr PT a b) : Fr PX a b := h.mono (fun q j hp => by unfold PT at hp; unfold PX; omega)
theorem PB.px {a b : pm_B} (h : Fr PB a b) : Fr PX a b := h.mono (fun q j hp => by unfold PB at hp; unfold PX; omega)
/-- thought and put back: as before -/
theorem thought {hi hi1 hi2 hi3 : pm_B} (f1 : Fr (fun q _ => q = 148) hi hi1) (e1 : ∀ j, j < 239 → hi1 148 j = hi 142 j) (f2 : Fr PX hi1 hi2) (f3 : Fr (fun q j => q = 142 ∧ j < 239) hi2 hi3) (e3 : ∀ j, j < 239 → hi3 142 j = hi2 148 j) : Fr PH' hi hi3 := by
  intro q j hn
  unfold PH' at hn
  by_cases h142 : q = 142 ∧ j < 239
  · rw [h142.1, e3 j h142.2, f2 148 j (by unfold PX; omega), e1 j h142.2]
  · rw [f3 q j h142, f2 q j (by unfold PX; omega), f1 q j (by omega)]
/-- the same, once more from the thought -/
theorem thought2 {hi hi1 hi2 hi3 : pm_B} (f1 : Fr PH' hi hi1) (e1 : ∀ j, j < 239 → hi1 148 j = hi 142 j) (f2 : Fr PX hi1 hi2) (f3 : Fr (fun q j => q = 142 ∧ j < 239) hi2 hi3) (e3 : ∀ j, j < 239 → hi3 142 j = hi2 148 j) : Fr PH' hi hi3 ∧ ∀ j, j < 239 → hi3 148 j = hi 142 j := by
  refine ⟨fun q j hn => ?_, fun j hj => ?_⟩
  · have hn' := hn
    unfold PH' at hn
    by_cases h142 : q = 142 ∧ j < 239
    · rw [h142.1, e3 j h142.2, f2 148 j (by unfold PX; omega), e1 j h142.2]
    · rw [f3 q j h142, f2 q j (by unfold PX; omega), f1 q j hn']
  · rw [f3 148 j (by omega), f2 148 j (by unfold PX; omega)]; exact e1 j hj
theorem PF88 {a b : pm_B} (h : Fr (PF 88) a b) : Fr PG a b := h.mono (fun q j hp => by unfold PF at hp; unfold PG; omega)
theorem beco {a b : pm_B} (h : Fr (fun q _ => q = 88 ∨ (88 + 2 ≤ q ∧ q < 88 + 19)) a b) : Fr PG a b := h.mono (fun q j hp => by unfold PG; omega)
theorem CX.pg {hi hi' : pm_B} {txs : List AT} (h : CX hi txs) (hf : Fr PG hi hi') : CX hi' txs := h.kept (fun q j a b => hf q j (by unfold PG; omega))
/-- one more day aside -/
theorem trialDay_c {L d k : Nat} {f : AF} {hi hi' : pm_B} {Q : pm_Q} (hW : WA f) (hX : CX hi (txo f)) (hf : Fr PG hi hi') (hc : CF hi' 88 (adays k f)) (h : ∀ hi2, Fr PG hi hi2 → CF hi2 88 (adays (k + 1) f) → Q none hi2) : pm_C pm_g (SH L) HR (d + 7) m_Folk_passDay [.inr 88] hi' Q := by
  obtain ⟨wa, wt, _⟩ := days_all (n := k) hW
  refine passDay_c (d := d) fo88 wa.wf hc (show CX hi' (txo (adays k f)) by rw [wt]; exact hX.pg hf) (fun hi2 f2 c2 => ?_)
  rw [← adays_snoc] at c2
  exact h hi2 (hf.tr (PF88 f2)) c2
/-! behind -/
def abeh (f : AF) (w : Int32) : Int32 := if w = 0 then f.2.2.1 else if w = 1 then f.2.2.2.1 else awords f.1
def o_behind (s : St) (n w : Int32) : St × Int32 := match ixo n 101 with
  | none => (s, -1000000001)
  | some k => if w < 0 then (s, -1000000001) else if w ≤ 2 then (s, abeh (adays k s.1) w) else match ixo (w - 3) s.1.1.length with
    | none => (s, -1000000001)
    | some i => (s, setOf (spa (adays k s.1) i).2.2.2.2)
theorem le2 {w : Int32} (h0 : ¬ w < 0) (h2 : w ≤ 2) : w = 0 ∨ w = 1 ∨ w = 2 := by
  obtain ⟨j, hj, rfl⟩ := nI_of h0
  have : j ≤ 2 := (nI_leI (b := 2) hj (by omega)).mp h2
  rcases (show j = 0 ∨ j = 1 ∨ j = 2 by omega) with rfl | rfl | rfl
  · exact Or.inl rfl
  · exact Or.inr (Or.inl rfl)
  · exact Or.inr (Or.inr rfl)
theorem E_behind {L d : Nat} {s : St} {n w : Int32} {hi : pm_B} {Q : pm_Q} (hW : WI s) (hC : CI hi s) (h : EP hi (o_behind s n w) Q) : pm_C pm_g (SH L) HR (d + 20) m_E_behind [.inr 16, .inl n, .inl w] hi Q := by
  have h8 := hW.1.1
  unfold o_behind at h
  refine v_E_behind (d := d + 18) (gT 100 rfl (by omega) (fun e => ?_) (fun n hn hx e => ?_))
  · rw [e] at h; exact h.same hC
  · rw [e] at h; dsimp only at h
    subst hx
    obtain ⟨wa, wt, wl⟩ := days_all (n := n) hW.1
    have loop : (∀ hi', Fr PG hi hi' → CF hi' 88 (adays n s.1) → ((w = 0) → Q (some (.inl (hi' 88 4))) hi') ∧ ((¬ w = 0) → ((w = 1) → Q (some (.inl (hi' 88 5))) hi') ∧ ((¬ w = 1) → ((w = 2) → pm_C pm_g (SH L) HR (d + 18 + 1) m_Folk_wordsTogether [.inr 88] hi' (fun v hi5 => ∃ x6 : Int32, v = some (.inl x6) ∧ (Q (some (.inl x6)) hi5))) ∧ ((¬ w = 2) → ∃ k7 : Nat, k7 < 8 ∧ (w - 3) = nI k7 ∧ (pm_C pm_g (SH L) HR (d + 18 + 1) m_Speaker_wordSet [.inr (88 + 2 + 2 * k7)] hi' (fun v hi8 => ∃ x9 : Int32, v = some (.inl x9) ∧ (Q (some (.inl x9)) hi8))))))) → pm_C pm_g (SH L) HR (d + 18 + 1) m_Folk_become [.inr 88, .inr 50] hi (fun v hi5 => v = none ∧ (pm_W pm_g (SH L) HR (d + 18 + 1) pm_t92 51 [some (.inr 16), some (.inl (nI n)), some (.inl w), some (.inl 0)] [] hi5 Q)) := by
      intro fin
      refine become_c (d := d + 17) fo88 fo50 (by omega) hW.1.wf hC.1 (fun hi0 f0 c0 => ⟨rfl, ?_⟩)
      have key : ∀ m k hi', k + m = n → Fr PG hi hi' → CF hi' 88 (adays k s.1) → pm_W pm_g (SH L) HR (d + 18 + 1) pm_t92 51 [some (.inr 16), some (.inl (nI n)), some (.inl w), some (.inl (nI k))] [] hi' Q := by
        intro m
        induction m with
        | zero =>
          intro k hi' hk hf hc
          rw [Nat.add_zero] at hk
          subst hk
          exact v_E_behind_51 (d := d + 18) ⟨fun _ => fin hi' hf hc, fun c => absurd (nI_le (Nat.le_refl _) (by omega)) c⟩
        | succ m ih =>
          intro k hi' hk hf hc
          refine v_E_behind_51 (d := d + 18) ⟨fun c => absurd c (nI_ge (by omega) (by omega)), fun _ => ?_⟩
          refine trialDay_c (d := d + 12) hW.1 hC.2.2.1 hf hc (fun hi2 f2 c2 => ⟨rfl, ?_⟩)
          rw [nI_1]
          exact ih (k + 1) hi2 (by omega) f2 c2
      exact key n 0 hi0 (by omega) (beco f0) c0
    refine ⟨fun c0 => ?_, fun c0 => ?_⟩
    · have c0 := Int32.not_lt.mpr c0
      rw [if_neg c0] at h
      refine ⟨fun c2 => loop (fun hi' hf hc => ?_), fun c2 => ?_⟩
      · rw [if_pos c2] at h
        unfold abeh at h
        refine ⟨fun c => ?_, fun c => ⟨fun c1 => ?_, fun c1 => ⟨fun c3 => ?_, fun c3 => ?_⟩⟩⟩
        · rw [if_pos c] at h; rw [hc.all.2.1]; exact h.sameF hC hW hf
        · rw [if_neg c, if_pos c1] at h; rw [hc.all.2.2.1]; exact h.sameF hC hW hf
        · rw [if_neg c, if_neg c1] at h
          exact wordsTogether_c (d := d + 18) fo88 wa.wf hc ⟨_, rfl, h.sameF hC hW hf⟩
        · rcases le2 c0 c2 with e | e | e
          · exact absurd e c
          · exact absurd e c1
          · exact absurd e c3
      · rw [if_neg c2] at h
        refine gE hC.1.n h8 (fun e => ?_) (fun i hi8 hy e => loop (fun hi' hf hc => ?_))
        · rw [e] at h; exact h.same hC
        · rw [e] at h; dsimp only at h
          have ci := hc.at (i := i) (by omega)
          have wi := (wa.at (i := i) (by omega)).2.2.1
          refine ⟨fun c => absurd (by rw [c]; decide) c2, fun _ => ⟨fun c => absurd (by rw [c]; decide) c2, fun _ => ⟨fun c => absurd (by rw [c]; decide) c2, fun _ => ⟨i, by omega, hy, ?_⟩⟩⟩⟩
          exact wordSet_c (d := d + 18) (sk_of fo88 (by omega)) ci.2.2.2.2.1 ci.2.2.2.2.2 (by omega) ⟨_, rfl, h.sameF hC hW hf⟩
    · rw [if_pos (Int32.not_le.mp c0)] at h
      exact h.same hC
theorem M_behind {L d : Nat} {s : St} {n w : Int32} {hi : pm_B} {Q : pm_Q} (hW : WI s) (hM : MI hi s) (h : MP hi (o_behind s n w) Q) : pm_C pm_g (SH L) HR (d + 20) m_M_behind [.inr 141, .inl n, .inl w] hi Q := by
  have h8 := hW.1.1
  unfold o_behind at h
  refine v_M_behind (d := d + 17) (gT 100 rfl (by omega) (fun e => ?_) (fun n hn hx e => ?_))
  · rw [e] at h; exact h.same hM
  · rw [e] at h; dsimp only at h
    subst hx
    obtain ⟨wa, wt, wl⟩ := days_all (n := n) hW.1
    have go : ∀ Q' : pm_Q, (∀ hi6, (∀ hi12, Fr (fun q j => q = 142 ∧ j < 239) hi6 hi12 → (∀ j, j < 239 → hi12 142 j = hi6 148 j) → Fr PH' hi hi12) → MF (hi6 142) (adays n s.1) → Q' none hi6) → pm_C pm_g (SH L) HR (d + 17 + 2) m_M_thinks [.inr 141] hi (fun v hi5 => v = none ∧ (pm_C pm_g (SH L) HR (d + 17 + 2) m_M_goesOn [.inr 141, .inl (nI n)] hi5 Q')) := by
      intro Q' hq
      refine mthinks_c (d := d + 18) (fun hi5 f5 e5 => ⟨rfl, ?_⟩)
      have m5 : MF (hi5 142) s.1 := hM.1.kept hW.1.l24 h8 (fun j _ => f5 142 j (by omega))
      have x5 : MX (hi5 142) (txo s.1) := hM.2.2.1.kept (fun j _ => f5 142 j (by omega))
      refine mgoesOn_c (d := d + 8) (by omega) hW.1 m5 x5 (fun hi6 f6 m6 => hq hi6 (fun hi12 f12 e12 => thought f5 e5 (PT.px f6) f12 e12) m6)
    have bk : ∀ (hi6 : pm_B) v, (∀ hi12, Fr (fun q j => q = 142 ∧ j < 239) hi6 hi12 → (∀ j, j < 239 → hi12 142 j = hi6 148 j) → Fr PH' hi hi12) → MP hi (s, v) Q → pm_C pm_g (SH L) HR (d + 17 + 2) m_M_putsBack [.inr 141] hi6 (fun v' hi12 => v' = none ∧ (Q (some (.inl v)) hi12)) := by
      intro hi6 v hq hv
      exact mputsBack_c (d := d + 18) (fun hi12 f12 e12 => ⟨rfl, hv.sameF hM hW (hq hi12 f12 e12)⟩)
    refine ⟨fun c0 => ?_, fun c0 => ?_⟩
    · rw [if_pos c0] at h; exact h.same hM
    · rw [if_neg c0] at h
      refine ⟨fun c2 => ?_, fun c2 => ?_⟩
      · rw [if_pos c2] at h
        unfold abeh at h
        refine go _ (fun hi6 hb m6 => ⟨rfl, fun c => ⟨fun c1 => ⟨fun c3 => ?_, fun c3 => ?_⟩, fun c1 => ?_⟩, fun c => ?_⟩)
        · rcases le2 c0 c2 with e | e | e
          · exact absurd e c
          · exact absurd e c1
          · exact absurd e c3
        · rw [if_neg c, if_neg c1] at h
          exact mwordsAll_c (d := d + 17) wa m6 ⟨_, rfl, bk hi6 _ hb h⟩
        · rw [if_neg c, if_pos (Decidable.not_not.mp c1)] at h
          rw [m6.all.2.2.2.2]
          exact bk hi6 _ hb h
        · rw [if_pos (Decidable.not_not.mp c)] at h
          rw [m6.all.2.2.2.1]
          exact bk hi6 _ hb h
      · rw [if_neg c2] at h
        refine gM hM.1.n (by omega) (fun e => ?_) (fun i hi8 hy e => go _ (fun hi6 hb m6 => ⟨rfl, fun c => ⟨fun c1 => ⟨fun c3 => ?_, fun c3 => ?_⟩, fun c1 => ?_⟩, fun c => ?_⟩))
        · rw [e] at h; exact h.same hM
        · rw [e] at h; dsimp only at h
          rw [hy]
          have hl := (wa.at (i := i) (by omega)).2.2.1
          exact mwordsOf_c (d := d + 17) (by omega) (m6.at (by omega)) (by omega) ⟨_, rfl, bk hi6 _ hb h⟩
        · exact absurd (by rw [Decidable.not_not.mp c3]; decide) c2
        · exact absurd (by rw [Decidable.not_not.mp c1]; decide) c2
        · exact absurd (by rw [Decidable.not_not.mp c]; decide) c2
theorem W_behind {s : St} {n w : Int32} (hW : WI s) : WI (o_behind s n w).1 := by
  unfold o_behind
  cases ixo n 101 with
  | none => exact hW
  | some k =>
    dsimp only
    by_cases c0 : w < 0
    · rw [if_pos c0]; exact hW
    · rw [if_neg c0]
      by_cases c2 : w ≤ 2
      · rw [if_pos c2]; exact hW
      · rw [if_neg c2]
        cases ixo (w - 3) s.1.1.length <;> exact hW
/-! spreads -/
def sprN (w : Int32) (f : AF) : Nat → Nat → Int32
  | 0, i => if abut w (adays i f).1 = 0 then -1000000005 else nI i
  | n + 1, i => if abut w (adays i f).1 = 0 then sprN w f n (i + 1) else nI i
def o_spreads (s : St) (w : Int32) : St × Int32 := match ixo w 20 with
  | none => (s, -1000000001)
  | some _ => (s, sprN w s.1 200 0)
theorem E_spreads {L d : Nat} {s : St} {w : Int32} {hi : pm_B} {Q : pm_Q} (hW : WI s) (hC : CI hi s) (h : EP hi (o_spreads s w) Q) : pm_C pm_g (SH L) HR (d + 20) m_E_spreads [.inr 16, .inl w] hi Q := by
  unfold o_spreads at h
  refine v_E_spreads (d := d + 18) (gL 20 rfl (by omega) (fun e => ?_) (fun j hj hx e => ?_))
  · rw [e] at h; exact h.same hC
  · rw [e] at h; dsimp only at h
    refine become_c (d := d + 17) fo88 fo50 (by omega) hW.1.wf hC.1 (fun hi0 f0 c0 => ⟨rfl, ?_⟩)
    have key : ∀ n k hi', k + n = 200 → Fr PG hi hi' → CF hi' 88 (adays k s.1) → sprN w s.1 n k = sprN w s.1 200 0 → pm_W pm_g (SH L) HR (d + 18 + 1) pm_t93 23 [some (.inr 16), some (.inl w), some (.inl (nI k))] [] hi' Q := by
      intro n
      induction n with
      | zero =>
        intro k hi' hk hf hc hs
        obtain ⟨wa, wt, wl⟩ := days_all (n := k) hW.1
        refine v_E_spreads_23 (d := d + 18) ⟨fun _ => ?_, fun c => absurd (nI_le (a := 200) (by omega) (by omega)) c⟩
        rw [← hs, sprN] at h
        rw [Nat.add_zero] at hk
        refine allButDeafHave_c (d := d + 17) fo88 wa.wf hc ⟨_, rfl, fun c => ?_, fun c => ?_⟩
        · rw [if_pos c] at h; exact h.sameF hC hW hf
        · rw [if_neg c, hk] at h; exact h.sameF hC hW hf
      | succ n ih =>
        intro k hi' hk hf hc hs
        obtain ⟨wa, wt, wl⟩ := days_all (n := k) hW.1
        refine v_E_spreads_23 (d := d + 18) ⟨fun c => absurd c (nI_ge (b := 200) (by omega) (by omega)), fun _ => ?_⟩
        rw [sprN] at hs
        refine allButDeafHave_c (d := d + 17) fo88 wa.wf hc ⟨_, rfl, fun c => ?_, fun c => ?_⟩
        · rw [if_pos c] at hs
          refine trialDay_c (d := d + 12) hW.1 hC.2.2.1 hf hc (fun hi2 f2 c2 => ⟨rfl, ?_⟩)
          rw [nI_1]
          exact ih (k + 1) hi2 (by omega) f2 c2 hs
        · rw [if_neg c] at hs
          rw [← hs] at h
          exact h.sameF hC hW hf
    exact key 200 0 hi0 rfl (beco f0) c0 rfl
theorem abut_01 {w : Int32} : ∀ {l : List ASp}, abut w l = 0 ∨ abut w l = 1
  | [] => Or.inr rfl
  | p :: r => by
    unfold abut
    split
    · exact abut_01
    · exact Or.inl rfl
theorem mhasCome_c {L d j : Nat} {f : AF} {hi : pm_B} {Q : pm_Q} (hj : j < 20) (hW : WA f) (hM : MF (hi 142) f) (h : Q (some (.inl (abut (nI j) f.1))) hi) : pm_C pm_g (SH L) HR (d + 4) m_M_hasCome [.inr 141, .inl (nI j)] hi Q := by
  have h8 := hW.1
  refine v_M_hasCome (d := d + 2) ?_
  have key : ∀ n k y, k + n = f.1.length → ((y = 1 ∧ abut (nI j) (f.1.drop k) = abut (nI j) f.1) ∨ (y = 0 ∧ abut (nI j) f.1 = 0)) → pm_W pm_g (SH L) HR (d + 2 + 1) pm_t188 4 [some (.inr 141), some (.inl (nI j)), some (.inl y), some (.inl (nI k))] [] hi Q := by
    intro n
    induction n with
    | zero =>
      intro k y hk hy
      refine v_M_hasCome_4 ?_
      rw [hM.n]
      refine ⟨fun _ => ?_, fun c => absurd (nI_le (by omega) (by omega)) c⟩
      rcases hy with ⟨rfl, e⟩ | ⟨rfl, e⟩
      · rw [List.drop_of_length_le (by omega)] at e
        rw [← e] at h
        exact ⟨Or.inr rfl, h⟩
      · rw [e] at h
        exact ⟨Or.inl rfl, h⟩
    | succ n ih =>
      intro k y hk hy
      refine v_M_hasCome_4 ?_
      rw [hM.n]
      refine ⟨fun c => absurd c (nI_ge (by omega) (by omega)), fun _ => ?_⟩
      have hk' : k < f.1.length := by omega
      rw [nI_1]
      rcases hy with ⟨rfl, e⟩ | ⟨rfl, e⟩
      · refine ⟨fun c => absurd c (by decide), fun _ => ⟨7 + 29 * k + 0, by omega, ix k 0, ?_⟩⟩
        have hp := hM.at hk'
        have hl := (hW.at hk').2.2.1
        have hg : f.1.drop k = spa f k :: f.1.drop (k + 1) := by
          rw [List.drop_eq_getElem_cons hk']
          congr 1
          have := spa_at hk'
          rw [List.getElem?_eq_getElem hk'] at this
          exact Option.some.inj this
        rw [hg, abut] at e
        rw [hp.1]
        refine ⟨fun c => ?_, fun c => ?_⟩
        · rw [if_pos (Or.inl c)] at e
          exact ih (k + 1) 1 (by omega) (Or.inl ⟨rfl, e⟩)
        · refine mwordsOf_c (d := d + 1) (by omega) hp (by omega) ⟨_, rfl, ?_⟩
          rw [shr_bit _ hj]
          refine ⟨fun c1 => ?_, fun c1 => ?_⟩
          · rw [if_neg (fun hh => hh.elim c c1)] at e
            exact ih (k + 1) 0 (by omega) (Or.inr ⟨rfl, e.symm⟩)
          · rw [if_pos (Or.inr (Decidable.not_not.mp c1))] at e
            exact ih (k + 1) 1 (by omega) (Or.inl ⟨rfl, e⟩)
      · exact ⟨fun _ => ih (k + 1) 0 (by omega) (Or.inr ⟨rfl, e⟩), fun c => absurd rfl c⟩
  exact key _ 0 1 (Nat.zero_add _) (Or.inl ⟨rfl, rfl⟩)
theorem M_spreads {L d : Nat} {s : St} {w : Int32} {hi : pm_B} {Q : pm_Q} (hW : WI s) (hM : MI hi s) (h : MP hi (o_spreads s w) Q) : pm_C pm_g (SH L) HR (d + 20) m_M_spreads [.inr 141, .inl w] hi Q := by
  have h8 := hW.1.1
  unfold o_spreads at h
  refine v_M_spreads (d := d + 17) (gT 19 rfl (by omega) (fun e => ?_) (fun j hj hx e => ?_))
  · rw [e] at h; exact h.same hM
  · rw [e] at h; dsimp only at h
    subst hx
    refine mthinks_c (d := d + 18) (fun hi5 f5 e5 => ⟨rfl, ?_⟩)
    have m5 : MF (hi5 142) s.1 := hM.1.kept hW.1.l24 h8 (fun j _ => f5 142 j (by omega))
    have x5 : MX (hi5 142) (txo s.1) := hM.2.2.1.kept (fun j _ => f5 142 j (by omega))
    have bk : ∀ (hi6 : pm_B) (k : Nat) v, Fr PX hi5 hi6 → k < 1000 → (k ≤ 200 → v = nI k) → (200 < k → v = -1000000005) → MP hi (s, v) Q → pm_C pm_g (SH L) HR (d + 17 + 2) m_M_putsBack [.inr 141] hi6 (fun v hi2 => v = none ∧ (((nI k ≤ 200) → Q (some (.inl (nI k))) hi2) ∧ ((¬ (nI k ≤ 200)) → Q (some (.inl (-1000000005))) hi2))) := by
      intro hi6 k v f6 hk h1 h2 hv
      refine mputsBack_c (d := d + 18) (fun hi12 f12 e12 => ⟨rfl, ?_⟩)
      have hq := hv.sameF hM hW (thought f5 e5 f6 f12 e12)
      refine ⟨fun c => ?_, fun c => ?_⟩
      · rw [h1 ((nI_leI (b := 200) (by omega) (by omega)).mp c)] at hq; exact hq
      · rw [h2 (Nat.lt_of_not_le (fun hh => c (nI_le (b := 200) hh (by omega))))] at hq; exact hq
    have key : ∀ n k hi', k + n = 200 → Fr PX hi5 hi' → MF (hi' 142) (adays k s.1) → sprN (nI j) s.1 n k = sprN (nI j) s.1 200 0 → pm_W pm_g (SH L) HR (d + 17 + 2) pm_t189 16 [some (.inr 141), some (.inl (nI j)), some (.inl (nI k))] [] hi' Q := by
      intro n
      induction n with
      | zero =>
        intro k hi' hk hf hc hs
        obtain ⟨wa, wt, wl⟩ := days_all (n := k) hW.1
        refine v_M_spreads_16 (d := d + 17) ⟨fun c => absurd c (nI_nlt (a := 200) (by omega) (by omega)), fun _ => ?_⟩
        rw [← hs, sprN] at h
        rw [Nat.add_zero] at hk
        refine mhasCome_c (d := d + 15) (by omega) wa hc ⟨_, rfl, fun c => ?_, fun c => ?_⟩
        · rw [if_neg c] at h
          exact bk hi' k _ hf (by omega) (fun _ => rfl) (fun hh => absurd hh (by omega)) h
        · rw [if_pos (Decidable.not_not.mp c)] at h
          have x' : MX (hi' 142) (txo (adays k s.1)) := by rw [wt]; exact x5.kept (fun j hj => hf 142 j (by unfold PX; omega))
          refine mday_c (d := d + 9) wa.wf wa.wv hc x' wa.wx (fun hi2 f2 c2 => ⟨rfl, ?_⟩)
          rw [nI_1]
          refine v_M_spreads_16 (d := d + 17) ⟨fun _ => ?_, fun c => absurd (nI_lt (a := 200) (by omega) (by omega)) c⟩
          exact bk hi2 (k + 1) _ (hf.tr (PT.px f2)) (by omega) (fun hh => absurd hh (by omega)) (fun _ => rfl) h
      | succ n ih =>
        intro k hi' hk hf hc hs
        obtain ⟨wa, wt, wl⟩ := days_all (n := k) hW.1
        refine v_M_spreads_16 (d := d + 17) ⟨fun c => absurd c (nI_nlt (a := 200) (by omega) (by omega)), fun _ => ?_⟩
        rw [sprN] at hs
        refine mhasCome_c (d := d + 15) (by omega) wa hc ⟨_, rfl, fun c => ?_, fun c => ?_⟩
        · rw [if_neg c] at hs
          rw [← hs] at h
          exact bk hi' k _ hf (by omega) (fun _ => rfl) (fun hh => absurd hh (by omega)) h
        · rw [if_pos (Decidable.not_not.mp c)] at hs
          have x' : MX (hi' 142) (txo (adays k s.1)) := by rw [wt]; exact x5.kept (fun j hj => hf 142 j (by unfold PX; omega))
          refine mday_c (d := d + 9) wa.wf wa.wv hc x' wa.wx (fun hi2 f2 c2 => ⟨rfl, ?_⟩)
          rw [nI_1]
          rw [← adays_snoc] at c2
          exact ih (k + 1) hi2 (by omega) (hf.tr (PT.px f2)) c2 hs
    exact key 200 0 hi5 rfl Fr.rf m5 rfl
theorem W_spreads {s : St} {w : Int32} (hW : WI s) : WI (o_spreads s w).1 := by
  unfold o_spreads
  cases ixo w 20 <;> exact hW
