/-! keep, back, check -/
def o_keep (s : St) : St × Int32 := ((s.1, s.1, 1, s.2.2.2), nI s.1.1.length)
def o_back (s : St) : St × Int32 := if s.2.2.1 = 0 then (s, -1000000002) else ((s.2.1, s.2), nI s.2.1.1.length)
theorem E_keep {L d : Nat} {s : St} {hi : pm_B} {Q : pm_Q} (hW : WI s) (hC : CI hi s) (h : EP hi (o_keep s) Q) : pm_C pm_g (SH L) HR (d + 20) m_E_keep [.inr 16] hi Q := by
  refine v_E_keep (d := d + 19) (become_c (d := d + 17) fo69 fo50 (by omega) hW.1.wf hC.1 (fun hi1 f1 c1 => ⟨rfl, ?_⟩))
  obtain ⟨a1, a2, a3, a4, a5, a6, a7, a8, a9, a10⟩ := hC
  have k : ∀ q j, ¬ ((q = 16 ∧ j = 4) ∨ (69 ≤ q ∧ q < 88)) → pm_u hi1 16 4 1 q j = hi q j := fun q j hn => by rw [pm_u_ne (by omega), f1 q j (by omega)]
  have c2 : CF (pm_u hi1 16 4 1) 69 s.1 := c1.kept hW.1.1 (fun q j u v => pm_u_ne (by omega))
  rw [c2.n]
  exact h _ (fun q j hn => k q j (by unfold PE at hn; omega)) ⟨a1.kept hW.1.1 (fun q j u v => k q j (by omega)), c2, a3.kept (fun q j u v => k q j (by omega)), a3.kept (fun q j u v => k q j (by omega)), pm_u_at, ⟨(k _ _ (by omega)).trans a6.1, a6.2.to (fun j _ => k _ _ (by omega))⟩, fun i hi4 => (a7 i hi4).kept (fun q j u v => k q j (by omega)), fun i hi5 => (a8 i hi5).kept (fun q j u v => k q j (by omega)), ⟨(k _ _ (by omega)).trans a9.1, a9.2.to (fun j _ => k _ _ (by omega))⟩, fun q j u v => (k q j (by omega)).trans (a10 q j u v)⟩
theorem M_keep {L d : Nat} {s : St} {hi : pm_B} {Q : pm_Q} (hW : WI s) (hM : MI hi s) (h : MP hi (o_keep s) Q) : pm_C pm_g (SH L) HR (d + 20) m_M_keep [.inr 141] hi Q := by
  refine v_M_keep (d := d + 19) (mcopyAll_c (d := d + 18) sh_l142 sh_l143 (by omega) (fun hi1 f1 e1 => ⟨rfl, ?_⟩))
  obtain ⟨a1, a2, a3, a4, a5, a6, a7, a8, a9, a10⟩ := hM
  have k : ∀ q j, ¬ ((q = 141 ∧ j = 3) ∨ q = 143) → pm_u hi1 141 3 1 q j = hi q j := fun q j hn => by rw [pm_u_ne (by omega), f1 q j (by omega)]
  have e2 : ∀ j, j < 1611 → pm_u hi1 141 3 1 143 j = hi 142 j := fun j hj => by rw [pm_u_ne (by omega), e1 j hj]
  rw [k 142 1 (by omega), a1.n]
  exact h _ (fun q j hn => k q j (by unfold PQ at hn; omega)) ⟨a1.kept hW.1.l24 hW.1.1 (fun j u => k _ j (by omega)), fun _ => a1.kept hW.1.l24 hW.1.1 (fun j u => e2 j (by omega)), a3.kept' (fun j u v => k _ j (by omega)), a3.kept' (fun j u v => e2 j (by omega)), pm_u_at, ⟨(k _ _ (by omega)).trans a6.1, a6.2.to (fun j _ => k _ _ (by omega))⟩, fun i hi4 => (a7 i hi4).kept (fun q j u v => k q j (by omega)), fun i hi5 => (a8 i hi5).kept (fun q j u v => k q j (by omega)), ⟨(k _ _ (by omega)).trans a9.1, a9.2.to (fun j _ => k _ _ (by omega))⟩, fun q j u => (k q j (by omega)).trans (a10 q j u)⟩
theorem W_keep {s : St} (hW : WI s) : WI (o_keep s).1 := by
  obtain ⟨a1, a2, a3, a4, a5, a6⟩ := hW
  exact ⟨a1, a2, a1, a2, Nat.le_refl _, Or.inr rfl, a6.2⟩
theorem E_back {L d : Nat} {s : St} {hi : pm_B} {Q : pm_Q} (hW : WI s) (hC : CI hi s) (h : EP hi (o_back s) Q) : pm_C pm_g (SH L) HR (d + 20) m_E_back [.inr 16] hi Q := by
  unfold o_back at h
  refine v_E_back (d := d + 19) ?_
  rw [hC.2.2.2.2.1]
  refine ⟨fun c => ?_, fun c => ?_⟩
  · rw [if_neg c] at h
    refine become_c (d := d + 17) fo50 fo69 (by omega) hW.2.2.1.wf hC.2.1 (fun hi1 f1 c1 => ⟨rfl, ?_⟩)
    rw [c1.n]
    obtain ⟨a1, a2, a3, a4, a5, a6, a7, a8, a9, a10⟩ := hC
    have k : ∀ q j, ¬ (50 ≤ q ∧ q < 69) → hi1 q j = hi q j := fun q j hn => f1 q j (by omega)
    exact h _ (fun q j hn => k q j (by unfold PE at hn; omega)) ⟨c1, a2.kept hW.2.2.1.1 (fun q j u v => k q j (by omega)), a4.kept (fun q j u v => k q j (by omega)), a4.kept (fun q j u v => k q j (by omega)), (k _ _ (by omega)).trans a5, ⟨(k _ _ (by omega)).trans a6.1, a6.2.to (fun j _ => k _ _ (by omega))⟩, fun i hi4 => (a7 i hi4).kept (fun q j u v => k q j (by omega)), fun i hi5 => (a8 i hi5).kept (fun q j u v => k q j (by omega)), ⟨(k _ _ (by omega)).trans a9.1, a9.2.to (fun j _ => k _ _ (by omega))⟩, fun q j u v => (k q j (by omega)).trans (a10 q j u v)⟩
  · rw [if_pos (Decidable.not_not.mp c)] at h
    exact h.same hC
theorem M_back {L d : Nat} {s : St} {hi : pm_B} {Q : pm_Q} (hW : WI s) (hM : MI hi s) (h : MP hi (o_back s) Q) : pm_C pm_g (SH L) HR (d + 20) m_M_back [.inr 141] hi Q := by
  unfold o_back at h
  refine v_M_back (d := d + 19) ?_
  rw [hM.2.2.2.2.1]
  refine ⟨fun c => ?_, fun c => ?_⟩
  · rw [if_neg c] at h
    refine mcopyAll_c (d := d + 18) sh_l143 sh_l142 (by omega) (fun hi1 f1 e1 => ⟨rfl, ?_⟩)
    obtain ⟨a1, a2, a3, a4, a5, a6, a7, a8, a9, a10⟩ := hM
    have k : ∀ q j, ¬ q = 142 → hi1 q j = hi q j := fun q j hn => f1 q j hn
    have m1 : MF (hi1 142) s.2.1 := (a2 c).kept hW.2.2.1.l24 hW.2.2.1.1 (fun j u => e1 j (by omega))
    rw [m1.n]
    exact h _ (fun q j hn => k q j (by unfold PQ at hn; omega)) ⟨m1, fun _ => (a2 c).kept hW.2.2.1.l24 hW.2.2.1.1 (fun j u => k _ j (by omega)), a4.kept' (fun j u v => e1 j (by omega)), a4.kept' (fun j u v => k _ j (by omega)), (k _ _ (by omega)).trans a5, ⟨(k _ _ (by omega)).trans a6.1, a6.2.to (fun j _ => k _ _ (by omega))⟩, fun i hi4 => (a7 i hi4).kept (fun q j u v => k q j (by omega)), fun i hi5 => (a8 i hi5).kept (fun q j u v => k q j (by omega)), ⟨(k _ _ (by omega)).trans a9.1, a9.2.to (fun j _ => k _ _ (by omega))⟩, fun q j u => (k q j (by omega)).trans (a10 q j u)⟩
  · rw [if_pos (Decidable.not_not.mp c)] at h
    exact h.same hM
theorem W_back {s : St} (hW : WI s) : WI (o_back s).1 := by
  unfold o_back
  by_cases c : s.2.2.1 = 0
  · rw [if_pos c]; exact hW
  · rw [if_neg c]
    obtain ⟨a1, a2, a3, a4, a5, a6⟩ := hW
    exact ⟨a3, a4, a3, a4, Nat.le_refl _, a6⟩
/-- how far told rows are right -/
def chkN (wt : List Int32) (f : AF) : Nat → Nat → Int32
  | 0, i => if 2 * i < wt.length then nI (1 + 2 * i) else 0
  | m + 1, i => if wt[2 * i]? = some (adays (i + 1) f).2.2.1 then (if wt[2 * i + 1]? = some (awords (adays (i + 1) f).1) then chkN wt f m (i + 1) else nI (1 + (2 * i + 1))) else nI (1 + 2 * i)
def o_check (s : St) (n : Int32) : St × Int32 := match ixd n 30 with
  | none => (uW s [], -1000000001)
  | some k => if s.2.2.1 = 0 then (uW s [], -1000000002) else (uW s [], chkN s.2.2.2.2.2.2 s.2.1 (min k (9999 - dyN s.2.1)) 0)
theorem EP.frame {hi hi' : pm_B} {s : St} {v : Int32} {Q : pm_Q} (h : EP hi (s, v) Q) (hf : Fr PE hi hi') (hC : CI hi' s) : Q (some (.inl v)) hi' := h hi' hf hC
/-- a told number at its place -/
theorem told_at {wt : List Int32} {f : Nat → Int32} {i : Nat} {x : Int32} (hr : Row f wt) (hi : i < wt.length) : f i = x ↔ wt[i]? = some x := by
  rw [List.getElem?_eq_getElem hi, hr.at hi]
  exact ⟨fun h => by rw [h], fun h => Option.some.inj h⟩
theorem E_check {L d : Nat} {s : St} {n : Int32} {hi : pm_B} {Q : pm_Q} (hW : WI s) (hC : CI hi s) (h : EP hi (o_check s n) Q) : pm_C pm_g (SH L) HR (d + 20) m_E_check [.inr 16, .inl n] hi Q := by
  have hw := hC.2.2.2.2.2.2.2.2.1
  have hl := hW.2.2.2.2.2.2.2.2.2
  have hC1 : CI (pm_u hi 16 12 0) (uW s []) := hC.wait hW (fun q j _ hn => pm_u_ne (by omega)) ⟨pm_u_at, Row.nil⟩
  have hW1 : WI (uW s []) := wait_WI hW (Nat.zero_le _)
  have f1 : Fr PE hi (pm_u hi 16 12 0) := fun q j hn => pm_u_ne (by unfold PE at hn; omega)
  unfold o_check at h
  refine v_E_check (d := d + 18) (gD 30 rfl (by omega) (fun x => ?_) (fun n hn1 hn2 hx x => ?_))
  · rw [x] at h; exact h _ f1 hC1
  · rw [x] at h; dsimp only at h
    subst hx
    rw [pm_u_ne (Or.inr (by omega)), hC.2.2.2.2.1, hw.1]
    refine ⟨fun c => ?_, fun c => ?_⟩
    · rw [if_neg c] at h
      obtain ⟨hd, hd9⟩ := hW.2.2.2.1.n
      have h140 : Row (pm_u hi 16 12 0 140) s.2.2.2.2.2.2 := hw.2.to (fun j _ => pm_u_ne (Or.inl (by omega)))
      generalize pm_u hi 16 12 0 = hi1 at hC1 f1 h140 ⊢
      generalize s.2.2.2.2.2.2 = wt at h hl h140
      have hWi := hW.2.2.1
      have hXi : CX hi1 (txo s.2.1) := hC1.2.2.2.1
      refine become_c (d := d + 17) fo88 fo69 (by omega) hWi.wf hC1.2.1 (fun hi2 f2 c2 => ⟨rfl, ?_⟩)
      have fin : ∀ hi' v, Fr PG hi1 hi' → (∀ v', v' = v → EP hi (uW s [], v') Q) → Q (some (.inl v)) hi' := fun hi' v hf hv => hv v rfl hi' (f1.tr (hf.mono (fun q j hp => by unfold PG at hp; unfold PE; omega))) (hC1.same hW1 (fun q j _ hn => hf q j hn))
      generalize hM : min n (9999 - dyN s.2.1) = M at h
      have key : ∀ m i hi', i + m = M → Fr PG hi1 hi' → CF hi' 88 (adays i s.2.1) → chkN wt s.2.1 m i = chkN wt s.2.1 M 0 → 2 * i ≤ wt.length → pm_W pm_g (SH L) HR (d + 18 + 1) pm_t114 50 [some (.inr 16), some (.inl (nI n)), some (.inl (nI wt.length)), some (.inl (nI (2 * i))), some (.inl (nI i))] [] hi' Q := by
        intro m
        induction m with
        | zero =>
          intro i hi' hi hf hc hch h2i
          rw [Nat.add_zero] at hi
          subst hi
          have done : ((nI wt.length ≤ nI (2 * i)) → Q (some (.inl 0)) hi') ∧ ((¬ (nI wt.length ≤ nI (2 * i))) → Q (some (.inl (1 + nI (2 * i)))) hi') := by
            rw [← hch, chkN] at h
            refine ⟨fun c => ?_, fun c => ?_⟩
            · have c := (nI_leI (by omega) (by omega)).mp c
              rw [if_neg (by omega)] at h
              exact fin hi' _ hf (fun v' e => by rw [e]; exact h)
            · rw [if_pos (Nat.lt_of_not_le (fun hh => c (nI_le hh (by omega))))] at h
              rw [show (1 : Int32) = nI 1 from rfl, nI_add]
              exact fin hi' _ hf (fun v' e => by rw [e]; exact h)
          refine v_E_check_50 (d := d + 18) ⟨fun _ => done, fun c => ⟨fun _ => done, fun c' => absurd ?_ c'⟩⟩
          rw [hc.all.2.2.2.1, days_day hWi hd]
          have c : ¬ n ≤ i := fun hh => c (nI_le hh (by omega))
          exact nI_le (a := 9999) (by omega) (by omega)
        | succ m ih =>
          intro i hi' hi hf hc hch h2i
          refine v_E_check_50 (d := d + 18) ⟨fun c => absurd c (nI_ge (by omega) (by omega)), fun _ => ⟨fun c => absurd c ?_, fun _ => ?_⟩⟩
          · rw [hc.all.2.2.2.1, days_day hWi hd]
            exact nI_ge (b := 9999) (by omega) (by omega)
          · refine trialDay_c (d := d + 12) hWi hXi hf hc (fun hi5 f5 c5 => ⟨rfl, ?_⟩)
            obtain ⟨wa, _, _⟩ := days_all (n := i + 1) hWi
            have r5 : Row (hi5 140) wt := h140.to (fun j _ => f5 140 j (by unfold PG; omega))
            rw [chkN] at hch
            have bad0 : ¬ wt[2 * i]? = some (adays (i + 1) s.2.1).2.2.1 → Q (some (.inl (1 + nI (2 * i)))) hi5 := fun hb => by
              rw [if_neg hb] at hch
              rw [← hch] at h
              rw [show (1 : Int32) = nI 1 from rfl, nI_add]
              exact fin hi5 _ f5 (fun v' e => by rw [e]; exact h)
            refine ⟨fun c => absurd c (nI_pos (by omega)), fun _ => ⟨fun c => bad0 ?_, fun c => ?_⟩⟩
            · have c := (nI_leI (by omega) (by omega)).mp c
              rw [List.getElem?_eq_none c]
              intro hh
              cases hh
            · have c : 2 * i < wt.length := Nat.lt_of_not_le (fun hh => c (nI_le hh (by omega)))
              refine ⟨fun c' => absurd c' (nI_ge (b := 60) (by omega) (by omega)), fun _ => ⟨2 * i, by omega, rfl, ?_⟩⟩
              rw [c5.all.2.1]
              refine ⟨fun c1 => bad0 (fun hh => c1 ((told_at r5 c).mpr hh)), fun c1 => ?_⟩
              rw [if_pos ((told_at r5 c).mp (Decidable.not_not.mp c1))] at hch
              refine wordsTogether_c (d := d + 18) fo88 wa.wf c5 ⟨_, rfl, ?_⟩
              rw [nI_1]
              have bad1 : ¬ wt[2 * i + 1]? = some (awords (adays (i + 1) s.2.1).1) → Q (some (.inl (1 + nI (2 * i + 1)))) hi5 := fun hb => by
                rw [if_neg hb] at hch
                rw [← hch] at h
                rw [show (1 : Int32) = nI 1 from rfl, nI_add]
                exact fin hi5 _ f5 (fun v' e => by rw [e]; exact h)
              refine ⟨fun c => absurd c (nI_pos (by omega)), fun _ => ⟨fun c => bad1 ?_, fun c => ?_⟩⟩
              · have c := (nI_leI (by omega) (by omega)).mp c
                rw [List.getElem?_eq_none c]
                intro hh
                cases hh
              · have c : 2 * i + 1 < wt.length := Nat.lt_of_not_le (fun hh => c (nI_le hh (by omega)))
                refine ⟨fun c' => absurd c' (nI_ge (b := 60) (by omega) (by omega)), fun _ => ⟨2 * i + 1, by omega, rfl, ?_⟩⟩
                refine ⟨fun c1 => bad1 (fun hh => c1 ((told_at r5 c).mpr hh)), fun c1 => ?_⟩
                rw [if_pos ((told_at r5 c).mp (Decidable.not_not.mp c1))] at hch
                rw [nI_1, nI_1]
                exact ih (i + 1) hi5 (by omega) f5 c5 hch (by omega)
      exact key M 0 hi2 (by omega) (beco f2) c2 rfl (Nat.zero_le _)
    · rw [if_pos (Decidable.not_not.mp c)] at h
      exact h _ f1 hC1
theorem M_check {L d : Nat} {s : St} {n : Int32} {hi : pm_B} {Q : pm_Q} (hW : WI s) (hM : MI hi s) (h : MP hi (o_check s n) Q) : pm_C pm_g (SH L) HR (d + 20) m_M_check [.inr 141, .inl n] hi Q := by
  have hw := hM.2.2.2.2.2.2.2.2.1
  have hl := hW.2.2.2.2.2.2.2.2.2
  have hM1 : MI (pm_u hi 141 37 0) (uW s []) := hM.wait hW (fun q j _ hn => pm_u_ne (by omega)) ⟨pm_u_at, Row.nil⟩
  have hW1 : WI (uW s []) := wait_WI hW (Nat.zero_le _)
  have f1 : Fr PQ hi (pm_u hi 141 37 0) := fun q j hn => pm_u_ne (by unfold PQ at hn; omega)
  unfold o_check at h
  refine v_M_check (d := d + 18) (gD 30 rfl (by omega) (fun x => ?_) (fun n hn1 hn2 hx x => ?_))
  · rw [x] at h; exact h _ f1 hM1
  · rw [x] at h; dsimp only at h
    subst hx
    rw [pm_u_ne (Or.inr (by omega)), hM.2.2.2.2.1, hw.1]
    refine ⟨fun c => ?_, fun c => ?_⟩
    · rw [if_neg c] at h
      obtain ⟨hd, hd9⟩ := hW.2.2.2.1.n
      have h165 : Row (pm_u hi 141 37 0 165) s.2.2.2.2.2.2 := hw.2.to (fun j _ => pm_u_ne (Or.inl (by omega)))
      generalize pm_u hi 141 37 0 = hi1 at hM1 f1 h165 ⊢
      generalize s.2.2.2.2.2.2 = wt at h hl h165
      have hWi := hW.2.2.1
      refine mcopyAll_c (d := d + 18) sh_l142 sh_l144 (by omega) (fun hi4 f4 e4 => ⟨rfl, ?_⟩)
      refine mcopyAll_c (d := d + 18) sh_l143 sh_l142 (by omega) (fun hi5 f5 e5 => ⟨rfl, ?_⟩)
      have m5 : MF (hi5 142) s.2.1 := (hM1.2.1 c).kept hWi.l24 hWi.1 (fun j u => by rw [e5 j (by omega), f4 143 j (by omega)])
      have x5 : MX (hi5 142) (txo s.2.1) := hM1.2.2.2.1.kept' (fun j u v => by rw [e5 j (by omega), f4 143 j (by omega)])
      have a5 : ∀ j, j < 1611 → hi5 144 j = hi1 142 j := fun j hj => by rw [f5 144 j (by omega), e4 j hj]
      have g5 : ∀ q j, ¬ (q = 142 ∨ q = 144) → hi5 q j = hi1 q j := fun q j hn => by rw [f5 q j (by omega), f4 q j (by omega)]
      rw [m5.all.2.1, hd, show (9999 : Int32) = nI 9999 from rfl, nI_sub hd9, within_min (by omega) (by omega), Nat.min_comm, show (2 : Int32) = nI 2 from rfl, pk_mul]
      generalize hMM : min n (9999 - dyN s.2.1) = M at h
      have fin : ∀ (hi' : pm_B) (y : Nat), Fr PT hi5 hi' → y < 1000 → (¬ (y = wt.length ∧ y = 2 * M) → MP hi (uW s [], nI (1 + y)) Q) → (y = wt.length ∧ y = 2 * M → MP hi (uW s [], 0) Q) → pm_C pm_g (SH L) HR (d + 18 + 1) m_M_copyAll [.inr 144, .inr 142] hi' (fun v hi2 => v = none ∧ (((¬ nI y = nI wt.length) → Q (some (.inl (1 + nI y))) hi2) ∧ ((¬ (¬ nI y = nI wt.length)) → ((¬ nI y = nI (2 * M)) → Q (some (.inl (1 + nI y))) hi2) ∧ ((¬ (¬ nI y = nI (2 * M))) → Q (some (.inl 0)) hi2)))) := by
        intro hi' y hf hy hv1 hv2
        refine mcopyAll_c (d := d + 18) sh_l144 sh_l142 (by omega) (fun hi7 f7 e7 => ⟨rfl, ?_⟩)
        have g7 : ∀ q j, 141 ≤ q → ¬ ((q = 142 ∧ 1611 ≤ j) ∨ (q = 141 ∧ (j = 5 ∨ j = 7)) ∨ q = 144 ∨ q = 145 ∨ q = 155 ∨ q = 156) → hi7 q j = hi1 q j := fun q j _ hn => by
          by_cases h142 : q = 142
          · subst h142
            rw [e7 j (by omega), hf 144 j (by unfold PT; omega), a5 j (by omega)]
          · rw [f7 q j h142, hf q j (by unfold PT; omega), g5 q j (by omega)]
        have hM7 : MI hi7 (uW s []) := by
          exact hM1.now (f := s.1) hW1 (fun q j hq hn => g7 q j hq (by unfold PL at hn; omega)) (hM1.1.kept hW.1.l24 hW.1.1 (fun j u => g7 142 j (by omega) (by omega))) rfl
        have f7' : Fr PQ hi hi7 := f1.tr (fun q j hn => by
          unfold PQ at hn
          rw [f7 q j (by omega), hf q j (by unfold PT; omega), g5 q j (by omega)])
        have r1 : ¬ (y = wt.length ∧ y = 2 * M) → Q (some (.inl (1 + nI y))) hi7 := fun hn => by
          rw [show (1 : Int32) = nI 1 from rfl, nI_add]
          exact hv1 hn hi7 f7' hM7
        refine ⟨fun c => r1 (fun e => c (by rw [e.1])), fun c => ⟨fun c' => r1 (fun e => c' (by rw [e.2])), fun c' => ?_⟩⟩
        exact hv2 ⟨(nI_eq (by omega) (by omega)).mp (Decidable.not_not.mp c), (nI_eq (by omega) (by omega)).mp (Decidable.not_not.mp c')⟩ hi7 f7' hM7
      have h2 : ∀ i : Nat, (2 : Int32) * nI i = nI (2 * i) := fun i => pk_mul 2 i
      have key : ∀ m i hi', i + m = M → Fr PT hi5 hi' → MF (hi' 142) (adays i s.2.1) → chkN wt s.2.1 m i = chkN wt s.2.1 M 0 → 2 * i ≤ wt.length → pm_W pm_g (SH L) HR (d + 18 + 1) pm_t227 80 [some (.inr 141), some (.inl (nI n)), some (.inl (nI wt.length)), some (.inl (nI (2 * M))), some (.inl (nI (2 * i))), some (.inl (nI i))] [] hi' Q := by
        intro m
        induction m with
        | zero =>
          intro i hi' hi hf hc hch h2i
          rw [Nat.add_zero] at hi
          subst hi
          refine v_M_check_80 (d := d + 18) ?_
          rw [h2]
          refine ⟨fun _ => ?_, fun c => absurd (nI_le (Nat.le_refl _) (by omega)) c⟩
          rw [← hch, chkN] at h
          refine fin hi' (2 * i) hf (by omega) (fun hn => ?_) (fun hn => ?_)
          · rw [if_pos (by omega)] at h; exact h
          · rw [if_neg (by omega)] at h; exact h
        | succ m ih =>
          intro i hi' hi hf hc hch h2i
          obtain ⟨wa, wt', _⟩ := days_all (n := i) hWi
          refine v_M_check_80 (d := d + 18) ?_
          rw [h2]
          refine ⟨fun c => absurd c (nI_ge (by omega) (by omega)), fun _ => ⟨fun c => absurd rfl c, fun _ => ?_⟩⟩
          have x' : MX (hi' 142) (txo (adays i s.2.1)) := by rw [wt']; exact x5.kept (fun j hj => hf 142 j (by unfold PT; omega))
          refine mday_c (d := d + 9) wa.wf wa.wv hc x' wa.wx (fun hi9 f9 c9 => ⟨rfl, ?_⟩)
          rw [← adays_snoc] at c9
          have g9 := hf.tr f9
          obtain ⟨wa9, _, _⟩ := days_all (n := i + 1) hWi
          have r9 : Row (hi9 165) wt := h165.to (fun j _ => by rw [g9 165 j (by unfold PT; omega), g5 165 j (by omega)])
          rw [chkN] at hch
          have out : ∀ (y : Nat) (hi2 : pm_B), hi2 = hi9 → (y = 2 * i ∨ y = 2 * i + 1) → chkN wt s.2.1 M 0 = nI (1 + y) → pm_W pm_g (SH L) HR (d + 18 + 1) pm_t227 80 [some (.inr 141), some (.inl (nI n)), some (.inl (nI wt.length)), some (.inl (nI (2 * M))), some (.inl (nI y)), some (.inl (nI (i + 1)))] [] hi2 Q := by
            intro y hi2 e2 hy hv
            subst e2
            rw [hv] at h
            have ff := fin hi2 y g9 (by omega) (fun _ => h) (fun hn => absurd hn.2 (by omega))
            refine v_M_check_80 (d := d + 18) ?_
            rw [h2]
            exact ⟨fun _ => ff, fun _ => ⟨fun _ => ff, fun c => absurd (fun e => absurd ((nI_eq (by omega) (by omega)).mp e) (by omega)) c⟩⟩
          rw [Int32.add_zero, Int32.add_zero, nI_1, nI_1, nI_1, Int32.add_zero]
          have bad0 : ¬ wt[2 * i]? = some (adays (i + 1) s.2.1).2.2.1 → ((¬ nI (2 * i) = nI (2 * i + 1)) → pm_W pm_g (SH L) HR (d + 18 + 1) pm_t227 80 [some (.inr 141), some (.inl (nI n)), some (.inl (nI wt.length)), some (.inl (nI (2 * M))), some (.inl (nI (2 * i))), some (.inl (nI (i + 1)))] [] hi9 Q) := fun hb _ => by
            rw [if_neg hb] at hch
            exact out (2 * i) hi9 rfl (Or.inl rfl) hch.symm
          have n01 : ¬ nI (2 * i) = nI (2 * i + 1) := fun e => absurd ((nI_eq (by omega) (by omega)).mp e) (by omega)
          refine ⟨fun c => ⟨bad0 ?_, fun c' => absurd n01 c'⟩, fun c => ⟨2 * i, ?_, rfl, fun c1 => ⟨bad0 ?_, fun c' => absurd n01 c'⟩, fun c1 => ⟨fun c' => absurd rfl c', fun _ => ?_⟩⟩⟩
          · have c := (nI_leI (by omega) (by omega)).mp c
            rw [List.getElem?_eq_none c]
            intro hh
            cases hh
          · have c : 2 * i < wt.length := Nat.lt_of_not_le (fun hh => c (nI_le hh (by omega)))
            omega
          · have c : 2 * i < wt.length := Nat.lt_of_not_le (fun hh => c (nI_le hh (by omega)))
            exact fun hh => c1 (by rw [c9.all.2.2.2.1]; exact (told_at r9 c).mpr hh)
          · have c : 2 * i < wt.length := Nat.lt_of_not_le (fun hh => c (nI_le hh (by omega)))
            have c1 := Decidable.not_not.mp c1
            rw [c9.all.2.2.2.1] at c1
            rw [if_pos ((told_at r9 c).mp c1)] at hch
            have bad1 : ¬ wt[2 * i + 1]? = some (awords (adays (i + 1) s.2.1).1) → pm_W pm_g (SH L) HR (d + 18 + 1) pm_t227 80 [some (.inr 141), some (.inl (nI n)), some (.inl (nI wt.length)), some (.inl (nI (2 * M))), some (.inl (nI (2 * i + 1))), some (.inl (nI (i + 1)))] [] hi9 Q := fun hb => by
              rw [if_neg hb] at hch
              exact out (2 * i + 1) hi9 rfl (Or.inr rfl) hch.symm
            refine ⟨fun c2 => bad1 ?_, fun c2 => ⟨2 * i + 1, ?_, rfl, ?_⟩⟩
            · have c2 := (nI_leI (by omega) (by omega)).mp c2
              rw [List.getElem?_eq_none c2]
              intro hh
              cases hh
            · have c2 : 2 * i + 1 < wt.length := Nat.lt_of_not_le (fun hh => c2 (nI_le hh (by omega)))
              omega
            · have c2 : 2 * i + 1 < wt.length := Nat.lt_of_not_le (fun hh => c2 (nI_le hh (by omega)))
              refine mwordsAll_c (d := d + 17) wa9 c9 ⟨_, rfl, fun c3 => bad1 (fun hh => c3 ((told_at r9 c2).mpr hh)), fun c3 => ?_⟩
              rw [if_pos ((told_at r9 c2).mp (Decidable.not_not.mp c3))] at hch
              exact ih (i + 1) hi9 (by omega) g9 c9 hch (by omega)
      exact key M 0 hi5 (by omega) Fr.rf m5 rfl (Nat.zero_le _)
    · rw [if_pos (Decidable.not_not.mp c)] at h
      exact h _ f1 hM1
theorem W_check {s : St} {n : Int32} (hW : WI s) : WI (o_check s n).1 := by
  have h0 : WI (uW s []) := wait_WI hW (Nat.zero_le _)
  unfold o_check
  cases ixd n 30 with
  | none => exact h0
  | some k =>
    dsimp only
    by_cases c : s.2.2.1 = 0
    · rw [if_pos c]; exact h0
    · rw [if_neg c]; exact h0
