/-! ===== sheets ===== -/
def uS (s : St) (i : Nat) (t : AH) : St := (s.1, s.2.1, s.2.2.1, s.2.2.2.1, (fun k => if k = i then t else s.2.2.2.2.1 k), s.2.2.2.2.2)
theorem CI.sheet {hi hi' : pm_B} {s : St} {i : Nat} {t : AH} (h : CI hi s) (hW : WI s) (hi4 : i < 4) (hk : ∀ q j, q < 141 → ¬ (q = 113 + 2 * i ∨ q = 113 + 2 * i + 1) → hi' q j = hi q j) (ht : CH hi' (113 + 2 * i) t) : CI hi' (uS s i t) := by
  obtain ⟨a1, a2, a3, a4, a5, a6, a7, a8, a9, a10⟩ := h
  have k : ∀ q j, q < 141 ∧ ¬ (q = 113 + 2 * i ∨ q = 113 + 2 * i + 1) → hi' q j = hi q j := fun q j c => hk q j c.1 c.2
  refine ⟨a1.kept hW.1.1 (fun q j u v => k q j (by omega)), a2.kept hW.2.2.1.1 (fun q j u v => k q j (by omega)), a3.kept (fun q j u v => k q j (by omega)), a4.kept (fun q j u v => k q j (by omega)), (k _ _ (by omega)).trans a5, ⟨(k _ _ (by omega)).trans a6.1, a6.2.to (fun j _ => k _ _ (by omega))⟩, fun m hm => ?_, fun i hi5 => (a8 i hi5).kept (fun q j u v => k q j (by omega)), ⟨(k _ _ (by omega)).trans a9.1, a9.2.to (fun j _ => k _ _ (by omega))⟩, fun q j u v => (k q j (by omega)).trans (a10 q j u v)⟩
  show CH hi' (113 + 2 * m) (if m = i then t else s.2.2.2.2.1 m)
  by_cases e : m = i
  · rw [if_pos e, e]; exact ht
  · rw [if_neg e]; exact (a7 m hm).kept (fun q j u v => k q j (by omega))
theorem MI.sheet {hi hi' : pm_B} {s : St} {i : Nat} {t : AH} (h : MI hi s) (hW : WI s) (hi4 : i < 4) (hk : ∀ q j, 141 ≤ q → ¬ ((q = 157 ∧ j = i) ∨ (q = 158 ∧ j = i) ∨ (q = 159 ∧ 24 * i ≤ j ∧ j < 24 * i + 24) ∨ q = 164) → hi' q j = hi q j) (ht : MH hi' i t) : MI hi' (uS s i t) := by
  obtain ⟨a1, a2, a3, a4, a5, a6, a7, a8, a9, a10⟩ := h
  have k : ∀ q j, 141 ≤ q ∧ ¬ ((q = 157 ∧ j = i) ∨ (q = 158 ∧ j = i) ∨ (q = 159 ∧ 24 * i ≤ j ∧ j < 24 * i + 24) ∨ q = 164) → hi' q j = hi q j := fun q j c => hk q j c.1 c.2
  refine ⟨a1.kept hW.1.l24 hW.1.1 (fun j u => k _ j (by omega)), fun hz => (a2 hz).kept hW.2.2.1.l24 hW.2.2.1.1 (fun j u => k _ j (by omega)), a3.kept' (fun j u v => k _ j (by omega)), a4.kept' (fun j u v => k _ j (by omega)), (k _ _ (by omega)).trans a5, ⟨(k _ _ (by omega)).trans a6.1, a6.2.to (fun j _ => k _ _ (by omega))⟩, fun m hm => ?_, fun i hi5 => (a8 i hi5).kept (fun q j u v => k q j (by omega)), ⟨(k _ _ (by omega)).trans a9.1, a9.2.to (fun j _ => k _ _ (by omega))⟩, fun q j u => (k q j (by omega)).trans (a10 q j u)⟩
  show MH hi' m (if m = i then t else s.2.2.2.2.1 m)
  by_cases e : m = i
  · rw [if_pos e, e]; exact ht
  · rw [if_neg e]
    have wl := (hW.2.2.2.2.2.2.2.1 m hm).2
    obtain ⟨b1, b2, b3⟩ := a7 m hm
    exact ⟨(k _ _ (by omega)).trans b1, (k _ _ (by omega)).trans b2, b3.to (fun j hj => k _ _ (by omega))⟩
theorem sheet_WI {s : St} {i : Nat} {t : AH} (h : WI s) (ht : WH t) : WI (uS s i t) := by
  obtain ⟨a1, a2, a3, a4, a5, a6, a7, a8, a9, a10⟩ := h
  refine ⟨a1, a2, a3, a4, a5, a6, a7, fun m hm => ?_, a9, a10⟩
  show WH (if m = i then t else s.2.2.2.2.1 m)
  by_cases e : m = i
  · rw [if_pos e]; exact ht
  · rw [if_neg e]; exact a8 m hm
def o_sheet (s : St) (a k n : Int32) : St × Int32 := match ixo a 4 with
  | none => (s, -1000000001)
  | some i => if k < -1 then (s, -1000000001) else if 1 < k then (s, -1000000001) else if k = -1 then (uS s i (-1, []), 0) else match ixo n 25 with
    | none => if n < 0 then (s, -1000000014) else (s, -1000000001)
    | some m => (uS s i (k, List.replicate m 0), n)
theorem g25 {n : Int32} {A B C : Prop} (hs : ixo n 25 = none → n < 0 → A) (hb : ixo n 25 = none → ¬ n < 0 → C) (hg : ∀ m, m < 25 → n = nI m → ixo n 25 = some m → B) : ((n ≤ 24) → ((0 ≤ n) → B) ∧ ((¬ (0 ≤ n)) → A)) ∧ ((¬ (n ≤ 24)) → C) := by
  rcases ixo_cases n 25 with ⟨e, hne⟩ | ⟨m, hm, hx, e⟩
  · refine ⟨fun c => ⟨fun c0 => ?_, fun c0 => hs e (Int32.not_le.mp c0)⟩, fun c => hb e (fun c0 => c (Int32.le_of_lt (Int32.lt_of_lt_of_le c0 (by decide))))⟩
    obtain ⟨j, hj, rfl⟩ := nI_of (Int32.not_lt.mpr c0)
    have := (nI_leI (b := 24) hj (by omega)).mp c
    exact absurd rfl (hne j (by omega))
  · have hB := hg m hm hx e
    subst hx
    exact ⟨fun _ => ⟨fun _ => hB, fun c => absurd (nI_pos' (by omega)) c⟩, fun c => absurd (nI_le (b := 24) (by omega) (by omega)) c⟩
theorem E_sheet {L d : Nat} {s : St} {a k n : Int32} {hi : pm_B} {Q : pm_Q} (hW : WI s) (hC : CI hi s) (h : EP hi (o_sheet s a k n) Q) : pm_C pm_g (SH L) HR (d + 20) m_E_sheet [.inr 16, .inl a, .inl k, .inl n] hi Q := by
  unfold o_sheet at h
  refine v_E_sheet (d := d + 18) (gL 4 rfl (by omega) (fun x => ?_) (fun i hi4 hx x => ⟨fun c => ?_, fun c => ⟨fun c1 => ⟨fun c2 => ?_, fun c2 => ⟨i, hi4, hx, ?_⟩⟩, fun c1 => ?_⟩⟩))
  · rw [x] at h; exact h.same hC
  · rw [x] at h; dsimp only at h; rw [if_pos c] at h; exact h.same hC
  · rw [x] at h; dsimp only at h; rw [if_neg c, if_neg (Int32.not_lt.mpr c1), if_neg c2] at h
    refine g25 (fun y z => ?_) (fun y z => ?_) (fun m hm hy y => ⟨i, hi4, hx, ?_⟩)
    · rw [y] at h; dsimp only at h; rw [if_pos z] at h; exact h.same hC
    · rw [y] at h; dsimp only at h; rw [if_neg z] at h; exact h.same hC
    · rw [y] at h; dsimp only at h
      subst hy
      exact sheetBegin_c (d := d + 18) (st_of hi4) (by omega) (fun hi' hf hc => ⟨rfl, h hi' (fun q j hn => hf q j (by unfold PE at hn; omega)) (hC.sheet hW hi4 (fun q j _ hn => hf q j hn) hc)⟩)
  · rw [x] at h; dsimp only at h; rw [if_neg c, if_neg (Int32.not_lt.mpr c1), if_pos (Decidable.not_not.mp c2)] at h
    exact sheetBegin_c (d := d + 18) (n := 0) (st_of hi4) (by omega) (fun hi' hf hc => ⟨rfl, h hi' (fun q j hn => hf q j (by unfold PE at hn; omega)) (hC.sheet hW hi4 (fun q j _ hn => hf q j hn) hc)⟩)
  · rw [x] at h; dsimp only at h; rw [if_neg c, if_pos (Int32.not_le.mp c1)] at h; exact h.same hC
theorem m1_0 {k : Int32} (h1 : ¬ k < -1) (h2 : ¬ k = -1) : ¬ k < 0 := by
  intro h0
  have h1 := Int32.not_lt.mp h1
  rw [Int32.lt_iff_toInt_lt] at h0
  rw [Int32.le_iff_toInt_le] at h1
  apply h2
  apply Int32.toInt_inj.mp
  have e0 : (0 : Int32).toInt = 0 := by decide
  have e1 : (-1 : Int32).toInt = -1 := by decide
  rw [e0] at h0
  rw [e1] at h1 ⊢
  omega
theorem msheet_loop {L d i m : Nat} {s : St} {a k n v : Int32} {hi hi1 : pm_B} {Q : pm_Q} (hW : WI s) (hM : MI hi s) (hi4 : i < 4) (hm : m ≤ 24) (ha : a = nI i) (e1 : hi1 = pm_u (pm_u hi 157 i k) 158 i (nI m)) (hv : v = nI m) (h : MP hi (uS s i (k, List.replicate m 0), v) Q) : pm_W pm_g (SH L) HR (d + 2) pm_t217 65 [some (.inr 141), some (.inl a), some (.inl k), some (.inl n), some (.inl 0)] [] hi1 Q := by
  subst ha
  have f1 : ∀ q j, ¬ ((q = 157 ∧ j = i) ∨ (q = 158 ∧ j = i)) → hi1 q j = hi q j := fun q j hn => by rw [e1, pm_u_ne (by omega), pm_u_ne (by omega)]
  have s1 : hi1 157 i = k := by rw [e1, pm_u_ne (Or.inl (by omega)), pm_u_at]
  have s2 : hi1 158 i = nI m := by rw [e1, pm_u_at]
  have key : ∀ r c hi', c + r = 24 → Fr (fun q j => q = 159 ∧ 24 * i ≤ j ∧ j < 24 * i + 24) hi1 hi' → (∀ j, j < c → hi' 159 (24 * i + j) = 0) → pm_W pm_g (SH L) HR (d + 2) pm_t217 65 [some (.inr 141), some (.inl (nI i)), some (.inl k), some (.inl n), some (.inl (nI c))] [] hi' Q := by
    intro r
    induction r with
    | zero =>
      intro c hi' hc hf hz
      refine v_M_sheet_65 ⟨fun _ => ⟨i, hi4, rfl, ?_⟩, fun c' => absurd (nI_le (a := 24) (by omega) (by omega)) c'⟩
      have g2 : hi' 158 i = nI m := (hf 158 i (by omega)).trans s2
      rw [g2, ← hv]
      refine h hi' (fun q j hn => ?_) (hM.sheet hW hi4 (fun q j _ hn => ?_) ⟨(hf 157 i (by omega)).trans s1, ?_, Row.rep (fun j hj => hz j (by omega))⟩)
      · unfold PQ at hn; rw [hf q j (by omega), f1 q j (by omega)]
      · rw [hf q j (by omega), f1 q j (by omega)]
      · rw [g2, List.length_replicate]
    | succ r ih =>
      intro c hi' hc hf hz
      refine v_M_sheet_65 ⟨fun c' => absurd c' (nI_ge (b := 24) (by omega) (by omega)), fun _ => ⟨24 * i + c, by omega, ix24 i c, ?_⟩⟩
      rw [nI_1]
      refine ih (c + 1) _ (by omega) (hf.tr (Fr.u ⟨rfl, by omega, by omega⟩)) (fun j hj => ?_)
      by_cases e : j = c
      · rw [e, pm_u_at]
      · rw [pm_u_ne (Or.inr (by omega))]; exact hz j (by omega)
  exact key 24 0 hi1 rfl Fr.rf (fun j hj => absurd hj (by omega))
theorem M_sheet {L d : Nat} {s : St} {a k n : Int32} {hi : pm_B} {Q : pm_Q} (hW : WI s) (hM : MI hi s) (h : MP hi (o_sheet s a k n) Q) : pm_C pm_g (SH L) HR (d + 20) m_M_sheet [.inr 141, .inl a, .inl k, .inl n] hi Q := by
  unfold o_sheet at h
  refine v_M_sheet (d := d + 17) (gT 3 rfl (by omega) (fun x => ?_) (fun i hi4 hx x => ⟨fun c => ?_, fun c => ⟨fun c1 => ?_, fun c1 => ?_⟩⟩))
  · rw [x] at h; exact h.same hM
  · rw [x] at h; dsimp only at h; rw [if_pos c] at h; exact h.same hM
  · rw [x] at h; dsimp only at h; rw [if_neg c, if_pos c1] at h; exact h.same hM
  · rw [x] at h; dsimp only at h; rw [if_neg c, if_neg c1] at h
    by_cases c2 : k = -1
    · rw [if_pos c2] at h
      subst c2
      have n0 : (-1 : Int32) < 0 := by decide
      refine ⟨fun _ => ⟨fun _ => ⟨i, hi4, hx, fun hh => absurd hh (by decide), fun _ => ⟨i, hi4, hx, fun hi12 e12 => ?_⟩⟩, fun hh => absurd n0 hh⟩, fun hh => absurd n0 hh⟩
      exact msheet_loop (d := d + 17) (m := 0) hW hM hi4 (by omega) hx e12 rfl h
    · rw [if_neg c2] at h
      have k0 := m1_0 c c2
      have k0' := Int32.not_lt.mp k0
      refine ⟨fun hh => absurd hh k0, fun _ => ?_⟩
      have := g25 (n := n) (A := Q (some (.inl (-1000000014))) hi) (B := ∃ k29 : Nat, k29 < 4 ∧ a = nI k29 ∧ (((0 ≤ k) → ∃ k31 : Nat, k31 < 4 ∧ a = nI k31 ∧ (∀ hi32 : pm_B, hi32 = pm_u (pm_u hi 157 k29 k) 158 k31 n → (pm_W pm_g (SH L) HR (d + 17 + 2) pm_t217 65 [some (.inr 141), some (.inl a), some (.inl k), some (.inl n), some (.inl 0)] [] hi32 Q))) ∧ ((¬ (0 ≤ k)) → ∃ k33 : Nat, k33 < 4 ∧ a = nI k33 ∧ (∀ hi34 : pm_B, hi34 = pm_u (pm_u hi 157 k29 k) 158 k33 0 → (pm_W pm_g (SH L) HR (d + 17 + 2) pm_t217 65 [some (.inr 141), some (.inl a), some (.inl k), some (.inl n), some (.inl 0)] [] hi34 Q))))) (C := Q (some (.inl (-1000000001))) hi) (fun y z => ?_) (fun y z => ?_) (fun m hm hy y => ⟨i, hi4, hx, fun _ => ⟨i, hi4, hx, fun hi32 e32 => ?_⟩, fun hh => absurd k0' hh⟩)
      · exact ⟨fun c3 => ⟨fun hh => absurd hh k0, fun _ => this.1 c3⟩, this.2⟩
      · rw [y] at h; dsimp only at h; rw [if_pos z] at h; exact h.same hM
      · rw [y] at h; dsimp only at h; rw [if_neg z] at h; exact h.same hM
      · rw [y] at h; dsimp only at h
        rw [hy] at e32
        exact msheet_loop (d := d + 17) (m := m) hW hM hi4 (by omega) hx e32 hy h
theorem k_101 {k : Int32} (h1 : ¬ k < -1) (h2 : ¬ 1 < k) : k = -1 ∨ k = 0 ∨ k = 1 := by
  by_cases c : k = -1
  · exact Or.inl c
  · right
    obtain ⟨j, hj, rfl⟩ := nI_of (m1_0 h1 c)
    have : j ≤ 1 := Nat.le_of_not_lt (fun hh => h2 (nI_lt (a := 1) hh hj))
    rcases (show j = 0 ∨ j = 1 by omega) with rfl | rfl
    · exact Or.inl rfl
    · exact Or.inr rfl
theorem W_sheet {s : St} {a k n : Int32} (hW : WI s) : WI (o_sheet s a k n).1 := by
  unfold o_sheet
  rcases ixo_cases a 4 with ⟨x, _⟩ | ⟨i, hi4, hx, x⟩
  · rw [x]; exact hW
  · rw [x]; dsimp only
    by_cases c : k < -1
    · rw [if_pos c]; exact hW
    · by_cases c1 : 1 < k
      · rw [if_neg c, if_pos c1]; exact hW
      · rw [if_neg c, if_neg c1]
        by_cases c2 : k = -1
        · rw [if_pos c2]; exact sheet_WI hW ⟨Or.inl rfl, Nat.zero_le _⟩
        · rw [if_neg c2]
          rcases ixo_cases n 25 with ⟨y, _⟩ | ⟨m, hm, hy, y⟩
          · rw [y]; dsimp only
            by_cases c3 : n < 0
            · rw [if_pos c3]; exact hW
            · rw [if_neg c3]; exact hW
          · rw [y]; dsimp only
            exact sheet_WI hW ⟨k_101 c c1, by rw [List.length_replicate]; omega⟩
/-! mark -/
theorem Row.put {f g : Nat → Int32} {ws : List Int32} {j : Nat} {w : Int32} (h : Row f ws) (hj : g j = w) (hk : ∀ k, k ≠ j → g k = f k) : Row g (ws.set j w) := by
  intro k v hv
  by_cases e : k = j
  · subst e
    have hl : k < ws.length := by
      have := (List.getElem?_eq_some_iff.mp hv).1
      rw [List.length_set] at this
      exact this
    rw [List.getElem?_set_self hl] at hv
    cases hv
    exact hj
  · rw [List.getElem?_set_ne (Ne.symm e)] at hv
    rw [hk k e]
    exact h k v hv
def amark (t : AH) (j : Nat) (v : Int32) : Option AH × Int32 := if t.1 = 0 then (if v = -1000000005 then (none, -1000000012) else (some (t.1, t.2.set j ((Int32.toInt16 v).toInt32)), 1)) else (if v = -1000000005 then (some (t.1, t.2.set j v), 1) else if v < -99999 then (none, -1000000001) else if 99999 < v then (none, -1000000001) else (some (t.1, t.2.set j v), 1))
def upO (s : St) (i : Nat) (o : Option AH × Int32) : St × Int32 := match o.1 with
  | none => (s, o.2)
  | some t => (uS s i t, o.2)
def o_mark (s : St) (a p v : Int32) : St × Int32 := match ixo a 4 with
  | none => (s, -1000000001)
  | some i => if (s.2.2.2.2.1 i).1 = -1 then (s, -1000000011) else match ixo p (s.2.2.2.2.1 i).2.length with
    | none => (s, -1000000013)
    | some j => upO s i (amark (s.2.2.2.2.1 i) j v)
theorem E_mark {L d : Nat} {s : St} {a p v : Int32} {hi : pm_B} {Q : pm_Q} (hW : WI s) (hC : CI hi s) (h : EP hi (o_mark s a p v) Q) : pm_C pm_g (SH L) HR (d + 20) m_E_mark [.inr 16, .inl a, .inl p, .inl v] hi Q := by
  unfold o_mark at h
  refine v_E_mark (d := d + 18) (gL 4 rfl (by omega) (fun x => ?_) (fun i hi4 hx x => ⟨i, hi4, hx, ?_⟩))
  · rw [x] at h; exact h.same hC
  · rw [x] at h; dsimp only at h
    have hH := hC.2.2.2.2.2.2.1 i hi4
    have wH := hW.2.2.2.2.2.2.2.1 i hi4
    generalize s.2.2.2.2.1 i = t at h hH wH
    rw [hH.1]
    refine ⟨fun c => ?_, fun c => ?_⟩
    · rw [if_neg c] at h
      refine gE' (m := 24) hH.2.1 rfl wH.2 (by omega) (fun y => ?_) (fun j hj hy y => ?_)
      · rw [y] at h; exact h.same hC
      · rw [y] at h; dsimp only at h
        have wr : ∀ w, EP hi (upO s i (some (t.1, t.2.set j w), 1)) Q → Q (some (.inl 1)) (pm_u hi (113 + 2 * i + 1) j w) := fun w hw => by
          refine hw _ (fun q j' hn => pm_u_ne (by unfold PE at hn; omega)) (hC.sheet hW hi4 (fun q j' _ hn => pm_u_ne (by omega)) ⟨(pm_u_ne (Or.inl (by omega))).trans hH.1, ?_, hH.2.2.put pm_u_at (fun k hk => pm_u_ne (Or.inr hk))⟩)
          show pm_u hi (113 + 2 * i + 1) j w (113 + 2 * i) 1 = nI (t.2.set j w).length
          rw [List.length_set, pm_u_ne (Or.inl (by omega))]
          exact hH.2.1
        unfold amark at h
        have hl := wH.2
        refine ⟨fun c0 => ⟨fun c1 => ⟨j, by omega, hy, ?_⟩, fun c1 => ⟨fun c2 => ?_, fun c2 => ⟨fun c3 => ⟨j, by omega, hy, ?_⟩, fun c3 => ?_⟩⟩⟩, fun c0 => ⟨fun c1 => ⟨j, by omega, hy, ?_⟩, fun c1 => ?_⟩⟩
        · rw [if_neg c0, if_pos c1] at h; exact wr _ h
        · rw [if_neg c0, if_neg c1, if_pos c2] at h; exact h.same hC
        · rw [if_neg c0, if_neg c1, if_neg c2, if_neg (Int32.not_lt.mpr c3)] at h; exact wr _ h
        · rw [if_neg c0, if_neg c1, if_neg c2, if_pos (Int32.not_le.mp c3)] at h; exact h.same hC
        · rw [if_pos (Decidable.not_not.mp c0), if_neg c1] at h; exact wr _ h
        · rw [if_pos (Decidable.not_not.mp c0), if_pos (Decidable.not_not.mp c1)] at h; exact h.same hC
    · rw [if_pos (Decidable.not_not.mp c)] at h; exact h.same hC
theorem M_mark {L d : Nat} {s : St} {a p v : Int32} {hi : pm_B} {Q : pm_Q} (hW : WI s) (hM : MI hi s) (h : MP hi (o_mark s a p v) Q) : pm_C pm_g (SH L) HR (d + 20) m_M_mark [.inr 141, .inl a, .inl p, .inl v] hi Q := by
  unfold o_mark at h
  refine v_M_mark (d := d + 17) (gT 3 rfl (by omega) (fun x => ?_) (fun i hi4 hx x => ⟨i, hi4, hx, ?_⟩))
  · rw [x] at h; exact h.same hM
  · rw [x] at h; dsimp only at h
    have hH := hM.2.2.2.2.2.2.1 i hi4
    have wH := hW.2.2.2.2.2.2.2.1 i hi4
    generalize s.2.2.2.2.1 i = t at h hH wH
    rw [hH.1]
    refine ⟨fun c => ⟨i, hi4, hx, ?_⟩, fun c => ?_⟩
    · have c' := (srt wH).mp c
      rw [if_neg c'] at h
      refine gM hH.2.1 (by have := wH.2; omega) (fun y => ?_) (fun j hj hy y => ⟨i, hi4, hx, ?_⟩)
      · rw [y] at h; exact h.same hM
      · rw [y] at h; dsimp only at h
        subst hx hy
        have hl := wH.2
        have wr : ∀ w, MP hi (upO s i (some (t.1, t.2.set j w), 1)) Q → Q (some (.inl 1)) (pm_u hi 159 (24 * i + j) w) := fun w hw => by
          refine hw _ (fun q j' hn => pm_u_ne (by unfold PQ at hn; omega)) (hM.sheet hW hi4 (fun q j' _ hn => pm_u_ne (by omega)) ⟨(pm_u_ne (Or.inl (by omega))).trans hH.1, ?_, hH.2.2.put pm_u_at (fun k hk => pm_u_ne (Or.inr (by omega)))⟩)
          show pm_u hi 159 (24 * i + j) w 158 i = nI (t.2.set j w).length
          rw [List.length_set, pm_u_ne (Or.inl (by omega))]
          exact hH.2.1
        have ij : 24 * i + j < 96 := by omega
        unfold amark at h
        rw [hH.1]
        rcases wH.1 with e | e | e
        · exact absurd e c'
        · rw [if_pos e] at h
          refine ⟨fun c0 => absurd e c0, fun _ => ⟨fun c1 => ⟨i, hi4, rfl, ?_⟩, fun c1 => ?_⟩⟩
          · rw [if_neg c1] at h
            rw [hH.1]
            refine ⟨fun _ => ⟨i, hi4, rfl, ?_⟩, fun c2 => absurd (by rw [e]; decide) c2⟩
            rw [hH.1]
            exact ⟨fun c2 => absurd e c2, fun _ => ⟨24 * i + j, ij, ix24 i j, wr _ h⟩⟩
          · rw [if_pos (Decidable.not_not.mp c1)] at h; exact h.same hM
        · have e0 : ¬ t.1 = 0 := by rw [e]; decide
          rw [if_neg e0] at h
          refine ⟨fun _ => ⟨i, hi4, rfl, ?_⟩, fun c0 => absurd e0 c0⟩
          rw [hH.1]
          refine ⟨fun c1 => absurd e c1, fun _ => ⟨fun c1 => ⟨i, hi4, rfl, ?_⟩, fun c1 => ⟨fun c2 => ?_, fun c2 => ⟨fun c3 => ?_, fun c3 => ⟨i, hi4, rfl, ?_⟩⟩⟩⟩⟩
          · rw [if_pos c1] at h
            rw [hH.1]
            exact ⟨fun _ => ⟨24 * i + j, ij, ix24 i j, wr _ h⟩, fun c2 => absurd e0 c2⟩
          · rw [if_neg c1, if_pos c2] at h; exact h.same hM
          · rw [if_neg c1, if_neg c2, if_pos c3] at h; exact h.same hM
          · rw [if_neg c1, if_neg c2, if_neg c3] at h
            rw [hH.1]
            exact ⟨fun _ => ⟨24 * i + j, ij, ix24 i j, wr _ h⟩, fun c2 => absurd e0 c2⟩
    · rw [if_pos (Classical.byContradiction (fun hh => c ((srt wH).mpr hh)))] at h
      exact h.same hM
theorem W_mark {s : St} {a p v : Int32} (hW : WI s) : WI (o_mark s a p v).1 := by
  unfold o_mark
  rcases ixo_cases a 4 with ⟨x, _⟩ | ⟨i, hi4, hx, x⟩
  · rw [x]; exact hW
  · rw [x]; dsimp only
    have wH := hW.2.2.2.2.2.2.2.1 i hi4
    generalize s.2.2.2.2.1 i = t at wH
    by_cases c : t.1 = -1
    · rw [if_pos c]; exact hW
    · rw [if_neg c]
      cases ixo p t.2.length with
      | none => exact hW
      | some j =>
        dsimp only
        have ok : ∀ w v, WI (upO s i (some (t.1, t.2.set j w), v)).1 := fun w v => sheet_WI hW ⟨wH.1, by rw [List.length_set]; exact wH.2⟩
        unfold amark
        by_cases c0 : t.1 = 0
        · rw [if_pos c0]
          by_cases c1 : v = -1000000005
          · rw [if_pos c1]; exact hW
          · rw [if_neg c1]; exact ok _ _
        · rw [if_neg c0]
          by_cases c1 : v = -1000000005
          · rw [if_pos c1]; exact ok _ _
          · rw [if_neg c1]
            by_cases c2 : v < -99999
            · rw [if_pos c2]; exact hW
            · rw [if_neg c2]
              by_cases c3 : 99999 < v
              · rw [if_pos c3]; exact hW
              · rw [if_neg c3]; exact ok _ _
