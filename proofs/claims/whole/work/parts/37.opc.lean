/-! speaks -/
def spu5 (f : AF) (i : Nat) (p : ASp) (v : Int32) : AF := (f.1.set i p, f.2.1, f.2.2.1, v, f.2.2.2.2)
theorem CF.sp5 {hi hi' : pm_B} {F i : Nat} {f : AF} {p : ASp} {v : Int32} (h : CF hi F f) (h8 : f.1.length ≤ 8) (hi8 : i < f.1.length) (hp : CS hi' (F + 2 + 2 * i) p) (hv : hi' F 5 = v) (hk : ∀ q j, F ≤ q → q < F + 19 → q ≠ F + 2 + 2 * i → q ≠ F + 2 + 2 * i + 1 → ¬ (q = F ∧ j = 5) → hi' q j = hi q j) : CF hi' F (spu5 f i p v) := by
  obtain ⟨sps, talk, spoken, lost, day, z, txs⟩ := f
  obtain ⟨c2, c3, c4, c5, c6, c7, c8, c9, cS⟩ := h
  dsimp only at h8 hi8
  have t : ∀ j, j ≠ 5 → hi' F j = hi F j := fun j hj => hk F j (by omega) (by omega) (by omega) (by omega) (by omega)
  refine ⟨?_, (t _ (by omega)).trans c3, (t _ (by omega)).trans c4, hv, (t _ (by omega)).trans c6, (t _ (by omega)).trans c7, (t _ (by omega)).trans c8, fun k hk3 => ?_, fun m r hr => ?_⟩
  · rw [List.length_set]; exact (t _ (by omega)).trans c2
  · rw [hk (F + 18) k (by omega) (by omega) (by omega) (by omega) (by omega)]; exact c9 k hk3
  · have hm : m < sps.length := by
      have := (List.getElem?_eq_some_iff.mp hr).1
      rw [List.length_set] at this
      exact this
    by_cases hmi : m = i
    · subst hmi
      rw [List.getElem?_set_self hi8] at hr
      cases hr
      exact hp
    · rw [List.getElem?_set_ne (Ne.symm hmi)] at hr
      exact (cS m r hr).kept (fun j => hk _ _ (by omega) (by omega) (by omega) (by omega) (by omega)) (fun j => hk _ _ (by omega) (by omega) (by omega) (by omega) (by omega))
theorem MF.sp5 {r r' : Nat → Int32} {i : Nat} {f : AF} {p : ASp} {v : Int32} (h : MF r f) (hl : ∀ p ∈ f.1, p.2.2.2.2.length ≤ 24) (h8 : f.1.length ≤ 8) (hi8 : i < f.1.length) (hp : MS r' i p) (hv : r' 5 = v) (hk : ∀ j, j < 239 → j ≠ 5 → ¬ (7 + 29 * i ≤ j ∧ j < 7 + 29 * i + 29) → r' j = r j) : MF r' (spu5 f i p v) := by
  obtain ⟨sps, talk, spoken, lost, day, z, txs⟩ := f
  obtain ⟨c0, c1, c2, c3, c4, c5, c6, cS⟩ := h
  dsimp only at h8 hi8 hl
  have t : ∀ j, j < 7 → j ≠ 5 → r' j = r j := fun j hj h5 => hk j (by omega) h5 (by omega)
  refine ⟨(t _ (by omega) (by omega)).trans c0, ?_, (t _ (by omega) (by omega)).trans c2, (t _ (by omega) (by omega)).trans c3, (t _ (by omega) (by omega)).trans c4, hv, (t _ (by omega) (by omega)).trans c6, fun m q hq => ?_⟩
  · rw [List.length_set]; exact (t _ (by omega) (by omega)).trans c1
  · have hm : m < sps.length := by
      have := (List.getElem?_eq_some_iff.mp hq).1
      rw [List.length_set] at this
      exact this
    by_cases hmi : m = i
    · subst hmi
      rw [List.getElem?_set_self hi8] at hq
      cases hq
      exact hp
    · rw [List.getElem?_set_ne (Ne.symm hmi)] at hq
      have := hl q (List.mem_of_getElem? hq)
      exact (cS m q hq).kept (fun j a b => hk j (by omega) (by omega) (by omega))
/-- one hears a row -/
def aheard (f : AF) (i : Nat) (row : List Int32) : AF := spu5 f i (ahears (txo f) (spa f i) row) (f.2.2.2.1 + nI (ahl (txo f) (spa f i) row))
theorem WA.heard {f : AF} {i : Nat} {row : List Int32} (h : WA f) (hi8 : i < f.1.length) (hr : ∀ w ∈ row, isw w) : WA (aheard f i row) := by
  have := h.spu (i := i) (p := ahears (txo f) (spa f i) row) ((h.at hi8).hears hr)
  exact ⟨this.1, this.2.1, this.2.2⟩
abbrev okw (w : Int32) : Prop := ¬ w < -1 ∧ ¬ 19 < w
def pw (w : Int32) : List Int32 := if w < 0 then [] else [w]
theorem okw_cases {w : Int32} (h : okw w) : w = -1 ∨ isw w := by
  by_cases h0 : w < 0
  · left
    have h1 := Int32.not_lt.mp h.1
    rw [Int32.lt_iff_toInt_lt] at h0
    rw [Int32.le_iff_toInt_le] at h1
    apply Int32.toInt_inj.mp
    have e0 : (0 : Int32).toInt = 0 := by decide
    have e1 : (-1 : Int32).toInt = -1 := by decide
    rw [e0] at h0
    rw [e1] at h1 ⊢
    omega
  · right
    refine ⟨h0, fun hh => h.2 (Int32.lt_of_lt_of_le (by decide) hh)⟩
theorem isw_ok {w : Int32} (h : isw w) : okw w := by
  obtain ⟨j, hj, rfl⟩ := nI_of h.1
  have h20 : j < 20 := Nat.lt_of_not_le (fun hh => h.2 (nI_le (a := 20) hh hj))
  refine ⟨fun hh => h.1 (Int32.lt_trans hh (by decide)), nI_nlt (b := j) (a := 19) (by omega) (by omega)⟩
theorem pw_W {w : Int32} (h : okw w) : ∀ x ∈ pw w, isw x := by
  intro x hx
  unfold pw at hx
  by_cases h0 : w < 0
  · rw [if_pos h0] at hx; exact absurd hx (by simp)
  · rw [if_neg h0] at hx
    rw [List.mem_singleton.mp hx]
    rcases okw_cases h with e | e
    · rw [e] at h0; exact absurd (by decide) h0
    · exact e
theorem pw_len (w : Int32) : (pw w).length ≤ 1 := by
  unfold pw
  by_cases h0 : w < 0
  · rw [if_pos h0]; exact Nat.zero_le _
  · rw [if_neg h0]; exact Nat.le_refl _
theorem gw {w : Int32} {A B : Prop} (ha : ¬ okw w → A) (hb : okw w → B) : ((w = (-1)) → B) ∧ ((¬ (w = (-1))) → ((w < 0) → A) ∧ ((¬ (w < 0)) → ((20 ≤ w) → A) ∧ ((¬ (20 ≤ w)) → B))) := by
  refine ⟨fun c => hb (by subst c; decide), fun c => ⟨fun c0 => ha (fun ho => ?_), fun c0 => ⟨fun c1 => ha (fun ho => ?_), fun c1 => hb (isw_ok ⟨c0, c1⟩)⟩⟩⟩
  · rcases okw_cases ho with e | e
    · exact c e
    · exact e.1 c0
  · rcases okw_cases ho with e | e
    · exact c e
    · exact e.2 c1
theorem gwM {w : Int32} {A B : Prop} (ha : ¬ okw w → A) (hb : okw w → B) : ((w < (-1)) → A) ∧ ((¬ (w < (-1))) → ((19 < w) → A) ∧ ((¬ (19 < w)) → B)) :=
  ⟨fun c => ha (fun ho => ho.1 c), fun c0 => ⟨fun c => ha (fun ho => ho.2 c), fun c1 => hb ⟨c0, c1⟩⟩⟩
def o_speaks (s : St) (a x y z : Int32) : St × Int32 := match ixo a s.1.1.length with
  | none => (s, -1000000001)
  | some i => if okw x then (if okw y then (if okw z then ((aheard s.1 i (pw x ++ pw y ++ pw z), s.2), nI (ahears (txo s.1) (spa s.1 i) (pw x ++ pw y ++ pw z)).2.2.2.2.length) else (s, -1000000001)) else (s, -1000000001)) else (s, -1000000001)
theorem putFrom_c {L d : Nat} {w : Int32} {row : List Int32} {hi : pm_B} {Q : pm_Q} (hl : row.length ≤ 2) (hr : Row (hi 139) row) (hw : okw w) (h : ∀ hi', Fr (fun q _ => q = 139) hi hi' → Row (hi' 139) (row ++ pw w) → Q (some (.inl (nI (row ++ pw w).length))) hi') : pm_C pm_g (SH L) HR (d + 2) m_E_putFromWithout [.inr 16, .inl (nI row.length), .inl w] hi Q := by
  refine v_E_putFromWithout (d := d) ?_
  by_cases h0 : w < 0
  · have e : pw w = [] := by unfold pw; rw [if_pos h0]
    rw [e, List.append_nil] at h
    have := h hi Fr.rf hr
    exact ⟨fun _ => this, fun c => absurd h0 c⟩
  · have e : pw w = [w] := by unfold pw; rw [if_neg h0]
    have hs : isw w := by
      rcases okw_cases hw with e' | e'
      · rw [e'] at h0; exact absurd (by decide) h0
      · exact e'
    rw [e] at h
    refine ⟨fun c => absurd c h0, fun _ => ⟨fun c => absurd c hs.2, fun _ => ⟨fun c => absurd c (nI_pos (by omega)), fun _ => ⟨fun _ => ⟨row.length, by omega, rfl, ?_⟩, fun c => absurd (nI_lt (b := 3) (by omega) (by omega)) c⟩⟩⟩⟩
    have := h (pm_u hi 139 row.length w) (Fr.u rfl) (hr.u rfl)
    rw [List.length_append] at this
    rw [nI_1]
    exact this
theorem E_speaks {L d : Nat} {s : St} {a x y z : Int32} {hi : pm_B} {Q : pm_Q} (hW : WI s) (hC : CI hi s) (h : EP hi (o_speaks s a x y z) Q) : pm_C pm_g (SH L) HR (d + 20) m_E_speaks [.inr 16, .inl a, .inl x, .inl y, .inl z] hi Q := by
  have h8 := hW.1.1
  unfold o_speaks at h
  refine v_E_speaks (d := d + 17) (gE hC.1.n hW.1.1 (fun e => ?_) (fun i hi8 hx e => ?_))
  · rw [e] at h; exact h.same hC
  · rw [e] at h; dsimp only at h
    have b1 : ¬ okw x → Q (some (.inl (-1000000001))) hi := fun c => by rw [if_neg c] at h; exact h.same hC
    have b2 : okw x → ¬ okw y → Q (some (.inl (-1000000001))) hi := fun c c' => by rw [if_pos c, if_neg c'] at h; exact h.same hC
    have b3 : okw x → okw y → ¬ okw z → Q (some (.inl (-1000000001))) hi := fun c c' c'' => by rw [if_pos c, if_pos c', if_neg c''] at h; exact h.same hC
    have tail : okw x → okw y → okw z → pm_C pm_g (SH L) HR (d + 17 + 2) m_E_putFromWithout [.inr 16, .inl 0, .inl x] hi (fun v hi7 => ∃ x8 : Int32, v = some (.inl x8) ∧ (pm_C pm_g (SH L) HR (d + 17 + 2) m_E_putFromWithout [.inr 16, .inl x8, .inl y] hi7 (fun v hi9 => ∃ x10 : Int32, v = some (.inl x10) ∧ (pm_C pm_g (SH L) HR (d + 17 + 2) m_E_putFromWithout [.inr 16, .inl x10, .inl z] hi9 (fun v hi11 => ∃ x12 : Int32, v = some (.inl x12) ∧ (∃ k13 : Nat, k13 < 8 ∧ a = nI k13 ∧ (pm_C pm_g (SH L) HR (d + 17 + 2) m_Folk_hears [.inr 50, .inr (50 + 2 + 2 * k13), .inr 139, .inl 0, .inl x12] hi11 (fun v hi14 => v = none ∧ (Q (some (.inl (hi14 (50 + 2 + 2 * k13) 4))) hi14))))))))) := by
      intro ox oy oz
      rw [if_pos ox, if_pos oy, if_pos oz] at h
      have lx := pw_len x
      have ly := pw_len y
      have lz := pw_len z
      refine putFrom_c (d := d + 17) (row := []) (Nat.zero_le _) Row.nil ox (fun hi1 f1 r1 => ⟨_, rfl, ?_⟩)
      rw [List.nil_append] at r1 ⊢
      refine putFrom_c (d := d + 17) (row := pw x) (by omega) r1 oy (fun hi2 f2 r2 => ⟨_, rfl, ?_⟩)
      refine putFrom_c (d := d + 17) (row := pw x ++ pw y) (by rw [List.length_append]; omega) r2 oz (fun hi3 f3 r3 => ⟨_, rfl, i, by omega, hx, ?_⟩)
      have f := (f1.tr f2).tr f3
      have hC3 : CI hi3 s := hC.same hW (fun q j _ hn => f q j (by omega))
      have hp := hC3.1.at hi8
      have wp := hW.1.at hi8
      have hlr : (pw x ++ pw y ++ pw z).length ≤ 3 := by rw [List.length_append, List.length_append]; omega
      refine hears_c (d := d + 14) (p := spa s.1 i) (row := pw x ++ pw y ++ pw z) (txs := txo s.1) fo50 (sk_of fo50 (by omega)) sh_l139 (by omega) (by omega) (by omega) hp wp.2.1 wp.2.2.1 (f := 0) (r3.to (fun k _ => by rw [Nat.zero_add])) (by omega) (hC3.1.law0 0 (by omega)) hC3.2.2.1 (fun hi4 f4 hp4 h5 => ⟨rfl, ?_⟩)
      rw [hp4.2.2.2.2.1]
      refine h hi4 (fun q j hn => ?_) (hC3.now hW (fun q j _ hn => f4 q j (fun hh => hn (by unfold PN; omega))) (hC3.1.sp5 h8 hi8 hp4 (by rw [h5, hC3.1.all.2.2.1]) (fun q j a b c d e => f4 q j (by omega))) rfl)
      unfold PE at hn
      rw [f4 q j (by omega), f q j (by omega)]
    exact gw b1 (fun c => gw (b2 c) (fun c' => gw (b3 c c') (fun c'' => tail c c' c'')))
def spG (w : Int32) (G : pm_B → Prop) (hi : pm_B) : Prop := ((w < 0) → G hi) ∧ ((¬ (w < 0)) → ∃ k : Nat, k < 12 ∧ (hi 141 5) = nI k ∧ (∀ hi' : pm_B, hi' = pm_u (pm_u hi 145 k w) 141 5 (((pm_u hi 145 k w) 141 5) + 1) → G hi'))
theorem msp {hi : pm_B} {w : Int32} {row : List Int32} {G : pm_B → Prop} (hR : MR hi row) (hl : row.length < 12) (h : ∀ hi', Fr PR hi hi' → MR hi' (row ++ pw w) → G hi') : spG w G hi := by
  refine ⟨fun c => ?_, fun c => ⟨row.length, hl, hR.1, fun hi' e => ?_⟩⟩
  · have e : pw w = [] := by unfold pw; rw [if_pos c]
    rw [e, List.append_nil] at h
    exact h hi Fr.rf hR
  · have ew : pw w = [w] := by unfold pw; rw [if_neg c]
    rw [ew] at h
    refine h hi' (fun q j hn => ?_) ⟨?_, ?_⟩
    · unfold PR at hn
      rw [e, pm_u_ne (by omega), pm_u_ne (by omega)]
    · rw [e, pm_u_at, pm_u_ne (Or.inl (by omega)), hR.1, nI_1, List.length_append]; rfl
    · rw [e]
      exact Row.to (f := pm_u hi 145 row.length w 145) (hR.2.u rfl) (fun k _ => pm_u_ne (Or.inl (by omega)))
theorem M_speaks {L d : Nat} {s : St} {a x y z : Int32} {hi : pm_B} {Q : pm_Q} (hW : WI s) (hM : MI hi s) (h : MP hi (o_speaks s a x y z) Q) : pm_C pm_g (SH L) HR (d + 20) m_M_speaks [.inr 141, .inl a, .inl x, .inl y, .inl z] hi Q := by
  have h8 := hW.1.1
  unfold o_speaks at h
  refine v_M_speaks (d := d + 17) (gM hM.1.n (by omega) (fun e => ?_) (fun i hi8 hx e => ?_))
  · rw [e] at h; exact h.same hM
  · rw [e] at h; dsimp only at h
    subst hx
    refine gwM (fun c => ?_) (fun ox => gwM (fun c => ?_) (fun oy => gwM (fun c => ?_) (fun oz => ?_)))
    · rw [if_neg c] at h; exact h.same hM
    · rw [if_pos ox, if_neg c] at h; exact h.same hM
    · rw [if_pos ox, if_pos oy, if_neg c] at h; exact h.same hM
    · rw [if_pos ox, if_pos oy, if_pos oz] at h
      have lx := pw_len x
      have ly := pw_len y
      have lz := pw_len z
      have hR0 : MR (pm_u hi 141 5 0) [] := ⟨pm_u_at, Row.nil⟩
      have f0 : Fr PR hi (pm_u hi 141 5 0) := Fr.u (Or.inl ⟨rfl, rfl⟩)
      have hlr : (pw x ++ pw y ++ pw z).length ≤ 3 := by rw [List.length_append, List.length_append]; omega
      have fin : ∀ hi', Fr PR hi hi' → MR hi' (pw x ++ pw y ++ pw z) → pm_C pm_g (SH L) HR (d + 17 + 2) m_M_hears [.inr 141, .inl (nI i)] hi' (fun v hi12 => v = none ∧ (∃ k13 : Nat, k13 < 1611 ∧ ((7 + (29 * nI i)) + 4) = nI k13 ∧ (Q (some (.inl (hi12 142 k13))) hi12))) := by
        intro hi' f hR
        have hM3 : MI hi' s := hM.same hW (fun q j _ hn => f q j (by unfold PR; omega))
        have wp := hW.1.at hi8
        refine mhears_c (d := d + 13) (by omega) (hM3.1.at hi8) wp.2.1 wp.2.2.1 hR (by omega) hM3.1.t6 hM3.2.2.1 hW.1.wx (fun hi4 f4 hp4 h5 => ⟨rfl, 7 + 29 * i + 4, by omega, ix i 4, ?_⟩)
        rw [hp4.2.2.2.2.1]
        refine h hi4 (fun q j hn => ?_) (hM3.now hW (fun q j _ hn => f4 q j (fun hh => hn (by unfold PH PW PK at hh; unfold PL; omega))) (hM3.1.sp5 hW.1.l24 h8 hi8 hp4 (by rw [h5, hM3.1.all.2.2.2.2]) (fun j a b c => f4 142 j (by unfold PH PW PK; omega))) rfl)
        unfold PQ at hn
        rw [f4 q j (by unfold PH PW PK; omega), f q j (by unfold PR; omega)]
      generalize pm_u hi 141 5 0 = hi0 at hR0 f0 ⊢
      have goal : spG x (spG y (spG z (fun hi' => pm_C pm_g (SH L) HR (d + 17 + 2) m_M_hears [.inr 141, .inl (nI i)] hi' (fun v hi12 => v = none ∧ (∃ k13 : Nat, k13 < 1611 ∧ ((7 + (29 * nI i)) + 4) = nI k13 ∧ (Q (some (.inl (hi12 142 k13))) hi12)))))) hi0 := by
        refine msp hR0 (by simp) (fun hi1 f1 r1 => msp r1 (by rw [List.nil_append]; omega) (fun hi2 f2 r2 => msp r2 (by rw [List.nil_append, List.length_append]; omega) (fun hi3 f3 r3 => ?_)))
        rw [List.nil_append] at r3
        exact fin hi3 (((f0.tr f1).tr f2).tr f3) r3
      exact goal
theorem W_speaks {s : St} {a x y z : Int32} (hW : WI s) : WI (o_speaks s a x y z).1 := by
  unfold o_speaks
  rcases ixo_cases a s.1.1.length with ⟨e, _⟩ | ⟨i, hi8, hx, e⟩
  · rw [e]; exact hW
  · rw [e]; dsimp only
    by_cases ox : okw x
    · by_cases oy : okw y
      · by_cases oz : okw z
        · rw [if_pos ox, if_pos oy, if_pos oz]
          refine now_WI hW (hW.1.heard hi8 (fun w hw => ?_)) rfl rfl
          rcases List.mem_append.mp hw with hw | hw
          · rcases List.mem_append.mp hw with hw | hw
            · exact pw_W ox w hw
            · exact pw_W oy w hw
          · exact pw_W oz w hw
        · rw [if_pos ox, if_pos oy, if_neg oz]; exact hW
      · rw [if_pos ox, if_neg oy]; exact hW
    · rw [if_neg ox]; exact hW
/-! deal, days, folk -/
def ixd (x : Int32) (m : Nat) : Option Nat := match ixo x (m + 1) with
  | none => none
  | some 0 => none
  | some (k + 1) => some (k + 1)
theorem ixd_cases (x : Int32) {m : Nat} (hm : m < 2 ^ 31) : (ixd x m = none ∧ ∀ k, 1 ≤ k → k ≤ m → x ≠ nI k) ∨ ∃ k, 1 ≤ k ∧ k ≤ m ∧ x = nI k ∧ ixd x m = some k := by
  unfold ixd
  rcases ixo_cases x (m + 1) with ⟨e, hne⟩ | ⟨i, hi, hx, e⟩
  · rw [e]; exact Or.inl ⟨rfl, fun k a b => hne k (by omega)⟩
  · rw [e]
    cases i with
    | zero =>
      refine Or.inl ⟨rfl, fun k a b hh => ?_⟩
      have : (0 : Nat) = k := (nI_eq (by omega) (by omega)).mp (hx ▸ hh)
      omega
    | succ k => exact Or.inr ⟨k + 1, by omega, by omega, hx, rfl⟩
theorem gD {x c : Int32} (m : Nat) {A B : Prop} (hc : c = nI m) (hm : m < 2 ^ 31) (ha : ixd x m = none → A) (hb : ∀ k, 1 ≤ k → k ≤ m → x = nI k → ixd x m = some k → B) : ((x < 1) → A) ∧ ((¬ (x < 1)) → ((c < x) → A) ∧ ((¬ (c < x)) → B)) := by
  subst hc
  rcases ixd_cases x hm with ⟨e, hne⟩ | ⟨k, h1, h2, hx, e⟩
  · refine ⟨fun _ => ha e, fun h0 => ⟨fun _ => ha e, fun c2 => ?_⟩⟩
    obtain ⟨j, hj, rfl⟩ := nI_of (x := x) (fun hh => h0 (Int32.lt_trans hh (by decide)))
    exact absurd rfl (hne j (Nat.le_of_not_lt (fun hh => h0 (nI_lt (b := 1) hh (by omega)))) (Nat.le_of_not_lt (fun hh => c2 (nI_lt hh hj))))
  · have hB := hb k h1 h2 hx e
    subst hx
    exact ⟨fun h => absurd h (nI_nlt (b := 1) h1 (by omega)), fun _ => ⟨fun h => absurd h (nI_nlt h2 (by omega)), fun _ => hB⟩⟩
theorem gDU {x c : Int32} (m : Nat) {A B : Prop} (hc : c = nI m) (hm : m < 2 ^ 31) (ha : ixd x m = none → A) (hb : ∀ k, 1 ≤ k → k ≤ m → x = nI k → ixd x m = some k → B) : ((x < 1) → A) ∧ ((¬ (x < 1)) → ((x ≤ c) → B) ∧ ((¬ (x ≤ c)) → A)) := by
  have := gD m hc hm ha hb
  exact ⟨this.1, fun h0 => ⟨fun h => (this.2 h0).2 (Int32.not_lt.mpr h), fun h => (this.2 h0).1 (Int32.not_le.mp h)⟩⟩
def o_deal (s : St) (n : Int32) : St × Int32 := match ixd n 8 with
  | none => (s, -1000000001)
  | some k => ((adeal (min k (8 - s.1.1.length)) s.1, s.2), nI (min k (8 - s.1.1.length)))
theorem E_deal {L d : Nat} {s : St} {n : Int32} {hi : pm_B} {Q : pm_Q} (hW : WI s) (hC : CI hi s) (h : EP hi (o_deal s n) Q) : pm_C pm_g (SH L) HR (d + 20) m_E_deal [.inr 16, .inl n] hi Q := by
  unfold o_deal at h
  refine v_E_deal (d := d + 18) (gDU 8 rfl (by omega) (fun e => ?_) (fun n hn1 hn8 hx e => ?_))
  · rw [e] at h; exact h.same hC
  · rw [e] at h; dsimp only at h
    subst hx
    have h8 := hW.1.1
    generalize hM : min n (8 - s.1.1.length) = M at h
    have key : ∀ m k hi', k + m = M → Fr (PF 50) hi hi' → CF hi' 50 (adeal k s.1) → pm_W pm_g (SH L) HR (d + 18 + 1) pm_t84 18 [some (.inr 16), some (.inl (nI n)), some (.inl (nI k)), some (.inl (nI k))] [] hi' Q := by
      intro m
      induction m with
      | zero =>
        intro k hi' hk hf hc
        rw [Nat.add_zero] at hk
        subst hk
        obtain ⟨wa, wt, _, wl⟩ := deal_all (n := k) hW.1 (by omega)
        have done : Q (some (.inl (nI k))) hi' := h.nowF hC hW hf hc wt
        refine v_E_deal_18 (d := d + 18) ⟨fun _ => done, fun c => ?_⟩
        rw [hc.n, wl]
        have c : ¬ n ≤ k := fun hh => c (nI_le hh (by omega))
        exact ⟨fun c => absurd c (nI_pos (by omega)), fun _ => ⟨fun _ => done, fun c' => absurd (nI_le (a := 8) (by omega) (by omega)) c'⟩⟩
      | succ m ih =>
        intro k hi' hk hf hc
        obtain ⟨wa, wt, _, wl⟩ := deal_all (n := k) hW.1 (by omega)
        refine v_E_deal_18 (d := d + 18) ⟨fun c => absurd c (nI_ge (by omega) (by omega)), fun _ => ?_⟩
        rw [hc.n, wl]
        refine ⟨fun c => absurd c (nI_pos (by omega)), fun _ => ⟨fun c => absurd c (nI_ge (b := 8) (by omega) (by omega)), fun _ => ?_⟩⟩
        refine enterByLot_c (d := d + 16) fo50 wa.1 hc (fun hi2 f2 c2 => ⟨rfl, ?_⟩)
        rw [nI_1]
        rw [← adeal_snoc] at c2
        exact ih (k + 1) hi2 (by omega) (hf.tr f2) c2
    exact key M 0 hi (by omega) Fr.rf hC.1
theorem mlot_c {L d : Nat} {f : AF} {hi : pm_B} {G : Int32 → Int32 → Int32 → pm_B → Prop} (hwa : WA f) (h8 : f.1.length < 8) (hc : MF (hi 142) f) (h : ∀ x y n hi', Fr PL hi hi' → MF (hi' 142) (alot f) → G x y n hi') :
    pm_C pm_g (SH L) HR (d + 1) m_M_draw [.inr 141] hi (fun v hi3 => ∃ x4 : Int32, v = some (.inl x4) ∧ (pm_C pm_g (SH L) HR (d + 1) m_M_draw [.inr 141] hi3 (fun v hi5 => ∃ x6 : Int32, v = some (.inl x6) ∧ (pm_C pm_g (SH L) HR (d + 1) m_M_draw [.inr 141] hi5 (fun v hi7 => ∃ x8 : Int32, v = some (.inl x8) ∧ (∃ k9 : Nat, k9 < 1611 ∧ ((7 + (29 * (hi7 142 1))) + 0) = nI k9 ∧ (∀ hi10 : pm_B, hi10 = pm_u (pm_u hi7 142 1 ((hi7 142 1) + 1)) 142 k9 (x4 - x4 / 6 * 6) → (∃ k11 : Nat, k11 < 1611 ∧ ((7 + (29 * (hi7 142 1))) + 1) = nI k11 ∧ (∀ hi12 : pm_B, hi12 = pm_u hi10 142 k11 (1 + (x6 - x6 / 9 * 9)) → (∃ k13 : Nat, k13 < 1611 ∧ ((7 + (29 * (hi7 142 1))) + 2) = nI k13 ∧ (∀ hi14 : pm_B, hi14 = pm_u hi12 142 k13 (x8 - x8 / 100 * 100) → (∃ k15 : Nat, k15 < 1611 ∧ ((7 + (29 * (hi7 142 1))) + 3) = nI k15 ∧ (∀ hi16 : pm_B, hi16 = pm_u hi14 142 k15 0 → (∃ k17 : Nat, k17 < 1611 ∧ ((7 + (29 * (hi7 142 1))) + 4) = nI k17 ∧ (∀ hi18 : pm_B, hi18 = pm_u hi16 142 k17 0 → G (x4 - x4 / 6 * 6) (1 + (x6 - x6 / 9 * 9)) (hi7 142 1) hi18))))))))))))))) := by
  obtain ⟨sps, talk, spoken, lost, day, z, txs⟩ := f
  have hl24 := hwa.l24
  dsimp only at h8 hl24
  have d0 := (dr_eq z).2
  have d1 := (dr_eq (zn z)).2
  have d2 := (dr_eq (zn (zn z))).2
  refine mdraw_c (d := d) hc.1 ⟨_, rfl, ?_⟩
  have m1 : MF (pm_u hi 142 0 (zn z) 142) (sps, talk, spoken, lost, day, zn z, txs) := hc.z pm_u_at (fun j' hj' => pm_u_ne (Or.inr hj'))
  refine mdraw_c (d := d) m1.1 ⟨_, rfl, ?_⟩
  have m2 : MF (pm_u (pm_u hi 142 0 (zn z)) 142 0 (zn (zn z)) 142) (sps, talk, spoken, lost, day, zn (zn z), txs) := m1.z pm_u_at (fun j' hj' => pm_u_ne (Or.inr hj'))
  refine mdraw_c (d := d) m2.1 ⟨_, rfl, ?_⟩
  have m3 : MF (pm_u (pm_u (pm_u hi 142 0 (zn z)) 142 0 (zn (zn z))) 142 0 (zn (zn (zn z))) 142) (sps, talk, spoken, lost, day, zn (zn (zn z)), txs) := m2.z pm_u_at (fun j' hj' => pm_u_ne (Or.inr hj'))
  have f3 : Fr PL hi (pm_u (pm_u (pm_u hi 142 0 (zn z)) 142 0 (zn (zn z))) 142 0 (zn (zn (zn z)))) := ((PL.u (by omega)).tr (PL.u (by omega))).tr (PL.u (by omega))
  clear m1 m2
  generalize pm_u (pm_u (pm_u hi 142 0 (zn z)) 142 0 (zn (zn z))) 142 0 (zn (zn (zn z))) = hi3 at m3 f3 ⊢
  rw [m3.2.1]
  have ea : alot (sps, talk, spoken, lost, day, z, txs) = aenter (sps, talk, spoken, lost, day, zn (zn (zn z)), txs) (nI (drN z % 6)) (1 + nI (drN (zn z) % 9)) (nI (drN (zn (zn z)) % 100)) := rfl
  rw [ea] at h
  rw [show (6 : Int32) = nI 6 from rfl, show (9 : Int32) = nI 9 from rfl, show (100 : Int32) = nI 100 from rfl, pk_rem (by omega) (by omega) (by omega), pk_rem (by omega) (by omega) (by omega), pk_rem (by omega) (by omega) (by omega)]
  clear ea d0 d1 d2 hc hwa
  generalize drN z % 6 = x0 at h ⊢
  generalize drN (zn z) % 9 = x1 at h ⊢
  generalize drN (zn (zn z)) % 100 = x2 at h ⊢
  generalize zn (zn (zn z)) = z3 at h m3 ⊢
  refine ⟨7 + 29 * sps.length + 0, by omega, ix _ 0, fun hi9 e9 => ⟨7 + 29 * sps.length + 1, by omega, ix _ 1, fun hi11 e11 => ⟨7 + 29 * sps.length + 2, by omega, ix _ 2, fun hi13 e13 => ⟨7 + 29 * sps.length + 3, by omega, ix _ 3, fun hi15 e15 => ⟨7 + 29 * sps.length + 4, by omega, ix _ 4, fun hi17 e17 => ?_⟩⟩⟩⟩⟩
  refine h _ _ _ hi17 (f3.tr ?_) (MF.enter (f := (sps, talk, spoken, lost, day, z3, txs)) m3 hl24 h8 ?_ ?_ ?_ ?_ ?_ ?_ (fun j' a b c' => ?_))
  · rw [e17, e15, e13, e11, e9]
    exact ((((((PL.u (by omega)).tr (PL.u (by omega))).tr (PL.u (by omega))).tr (PL.u (by omega))).tr (PL.u (by omega))).tr (PL.u (by omega)))
  · dsimp only
    rw [e17, pm_u_ne (Or.inr (by omega)), e15, pm_u_ne (Or.inr (by omega)), e13, pm_u_ne (Or.inr (by omega)), e11, pm_u_ne (Or.inr (by omega)), e9, pm_u_ne (Or.inr (by omega)), pm_u_at, nI_1]
  · dsimp only
    rw [e17, pm_u_ne (Or.inr (by omega)), e15, pm_u_ne (Or.inr (by omega)), e13, pm_u_ne (Or.inr (by omega)), e11, pm_u_ne (Or.inr (by omega)), e9, pm_u_at]
  · dsimp only
    rw [e17, pm_u_ne (Or.inr (by omega)), e15, pm_u_ne (Or.inr (by omega)), e13, pm_u_ne (Or.inr (by omega)), e11, pm_u_at]
  · dsimp only
    rw [e17, pm_u_ne (Or.inr (by omega)), e15, pm_u_ne (Or.inr (by omega)), e13, pm_u_at]
  · dsimp only
    rw [e17, pm_u_ne (Or.inr (by omega)), e15, pm_u_at]
  · dsimp only
    rw [e17, pm_u_at]
  · dsimp only at c'
    rw [e17, pm_u_ne (Or.inr (by omega)), e15, pm_u_ne (Or.inr (by omega)), e13, pm_u_ne (Or.inr (by omega)), e11, pm_u_ne (Or.inr (by omega)), e9, pm_u_ne (Or.inr (by omega)), pm_u_ne (Or.inr (by omega))]
theorem M_deal {L d : Nat} {s : St} {n : Int32} {hi : pm_B} {Q : pm_Q} (hW : WI s) (hM : MI hi s) (h : MP hi (o_deal s n) Q) : pm_C pm_g (SH L) HR (d + 20) m_M_deal [.inr 141, .inl n] hi Q := by
  unfold o_deal at h
  refine v_M_deal (d := d + 17) (gD 8 rfl (by omega) (fun e => ?_) (fun n hn1 hn8 hx e => ?_))
  · rw [e] at h; exact h.same hM
  · rw [e] at h; dsimp only at h
    subst hx
    have h8 := hW.1.1
    generalize hMM : min n (8 - s.1.1.length) = M at h
    have key : ∀ m k hi' o3 o4 o5, k + m = M → Fr PL hi hi' → MF (hi' 142) (adeal k s.1) → pm_W pm_g (SH L) HR (d + 17 + 2) pm_t168 15 [some (.inr 141), some (.inl (nI n)), some (.inl (nI k)), o3, o4, o5] [] hi' Q := by
      intro m
      induction m with
      | zero =>
        intro k hi' o3 o4 o5 hk hf hc
        rw [Nat.add_zero] at hk
        subst hk
        obtain ⟨wa, wt, _, wl⟩ := deal_all (n := k) hW.1 (by omega)
        have done : Q (some (.inl (nI k))) hi' := h.nowF hM hW hf hc wt
        refine v_M_deal_15 (d := d + 17) ⟨fun _ => done, fun c => ?_⟩
        rw [hc.n, wl]
        have c : ¬ n ≤ k := fun hh => c (nI_le hh (by omega))
        exact ⟨fun _ => done, fun c' => absurd (nI_le (a := 8) (by omega) (by omega)) c'⟩
      | succ m ih =>
        intro k hi' o3 o4 o5 hk hf hc
        obtain ⟨wa, wt, _, wl⟩ := deal_all (n := k) hW.1 (by omega)
        refine v_M_deal_15 (d := d + 17) ⟨fun c => absurd c (nI_ge (by omega) (by omega)), fun _ => ⟨fun c => absurd c ?_, fun _ => ?_⟩⟩
        · rw [hc.n, wl]; exact nI_ge (b := 8) (by omega) (by omega)
        · refine mlot_c (d := d + 18) (G := fun x y n' hi2 => pm_W pm_g (SH L) HR (d + 17 + 2) pm_t168 15 [some (.inr 141), some (.inl (nI n)), some (.inl (nI k + 1)), some (.inl x), some (.inl y), some (.inl n')] [] hi2 Q) (f := adeal k s.1) wa (by omega) hc (fun x y n' hi2 f2 c2 => ?_)
          rw [nI_1]
          rw [← adeal_snoc] at c2
          exact ih (k + 1) hi2 _ _ _ (by omega) (hf.tr f2) c2
    exact key M 0 hi _ _ _ (by omega) Fr.rf hM.1
theorem W_deal {s : St} {n : Int32} (hW : WI s) : WI (o_deal s n).1 := by
  unfold o_deal
  cases ixd n 8 with
  | none => exact hW
  | some k =>
    have h8 := hW.1.1
    obtain ⟨a, b, c, _⟩ := deal_all (n := min k (8 - s.1.1.length)) hW.1 (by omega)
    exact now_WI hW a c b
/-! days -/
def dyN (f : AF) : Nat := f.2.2.2.2.1.toNatClampNeg
theorem WD.n {f : AF} (h : WD f) : f.2.2.2.2.1 = nI (dyN f) ∧ dyN f ≤ 9999 := by
  obtain ⟨n, hn, e⟩ := h
  unfold dyN
  rw [e, nI_clamp (by omega)]
  exact ⟨rfl, hn⟩
def o_days (s : St) (n : Int32) : St × Int32 := match ixd n 100 with
  | none => (s, -1000000001)
  | some k => ((adays (min k (9999 - dyN s.1)) s.1, s.2), (adays (min k (9999 - dyN s.1)) s.1).2.2.1 - s.1.2.2.1)
theorem E_days {L d : Nat} {s : St} {n : Int32} {hi : pm_B} {Q : pm_Q} (hW : WI s) (hC : CI hi s) (h : EP hi (o_days s n) Q) : pm_C pm_g (SH L) HR (d + 20) m_E_days [.inr 16, .inl n] hi Q := by
  unfold o_days at h
  refine v_E_days (d := d + 18) (gD 100 rfl (by omega) (fun e => ?_) (fun n hn1 hn8 hx e => ?_))
  · rw [e] at h; exact h.same hC
  · rw [e] at h; dsimp only at h
    subst hx
    obtain ⟨hd, hd9⟩ := hW.2.1.n
    rw [hC.1.all.2.1]
    generalize hM : min n (9999 - dyN s.1) = M at h
    have key : ∀ m k hi', k + m = M → Fr (PF 50) hi hi' → CF hi' 50 (adays k s.1) → pm_W pm_g (SH L) HR (d + 18 + 1) pm_t86 23 [some (.inr 16), some (.inl (nI n)), some (.inl s.1.2.2.1), some (.inl (nI k))] [] hi' Q := by
      intro m
      induction m with
      | zero =>
        intro k hi' hk hf hc
        rw [Nat.add_zero] at hk
        subst hk
        have done : Q (some (.inl (hi' 50 4 - s.1.2.2.1))) hi' := by
          rw [hc.all.2.1]
          exact h.nowF hC hW hf hc (days_all hW.1).2.1
        refine v_E_days_23 (d := d + 18) ⟨fun _ => done, fun c => ⟨fun _ => done, fun c' => absurd ?_ c'⟩⟩
        rw [hc.all.2.2.2.1, days_day hW.1 hd]
        have c : ¬ n ≤ k := fun hh => c (nI_le hh (by omega))
        exact nI_le (a := 9999) (by omega) (by omega)
      | succ m ih =>
        intro k hi' hk hf hc
        refine v_E_days_23 (d := d + 18) ⟨fun c => absurd c (nI_ge (by omega) (by omega)), fun _ => ⟨fun c => absurd c ?_, fun _ => ?_⟩⟩
        · rw [hc.all.2.2.2.1, days_day hW.1 hd]
          exact nI_ge (b := 9999) (by omega) (by omega)
        · obtain ⟨wa, wt, _⟩ := days_all (n := k) hW.1
          have hX : CX hi' (txo (adays k s.1)) := by rw [wt]; exact hC.2.2.1.keep fo50 hf
          refine passDay_c (d := d + 12) fo50 wa.wf hc hX (fun hi2 f2 c2 => ⟨rfl, ?_⟩)
          rw [nI_1]
          rw [← adays_snoc] at c2
          exact ih (k + 1) hi2 (by omega) (hf.tr f2) c2
    exact key M 0 hi (by omega) Fr.rf hC.1
theorem mgoesOn_c {L d n : Nat} {f : AF} {hi : pm_B} {Q : pm_Q} (hn : n < 2 ^ 30) (hW : WA f) (hM : MF (hi 142) f) (hX : MX (hi 142) (txo f)) (h : ∀ hi', Fr PT hi hi' → MF (hi' 142) (adays n f) → Q none hi') : pm_C pm_g (SH L) HR (d + 11) m_M_goesOn [.inr 141, .inl (nI n)] hi Q := by
  refine v_M_goesOn (d := d + 10) ?_
  have key : ∀ m k hi', k + m = n → Fr PT hi hi' → MF (hi' 142) (adays k f) → pm_W pm_g (SH L) HR (d + 10) pm_t172 2 [some (.inr 141), some (.inl (nI n)), some (.inl (nI k))] [] hi' Q := by
    intro m
    induction m with
    | zero =>
      intro k hi' hk hf hc
      rw [Nat.add_zero] at hk
      subst hk
      exact v_M_goesOn_2 ⟨fun _ => h hi' hf hc, fun c => absurd (nI_le (Nat.le_refl _) (by omega)) c⟩
    | succ m ih =>
      intro k hi' hk hf hc
      refine v_M_goesOn_2 ⟨fun c => absurd c (nI_ge (by omega) (by omega)), fun _ => ?_⟩
      obtain ⟨wa, wt, _⟩ := days_all (n := k) hW
      have hX' : MX (hi' 142) (txo (adays k f)) := by rw [wt]; exact hX.kept (fun j hj => hf 142 j (by unfold PT; omega))
      refine mday_c (d := d) wa.wf wa.wv hc hX' wa.wx (fun hi2 f2 c2 => ⟨rfl, ?_⟩)
      rw [nI_1]
      rw [← adays_snoc] at c2
      exact ih (k + 1) hi2 (by omega) (hf.tr f2) c2
  exact key n 0 hi (by omega) Fr.rf hM
theorem M_days {L d : Nat} {s : St} {n : Int32} {hi : pm_B} {Q : pm_Q} (hW : WI s) (hM : MI hi s) (h : MP hi (o_days s n) Q) : pm_C pm_g (SH L) HR (d + 20) m_M_days [.inr 141, .inl n] hi Q := by
  unfold o_days at h
  refine v_M_days (d := d + 18) (gD 100 rfl (by omega) (fun e => ?_) (fun n hn1 hn8 hx e => ?_))
  · rw [e] at h; exact h.same hM
  · rw [e] at h; dsimp only at h
    subst hx
    obtain ⟨hd, hd9⟩ := hW.2.1.n
    rw [hM.1.all.2.1, hd, show (9999 : Int32) = nI 9999 from rfl, nI_sub hd9, within_min (by omega) (by omega), Nat.min_comm]
    refine mgoesOn_c (d := d + 8) (by omega) hW.1 hM.1 hM.2.2.1 (fun hi' hf hc => ⟨rfl, ?_⟩)
    rw [hc.all.2.2.2.1, hM.1.all.2.2.2.1]
    exact h.nowF hM hW (PT.pl hf) hc (days_all hW.1).2.1
theorem W_days {s : St} {n : Int32} (hW : WI s) : WI (o_days s n).1 := by
  unfold o_days
  cases ixd n 100 with
  | none => exact hW
  | some k =>
    obtain ⟨hd, hd9⟩ := hW.2.1.n
    obtain ⟨a, b, c⟩ := days_all (n := min k (9999 - dyN s.1)) hW.1
    obtain ⟨a1, a2, a3, a4, a5, a6⟩ := hW
    refine ⟨a, ⟨dyN s.1 + min k (9999 - dyN s.1), by omega, days_day a1 hd⟩, a3, a4, ?_, a6⟩
    show (txo s.2.1).length ≤ (txo (adays (min k (9999 - dyN s.1)) s.1)).length
    rw [b]; exact a5
/-! folk -/
theorem mwordsAll_c {L d : Nat} {f : AF} {hi : pm_B} {Q : pm_Q} (hW : WA f) (hM : MF (hi 142) f) (h : Q (some (.inl (awords f.1))) hi) : pm_C pm_g (SH L) HR (d + 2) m_M_wordsOfAll [.inr 141] hi Q := by
  have h8 := hW.1
  refine v_M_wordsOfAll (d := d) ?_
  have key : ∀ n k, k + n = f.1.length → pm_W pm_g (SH L) HR (d + 1) pm_t174 4 [some (.inr 141), some (.inl (awords (f.1.take k))), some (.inl (nI k))] [] hi Q := by
    intro n
    induction n with
    | zero =>
      intro k hk
      refine v_M_wordsOfAll_4 ?_
      rw [hM.n, List.take_of_length_le (by omega)]
      exact ⟨fun _ => h, fun hc => absurd (nI_le (by omega) (by omega)) hc⟩
    | succ n ih =>
      intro k hk
      refine v_M_wordsOfAll_4 ?_
      rw [hM.n]
      have hk' : k < f.1.length := by omega
      refine ⟨fun hc => absurd hc (nI_ge (by omega) (by omega)), fun _ => ⟨7 + 29 * k + 4, by omega, ix k 4, ?_⟩⟩
      have := ih (k + 1) (by omega)
      rw [awords, foldl_take _ _ (spa_at hk')] at this
      rw [nI_1, (hM.at hk').2.2.2.2.1]
      exact this
  exact key _ 0 (Nat.zero_add _)
theorem mknown_c {L d : Nat} {f : AF} {hi : pm_B} {Q : pm_Q} (hW : WA f) (hM : MF (hi 142) f) (h : Q (some (.inl (aany f.1))) hi) : pm_C pm_g (SH L) HR (d + 3) m_M_known [.inr 141] hi Q := by
  have h8 := hW.1
  refine v_M_known (d := d + 2) ?_
  have key : ∀ n k, k + n = f.1.length → pm_W pm_g (SH L) HR (d + 2) pm_t175 4 [some (.inr 141), some (.inl (aany (f.1.take k))), some (.inl (nI k))] [] hi Q := by
    intro n
    induction n with
    | zero =>
      intro k hk
      refine v_M_known_4 ?_
      rw [hM.n, List.take_of_length_le (by omega)]
      exact ⟨fun _ => h, fun hc => absurd (nI_le (by omega) (by omega)) hc⟩
    | succ n ih =>
      intro k hk
      refine v_M_known_4 ?_
      rw [hM.n]
      have hk' : k < f.1.length := by omega
      have hl := hW.l24 _ (List.mem_of_getElem? (spa_at hk'))
      refine ⟨fun hc => absurd hc (nI_ge (by omega) (by omega)), fun _ => mwordsOf_c (d := d) (by omega) (hM.at hk') hl ⟨_, rfl, ?_⟩⟩
      have := ih (k + 1) (by omega)
      rw [aany, foldl_take _ _ (spa_at hk')] at this
      rw [nI_1]
      exact this
  exact key _ 0 (Nat.zero_add _)
theorem mknownAll_c {L d : Nat} {f : AF} {hi : pm_B} {Q : pm_Q} (hW : WA f) (hM : MF (hi 142) f) (h : Q (some (.inl (aall f.1))) hi) : pm_C pm_g (SH L) HR (d + 3) m_M_knownToAll [.inr 141] hi Q := by
  have h8 := hW.1
  refine v_M_knownToAll (d := d + 2) ?_
  unfold aall at h
  have key : ∀ y n k, k + n = f.1.length → Q (some (.inl (f.1.foldl (fun a p => a &&& setOf p.2.2.2.2) y))) hi → pm_W pm_g (SH L) HR (d + 2) pm_t176 18 [some (.inr 141), some (.inl ((f.1.take k).foldl (fun a p => a &&& setOf p.2.2.2.2) y)), some (.inl (nI k))] [] hi Q := by
    intro y n
    induction n with
    | zero =>
      intro k hk h
      refine v_M_knownToAll_18 ?_
      rw [hM.n, List.take_of_length_le (by omega)]
      exact ⟨fun _ => h, fun hc => absurd (nI_le (by omega) (by omega)) hc⟩
    | succ n ih =>
      intro k hk h
      refine v_M_knownToAll_18 ?_
      rw [hM.n]
      have hk' : k < f.1.length := by omega
      have hl := hW.l24 _ (List.mem_of_getElem? (spa_at hk'))
      refine ⟨fun hc => absurd hc (nI_ge (by omega) (by omega)), fun _ => mwordsOf_c (d := d) (by omega) (hM.at hk') hl ⟨_, rfl, ?_⟩⟩
      have := ih (k + 1) (by omega) h
      rw [foldl_take _ _ (spa_at hk')] at this
      rw [nI_1]
      exact this
  rw [hM.n]
  refine ⟨fun c => ?_, fun c => ?_⟩
  · have h0 : ¬ f.1.length = 0 := fun hh => c (by rw [hh]; rfl)
    rw [if_neg h0] at h
    exact key 1048575 _ 0 (Nat.zero_add _) h
  · have h0 : f.1.length = 0 := Nat.eq_zero_of_not_pos (fun hh => c (nI_ne0 hh (by omega)))
    rw [if_pos h0] at h
    refine key 0 _ 0 (Nat.zero_add _) ?_
    rw [List.eq_nil_of_length_eq_zero h0]
    exact h
def o_folk (s : St) (w : Int32) : St × Int32 := (s, if w = 0 then s.1.2.2.1 else if w = 1 then s.1.2.2.2.1 else if w = 2 then awords s.1.1 else if w = 3 then aany s.1.1 else if w = 4 then aall s.1.1 else -1000000001)
theorem E_folk {L d : Nat} {s : St} {w : Int32} {hi : pm_B} {Q : pm_Q} (hW : WI s) (hC : CI hi s) (h : EP hi (o_folk s w) Q) : pm_C pm_g (SH L) HR (d + 20) m_E_folk [.inr 16, .inl w] hi Q := by
  unfold o_folk at h
  have h := h.same hC
  refine v_E_folk (d := d + 19) ⟨fun c => ?_, fun c0 => ⟨fun c => ?_, fun c1 => ⟨fun c => ?_, fun c2 => ⟨fun c => ?_, fun c3 => ⟨fun c => ?_, fun c4 => ?_⟩⟩⟩⟩⟩
  · rw [c] at h; rw [hC.1.all.2.1]; exact h
  · rw [c] at h; rw [hC.1.all.2.2.1]; exact h
  · rw [c] at h; exact wordsTogether_c (d := d + 18) fo50 hW.1.wf hC.1 ⟨_, rfl, h⟩
  · rw [c] at h; exact wordsOfSomebody_c (d := d + 17) fo50 hW.1.wf hC.1 ⟨_, rfl, h⟩
  · rw [c] at h; exact wordsOfAll_c (d := d + 17) fo50 hW.1.wf hC.1 ⟨_, rfl, h⟩
  · rw [if_neg c0, if_neg c1, if_neg c2, if_neg c3, if_neg c4] at h; exact h
theorem M_folk {L d : Nat} {s : St} {w : Int32} {hi : pm_B} {Q : pm_Q} (hW : WI s) (hM : MI hi s) (h : MP hi (o_folk s w) Q) : pm_C pm_g (SH L) HR (d + 20) m_M_folk [.inr 141, .inl w] hi Q := by
  unfold o_folk at h
  have h := h.same hM
  refine v_M_folk (d := d + 19) ⟨fun c => ?_, fun c0 => ⟨fun c => ?_, fun c1 => ⟨fun c => ?_, fun c2 => ⟨fun c => ?_, fun c3 => ⟨fun c => ?_, fun c4 => ?_⟩⟩⟩⟩⟩
  · rw [c] at h ⊢; exact ⟨4, by omega, rfl, by rw [hM.1.all.2.2.2.1]; exact h⟩
  · rw [c] at h ⊢; exact ⟨5, by omega, rfl, by rw [hM.1.all.2.2.2.2]; exact h⟩
  · rw [c] at h; exact mwordsAll_c (d := d + 17) hW.1 hM.1 ⟨_, rfl, h⟩
  · rw [c] at h; exact mknown_c (d := d + 16) hW.1 hM.1 ⟨_, rfl, h⟩
  · rw [c] at h; exact mknownAll_c (d := d + 16) hW.1 hM.1 ⟨_, rfl, h⟩
  · rw [if_neg c0, if_neg c1, if_neg c2, if_neg c3, if_neg c4] at h; exact h
theorem W_folk {s : St} {w : Int32} (hW : WI s) : WI (o_folk s w).1 := hW
