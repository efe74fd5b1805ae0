/-! ===== the model's laws ===== -/
/-- a code of the class, as the model writes it -/
def enc (c : Int32) : Int32 := if ¬ c < 0 then c else if c = -1 then 10000 else if c = -2 then 10001 else if c = -3 then 10002 else if c = -124 then -1 else if c = -38 then -2 else if c = -60 then -3 else if c = -61 then -4 else if c = -62 then -5 else if c = -43 then -6 else if c = -45 then -7 else if c = -42 then -8 else if c = -47 then -9 else -10
def MT (r : Nat → Int32) (i : Nat) (t : AT) : Prop := ∃ K, K < 3 ∧ t.1 = nI K ∧ t.2.2.length ≤ 96 ∧ r (239 + 2 * i) = nI (1000 * K + t.2.2.length) ∧ r (240 + 2 * i) = t.2.1 ∧ Row (fun k => r (267 + 96 * i + k)) (t.2.2.map enc)
def MX (r : Nat → Int32) (txs : List AT) : Prop := txs.length ≤ 14 ∧ ∀ i t, txs[i]? = some t → MT r i t
theorem ixt (i : Nat) : (239 + 2 * nI i : Int32) = nI (239 + 2 * i) := by
  show nI 239 + nI 2 * nI i = _
  rw [pk_mul, nI_add]
theorem ixc (i k : Nat) : (267 + 96 * nI i : Int32) + nI k = nI (267 + 96 * i + k) := by
  show nI 267 + nI 96 * nI i + nI k = _
  rw [pk_mul, nI_add, nI_add]
theorem MT.key {r : Nat → Int32} {i : Nat} {t : AT} (h : MT r i t) : r (239 + 2 * i) / 1000 = t.1 := by
  obtain ⟨K, hK, e1, hl, e2, _⟩ := h
  rw [e2, e1, show (1000 : Int32) = nI 1000 from rfl, pk_div (by omega) (by omega) (by omega)]
  congr 1
  omega
theorem MT.len {r : Nat → Int32} {i : Nat} {t : AT} (h : MT r i t) : r (239 + 2 * i) - r (239 + 2 * i) / 1000 * 1000 = nI t.2.2.length := by
  obtain ⟨K, hK, e1, hl, e2, _⟩ := h
  rw [e2, show (1000 : Int32) = nI 1000 from rfl, pk_rem (by omega) (by omega) (by omega)]
  congr 1
  omega
/-- the text that counts, as the model tells it -/
def lim (o : Option Nat) : Int32 := match o with
  | none => -1
  | some i => nI i
theorem mcounts_c {L d : Nat} {key : Int32} {txs : List AT} {hi : pm_B} {Q : pm_Q} (hn : hi 142 6 = nI txs.length) (hX : MX (hi 142) txs) (h : Q (some (.inl (lim (lk txs key)))) hi) : pm_C pm_g (SH L) HR (d + 1) m_M_counts [.inr 141, .inl key] hi Q := by
  refine v_M_counts ?_
  have hl := hX.1
  rw [hn, show nI txs.length - 1 = nI txs.length + (-1) from Int32.sub_eq_add_neg _ _]
  have key' : ∀ n, n ≤ txs.length → lkn txs key n = lk txs key → pm_W pm_g (SH L) HR d pm_t211 10 [some (.inr 141), some (.inl key), some (.inl (nI n + (-1)))] [] hi Q := by
    intro n
    induction n with
    | zero =>
      intro _ he
      refine v_M_counts_10 ⟨fun _ => ?_, fun hc => absurd (by decide) hc⟩
      rw [← he] at h
      exact h
    | succ n ih =>
      intro hle he
      obtain ⟨t, ht⟩ : ∃ t, txs[n]? = some t := ⟨_, List.getElem?_eq_getElem (by omega)⟩
      have hT := hX.2 n t ht
      rw [lkn, List.getD_eq_getElem?_getD, ht, Option.getD_some] at he
      rw [pk_m1]
      refine v_M_counts_10 ⟨fun hc => absurd hc (nI_pos (by omega)), fun _ => ⟨239 + 2 * n, by omega, ixt n, ?_⟩⟩
      rw [hT.key]
      refine ⟨fun hc => ?_, fun hc => ?_⟩
      · rw [if_neg hc] at he
        exact ih (by omega) he
      · rw [if_pos (Decidable.not_not.mp hc)] at he
        rw [← he] at h
        exact h
  exact key' _ (Nat.le_refl _) rfl
/-- a code that a text may hold -/
def okc (c : Int32) : Prop := (¬ c < 0 ∧ ¬ 10000 ≤ c) ∨ c = -1 ∨ c = -2 ∨ c = -3 ∨ c = -124 ∨ c = -38 ∨ c = -60 ∨ c = -61 ∨ c = -62 ∨ c = -43 ∨ c = -45 ∨ c = -42 ∨ c = -47 ∨ c = -33
theorem okc_cases {c : Int32} (h : okc c) : (c < (-3) ∧ enc c < 0 ∧ (c = (-33) ↔ enc c = (-10)) ∧ (¬ c = (-33) → ∀ a b, f_M_two (enc c) a b = f_Laws_joined (-c) a b)) ∨ (¬ c < (-3) ∧ ¬ enc c < 0 ∧ ((∃ j : Nat, j < 3 ∧ 10000 ≤ enc c ∧ enc c - 10000 = nI j ∧ ∀ f1 f2 f3, f_Laws_leafOf c f1 f2 f3 = if j = 0 then f1 else if j = 1 then f2 else f3) ∨ (¬ 10000 ≤ enc c ∧ enc c = c ∧ ∀ f1 f2 f3, f_Laws_leafOf c f1 f2 f3 = c))) := by
  rcases h with ⟨h0, h1⟩ | rfl | rfl | rfl | rfl | rfl | rfl | rfl | rfl | rfl | rfl | rfl | rfl | rfl
  · right
    have e : enc c = c := by unfold enc; rw [if_pos h0]
    have n1 : ¬ c = (-1) := fun hh => h0 (by rw [hh]; decide)
    have n2 : ¬ c = (-2) := fun hh => h0 (by rw [hh]; decide)
    have n3 : ¬ c = (-3) := fun hh => h0 (by rw [hh]; decide)
    obtain ⟨j, hj, rfl⟩ := nI_of h0
    refine ⟨fun hh => h0 (Int32.lt_trans hh (by decide)), by rw [e]; exact h0, Or.inr ⟨by rw [e]; exact h1, e, fun f1 f2 f3 => ?_⟩⟩
    unfold f_Laws_leafOf
    rw [if_neg n3, if_neg n2, if_neg n1]
  · exact Or.inr ⟨by decide, by decide, Or.inl ⟨0, by omega, by decide, by decide, fun _ _ _ => rfl⟩⟩
  · exact Or.inr ⟨by decide, by decide, Or.inl ⟨1, by omega, by decide, by decide, fun _ _ _ => rfl⟩⟩
  · exact Or.inr ⟨by decide, by decide, Or.inl ⟨2, by omega, by decide, by decide, fun _ _ _ => rfl⟩⟩
  · exact Or.inl ⟨by decide, by decide, by decide, fun _ _ _ => rfl⟩
  · exact Or.inl ⟨by decide, by decide, by decide, fun _ _ _ => rfl⟩
  · exact Or.inl ⟨by decide, by decide, by decide, fun _ _ _ => rfl⟩
  · exact Or.inl ⟨by decide, by decide, by decide, fun _ _ _ => rfl⟩
  · exact Or.inl ⟨by decide, by decide, by decide, fun _ _ _ => rfl⟩
  · exact Or.inl ⟨by decide, by decide, by decide, fun _ _ _ => rfl⟩
  · exact Or.inl ⟨by decide, by decide, by decide, fun _ _ _ => rfl⟩
  · exact Or.inl ⟨by decide, by decide, by decide, fun _ _ _ => rfl⟩
  · exact Or.inl ⟨by decide, by decide, by decide, fun _ _ _ => rfl⟩
  · exact Or.inl ⟨by decide, by decide, by decide, fun hh => absurd rfl hh⟩
