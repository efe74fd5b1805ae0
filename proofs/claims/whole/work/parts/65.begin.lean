/-! ===== the start ===== -/
theorem HI_ne {xs : Nat → Int32} {q j : Nat} (h : q ≠ 1) : HI xs q j = HI (fun _ => 0) q j := by
  unfold HI pm_ov
  rw [if_neg h, if_neg h]
def f0 : AF := ([], 50, 0, 0, 0, 1, [])
def s0 : St := (f0, f0, 0, [], fun _ => (-1, []), fun _ => (0, 0, 0, []), [])
theorem ini_E : HI (fun _ => 0) 50 2 = 0 ∧ HI (fun _ => 0) 50 3 = 50 ∧ HI (fun _ => 0) 50 4 = 0 ∧ HI (fun _ => 0) 50 5 = 0 ∧ HI (fun _ => 0) 50 6 = 0 ∧ HI (fun _ => 0) 50 7 = 1 ∧ HI (fun _ => 0) 50 8 = 0 ∧ (∀ k, k < 3 → HI (fun _ => 0) 68 k = -1000000005) ∧ HI (fun _ => 0) 69 2 = 0 ∧ HI (fun _ => 0) 69 3 = 50 ∧ HI (fun _ => 0) 69 4 = 0 ∧ HI (fun _ => 0) 69 5 = 0 ∧ HI (fun _ => 0) 69 6 = 0 ∧ HI (fun _ => 0) 69 7 = 1 ∧ HI (fun _ => 0) 69 8 = 0 ∧ (∀ k, k < 3 → HI (fun _ => 0) 87 k = -1000000005) ∧ HI (fun _ => 0) 16 4 = 0 ∧ HI (fun _ => 0) 107 1 = 0 ∧ (∀ i, i < 4 → HI (fun _ => 0) (113 + 2 * i) 0 = -1 ∧ HI (fun _ => 0) (113 + 2 * i) 1 = 0) ∧ (∀ i, i < 5 → HI (fun _ => 0) (122 + 3 * i) 0 = 0) ∧ HI (fun _ => 0) 16 12 = 0 := by decide +kernel
theorem ini_M : HI (fun _ => 0) 142 0 = 1 ∧ HI (fun _ => 0) 142 1 = 0 ∧ HI (fun _ => 0) 142 2 = 0 ∧ HI (fun _ => 0) 142 3 = 50 ∧ HI (fun _ => 0) 142 4 = 0 ∧ HI (fun _ => 0) 142 5 = 0 ∧ HI (fun _ => 0) 142 6 = 0 ∧ HI (fun _ => 0) 141 3 = 0 ∧ HI (fun _ => 0) 141 11 = 0 ∧ (∀ i, i < 4 → HI (fun _ => 0) 157 i = -1 ∧ HI (fun _ => 0) 158 i = 0) ∧ (∀ i, i < 5 → HI (fun _ => 0) 160 i = 0) ∧ HI (fun _ => 0) 141 37 = 0 := by decide +kernel
theorem CX0 {hi : pm_B} : CX hi [] := ⟨fun i t h => (by cases h), Nat.zero_le _, fun t ht => absurd ht List.not_mem_nil⟩
theorem MX0 {r : Nat → Int32} : MX r [] := ⟨Nat.zero_le _, fun i t h => (by cases h)⟩
theorem W0 : WI s0 := by
  have hA : WA f0 := ⟨Nat.zero_le _, fun p hp => absurd hp List.not_mem_nil, fun t ht => absurd ht List.not_mem_nil⟩
  have hD : WD f0 := ⟨0, Nat.zero_le _, rfl⟩
  exact ⟨hA, hD, hA, hD, Nat.le_refl _, Or.inl rfl, ⟨Nat.zero_le _, fun b hb => absurd hb List.not_mem_nil⟩, fun i _ => ⟨Or.inl rfl, Nat.zero_le _⟩, fun i _ => ⟨Or.inl rfl, Nat.zero_le _, fun h => absurd (show (0 : Int32) = 1 from h) (by decide)⟩, Nat.zero_le _⟩
theorem C0 {xs : Nat → Int32} : CI (HI xs) s0 := by
  obtain ⟨a1, a2, a3, a4, a5, a6, a7, a8, b1, b2, b3, b4, b5, b6, b7, b8, c1, c2, c3, c4, c5⟩ := ini_E
  have k : ∀ q j, q ≠ 1 → HI xs q j = HI (fun _ => 0) q j := fun q j h => HI_ne h
  refine ⟨⟨(k _ _ (by omega)).trans a1, (k _ _ (by omega)).trans a2, (k _ _ (by omega)).trans a3, (k _ _ (by omega)).trans a4, (k _ _ (by omega)).trans a5, (k _ _ (by omega)).trans a6, (k _ _ (by omega)).trans a7, fun j hj => (k _ _ (by omega)).trans (a8 j hj), fun i p hp => (by cases hp)⟩, ⟨(k _ _ (by omega)).trans b1, (k _ _ (by omega)).trans b2, (k _ _ (by omega)).trans b3, (k _ _ (by omega)).trans b4, (k _ _ (by omega)).trans b5, (k _ _ (by omega)).trans b6, (k _ _ (by omega)).trans b7, fun j hj => (k _ _ (by omega)).trans (b8 j hj), fun i p hp => (by cases hp)⟩, CX0, CX0, (k _ _ (by omega)).trans c1, ⟨(k _ _ (by omega)).trans c2, Row.nil⟩, fun i hi => ⟨(k _ _ (by omega)).trans (c3 i hi).1, (k _ _ (by omega)).trans (c3 i hi).2, Row.nil⟩, fun i hi => ⟨(k _ _ (by omega)).trans (c4 i hi), fun h => absurd (show (0 : Int32) = 1 from h) (by decide), fun h => absurd (show (0 : Int32) = 2 from h) (by decide), fun h => absurd (show (0 : Int32) = 3 from h) (by decide)⟩, ⟨(k _ _ (by omega)).trans c5, Row.nil⟩, fun q j h1 h2 => k q j (by omega)⟩
theorem M0 {xs : Nat → Int32} : MI (HI xs) s0 := by
  obtain ⟨a1, a2, a3, a4, a5, a6, a7, c1, c2, c3, c4, c5⟩ := ini_M
  have k : ∀ q j, q ≠ 1 → HI xs q j = HI (fun _ => 0) q j := fun q j h => HI_ne h
  refine ⟨⟨(k _ _ (by omega)).trans a1, (k _ _ (by omega)).trans a2, (k _ _ (by omega)).trans a3, (k _ _ (by omega)).trans a4, (k _ _ (by omega)).trans a5, (k _ _ (by omega)).trans a6, (k _ _ (by omega)).trans a7, fun i p hp => (by cases hp)⟩, fun h => absurd rfl h, MX0, MX0, (k _ _ (by omega)).trans c1, ⟨(k _ _ (by omega)).trans c2, Row.nil⟩, fun i hi => ⟨(k _ _ (by omega)).trans (c3 i hi).1, (k _ _ (by omega)).trans (c3 i hi).2, Row.nil⟩, fun i hi => ⟨(k _ _ (by omega)).trans (c4 i hi), fun h => absurd (show (0 : Int32) = 1 from h) (by decide), fun h => absurd (show (0 : Int32) = 2 from h) (by decide), fun h => absurd (show (0 : Int32) = 3 from h) (by decide)⟩, ⟨(k _ _ (by omega)).trans c5, Row.nil⟩, fun q j h => k q j (by omega)⟩
theorem law_all {L : Nat} {xs : Nat → Int32} (hL : L ≤ 3072) : pm_Law L xs :=
  pm_pre (d := 0 + 300) (by omega) hL (law_loop (d := 0) hL L 0 s0 (HI xs) (by omega) (by omega) C0 M0 W0)
