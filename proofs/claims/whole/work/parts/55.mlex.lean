/-! ===== texts: words and signs (model side) ===== -/
theorem let_n : ∀ n, n < 256 → (f_Parser_sortOf (nI n) = 1 ↔ ¬ nI n < 97 ∧ ¬ 122 < nI n) ∧ (f_Parser_sortOf (nI n) = 2 ↔ ¬ nI n < 48 ∧ ¬ 57 < nI n) := by decide +kernel
def MTp (hi : pm_B) (bs : List Int32) : Prop := hi 141 11 = nI bs.length ∧ Row (hi 149) bs
theorem isLetter_c {L d k : Nat} {bs : List Int32} {hi : pm_B} {Q : pm_Q} (hW : WB bs) (hT : MTp hi bs) (hk : k ≤ 96) (h : Q (some (.inl (if f_Parser_sortOf (bA bs k) = 1 then 1 else 0))) hi) : pm_C pm_g (SH L) HR (d + 1) m_M_isLetter [.inr 141, .inl (nI k)] hi Q := by
  have hl := hW.1
  refine v_M_isLetter ?_
  rw [hT.1]
  refine ⟨fun c => ?_, fun c => ?_⟩
  · rw [bA_out ((nI_leI (by omega) (by omega)).mp c), sort_end] at h
    exact h
  · have c : k < bs.length := Nat.lt_of_not_le (fun hh => c (nI_le hh (by omega)))
    obtain ⟨n, hn, e⟩ := bA_nI hW c
    have e' : hi 149 k = nI n := by rw [hT.2.at c, ← bA_in c, e]
    rw [e] at h
    have ln := (let_n n hn).1
    refine ⟨k, by omega, rfl, ?_⟩
    rw [e']
    refine ⟨fun c1 => ?_, fun c1 => ⟨k, by omega, rfl, ?_⟩⟩
    · rw [if_neg (fun x => (ln.mp x).1 c1)] at h; exact h
    · rw [e']
      refine ⟨fun c2 => ?_, fun c2 => ?_⟩
      · rw [if_neg (fun x => (ln.mp x).2 c2)] at h; exact h
      · rw [if_pos (ln.mpr ⟨c1, c2⟩)] at h; exact h
theorem isFigure_c {L d k : Nat} {bs : List Int32} {hi : pm_B} {Q : pm_Q} (hW : WB bs) (hT : MTp hi bs) (hk : k ≤ 96) (h : Q (some (.inl (if f_Parser_sortOf (bA bs k) = 2 then 1 else 0))) hi) : pm_C pm_g (SH L) HR (d + 1) m_M_isFigure [.inr 141, .inl (nI k)] hi Q := by
  have hl := hW.1
  refine v_M_isFigure ?_
  rw [hT.1]
  refine ⟨fun c => ?_, fun c => ?_⟩
  · rw [bA_out ((nI_leI (by omega) (by omega)).mp c), sort_end] at h
    exact h
  · have c : k < bs.length := Nat.lt_of_not_le (fun hh => c (nI_le hh (by omega)))
    obtain ⟨n, hn, e⟩ := bA_nI hW c
    have e' : hi 149 k = nI n := by rw [hT.2.at c, ← bA_in c, e]
    rw [e] at h
    have ln := (let_n n hn).2
    refine ⟨k, by omega, rfl, ?_⟩
    rw [e']
    refine ⟨fun c1 => ?_, fun c1 => ⟨k, by omega, rfl, ?_⟩⟩
    · rw [if_neg (fun x => (ln.mp x).1 c1)] at h; exact h
    · rw [e']
      refine ⟨fun c2 => ?_, fun c2 => ?_⟩
      · rw [if_neg (fun x => (ln.mp x).2 c2)] at h; exact h
      · rw [if_pos (ln.mpr ⟨c1, c2⟩)] at h; exact h
def tkn (s : Int32) (a e : Nat) : Int32 := if s = 2 ∧ 4 < e - a then 4 else s
/-- the model's word or sign -/
def MC (bs : List Int32) (hi : pm_B) (s : Int32) (a e : Nat) : Prop := MTp hi bs ∧ hi 141 12 = nI e ∧ hi 141 13 = nI a ∧ hi 141 14 = tkn s a e ∧ ((s = 1 ∨ s = 3) → hi 141 15 = bA bs a) ∧ (s = 2 → e - a ≤ 4 → hi 141 15 = nv bs a (e - a)) ∧ (s = 1 ∨ s = 2 → hi 141 16 = nI e) ∧ (s = 3 → ∀ x, e ≤ x → x ≤ 96 → hi 141 16 ≠ nI x)
def PC : Nat → Nat → Prop := fun q j => q = 141 ∧ 12 ≤ j ∧ j ≤ 16
theorem MTp.kept {hi hi' : pm_B} {bs : List Int32} (h : MTp hi bs) (hf : Fr PC hi hi') : MTp hi' bs := ⟨(hf _ _ (by unfold PC; omega)).trans h.1, h.2.to (fun j _ => hf _ _ (by unfold PC; omega))⟩
theorem rn_one {bs : List Int32} {s : Int32} {n e : Nat} (h : f_Parser_sortOf (bA bs e) = s) : rn bs s (n + 1) e = rn bs s n (e + 1) := by rw [rn, if_pos h]
/-- letters, to their end -/
theorem golet_c {L d a : Nat} {bs : List Int32} {y1 : Int32} {hi0 : pm_B} {Q : pm_Q} (hW : WB bs) (hT : MTp hi0 bs) (ha : a < bs.length) (g3 : hi0 141 13 = nI a) (hs : f_Parser_sortOf (bA bs a) = 1) (h : ∀ hi', Fr PC hi0 hi' → hi' 141 12 = nI (rn bs 1 96 (a + 1)) → hi' 141 13 = nI a → hi' 141 14 = (if y1 = 0 then 1 else 4) → hi' 141 15 = bA bs a → hi' 141 16 = nI (rn bs 1 96 (a + 1)) → Q none hi') : ∀ n e' hi', e' + n = a + 97 → e' ≤ 96 → Fr PC hi0 hi' → hi' 141 12 = nI e' → hi' 141 13 = nI a → rn bs 1 n e' = rn bs 1 96 (a + 1) → pm_W pm_g (SH L) HR (d + 1) pm_t200 93 [some (.inr 141), some (.inl y1)] [] hi' Q := by
  have hl := hW.1
  intro n
  induction n with
  | zero => intro e' hi' he he' _ _ _ _; omega
  | succ n ih =>
    intro e' hi' he he' hf g2 g3' hr
    have hT' := hT.kept hf
    refine v_M_go_93 (d := d + 1) ?_
    rw [g2]
    refine isLetter_c (d := d) hW hT' he' ⟨_, rfl, fun c => ?_, fun c => ?_⟩
    · have c : ¬ f_Parser_sortOf (bA bs e') = 1 := fun x => by rw [if_pos x] at c; exact absurd c (by decide)
      rw [rn, if_neg c] at hr
      have fin : ∀ (t : Int32) (hi6 : pm_B), t = (if y1 = 0 then 1 else 4) → hi6 = pm_u (pm_u hi' 141 14 t) 141 15 ((pm_u hi' 141 14 t) 149 a) → Q none (pm_u hi6 141 16 (hi6 141 12)) := by
        intro t hi6 et e6
        have v2 : hi6 141 12 = nI e' := by rw [e6, pm_u_ne (Or.inr (by omega)), pm_u_ne (Or.inr (by omega))]; exact g2
        refine h _ ?_ ?_ ?_ ?_ ?_ ?_
        · refine hf.tr (fun q j hn => ?_)
          unfold PC at hn
          rw [pm_u_ne (by omega), e6, pm_u_ne (by omega), pm_u_ne (by omega)]
        · rw [pm_u_ne (Or.inr (by omega)), v2, hr]
        · rw [pm_u_ne (Or.inr (by omega)), e6, pm_u_ne (Or.inr (by omega)), pm_u_ne (Or.inr (by omega))]; exact g3'
        · rw [pm_u_ne (Or.inr (by omega)), e6, pm_u_ne (Or.inr (by omega)), pm_u_at, et]
        · rw [pm_u_ne (Or.inr (by omega)), e6, pm_u_at, pm_u_ne (Or.inl (by omega)), hT'.2.at ha, bA_in ha]
        · rw [pm_u_at, v2, hr]
      refine ⟨fun cy => ⟨a, by omega, (pm_u_ne (Or.inr (by omega))).trans g3', fun hi6 e6 => fin 1 hi6 (by rw [if_pos cy]) e6⟩, fun cy => ⟨a, by omega, (pm_u_ne (Or.inr (by omega))).trans g3', fun hi6 e6 => fin 4 hi6 (by rw [if_neg cy]) e6⟩⟩
    · have c : f_Parser_sortOf (bA bs e') = 1 := Classical.byContradiction (fun x => c (by rw [if_neg x]))
      have hlt : e' < bs.length := Nat.lt_of_not_le (fun hh => by rw [bA_out hh, sort_end] at c; exact absurd c (by decide))
      rw [rn_one c] at hr
      rw [g2, nI_1]
      exact ih (e' + 1) _ (by omega) (by omega) (hf.tr (Fr.u ⟨rfl, by omega, by omega⟩)) pm_u_at ((pm_u_ne (Or.inr (by omega))).trans g3') hr
/-- figures, to their end -/
theorem gofig_c {L d a : Nat} {bs : List Int32} {y1 : Int32} {hi0 : pm_B} {Q : pm_Q} (hW : WB bs) (hT : MTp hi0 bs) (ha : a < bs.length) (hs : f_Parser_sortOf (bA bs a) = 2) (h : ∀ hi', Fr PC hi0 hi' → hi' 141 12 = nI (rn bs 2 96 (a + 1)) → hi' 141 13 = nI a → hi' 141 14 = (if ¬ y1 = 0 then 4 else if 4 < rn bs 2 96 (a + 1) - a then 4 else 2) → (rn bs 2 96 (a + 1) - a ≤ 4 → hi' 141 15 = nv bs a (rn bs 2 96 (a + 1) - a)) → hi' 141 16 = nI (rn bs 2 96 (a + 1)) → Q none hi') : ∀ n e' hi', e' + n = a + 97 → a ≤ e' → e' ≤ 96 → Fr PC hi0 hi' → hi' 141 12 = nI e' → hi' 141 13 = nI a → (e' - a ≤ 4 → hi' 141 15 = nv bs a (e' - a)) → rn bs 2 n e' = rn bs 2 96 (a + 1) → pm_W pm_g (SH L) HR (d + 1) pm_t200 170 [some (.inr 141), some (.inl y1)] [] hi' Q := by
  have hl := hW.1
  intro n
  induction n with
  | zero => intro e' hi' he hae he' _ _ _ _ _; omega
  | succ n ih =>
    intro e' hi' he hae he' hf g2 g3' gv hr
    have hT' := hT.kept hf
    refine v_M_go_170 (d := d + 1) ?_
    rw [g2]
    refine isFigure_c (d := d) hW hT' he' ⟨_, rfl, fun c => ?_, fun c => ?_⟩
    · have c : ¬ f_Parser_sortOf (bA bs e') = 2 := fun x => by rw [if_pos x] at c; exact absurd c (by decide)
      rw [rn, if_neg c] at hr
      rw [← hr] at h
      have fin : ∀ (t : Int32) (hi6 : pm_B), t = (if ¬ y1 = 0 then 4 else if 4 < e' - a then 4 else 2) → hi6 = pm_u (pm_u hi' 141 14 t) 141 16 ((pm_u hi' 141 14 t) 141 12) → Q none hi6 := by
        intro t hi6 et e6
        refine h hi6 ?_ ?_ ?_ ?_ ?_ ?_
        · refine hf.tr (fun q j hn => ?_)
          unfold PC at hn
          rw [e6, pm_u_ne (by omega), pm_u_ne (by omega)]
        · rw [e6, pm_u_ne (Or.inr (by omega)), pm_u_ne (Or.inr (by omega))]; exact g2
        · rw [e6, pm_u_ne (Or.inr (by omega)), pm_u_ne (Or.inr (by omega))]; exact g3'
        · rw [e6, pm_u_ne (Or.inr (by omega)), pm_u_at, et]
        · intro h4
          rw [e6, pm_u_ne (Or.inr (by omega)), pm_u_ne (Or.inr (by omega))]; exact gv h4
        · rw [e6, pm_u_at, pm_u_ne (Or.inr (by omega))]; exact g2
      rw [g2, g3', nI_sub hae]
      refine ⟨fun cy hi5 e5 => fin 4 hi5 (by rw [if_pos cy]) e5, fun cy => ⟨fun c4 hi7 e7 => fin 2 hi7 ?_ e7, fun c4 hi7 e7 => fin 4 hi7 ?_ e7⟩⟩
      · have c4 := (nI_leI (b := 4) (by omega) (by omega)).mp c4
        rw [if_neg cy, if_neg (by omega)]
      · have c4 : ¬ e' - a ≤ 4 := fun hh => c4 (nI_le (b := 4) hh (by omega))
        rw [if_neg cy, if_pos (by omega)]
    · have c : f_Parser_sortOf (bA bs e') = 2 := Classical.byContradiction (fun x => c (by rw [if_neg x]))
      have hlt : e' < bs.length := Nat.lt_of_not_le (fun hh => by rw [bA_out hh, sort_end] at c; exact absurd c (by decide))
      rw [rn_one c] at hr
      rw [g2, g3', nI_sub hae]
      refine ⟨fun c4 hi10 e10 => ?_, fun c4 => ⟨e', by omega, rfl, fun hi12 e12 => ?_⟩⟩
      · have c4 := (nI_leI (a := 4) (by omega) (by omega)).mp c4
        refine ih (e' + 1) hi10 (by omega) (by omega) (by omega) ?_ ?_ ?_ (fun h4 => by omega) hr
        · refine hf.tr (fun q j hn => ?_)
          unfold PC at hn
          rw [e10, pm_u_ne (by omega), pm_u_ne (by omega)]
        · rw [e10, pm_u_at, pm_u_ne (Or.inr (by omega)), g2, nI_1]
        · rw [e10, pm_u_ne (Or.inr (by omega)), pm_u_ne (Or.inr (by omega))]; exact g3'
      · have c4 : ¬ 4 ≤ e' - a := fun hh => c4 (nI_le (a := 4) hh (by omega))
        refine ih (e' + 1) hi12 (by omega) (by omega) (by omega) ?_ ?_ ?_ (fun h4 => ?_) hr
        · refine hf.tr (fun q j hn => ?_)
          unfold PC at hn
          rw [e12, pm_u_ne (by omega), pm_u_ne (by omega)]
        · rw [e12, pm_u_at, pm_u_ne (Or.inr (by omega)), g2, nI_1]
        · rw [e12, pm_u_ne (Or.inr (by omega)), pm_u_ne (Or.inr (by omega))]; exact g3'
        · rw [e12, pm_u_ne (Or.inr (by omega)), pm_u_at, gv (by omega), hT'.2.at hlt, ← bA_in hlt, show e' + 1 - a = (e' - a) + 1 by omega, nv, show a + (e' - a) = e' by omega, Int32.mul_comm]
theorem skp_len {bs : List Int32} : ∀ n a, a ≤ bs.length → skp bs n a ≤ bs.length
  | 0, a, h => h
  | n + 1, a, h => by
    unfold skp
    by_cases c : bA bs a = 32
    · rw [if_pos c]
      have ha : a < bs.length := by
        by_cases hh : a < bs.length
        · exact hh
        · rw [bA_out (by omega)] at c; exact absurd c (by decide)
      exact skp_len n (a + 1) (by omega)
    · rw [if_neg c]; exact h
theorem mgo_c {L d e : Nat} {bs : List Int32} {s : Int32} {hz : pm_B} {Q : pm_Q} (hW : WB bs) (hT : MTp hz bs) (g0 : hz 141 12 = nI e) (he : e ≤ bs.length) (hen : ((s = 1 ∨ s = 2) ∧ hz 141 16 = nI e) ∨ (¬ (s = 1 ∨ s = 2) ∧ ∀ x, e ≤ x → x ≤ 96 → hz 141 16 ≠ nI x)) (h : ∀ hi', Fr PC hz hi' → MC bs hi' (stp bs s e).1 (stp bs s e).2.1 (stp bs s e).2.2 → Q none hi') : pm_C pm_g (SH L) HR (d + 2) m_M_go [.inr 141] hz Q := by
  have hl := hW.1
  have hen2 : ∀ x, e ≤ x → x ≤ 96 → (hz 141 16 = nI x ↔ (s = 1 ∨ s = 2) ∧ x = e) := by
    intro x h1 h2
    rcases hen with ⟨a, b⟩ | ⟨a, b⟩
    · rw [b]
      exact ⟨fun y => ⟨a, ((nI_eq (by omega) (by omega)).mp y).symm⟩, fun y => by rw [y.2]⟩
    · exact ⟨fun y => absurd y (b x h1 h2), fun y => absurd y.1 a⟩
  have tail : ∀ (a : Nat) (hi : pm_B), e ≤ a → a ≤ bs.length → Fr PC hz hi → hi 141 12 = nI a → hi 141 16 = hz 141 16 → stp bs s e = stq bs s e a → ((¬ ((pm_u hi 141 13 (hi 141 12)) 141 13) = ((pm_u hi 141 13 (hi 141 12)) 141 16)) → ((¬ ((pm_u hi 141 13 (hi 141 12)) 141 13) = ((pm_u hi 141 13 (hi 141 12)) 141 11)) → pm_C pm_g (SH L) HR (d + 1) m_M_isLetter [.inr 141, .inl ((pm_u hi 141 13 (hi 141 12)) 141 13)] (pm_u hi 141 13 (hi 141 12)) (fun v hi4 => ∃ x5 : Int32, v = some (.inl x5) ∧ (((x5 = 0) → pm_C pm_g (SH L) HR (d + 1) m_M_isFigure [.inr 141, .inl (hi4 141 13)] hi4 (fun v hi7 => ∃ x8 : Int32, v = some (.inl x8) ∧ (((x8 = 0) → ∃ k10 : Nat, k10 < 96 ∧ ((pm_u hi7 141 14 3) 141 13) = nI k10 ∧ (∀ hi11 : pm_B, hi11 = pm_u (pm_u hi7 141 14 3) 141 15 ((pm_u hi7 141 14 3) 149 k10) → (Q none (pm_u hi11 141 12 ((hi11 141 12) + 1))))) ∧ ((¬ (x8 = 0)) → pm_W pm_g (SH L) HR (d + 1) pm_t200 170 [some (.inr 141), some (.inl 0)] [] (pm_u hi7 141 15 0) Q)))) ∧ ((¬ (x5 = 0)) → pm_W pm_g (SH L) HR (d + 1) pm_t200 93 [some (.inr 141), some (.inl 0)] [] hi4 Q)))) ∧ ((¬ (¬ ((pm_u hi 141 13 (hi 141 12)) 141 13) = ((pm_u hi 141 13 (hi 141 12)) 141 11))) → ∀ hi12 : pm_B, hi12 = pm_u (pm_u hi 141 13 (hi 141 12)) 141 14 0 → (Q none hi12))) ∧ ((¬ (¬ ((pm_u hi 141 13 (hi 141 12)) 141 13) = ((pm_u hi 141 13 (hi 141 12)) 141 16))) → ((¬ ((pm_u hi 141 13 (hi 141 12)) 141 13) = ((pm_u hi 141 13 (hi 141 12)) 141 11)) → pm_C pm_g (SH L) HR (d + 1) m_M_isLetter [.inr 141, .inl ((pm_u hi 141 13 (hi 141 12)) 141 13)] (pm_u hi 141 13 (hi 141 12)) (fun v hi14 => ∃ x15 : Int32, v = some (.inl x15) ∧ (((x15 = 0) → pm_C pm_g (SH L) HR (d + 1) m_M_isFigure [.inr 141, .inl (hi14 141 13)] hi14 (fun v hi17 => ∃ x18 : Int32, v = some (.inl x18) ∧ (((x18 = 0) → ∃ k20 : Nat, k20 < 96 ∧ ((pm_u hi17 141 14 3) 141 13) = nI k20 ∧ (∀ hi21 : pm_B, hi21 = pm_u (pm_u hi17 141 14 3) 141 15 ((pm_u hi17 141 14 3) 149 k20) → (Q none (pm_u hi21 141 12 ((hi21 141 12) + 1))))) ∧ ((¬ (x18 = 0)) → pm_W pm_g (SH L) HR (d + 1) pm_t200 170 [some (.inr 141), some (.inl 1)] [] (pm_u hi17 141 15 0) Q)))) ∧ ((¬ (x15 = 0)) → pm_W pm_g (SH L) HR (d + 1) pm_t200 93 [some (.inr 141), some (.inl 1)] [] hi14 Q)))) ∧ ((¬ (¬ ((pm_u hi 141 13 (hi 141 12)) 141 13) = ((pm_u hi 141 13 (hi 141 12)) 141 11))) → ∀ hi22 : pm_B, hi22 = pm_u (pm_u hi 141 13 (hi 141 12)) 141 14 0 → (Q none hi22))) := by
    intro a hi hea ha hf g2 g6 hst
    have hT' := hT.kept hf
    have i3 : pm_u hi 141 13 (hi 141 12) 141 13 = nI a := by rw [pm_u_at, g2]
    have i6 : pm_u hi 141 13 (hi 141 12) 141 16 = hz 141 16 := by rw [pm_u_ne (Or.inr (by omega)), g6]
    have i11 : pm_u hi 141 13 (hi 141 12) 141 11 = nI bs.length := by rw [pm_u_ne (Or.inr (by omega))]; exact hT'.1
    have i2 : pm_u hi 141 13 (hi 141 12) 141 12 = nI a := by rw [pm_u_ne (Or.inr (by omega)), g2]
    have hf1 : Fr PC hz (pm_u hi 141 13 (hi 141 12)) := hf.tr (Fr.u ⟨rfl, by omega, by omega⟩)
    have hT1 := hT.kept hf1
    rw [i3, i6, i11]
    generalize pm_u hi 141 13 (hi 141 12) = hi1 at i3 i6 i11 i2 hf1 hT1 ⊢
    unfold stq at hst
    have endc : ¬ ¬ nI a = nI bs.length → ∀ hi12 : pm_B, hi12 = pm_u hi1 141 14 0 → Q none hi12 := by
      intro c hi12 e12
      have c : a = bs.length := (nI_eq (by omega) (by omega)).mp (Decidable.not_not.mp c)
      rw [if_pos ((sort_0 hW).mpr (by omega))] at hst
      rw [hst] at h
      have fu : Fr PC hi1 hi12 := by rw [e12]; exact Fr.u ⟨rfl, by omega, by omega⟩
      refine h hi12 (hf1.tr fu) ⟨hT1.kept fu, ?_, ?_, ?_, fun x => ?_, fun x => ?_, fun x => ?_, fun x => ?_⟩
      · rw [e12, pm_u_ne (Or.inr (by omega))]; exact i2
      · rw [e12, pm_u_ne (Or.inr (by omega))]; exact i3
      · rw [e12, pm_u_at]; rfl
      · exact absurd (show (0 : Int32) = 1 ∨ (0 : Int32) = 3 from x) (by decide)
      · exact absurd (show (0 : Int32) = 2 from x) (by decide)
      · exact absurd (show (0 : Int32) = 1 ∨ (0 : Int32) = 2 from x) (by decide)
      · exact absurd (show (0 : Int32) = 3 from x) (by decide)
    have go : ∀ y1 : Int32, (y1 = 0 ↔ ¬ ((s = 1 ∨ s = 2) ∧ a = e)) → ¬ nI a = nI bs.length → pm_C pm_g (SH L) HR (d + 1) m_M_isLetter [.inr 141, .inl (nI a)] hi1 (fun v hi4 => ∃ x5 : Int32, v = some (.inl x5) ∧ (((x5 = 0) → pm_C pm_g (SH L) HR (d + 1) m_M_isFigure [.inr 141, .inl (hi4 141 13)] hi4 (fun v hi7 => ∃ x8 : Int32, v = some (.inl x8) ∧ (((x8 = 0) → ∃ k10 : Nat, k10 < 96 ∧ ((pm_u hi7 141 14 3) 141 13) = nI k10 ∧ (∀ hi11 : pm_B, hi11 = pm_u (pm_u hi7 141 14 3) 141 15 ((pm_u hi7 141 14 3) 149 k10) → (Q none (pm_u hi11 141 12 ((hi11 141 12) + 1))))) ∧ ((¬ (x8 = 0)) → pm_W pm_g (SH L) HR (d + 1) pm_t200 170 [some (.inr 141), some (.inl y1)] [] (pm_u hi7 141 15 0) Q)))) ∧ ((¬ (x5 = 0)) → pm_W pm_g (SH L) HR (d + 1) pm_t200 93 [some (.inr 141), some (.inl y1)] [] hi4 Q))) := by
      intro y1 hy c
      have hlt : a < bs.length := by
        rcases Nat.lt_or_ge a bs.length with x | x
        · exact x
        · exact absurd (congrArg nI (show a = bs.length by omega)) c
      have n0 : ¬ f_Parser_sortOf (bA bs a) = 0 := fun x => absurd ((sort_0 hW).mp x) (by omega)
      rw [if_neg n0] at hst
      refine isLetter_c (d := d) hW hT1 (by omega) ⟨_, rfl, fun c1 => ?_, fun c1 => ?_⟩
      · have c1 : ¬ f_Parser_sortOf (bA bs a) = 1 := fun x => by rw [if_pos x] at c1; exact absurd c1 (by decide)
        rw [i3]
        refine isFigure_c (d := d) hW hT1 (by omega) ⟨_, rfl, fun c2 => ?_, fun c2 => ?_⟩
        · have c2 : ¬ f_Parser_sortOf (bA bs a) = 2 := fun x => by rw [if_pos x] at c2; exact absurd c2 (by decide)
          have c3 : f_Parser_sortOf (bA bs a) = 3 := by
            obtain ⟨n, hn, en⟩ := bA_nI hW hlt
            rw [en] at c1 c2 ⊢
            rcases sort_in n hn with x | x | x
            · exact absurd x c1
            · exact absurd x c2
            · exact x
          rw [if_pos c3] at hst
          rw [hst] at h
          refine ⟨a, by omega, (pm_u_ne (Or.inr (by omega))).trans i3, fun hi11 e11 => ?_⟩
          have v2 : hi11 141 12 = nI a := by rw [e11, pm_u_ne (Or.inr (by omega)), pm_u_ne (Or.inr (by omega))]; exact i2
          rw [v2, nI_1]
          have fu : Fr PC hi1 (pm_u hi11 141 12 (nI (a + 1))) := fun q j hn => by
            unfold PC at hn
            rw [pm_u_ne (by omega), e11, pm_u_ne (by omega), pm_u_ne (by omega)]
          refine h _ (hf1.tr fu) ⟨hT1.kept fu, pm_u_at, ?_, ?_, fun _ => ?_, fun x => ?_, fun x => ?_, fun _ x hx1 hx2 => ?_⟩
          · rw [pm_u_ne (Or.inr (by omega)), e11, pm_u_ne (Or.inr (by omega)), pm_u_ne (Or.inr (by omega))]; exact i3
          · rw [pm_u_ne (Or.inr (by omega)), e11, pm_u_ne (Or.inr (by omega)), pm_u_at]; rfl
          · rw [pm_u_ne (Or.inr (by omega)), e11, pm_u_at, pm_u_ne (Or.inl (by omega)), hT1.2.at hlt, bA_in hlt]
          · exact absurd (show (3 : Int32) = 2 from x) (by decide)
          · exact absurd (show (3 : Int32) = 1 ∨ (3 : Int32) = 2 from x) (by decide)
          · rw [pm_u_ne (Or.inr (by omega)), e11, pm_u_ne (Or.inr (by omega)), pm_u_ne (Or.inr (by omega)), i6]
            intro hh
            have hx1 : a + 1 ≤ x := hx1
            have := ((hen2 x (by omega) hx2).mp hh).2
            omega
        · have c2 : f_Parser_sortOf (bA bs a) = 2 := Classical.byContradiction (fun x => c2 (by rw [if_neg x]))
          rw [if_neg (by rw [c2]; decide), c2] at hst
          rw [hst] at h
          have hr := rn_le hW (s := 2) (by decide) 96 (a + 1) (by omega)
          refine gofig_c (d := d) (a := a) hW hT1 hlt c2 (fun hi' hf' k2 k3 k4 k5 k6 => h hi' (hf1.tr hf') ⟨hT1.kept hf', k2, k3, ?_, fun x => ?_, fun x h4 => k5 h4, fun _ => k6, fun x => ?_⟩) 97 a _ (by omega) (by omega) (by omega) (Fr.u ⟨rfl, by omega, by omega⟩) ((pm_u_ne (Or.inr (by omega))).trans i2) ((pm_u_ne (Or.inr (by omega))).trans i3) (fun _ => by rw [pm_u_at, Nat.sub_self]; rfl) (rn_one c2)
          · rw [k4]
            unfold tkn
            dsimp only
            by_cases cc : (s = 1 ∨ s = 2) ∧ a = e
            · rw [if_pos (fun y => hy.mp y cc), if_pos cc, if_neg (by rintro ⟨y, _⟩; exact absurd y (by decide))]
            · rw [if_neg (fun y => y (hy.mpr cc)), if_neg cc]
              by_cases c4 : 4 < rn bs 2 96 (a + 1) - a
              · rw [if_pos c4, if_pos ⟨rfl, c4⟩]
              · rw [if_neg c4, if_neg (fun y => c4 y.2)]
          · exfalso
            dsimp only at x
            by_cases cc : (s = 1 ∨ s = 2) ∧ a = e
            · rw [if_pos cc] at x; rcases x with x | x <;> exact absurd x (by decide)
            · rw [if_neg cc] at x; rcases x with x | x <;> exact absurd x (by decide)
          · exfalso
            dsimp only at x
            by_cases cc : (s = 1 ∨ s = 2) ∧ a = e
            · rw [if_pos cc] at x; exact absurd x (by decide)
            · rw [if_neg cc] at x; exact absurd x (by decide)
      · have c1 : f_Parser_sortOf (bA bs a) = 1 := Classical.byContradiction (fun x => c1 (by rw [if_neg x]))
        rw [if_neg (by rw [c1]; decide), c1] at hst
        rw [hst] at h
        have hr := rn_le hW (s := 1) (by decide) 96 (a + 1) (by omega)
        refine golet_c (d := d) (a := a) hW hT1 hlt i3 c1 (fun hi' hf' k2 k3 k4 k5 k6 => h hi' (hf1.tr hf') ⟨hT1.kept hf', k2, k3, ?_, fun _ => k5, fun x => ?_, fun _ => k6, fun x => ?_⟩) 97 a hi1 (by omega) (by omega) Fr.rf i2 i3 (rn_one c1)
        · rw [k4]
          unfold tkn
          dsimp only
          by_cases cc : (s = 1 ∨ s = 2) ∧ a = e
          · rw [if_neg (fun y => hy.mp y cc), if_pos cc, if_neg (by rintro ⟨y, _⟩; exact absurd y (by decide))]
          · rw [if_pos (hy.mpr cc), if_neg cc, if_neg (by rintro ⟨y, _⟩; exact absurd y (by decide))]
        · exfalso
          dsimp only at x
          by_cases cc : (s = 1 ∨ s = 2) ∧ a = e
          · rw [if_pos cc] at x; exact absurd x (by decide)
          · rw [if_neg cc] at x; exact absurd x (by decide)
        · exfalso
          dsimp only at x
          by_cases cc : (s = 1 ∨ s = 2) ∧ a = e
          · rw [if_pos cc] at x; exact absurd x (by decide)
          · rw [if_neg cc] at x; exact absurd x (by decide)
    refine ⟨fun c => ⟨fun c1 => go 0 ⟨fun _ x => ?_, fun _ => rfl⟩ c1, endc⟩, fun c => ⟨fun c1 => go 1 ⟨fun x => absurd x (by decide), fun x => ?_⟩ c1, endc⟩⟩
    · exact c ((hen2 a hea (by omega)).mpr x).symm
    · exact absurd ((hen2 a hea (by omega)).mp (Decidable.not_not.mp c).symm) x
  have loop : ∀ n a hi o, a + n = e + 96 → a ≤ bs.length → e ≤ a → Fr PC hz hi → hi 141 12 = nI a → hi 141 16 = hz 141 16 → skp bs n a = skp bs 96 e → pm_W pm_g (SH L) HR (d + 1) pm_t200 0 [some (.inr 141), o] [] hi Q := by
    intro n
    induction n with
    | zero =>
      intro a hi o hn ha hea hf g2 g6 hs
      have hs : a = skp bs 96 e := hs
      have tt := tail a hi hea ha hf g2 g6 (by rw [hs]; rfl)
      refine v_M_go_0 (d := d + 1) ⟨fun _ => tt, fun c => ?_⟩
      rw [g2, (hT.kept hf).1] at c
      exact absurd (nI_le (by omega) (by omega)) c
    | succ n ih =>
      intro a hi o hn ha hea hf g2 g6 hs
      rw [skp] at hs
      refine v_M_go_0 (d := d + 1) ⟨fun c => ?_, fun c => ?_⟩
      · rw [g2, (hT.kept hf).1] at c
        have c := (nI_leI (by omega) (by omega)).mp c
        rw [bA_out c, if_neg (by decide)] at hs
        exact tail a hi hea ha hf g2 g6 (by rw [hs]; rfl)
      · rw [g2, (hT.kept hf).1] at c
        have c : a < bs.length := Nat.lt_of_not_le (fun hh => c (nI_le hh (by omega)))
        refine ⟨a, by omega, g2, fun c1 => ?_, fun c1 => ?_⟩
        · rw [(hT.kept hf).2.at c, ← bA_in c] at c1
          rw [if_neg c1] at hs
          exact tail a hi hea ha hf g2 g6 (by rw [hs]; rfl)
        · rw [(hT.kept hf).2.at c, ← bA_in c] at c1
          rw [if_pos (Decidable.not_not.mp c1)] at hs
          exact ih (a + 1) _ o (by omega) (by omega) (by omega) (hf.tr (Fr.u ⟨rfl, by omega, by omega⟩)) (by rw [pm_u_at, g2, nI_1]) ((pm_u_ne (Or.inr (by omega))).trans g6) hs
  refine pm_C_of (maxL := 2) (t := pm_t200) rfl (Nat.le_of_ble_eq_true rfl) ?_
  exact loop 96 e hz none rfl he (Nat.le_refl _) Fr.rf g0 rfl rfl
