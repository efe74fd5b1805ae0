/-! ===== the whole state: what class and model hold of it ===== -/
/-- a number as a place below n -/
def ixo (x : Int32) : Nat → Option Nat
  | 0 => none
  | n + 1 => if x = nI n then some n else ixo x n
theorem ixo_cases (x : Int32) : ∀ n, (ixo x n = none ∧ ∀ i, i < n → x ≠ nI i) ∨ ∃ i, i < n ∧ x = nI i ∧ ixo x n = some i
  | 0 => Or.inl ⟨rfl, fun i hi => absurd hi (by omega)⟩
  | n + 1 => by
    unfold ixo
    by_cases h : x = nI n
    · rw [if_pos h]; exact Or.inr ⟨n, by omega, h, rfl⟩
    · rw [if_neg h]
      rcases ixo_cases x n with ⟨e, hne⟩ | ⟨i, hi, hx, e⟩
      · refine Or.inl ⟨e, fun i hi => ?_⟩
        by_cases hin : i = n
        · subst hin; exact h
        · exact hne i (by omega)
      · exact Or.inr ⟨i, by omega, hx, e⟩
theorem gE {x y : Int32} {n : Nat} {A B : Prop} (hy : y = nI n) (hn : n ≤ 8) (ha : ixo x n = none → A) (hb : ∀ i, i < n → x = nI i → ixo x n = some i → B) : ((x < 0) → A) ∧ ((¬ (x < 0)) → ((y ≤ x) → A) ∧ ((¬ (y ≤ x)) → ((8 ≤ x) → A) ∧ ((¬ (8 ≤ x)) → B))) := by
  subst hy
  rcases ixo_cases x n with ⟨e, hne⟩ | ⟨i, hi, hx, e⟩
  · refine ⟨fun _ => ha e, fun h0 => ⟨fun _ => ha e, fun h1 => ⟨fun _ => ha e, fun _ => ?_⟩⟩⟩
    obtain ⟨j, hj, rfl⟩ := nI_of h0
    exact absurd rfl (hne j (Nat.lt_of_not_le (fun h2 => h1 (nI_le h2 hj))))
  · have hB := hb i hi hx e
    subst hx
    exact ⟨fun h => absurd h (nI_pos (by omega)), fun _ => ⟨fun h => absurd h (nI_ge hi (by omega)), fun _ => ⟨fun h => absurd h (nI_ge (b := 8) (by omega) (by omega)), fun _ => hB⟩⟩⟩
theorem gE' {x y c : Int32} {n m : Nat} {A B : Prop} (hy : y = nI n) (hc : c = nI m) (hn : n ≤ m) (hm : m < 2 ^ 31) (ha : ixo x n = none → A) (hb : ∀ i, i < n → x = nI i → ixo x n = some i → B) : ((x < 0) → A) ∧ ((¬ (x < 0)) → ((y ≤ x) → A) ∧ ((¬ (y ≤ x)) → ((c ≤ x) → A) ∧ ((¬ (c ≤ x)) → B))) := by
  subst hy hc
  rcases ixo_cases x n with ⟨e, hne⟩ | ⟨i, hi, hx, e⟩
  · refine ⟨fun _ => ha e, fun h0 => ⟨fun _ => ha e, fun h1 => ⟨fun _ => ha e, fun _ => ?_⟩⟩⟩
    obtain ⟨j, hj, rfl⟩ := nI_of h0
    exact absurd rfl (hne j (Nat.lt_of_not_le (fun h2 => h1 (nI_le h2 hj))))
  · have hB := hb i hi hx e
    subst hx
    exact ⟨fun h => absurd h (nI_pos (by omega)), fun _ => ⟨fun h => absurd h (nI_ge hi (by omega)), fun _ => ⟨fun h => absurd h (nI_ge (by omega) hm), fun _ => hB⟩⟩⟩
/-- below a literal, in two ways of writing -/
theorem gL {x c : Int32} (n : Nat) {A B : Prop} (hc : c = nI n) (hn : n < 2 ^ 31) (ha : ixo x n = none → A) (hb : ∀ i, i < n → x = nI i → ixo x n = some i → B) : ((x < 0) → A) ∧ ((¬ (x < 0)) → ((c ≤ x) → A) ∧ ((¬ (c ≤ x)) → B)) := by
  subst hc
  rcases ixo_cases x n with ⟨e, hne⟩ | ⟨i, hi, hx, e⟩
  · refine ⟨fun _ => ha e, fun h0 => ⟨fun _ => ha e, fun h1 => ?_⟩⟩
    obtain ⟨j, hj, rfl⟩ := nI_of h0
    exact absurd rfl (hne j (Nat.lt_of_not_le (fun h2 => h1 (nI_le h2 hj))))
  · have hB := hb i hi hx e
    subst hx
    exact ⟨fun h => absurd h (nI_pos (by omega)), fun _ => ⟨fun h => absurd h (nI_ge hi hn), fun _ => hB⟩⟩
theorem gT {x c : Int32} (n : Nat) {A B : Prop} (hc : c = nI n) (hn : n + 1 < 2 ^ 31) (ha : ixo x (n + 1) = none → A) (hb : ∀ i, i < n + 1 → x = nI i → ixo x (n + 1) = some i → B) : ((x < 0) → A) ∧ ((¬ (x < 0)) → ((c < x) → A) ∧ ((¬ (c < x)) → B)) := by
  subst hc
  rcases ixo_cases x (n + 1) with ⟨e, hne⟩ | ⟨i, hi, hx, e⟩
  · refine ⟨fun _ => ha e, fun h0 => ⟨fun _ => ha e, fun h1 => ?_⟩⟩
    obtain ⟨j, hj, rfl⟩ := nI_of h0
    exact absurd rfl (hne j (Nat.lt_of_not_le (fun h2 => h1 (nI_lt (by omega) hj))))
  · have hB := hb i hi hx e
    subst hx
    exact ⟨fun h => absurd h (nI_pos (by omega)), fun _ => ⟨fun h => absurd h (nI_nlt (by omega) (by omega)), fun _ => hB⟩⟩
/-- the same, written as at most -/
theorem gU {x c : Int32} (n : Nat) {A B : Prop} (hc : c = nI n) (hn : n + 1 < 2 ^ 31) (ha : ixo x (n + 1) = none → A) (hb : ∀ i, i < n + 1 → x = nI i → ixo x (n + 1) = some i → B) : ((x < 0) → A) ∧ ((¬ (x < 0)) → ((x ≤ c) → B) ∧ ((¬ (x ≤ c)) → A)) := by
  have := gT n hc hn ha hb
  refine ⟨this.1, fun h0 => ⟨fun h => (this.2 h0).2 (Int32.not_lt.mpr h), fun h => (this.2 h0).1 (Int32.not_le.mp h)⟩⟩
theorem gM {x y : Int32} {n : Nat} {A B : Prop} (hy : y = nI n) (hn : n ≤ 1000) (ha : ixo x n = none → A) (hb : ∀ i, i < n → x = nI i → ixo x n = some i → B) : ((x < 0) → A) ∧ ((¬ (x < 0)) → (((y - 1) < x) → A) ∧ ((¬ ((y - 1) < x)) → B)) := by
  cases n with
  | zero =>
    subst hy
    refine ⟨fun _ => ha rfl, fun h0 => ⟨fun _ => ha rfl, fun h1 => absurd ?_ h1⟩⟩
    rw [show nI 0 - 1 = -1 by decide]
    exact Int32.lt_of_lt_of_le (by decide) (Int32.not_lt.mp h0)
  | succ n =>
    subst hy
    rw [show nI (n + 1) - 1 = nI n from nI_sub (b := 1) (by omega)]
    exact gT n rfl (by omega) ha hb
theorem g01 {x : Int32} {A B0 B1 : Prop} (ha : ixo x 2 = none → A) (h0 : x = 0 → ixo x 2 = some 0 → B0) (h1 : x = 1 → ixo x 2 = some 1 → B1) : ((x = 0) → B0) ∧ ((¬ (x = 0)) → ((¬ x = 1) → A) ∧ ((¬ (¬ x = 1)) → B1)) := by
  refine ⟨fun h => h0 h (by subst h; rfl), fun hn0 => ⟨fun hn1 => ha ?_, fun h => h1 (Decidable.not_not.mp h) (by rw [Decidable.not_not.mp h]; rfl)⟩⟩
  unfold ixo
  rw [if_neg (show ¬ x = nI 1 from hn1)]
  unfold ixo
  rw [if_neg (show ¬ x = nI 0 from hn0)]
  rfl
/-- one of the folk; another in its place -/
def spa (f : AF) (i : Nat) : ASp := f.1.getD i (0, 0, 0, 0, [])
def spu (f : AF) (i : Nat) (p : ASp) : AF := (f.1.set i p, f.2)
abbrev txo (f : AF) : List AT := f.2.2.2.2.2.2
theorem spa_at {f : AF} {i : Nat} (h : i < f.1.length) : f.1[i]? = some (spa f i) := by
  unfold spa
  rw [List.getD_eq_getElem?_getD, List.getElem?_eq_getElem h]
  rfl
theorem CF.sp {hi hi' : pm_B} {F i : Nat} {f : AF} {p : ASp} (h : CF hi F f) (h8 : f.1.length ≤ 8) (hi8 : i < f.1.length) (hp : CS hi' (F + 2 + 2 * i) p) (hk : ∀ q j, F ≤ q → q < F + 19 → q ≠ F + 2 + 2 * i → q ≠ F + 2 + 2 * i + 1 → hi' q j = hi q j) : CF hi' F (spu f i p) := by
  obtain ⟨sps, talk, spoken, lost, day, z, txs⟩ := f
  obtain ⟨c2, c3, c4, c5, c6, c7, c8, c9, cS⟩ := h
  dsimp only at h8 hi8
  have t : ∀ j, hi' F j = hi F j := fun j => hk F j (by omega) (by omega) (by omega) (by omega)
  refine ⟨?_, (t _).trans c3, (t _).trans c4, (t _).trans c5, (t _).trans c6, (t _).trans c7, (t _).trans c8, fun k hk3 => ?_, fun m r hr => ?_⟩
  · rw [List.length_set]; exact (t _).trans c2
  · rw [hk (F + 18) k (by omega) (by omega) (by omega) (by omega)]; exact c9 k hk3
  · have hm : m < sps.length := by
      have := (List.getElem?_eq_some_iff.mp hr).1
      rw [List.length_set] at this
      exact this
    by_cases hmi : m = i
    · subst hmi
      rw [List.getElem?_set_self hi8] at hr
      cases hr
      exact hp
    · rw [List.getElem?_set_ne (Ne.symm hmi)] at hr
      exact (cS m r hr).kept (fun j => hk _ _ (by omega) (by omega) (by omega) (by omega)) (fun j => hk _ _ (by omega) (by omega) (by omega) (by omega))
theorem CF.kept {hi hi' : pm_B} {F : Nat} {f : AF} (h : CF hi F f) (h8 : f.1.length ≤ 8) (hk : ∀ q j, F ≤ q → q < F + 19 → hi' q j = hi q j) : CF hi' F f := by
  obtain ⟨sps, talk, spoken, lost, day, z, txs⟩ := f
  obtain ⟨c2, c3, c4, c5, c6, c7, c8, c9, cS⟩ := h
  dsimp only at h8
  have t : ∀ j, hi' F j = hi F j := fun j => hk F j (by omega) (by omega)
  refine ⟨(t _).trans c2, (t _).trans c3, (t _).trans c4, (t _).trans c5, (t _).trans c6, (t _).trans c7, (t _).trans c8, fun k hk3 => ?_, fun m r hr => ?_⟩
  · rw [hk (F + 18) k (by omega) (by omega)]; exact c9 k hk3
  · have hm : m < sps.length := (List.getElem?_eq_some_iff.mp hr).1
    exact (cS m r hr).kept (fun j => hk _ _ (by omega) (by omega)) (fun j => hk _ _ (by omega) (by omega))
theorem CF.at {hi : pm_B} {F i : Nat} {f : AF} (h : CF hi F f) (hi8 : i < f.1.length) : CS hi (F + 2 + 2 * i) (spa f i) := by
  have e := spa_at hi8
  obtain ⟨sps, talk, spoken, lost, day, z, txs⟩ := f
  exact h.2.2.2.2.2.2.2.2 i _ e
theorem CF.n {hi : pm_B} {F : Nat} {f : AF} (h : CF hi F f) : hi F 2 = nI f.1.length := by
  obtain ⟨sps, talk, spoken, lost, day, z, txs⟩ := f
  exact h.1
theorem MF.sp {r r' : Nat → Int32} {i : Nat} {f : AF} {p : ASp} (h : MF r f) (hl : ∀ p ∈ f.1, p.2.2.2.2.length ≤ 24) (h8 : f.1.length ≤ 8) (hi8 : i < f.1.length) (hp : MS r' i p) (hk : ∀ j, j < 239 → ¬ (7 + 29 * i ≤ j ∧ j < 7 + 29 * i + 29) → r' j = r j) : MF r' (spu f i p) := by
  obtain ⟨sps, talk, spoken, lost, day, z, txs⟩ := f
  obtain ⟨c0, c1, c2, c3, c4, c5, c6, cS⟩ := h
  dsimp only at h8 hi8 hl
  have t : ∀ j, j < 7 → r' j = r j := fun j hj => hk j (by omega) (by omega)
  refine ⟨(t _ (by omega)).trans c0, ?_, (t _ (by omega)).trans c2, (t _ (by omega)).trans c3, (t _ (by omega)).trans c4, (t _ (by omega)).trans c5, (t _ (by omega)).trans c6, fun m q hq => ?_⟩
  · rw [List.length_set]; exact (t _ (by omega)).trans c1
  · have hm : m < sps.length := by
      have := (List.getElem?_eq_some_iff.mp hq).1
      rw [List.length_set] at this
      exact this
    by_cases hmi : m = i
    · subst hmi
      rw [List.getElem?_set_self hi8] at hq
      cases hq
      exact hp
    · rw [List.getElem?_set_ne (Ne.symm hmi)] at hq
      have := hl q (List.mem_of_getElem? hq)
      exact (cS m q hq).kept (fun j a b => hk j (by omega) (by omega))
theorem MF.kept {r r' : Nat → Int32} {f : AF} (h : MF r f) (hl : ∀ p ∈ f.1, p.2.2.2.2.length ≤ 24) (h8 : f.1.length ≤ 8) (hk : ∀ j, j < 239 → r' j = r j) : MF r' f := by
  obtain ⟨sps, talk, spoken, lost, day, z, txs⟩ := f
  obtain ⟨c0, c1, c2, c3, c4, c5, c6, cS⟩ := h
  dsimp only at h8 hl
  refine ⟨(hk _ (by omega)).trans c0, (hk _ (by omega)).trans c1, (hk _ (by omega)).trans c2, (hk _ (by omega)).trans c3, (hk _ (by omega)).trans c4, (hk _ (by omega)).trans c5, (hk _ (by omega)).trans c6, fun m q hq => ?_⟩
  have hm : m < sps.length := (List.getElem?_eq_some_iff.mp hq).1
  have := hl q (List.mem_of_getElem? hq)
  exact (cS m q hq).kept (fun j a b => hk j (by omega))
theorem MF.at {r : Nat → Int32} {i : Nat} {f : AF} (h : MF r f) (hi8 : i < f.1.length) : MS r i (spa f i) := by
  have e := spa_at hi8
  obtain ⟨sps, talk, spoken, lost, day, z, txs⟩ := f
  exact h.2.2.2.2.2.2.2 i _ e
theorem MF.n {r : Nat → Int32} {f : AF} (h : MF r f) : r 1 = nI f.1.length := by
  obtain ⟨sps, talk, spoken, lost, day, z, txs⟩ := f
  exact h.2.1
/-- a slot: what it holds, a kind or number, a fame, a row -/
abbrev ASl : Type := Int32 × Int32 × Int32 × List Int32
/-- now, image, whether it is kept, tape, sheets, slots, told numbers -/
abbrev St : Type := AF × AF × Int32 × List Int32 × (Nat → AH) × (Nat → ASl) × List Int32
def CL (hi : pm_B) (i : Nat) (l : ASl) : Prop := hi (122 + 3 * i) 0 = l.1 ∧ (l.1 = 1 → hi (122 + 3 * i) 1 = l.2.1 ∧ hi (122 + 3 * i) 2 = l.2.2.1) ∧ (l.1 = 2 → hi (122 + 3 * i + 1) 1 = nI l.2.2.2.length ∧ Row (hi (122 + 3 * i + 2)) l.2.2.2) ∧ (l.1 = 3 → hi (122 + 3 * i) 3 = l.2.1)
def CK (hi : pm_B) : Prop := ∀ q j, 2 ≤ q → q < 16 → hi q j = HI (fun _ => 0) q j
def CW (hi : pm_B) (wt : List Int32) : Prop := hi 16 12 = nI wt.length ∧ Row (hi 140) wt
def CI (hi : pm_B) (s : St) : Prop := CF hi 50 s.1 ∧ CF hi 69 s.2.1 ∧ CX hi (txo s.1) ∧ CX hi (txo s.2.1) ∧ hi 16 4 = s.2.2.1 ∧ CB hi s.2.2.2.1 ∧ (∀ i, i < 4 → CH hi (113 + 2 * i) (s.2.2.2.2.1 i)) ∧ (∀ i, i < 5 → CL hi i (s.2.2.2.2.2.1 i)) ∧ CW hi s.2.2.2.2.2.2 ∧ CK hi
def MH (hi : pm_B) (i : Nat) (t : AH) : Prop := hi 157 i = t.1 ∧ hi 158 i = nI t.2.length ∧ Row (fun k => hi 159 (24 * i + k)) t.2
def ML (hi : pm_B) (i : Nat) (l : ASl) : Prop := hi 160 i = l.1 ∧ (l.1 = 1 → hi 161 i = l.2.1 ∧ hi 162 i = f_Kinds_worthOf l.2.1 l.2.2.1) ∧ (l.1 = 2 → hi 161 i = nI l.2.2.2.length ∧ Row (fun k => hi 163 (24 * i + k)) l.2.2.2) ∧ (l.1 = 3 → hi 161 i = l.2.1)
def MB (hi : pm_B) (bs : List Int32) : Prop := hi 141 11 = nI bs.length ∧ Row (hi 149) bs
def MW (hi : pm_B) (wt : List Int32) : Prop := hi 141 37 = nI wt.length ∧ Row (hi 165) wt
def MK (hi : pm_B) : Prop := ∀ q j, q = 150 ∨ q = 151 → hi q j = HI (fun _ => 0) q j
def MI (hi : pm_B) (s : St) : Prop := MF (hi 142) s.1 ∧ (¬ s.2.2.1 = 0 → MF (hi 143) s.2.1) ∧ MX (hi 142) (txo s.1) ∧ MX (hi 143) (txo s.2.1) ∧ hi 141 3 = s.2.2.1 ∧ MB hi s.2.2.2.1 ∧ (∀ i, i < 4 → MH hi i (s.2.2.2.2.1 i)) ∧ (∀ i, i < 5 → ML hi i (s.2.2.2.2.2.1 i)) ∧ MW hi s.2.2.2.2.2.2 ∧ MK hi
/-- what always holds of a speaker, a text, a folk, a sheet, a slot -/
def WP (p : ASp) : Prop := (∃ k, k < 6 ∧ p.1 = nI k) ∧ WEar p ∧ p.2.2.2.2.length ≤ 12 ∧ ∀ w ∈ p.2.2.2.2, isw w
def WT (t : AT) : Prop := wfp t.2.2 ∧ (∀ c ∈ t.2.2, okc c) ∧ (t.1 = 0 ∨ ∀ c ∈ t.2.2, c ≠ -3)
def WA (f : AF) : Prop := f.1.length ≤ 8 ∧ (∀ p ∈ f.1, WP p) ∧ (∀ t ∈ txo f, WT t)
def WD (f : AF) : Prop := ∃ n, n ≤ 9999 ∧ f.2.2.2.2.1 = nI n
def WH (t : AH) : Prop := (t.1 = -1 ∨ t.1 = 0 ∨ t.1 = 1) ∧ t.2.length ≤ 24
def WL (l : ASl) : Prop := (l.1 = 0 ∨ l.1 = 1 ∨ l.1 = 2 ∨ l.1 = 3) ∧ l.2.2.2.length ≤ 24 ∧ (l.1 = 1 → ∃ k, k < 6 ∧ l.2.1 = nI k)
def WI (s : St) : Prop := WA s.1 ∧ WD s.1 ∧ WA s.2.1 ∧ WD s.2.1 ∧ (txo s.2.1).length ≤ (txo s.1).length ∧ (s.2.2.1 = 0 ∨ s.2.2.1 = 1) ∧ (s.2.2.2.1.length ≤ 96 ∧ ∀ b ∈ s.2.2.2.1, ∃ n, n < 256 ∧ b = nI n) ∧ (∀ i, i < 4 → WH (s.2.2.2.2.1 i)) ∧ (∀ i, i < 5 → WL (s.2.2.2.2.2.1 i)) ∧ s.2.2.2.2.2.2.length ≤ 60
theorem WA.wf {f : AF} (h : WA f) : WF f := ⟨h.1, fun p hp => ⟨(h.2.1 p hp).2.1, (h.2.1 p hp).2.2.1⟩⟩
theorem WA.wv {f : AF} (h : WA f) : WV f := fun p hp w hw => ((h.2.1 p hp).2.2.2 w hw).1
theorem WA.wx {f : AF} (h : WA f) : WX (txo f) := fun t ht => ⟨(h.2.2 t ht).1, (h.2.2 t ht).2.1⟩
theorem WA.l24 {f : AF} (h : WA f) : ∀ p ∈ f.1, p.2.2.2.2.length ≤ 24 := fun p hp => by have := (h.2.1 p hp).2.2.1; omega
theorem WA.at {f : AF} {i : Nat} (h : WA f) (hi8 : i < f.1.length) : WP (spa f i) := h.2.1 _ (List.mem_of_getElem? (spa_at hi8))
/-- what a call of the class, or of the model, may write -/
def PE : Nat → Nat → Prop := fun q _ => 16 ≤ q ∧ q < 141
def PQ : Nat → Nat → Prop := fun q _ => 141 ≤ q
def EP (hi : pm_B) (r : St × Int32) (Q : pm_Q) : Prop := ∀ hi', Fr PE hi hi' → CI hi' r.1 → Q (some (.inl r.2)) hi'
def MP (hi : pm_B) (r : St × Int32) (Q : pm_Q) : Prop := ∀ hi', Fr PQ hi hi' → MI hi' r.1 → Q (some (.inl r.2)) hi'
theorem CL.kept {hi hi' : pm_B} {i : Nat} {l : ASl} (h : CL hi i l) (hk : ∀ q j, 122 + 3 * i ≤ q → q < 125 + 3 * i → hi' q j = hi q j) : CL hi' i l := by
  obtain ⟨a, b, c, d⟩ := h
  refine ⟨(hk _ _ (by omega) (by omega)).trans a, fun e => ⟨(hk _ _ (by omega) (by omega)).trans (b e).1, (hk _ _ (by omega) (by omega)).trans (b e).2⟩, fun e => ⟨(hk _ _ (by omega) (by omega)).trans (c e).1, (c e).2.to (fun k _ => hk _ _ (by omega) (by omega))⟩, fun e => (hk _ _ (by omega) (by omega)).trans (d e)⟩
theorem CH.kept {hi hi' : pm_B} {T : Nat} {t : AH} (h : CH hi T t) (hk : ∀ q j, T ≤ q → q < T + 2 → hi' q j = hi q j) : CH hi' T t :=
  ⟨(hk _ _ (by omega) (by omega)).trans h.1, (hk _ _ (by omega) (by omega)).trans h.2.1, h.2.2.to (fun k _ => hk _ _ (by omega) (by omega))⟩
/-- the class's cells that are free, beside the folk's now -/
def PN (q : Nat) : Prop := q = 49 ∨ (50 ≤ q ∧ q < 69) ∨ (88 ≤ q ∧ q < 107) ∨ (137 ≤ q ∧ q < 140)
theorem CI.now {hi hi' : pm_B} {s : St} {f : AF} (h : CI hi s) (hW : WI s) (hk : ∀ q j, q < 141 → ¬ PN q → hi' q j = hi q j) (hf : CF hi' 50 f) (ht : txo f = txo s.1) : CI hi' (f, s.2) := by
  obtain ⟨a1, a2, a3, a4, a5, a6, a7, a8, a9, a10⟩ := h
  have k : ∀ q j, q < 141 ∧ ¬ (q = 49 ∨ (50 ≤ q ∧ q < 69) ∨ (88 ≤ q ∧ q < 107) ∨ (137 ≤ q ∧ q < 140)) → hi' q j = hi q j := fun q j c => hk q j c.1 c.2
  refine ⟨hf, a2.kept hW.2.2.1.1 (fun q j u v => k q j (by omega)), ?_, a4.kept (fun q j u v => k q j (by omega)), (k _ _ (by omega)).trans a5, ⟨(k _ _ (by omega)).trans a6.1, a6.2.to (fun j _ => k _ _ (by omega))⟩, fun i hi4 => (a7 i hi4).kept (fun q j u v => k q j (by omega)), fun i hi5 => (a8 i hi5).kept (fun q j u v => k q j (by omega)), ⟨(k _ _ (by omega)).trans a9.1, a9.2.to (fun j _ => k _ _ (by omega))⟩, fun q j u v => (k q j (by omega)).trans (a10 q j u v)⟩
  show CX hi' (txo f)
  rw [ht]
  exact a3.kept (fun q j u v => k q j (by omega))
theorem CI.same {hi hi' : pm_B} {s : St} (h : CI hi s) (hW : WI s) (hk : ∀ q j, q < 141 → ¬ (q = 49 ∨ (88 ≤ q ∧ q < 107) ∨ (137 ≤ q ∧ q < 140)) → hi' q j = hi q j) : CI hi' s :=
  h.now (f := s.1) hW (fun q j hq hn => hk q j hq (fun hh => hn (by unfold PN; omega))) (h.1.kept hW.1.1 (fun q j u v => hk q j (by omega) (by omega))) rfl
/-- the model's cells that are free -/
def PL (q j : Nat) : Prop := (q = 142 ∧ (j < 239 ∨ 1611 ≤ j)) ∨ (q = 141 ∧ (j = 5 ∨ j = 7)) ∨ q = 144 ∨ q = 145 ∨ q = 146 ∨ q = 147 ∨ q = 148 ∨ q = 155 ∨ q = 156
theorem MX.kept' {r r' : Nat → Int32} {txs : List AT} (h : MX r txs) (hk : ∀ j, 239 ≤ j → j < 1611 → r' j = r j) : MX r' txs := by
  refine ⟨h.1, fun i t ht => ?_⟩
  have hi14 := (List.getElem?_eq_some_iff.mp ht).1
  have hl := h.1
  obtain ⟨K, a, b, c, d, e, f⟩ := h.2 i t ht
  refine ⟨K, a, b, c, (hk _ (by omega) (by omega)).trans d, (hk _ (by omega) (by omega)).trans e, f.to (fun k hk' => ?_)⟩
  rw [List.length_map] at hk'
  exact hk _ (by omega) (by omega)
theorem ML.kept {hi hi' : pm_B} {i : Nat} {l : ASl} (h : ML hi i l) (hk : ∀ q j, 160 ≤ q → q < 164 → hi' q j = hi q j) : ML hi' i l := by
  obtain ⟨a, b, c, d⟩ := h
  refine ⟨(hk _ _ (by omega) (by omega)).trans a, fun e => ⟨(hk _ _ (by omega) (by omega)).trans (b e).1, (hk _ _ (by omega) (by omega)).trans (b e).2⟩, fun e => ⟨(hk _ _ (by omega) (by omega)).trans (c e).1, (c e).2.to (fun k _ => hk _ _ (by omega) (by omega))⟩, fun e => (hk _ _ (by omega) (by omega)).trans (d e)⟩
theorem MH.kept {hi hi' : pm_B} {i : Nat} {t : AH} (h : MH hi i t) (hk : ∀ q j, 157 ≤ q → q < 160 → hi' q j = hi q j) : MH hi' i t :=
  ⟨(hk _ _ (by omega) (by omega)).trans h.1, (hk _ _ (by omega) (by omega)).trans h.2.1, h.2.2.to (fun k _ => hk _ _ (by omega) (by omega))⟩
theorem MI.now {hi hi' : pm_B} {s : St} {f : AF} (h : MI hi s) (hW : WI s) (hk : ∀ q j, 141 ≤ q → ¬ PL q j → hi' q j = hi q j) (hf : MF (hi' 142) f) (ht : txo f = txo s.1) : MI hi' (f, s.2) := by
  obtain ⟨a1, a2, a3, a4, a5, a6, a7, a8, a9, a10⟩ := h
  have k : ∀ q j, 141 ≤ q ∧ ¬ ((q = 142 ∧ (j < 239 ∨ 1611 ≤ j)) ∨ (q = 141 ∧ (j = 5 ∨ j = 7)) ∨ q = 144 ∨ q = 145 ∨ q = 146 ∨ q = 147 ∨ q = 148 ∨ q = 155 ∨ q = 156) → hi' q j = hi q j := fun q j c => hk q j c.1 c.2
  refine ⟨hf, fun hz => (a2 hz).kept hW.2.2.1.l24 hW.2.2.1.1 (fun j u => k _ j (by omega)), ?_, a4.kept' (fun j u v => k _ j (by omega)), (k _ _ (by omega)).trans a5, ⟨(k _ _ (by omega)).trans a6.1, a6.2.to (fun j _ => k _ _ (by omega))⟩, fun i hi4 => (a7 i hi4).kept (fun q j u v => k q j (by omega)), fun i hi5 => (a8 i hi5).kept (fun q j u v => k q j (by omega)), ⟨(k _ _ (by omega)).trans a9.1, a9.2.to (fun j _ => k _ _ (by omega))⟩, fun q j u => (k q j (by omega)).trans (a10 q j u)⟩
  show MX (hi' 142) (txo f)
  rw [ht]
  exact a3.kept' (fun j u v => k _ j (by omega))
theorem MI.same {hi hi' : pm_B} {s : St} (h : MI hi s) (hW : WI s) (hk : ∀ q j, 141 ≤ q → ¬ ((q = 141 ∧ (j = 5 ∨ j = 7)) ∨ q = 144 ∨ q = 145 ∨ q = 146 ∨ q = 147 ∨ q = 148 ∨ q = 155 ∨ q = 156) → hi' q j = hi q j) : MI hi' s :=
  h.now (f := s.1) hW (fun q j hq hn => hk q j hq (fun hh => hn (by unfold PL; omega))) (h.1.kept hW.1.l24 hW.1.1 (fun j u => hk _ j (by omega) (by omega))) rfl
/-- beside the other's cells, each holds on -/
theorem CI.beside {hi hi' : pm_B} {s : St} (h : CI hi s) (hW : WI s) (hf : Fr PQ hi hi') : CI hi' s := h.same hW (fun q j hq _ => hf q j (by unfold PQ; omega))
theorem MI.beside {hi hi' : pm_B} {s : St} (h : MI hi s) (hW : WI s) (hf : Fr PE hi hi') : MI hi' s := h.same hW (fun q j hq _ => hf q j (by unfold PE; omega))
theorem EP.same {hi : pm_B} {s : St} {v : Int32} {Q : pm_Q} (h : EP hi (s, v) Q) (hC : CI hi s) : Q (some (.inl v)) hi := h hi Fr.rf hC
theorem MP.same {hi : pm_B} {s : St} {v : Int32} {Q : pm_Q} (h : MP hi (s, v) Q) (hM : MI hi s) : Q (some (.inl v)) hi := h hi Fr.rf hM
