/-! ===== what always holds is kept by all that is done ===== -/
theorem WA.spu {f : AF} {i : Nat} {p : ASp} (h : WA f) (hp : WP p) : WA (spu f i p) := by
  refine ⟨?_, fun q hq => ?_, h.2.2⟩
  · show (f.1.set i p).length ≤ 8
    rw [List.length_set]; exact h.1
  · rcases List.mem_or_eq_of_mem_set hq with h1 | h1
    · exact h.2.1 q h1
    · rw [h1]; exact hp
theorem WA.enter {f : AF} {k e m : Int32} (h : WA f) (hk : ∃ n, n < 6 ∧ k = nI n) (he : ∃ n : Nat, e = nI n ∧ 1 ≤ n ∧ n ≤ 9) : WA (aenter f k e m) := by
  obtain ⟨sps, talk, spoken, lost, day, z, txs⟩ := f
  unfold aenter
  dsimp only
  by_cases h8 : sps.length < 8
  · rw [if_pos h8]
    refine ⟨?_, fun q hq => ?_, h.2.2⟩
    · show (sps ++ [_]).length ≤ 8
      rw [List.length_append, List.length_singleton]; omega
    · rcases List.mem_append.mp hq with h1 | h1
      · exact h.2.1 q h1
      · rw [List.mem_singleton.mp h1]
        exact ⟨hk, he, Nat.zero_le _, fun w hw => absurd hw (by simp)⟩
  · rw [if_neg h8]; exact h
theorem WA.cz {sps : List ASp} {talk spoken lost day z : Int32} {txs : List AT} (h : WA (sps, talk, spoken, lost, day, z, txs)) (talk' spoken' lost' day' z' : Int32) : WA (sps, talk', spoken', lost', day', z', txs) := ⟨h.1, h.2.1, h.2.2⟩
theorem WA.lot {f : AF} (h : WA f) : WA (alot f) := by
  obtain ⟨sps, talk, spoken, lost, day, z, txs⟩ := f
  unfold alot
  dsimp only
  refine (h.cz talk spoken lost day _).enter ⟨_, Nat.mod_lt _ (by omega), rfl⟩ ⟨1 + drN (zn z) % 9, nI_add 1 _, by omega, ?_⟩
  have := Nat.mod_lt (drN (zn z)) (show 0 < 9 by omega)
  omega
theorem aleft_12 {kp : Nat → Int32} (hk : ∀ n, kp n ≤ 12) : ∀ n, n < 1000 → aleft kp n ≤ 12
  | 0, _ => Nat.zero_le _
  | n + 1, hn => by
    unfold aleft
    by_cases h : nI (n + 1) ≤ kp (n + 1)
    · rw [if_pos h]
      have h2 : nI (n + 1) ≤ nI 12 := Int32.le_trans h (hk _)
      exact (nI_leI (by omega) (by omega)).mp h2
    · rw [if_neg h]
      exact aleft_12 hk n (by omega)
theorem WP.hears {txs : List AT} {p : ASp} {row : List Int32} (h : WP p) (hr : ∀ w ∈ row, isw w) : WP (ahears txs p row) := by
  obtain ⟨hk, he, hl, hw⟩ := h
  have ht := (takes_eq he).2
  have hlen : (ahw p row).length ≤ 23 := by
    unfold ahw
    rw [List.length_append, List.length_take]
    omega
  refine ⟨hk, he, ?_, fun w hm => ?_⟩
  · show ((ahw p row).drop (ahl txs p row)).length ≤ 12
    rw [List.length_drop]
    have h1 := aleft_12 (kp := akeeps txs p) (fun n => (akeeps_in txs p n).2) (ahw p row).length (by omega)
    have h2 := aleft_le (akeeps txs p) (ahw p row).length
    unfold ahl
    omega
  · have hm := List.mem_of_mem_drop hm
    rcases List.mem_append.mp hm with h1 | h1
    · exact hw w h1
    · exact hr w (List.mem_of_mem_take h1)
theorem arow_W {p : ASp} {k : Nat} (h : WP p) : ∀ w ∈ arow p k, isw w := fun w hw => h.2.2.2 w (List.mem_of_mem_drop (List.mem_of_mem_take hw))
theorem WA.say {f : AF} {i j k : Nat} (h : WA f) : WA (asay f i j k) := by
  obtain ⟨sps, talk, spoken, lost, day, z, txs⟩ := f
  unfold asay
  dsimp only
  cases hi : sps[i]? with
  | none => exact h
  | some p =>
    cases hj : sps[j]? with
    | none => exact h
    | some q =>
      dsimp only
      have wp := h.2.1 p (List.mem_of_getElem? hi)
      have wq := h.2.1 q (List.mem_of_getElem? hj)
      refine ⟨?_, fun r hr => ?_, h.2.2⟩
      · show ((sps.set j _).set i _).length ≤ 8
        rw [List.length_set, List.length_set]; exact h.1
      · rcases List.mem_or_eq_of_mem_set hr with h1 | h1
        · rcases List.mem_or_eq_of_mem_set h1 with h2 | h2
          · exact h.2.1 r h2
          · rw [h2]; exact wq.hears (arow_W wp)
        · rw [h1]; exact ⟨wp.1, wp.2.1, wp.2.2.1, wp.2.2.2⟩
theorem txo_say {f : AF} {i j k : Nat} : txo (asay f i j k) = txo f ∧ (asay f i j k).2.2.2.2.1 = f.2.2.2.2.1 ∧ (asay f i j k).1.length = f.1.length := by
  obtain ⟨sps, talk, spoken, lost, day, z, txs⟩ := f
  unfold asay
  dsimp only
  cases hi : sps[i]? with
  | none => exact ⟨rfl, rfl, rfl⟩
  | some p =>
    cases hj : sps[j]? with
    | none => exact ⟨rfl, rfl, rfl⟩
    | some q => exact ⟨rfl, rfl, by dsimp only; rw [List.length_set, List.length_set]⟩
theorem tail_all {f : AF} {i j : Nat} (h : WA f) : WA (atail f i j) ∧ txo (atail f i j) = txo f ∧ (atail f i j).2.2.2.2.1 = f.2.2.2.2.1 ∧ (atail f i j).1.length = f.1.length := by
  obtain ⟨sps, talk, spoken, lost, day, z, txs⟩ := f
  unfold atail
  dsimp only
  cases hi : sps[i]? with
  | none => exact ⟨h, rfl, rfl, rfl⟩
  | some p =>
    dsimp only
    have h1 := h.cz talk spoken lost day (zn z)
    generalize drN z = m
    generalize zn z = z' at h1 ⊢
    by_cases h0 : p.2.2.2.2.length = 0
    · rw [if_pos h0]; exact ⟨h, rfl, rfl, rfl⟩
    · rw [if_neg h0]
      obtain ⟨a, b, c⟩ := txo_say (f := (sps, talk, spoken, lost, day, z', txs)) (i := i) (j := j) (k := m % p.2.2.2.2.length)
      exact ⟨h1.say, a, b, c⟩
theorem day_all {f : AF} (h : WA f) : WA (aday f) ∧ txo (aday f) = txo f ∧ (aday f).2.2.2.2.1 = f.2.2.2.2.1 + 1 ∧ (aday f).1.length = f.1.length := by
  obtain ⟨sps, talk, spoken, lost, day, z, txs⟩ := f
  unfold aday
  dsimp only
  generalize drN z % 100 = a
  generalize drN (zn z) % sps.length = b
  generalize drN (zn (zn z)) % (sps.length - 1) = c
  have h1 := fun z' => h.cz talk spoken lost (day + 1) z'
  have h2 := h1 (zn z)
  have h3 := h1 (zn (zn (zn z)))
  clear h1
  generalize zn (zn (zn z)) = z3 at h3 ⊢
  generalize zn z = z1 at h2 ⊢
  by_cases c1 : talk ≤ nI a
  · rw [if_pos c1]; exact ⟨h2, rfl, rfl, rfl⟩
  · rw [if_neg c1]
    by_cases c2 : sps.length < 2
    · rw [if_pos c2]; exact ⟨h2, rfl, rfl, rfl⟩
    · rw [if_neg c2]; exact tail_all h3
/-- n days -/
def adays : Nat → AF → AF
  | 0, f => f
  | n + 1, f => adays n (aday f)
theorem days_all {n : Nat} : ∀ {f : AF}, WA f → WA (adays n f) ∧ txo (adays n f) = txo f ∧ (adays n f).1.length = f.1.length := by
  induction n with
  | zero => exact fun h => ⟨h, rfl, rfl⟩
  | succ n ih =>
    intro f h
    obtain ⟨a, b, c, d⟩ := day_all h
    obtain ⟨a', b', c'⟩ := ih a
    exact ⟨a', b'.trans b, c'.trans d⟩
theorem days_day {n : Nat} : ∀ {f : AF} {m : Nat}, WA f → f.2.2.2.2.1 = nI m → (adays n f).2.2.2.2.1 = nI (m + n) := by
  induction n with
  | zero => exact fun _ h => h
  | succ n ih =>
    intro f m h hm
    obtain ⟨a, b, c, d⟩ := day_all h
    rw [adays, ih (m := m + 1) a (by rw [c, hm, nI_1])]
    congr 1
    omega
theorem adays_snoc {n : Nat} : ∀ {f : AF}, adays (n + 1) f = aday (adays n f) := by
  induction n with
  | zero => exact fun {f} => rfl
  | succ n ih =>
    intro f
    rw [adays, ih]
    rfl
/-- some enter by lot, as long as there is room -/
def adeal : Nat → AF → AF
  | 0, f => f
  | n + 1, f => if f.1.length < 8 then adeal n (alot f) else f
theorem lot_all {f : AF} (h : f.1.length < 8) : (alot f).1.length = f.1.length + 1 ∧ txo (alot f) = txo f ∧ (alot f).2.2.2.2.1 = f.2.2.2.2.1 := by
  obtain ⟨sps, talk, spoken, lost, day, z, txs⟩ := f
  unfold alot
  dsimp only at h ⊢
  generalize drN z % 6 = a
  generalize drN (zn z) % 9 = b
  generalize drN (zn (zn z)) % 100 = c
  generalize zn (zn (zn z)) = z3
  unfold aenter
  dsimp only
  rw [if_pos h]
  exact ⟨by rw [List.length_append]; rfl, rfl, rfl⟩
theorem deal_all {n : Nat} : ∀ {f : AF}, WA f → WA (adeal n f) ∧ txo (adeal n f) = txo f ∧ (adeal n f).2.2.2.2.1 = f.2.2.2.2.1 := by
  induction n with
  | zero => exact fun h => ⟨h, rfl, rfl⟩
  | succ n ih =>
    intro f h
    unfold adeal
    by_cases h8 : f.1.length < 8
    · rw [if_pos h8]
      obtain ⟨a, b, c⟩ := ih h.lot
      obtain ⟨_, b', c'⟩ := lot_all h8
      exact ⟨a, b.trans b', c.trans c'⟩
    · rw [if_neg h8]; exact ⟨h, rfl, rfl⟩
