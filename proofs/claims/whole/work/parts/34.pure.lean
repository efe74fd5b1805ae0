/-! ===== what always holds is kept by all that is done ===== -/
theorem WA.spu {f : AF} {i : Nat} {p : ASp} (h : WA f) (hp : WP p) : WA (spu f i p) := by
  refine ⟨?_, fun q hq => ?_, h.2.2⟩
  · show (f.1.set i p).length ≤ 8
    rw [List.length_set]; exact h.1
  · rcases List.mem_or_eq_of_mem_set hq with h1 | h1
    · exact h.2.1 q h1
    · rw [h1]; exact hp
theorem WA.enter {f : AF} {k e m : Int32} (h : WA f) (hk : ∃ n, n < 6 ∧ k = nI n) (he : ∃ n : Nat, e = nI n ∧ 1 ≤ n ∧ n ≤ 9) : WA (aenter f k e m) := by
  obtain ⟨sps, talk, spoken, lost, day, z, txs⟩ := f
  unfold aenter
  dsimp only
  by_cases h8 : sps.length < 8
  · rw [if_pos h8]
    refine ⟨?_, fun q hq => ?_, h.2.2⟩
    · show (sps ++ [_]).length ≤ 8
      rw [List.length_append, List.length_singleton]; omega
    · rcases List.mem_append.mp hq with h1 | h1
      · exact h.2.1 q h1
      · rw [List.mem_singleton.mp h1]
        exact ⟨hk, he, Nat.zero_le _, fun w hw => absurd hw (by simp)⟩
  · rw [if_neg h8]; exact h
theorem WA.cz {sps : List ASp} {talk spoken lost day z : Int32} {txs : List AT} (h : WA (sps, talk, spoken, lost, day, z, txs)) (talk' spoken' lost' day' z' : Int32) : WA (sps, talk', spoken', lost', day', z', txs) := ⟨h.1, h.2.1, h.2.2⟩
theorem WA.lot {f : AF} (h : WA f) : WA (alot f) := by
  obtain ⟨sps, talk, spoken, lost, day, z, txs⟩ := f
  unfold alot
  dsimp only
  refine (h.cz talk spoken lost day _).enter ⟨_, Nat.mod_lt _ (by omega), rfl⟩ ⟨1 + drN (zn z) % 9, nI_add 1 _, by omega, ?_⟩
  have := Nat.mod_lt (drN (zn z)) (show 0 < 9 by omega)
  omega
theorem aleft_12 {kp : Nat → Int32} (hk : ∀ n, kp n ≤ 12) : ∀ n, n < 1000 → aleft kp n ≤ 12
  | 0, _ => Nat.zero_le _
  | n + 1, hn => by
    unfold aleft
    by_cases h : nI (n + 1) ≤ kp (n + 1)
    · rw [if_pos h]
      have h2 : nI (n + 1) ≤ nI 12 := Int32.le_trans h (hk _)
      exact (nI_leI (by omega) (by omega)).mp h2
    · rw [if_neg h]
      exact aleft_12 hk n (by omega)
theorem WP.hears {txs : List AT} {p : ASp} {row : List Int32} (h : WP p) (hr : ∀ w ∈ row, isw w) : WP (ahears txs p row) := by
  obtain ⟨hk, he, hl, hw⟩ := h
  have ht := (takes_eq he).2
  have hlen : (ahw p row).length ≤ 23 := by
    unfold ahw
    rw [List.length_append, List.length_take]
    omega
  refine ⟨hk, he, ?_, fun w hm => ?_⟩
  · show ((ahw p row).drop (ahl txs p row)).length ≤ 12
    rw [List.length_drop]
    have h1 := aleft_12 (kp := akeeps txs p) (fun n => (akeeps_in txs p n).2) (ahw p row).length (by omega)
    have h2 := aleft_le (akeeps txs p) (ahw p row).length
    unfold ahl
    omega
  · have hm := List.mem_of_mem_drop hm
    rcases List.mem_append.mp hm with h1 | h1
    · exact hw w h1
    · exact hr w (List.mem_of_mem_take h1)
theorem arow_W {p : ASp} {k : Nat} (h : WP p) : ∀ w ∈ arow p k, isw w := fun w hw => h.2.2.2 w (List.mem_of_mem_drop (List.mem_of_mem_take hw))
theorem WA.say {f : AF} {i j k : Nat} (h : WA f) : WA (asay f i j k) := by
  obtain ⟨sps, talk, spoken, lost, day, z, txs⟩ := f
  unfold asay
  dsimp only
  cases hi : sps[i]? with
  | none => exact h
  | some p =>
    cases hj : sps[j]? with
    | none => exact h
    | some q =>
      dsimp only
      have wp := h.2.1 p (List.mem_of_getElem? hi)
      have wq := h.2.1 q (List.mem_of_getElem? hj)
      refine ⟨?_, fun r hr => ?_, h.2.2⟩
      · show ((sps.set j _).set i _).length ≤ 8
        rw [List.length_set, List.length_set]; exact h.1
      · rcases List.mem_or_eq_of_mem_set hr with h1 | h1
        · rcases List.mem_or_eq_of_mem_set h1 with h2 | h2
          · exact h.2.1 r h2
          · rw [h2]; exact wq.hears (arow_W wp)
        · rw [h1]; exact ⟨wp.1, wp.2.1, wp.2.2.1, wp.2.2.2⟩
theorem txo_say {f : AF} {i j k : Nat} : txo (asay f i j k) = txo f ∧ (asay f i j k).2.2.2.2.1 = f.2.2.2.2.1 ∧ (asay f i j k).1.length = f.1.length := by
  obtain ⟨sps, talk, spoken, lost, day, z, txs⟩ := f
  unfold asay
  dsimp only
  cases hi : sps[i]? with
  | none => exact ⟨rfl, rfl, rfl⟩
  | some p =>
    cases hj : sps[j]? with
    | none => exact ⟨rfl, rfl, rfl⟩
    | some q => exact ⟨rfl, rfl, by dsimp only; rw [List.length_set, List.length_set]⟩
/-- beside f, g has the same texts, as many speakers, and the day d -/
def okf (n : Nat) (txs : List AT) (day : Int32) (g : AF) : Prop := WA g ∧ txo g = txs ∧ g.2.2.2.2.1 = day ∧ g.1.length = n
theorem okf_say {sps : List ASp} {talk spoken lost day z : Int32} {txs : List AT} {i j k : Nat} (h : WA (sps, talk, spoken, lost, day, z, txs)) : okf sps.length txs day (asay (sps, talk, spoken, lost, day, z, txs) i j k) := by
  obtain ⟨a, b, c⟩ := txo_say (f := (sps, talk, spoken, lost, day, z, txs)) (i := i) (j := j) (k := k)
  exact ⟨h.say, a, b, c⟩
theorem okf_self {sps : List ASp} {talk spoken lost day z : Int32} {txs : List AT} (h : WA (sps, talk, spoken, lost, day, z, txs)) : okf sps.length txs day (sps, talk, spoken, lost, day, z, txs) := ⟨h, rfl, rfl, rfl⟩
theorem okf_tail0 {sps : List ASp} {talk spoken lost day z z' : Int32} {txs : List AT} {i j m : Nat} (h : WA (sps, talk, spoken, lost, day, z, txs)) : okf sps.length txs day (match sps[i]? with
    | none => (sps, talk, spoken, lost, day, z, txs)
    | some p => if p.2.2.2.2.length = 0 then (sps, talk, spoken, lost, day, z, txs) else asay (sps, talk, spoken, lost, day, z', txs) i j (m % p.2.2.2.2.length)) := by
  cases sps[i]? with
  | none => exact okf_self h
  | some p =>
    dsimp only
    by_cases h0 : p.2.2.2.2.length = 0
    · rw [if_pos h0]; exact okf_self h
    · rw [if_neg h0]; exact okf_say (h.cz talk spoken lost day z')
theorem okf_tail {sps : List ASp} {talk spoken lost day z : Int32} {txs : List AT} {i j : Nat} (h : WA (sps, talk, spoken, lost, day, z, txs)) : okf sps.length txs day (atail (sps, talk, spoken, lost, day, z, txs) i j) := okf_tail0 (z' := zn z) (m := drN z) h
theorem okf_day0 {sps : List ASp} {talk spoken lost day z z1 z3 : Int32} {txs : List AT} {a b c : Nat} (h : WA (sps, talk, spoken, lost, day, z, txs)) : okf sps.length txs (day + 1) (if talk ≤ nI a then (sps, talk, spoken, lost, day + 1, z1, txs)
    else if sps.length < 2 then (sps, talk, spoken, lost, day + 1, z1, txs)
    else atail (sps, talk, spoken, lost, day + 1, z3, txs) b c) := by
  by_cases c1 : talk ≤ nI a
  · rw [if_pos c1]; exact okf_self (h.cz talk spoken lost (day + 1) z1)
  · rw [if_neg c1]
    by_cases c2 : sps.length < 2
    · rw [if_pos c2]; exact okf_self (h.cz talk spoken lost (day + 1) z1)
    · rw [if_neg c2]; exact okf_tail (h.cz talk spoken lost (day + 1) z3)
theorem okf_day {sps : List ASp} {talk spoken lost day z : Int32} {txs : List AT} (h : WA (sps, talk, spoken, lost, day, z, txs)) : okf sps.length txs (day + 1) (aday (sps, talk, spoken, lost, day, z, txs)) := okf_day0 h
theorem day_all {f : AF} (h : WA f) : WA (aday f) ∧ txo (aday f) = txo f ∧ (aday f).2.2.2.2.1 = f.2.2.2.2.1 + 1 ∧ (aday f).1.length = f.1.length := by
  obtain ⟨sps, talk, spoken, lost, day, z, txs⟩ := f
  have := okf_day h
  generalize aday (sps, talk, spoken, lost, day, z, txs) = g at this ⊢
  exact this
/-- n times -/
def itr (g : AF → AF) (n : Nat) (f : AF) : AF := Nat.rec f (fun _ x => g x) n
theorem itr_succ (g : AF → AF) (n : Nat) (f : AF) : itr g (n + 1) f = g (itr g n f) := rfl
theorem itr_zero (g : AF → AF) (f : AF) : itr g 0 f = f := rfl
/-- n days -/
def adays (n : Nat) (f : AF) : AF := itr aday n f
theorem adays_snoc {n : Nat} {f : AF} : adays (n + 1) f = aday (adays n f) := itr_succ aday n f
theorem adays_zero {f : AF} : adays 0 f = f := itr_zero aday f
theorem days_all {n : Nat} {f : AF} (h : WA f) : WA (adays n f) ∧ txo (adays n f) = txo f ∧ (adays n f).1.length = f.1.length := by
  induction n with
  | zero => rw [adays_zero]; exact ⟨h, rfl, rfl⟩
  | succ n ih =>
    obtain ⟨a', b', c'⟩ := ih
    rw [adays_snoc]
    generalize adays n f = g at a' b' c' ⊢
    obtain ⟨a, b, c, d⟩ := day_all a'
    exact ⟨a, b.trans b', d.trans c'⟩
theorem days_day {n : Nat} {f : AF} {m : Nat} (h : WA f) (hm : f.2.2.2.2.1 = nI m) : (adays n f).2.2.2.2.1 = nI (m + n) := by
  induction n with
  | zero => rw [adays_zero]; exact hm
  | succ n ih =>
    obtain ⟨a', _, _⟩ := days_all (n := n) h
    rw [adays_snoc]
    generalize adays n f = g at a' ih ⊢
    rw [(day_all a').2.2.1, ih, nI_1]
    rfl
theorem lot_0 {sps : List ASp} {talk spoken lost day z : Int32} {txs : List AT} {a b c : Int32} (h : sps.length < 8) : (aenter (sps, talk, spoken, lost, day, z, txs) a b c).1.length = sps.length + 1 ∧ txo (aenter (sps, talk, spoken, lost, day, z, txs) a b c) = txs ∧ (aenter (sps, talk, spoken, lost, day, z, txs) a b c).2.2.2.2.1 = day := by
  unfold aenter
  dsimp only
  rw [if_pos h]
  exact ⟨by rw [List.length_append]; rfl, rfl, rfl⟩
theorem lot_all {f : AF} (h : f.1.length < 8) : (alot f).1.length = f.1.length + 1 ∧ txo (alot f) = txo f ∧ (alot f).2.2.2.2.1 = f.2.2.2.2.1 := by
  obtain ⟨sps, talk, spoken, lost, day, z, txs⟩ := f
  have := lot_0 (sps := sps) (talk := talk) (spoken := spoken) (lost := lost) (day := day) (z := zn (zn (zn z))) (txs := txs) (a := nI (drN z % 6)) (b := 1 + nI (drN (zn z) % 9)) (c := nI (drN (zn (zn z)) % 100)) h
  have e : alot (sps, talk, spoken, lost, day, z, txs) = aenter (sps, talk, spoken, lost, day, zn (zn (zn z)), txs) (nI (drN z % 6)) (1 + nI (drN (zn z) % 9)) (nI (drN (zn (zn z)) % 100)) := rfl
  rw [← e] at this
  generalize alot (sps, talk, spoken, lost, day, z, txs) = g at this ⊢
  exact this
/-- n enter by lot -/
def adeal (n : Nat) (f : AF) : AF := itr alot n f
theorem adeal_snoc {n : Nat} {f : AF} : adeal (n + 1) f = alot (adeal n f) := itr_succ alot n f
theorem adeal_zero {f : AF} : adeal 0 f = f := itr_zero alot f
theorem deal_all {n : Nat} {f : AF} (h : WA f) (hn : f.1.length + n ≤ 8) : WA (adeal n f) ∧ txo (adeal n f) = txo f ∧ (adeal n f).2.2.2.2.1 = f.2.2.2.2.1 ∧ (adeal n f).1.length = f.1.length + n := by
  induction n with
  | zero => rw [adeal_zero]; exact ⟨h, rfl, rfl, rfl⟩
  | succ n ih =>
    obtain ⟨a', b', c', d'⟩ := ih (by omega)
    rw [adeal_snoc]
    generalize adeal n f = g at a' b' c' d' ⊢
    obtain ⟨x, y, z⟩ := lot_all (f := g) (by omega)
    exact ⟨a'.lot, y.trans b', z.trans c', by omega⟩
