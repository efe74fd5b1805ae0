/-! ===== sayings (class side) ===== -/
def CY (hi : pm_B) (ws : List Int32) : Prop := hi 137 1 = nI ws.length ∧ Row (hi 138) ws
abbrev isw (w : Int32) : Prop := ¬ w < 0 ∧ ¬ 20 ≤ w
theorem isw_ne {w : Int32} (h : isw w) : ¬ w = (-1000000005) := fun e => h.1 (by rw [e]; decide)
def WY (ws : List Int32) : Prop := ws.length ≤ 12 ∧ ∀ w ∈ ws, isw w
/-- how many words two rows have the same at their heads -/
def cpl : List Int32 → List Int32 → Nat
  | a :: r, b :: s => if a = b then cpl r s + 1 else 0
  | _, _ => 0
theorem cpl_le : ∀ (a b : List Int32), cpl a b ≤ a.length ∧ cpl a b ≤ b.length
  | [], b => by cases b <;> simp [cpl]
  | x :: r, [] => by simp [cpl]
  | x :: r, y :: s => by
    have := cpl_le r s
    unfold cpl
    split
    · simp only [List.length_cons]; omega
    · omega
theorem cpl_nil (a : List Int32) : cpl a [] = 0 := by cases a <;> rfl
theorem sameWords_c {L d S a b : Nat} {ws : List Int32} {p : ASp} {hi : pm_B} {Q : pm_Q} (hS : pm_sk S) (hp : CS hi S p) (hl : p.2.2.2.2.length ≤ 24) (hY : CY hi ws) (hW : WY ws) (ha : a ≤ 24) (hb : b ≤ 24)
    (h : Q (some (.inl (nI (cpl (ws.drop a) (p.2.2.2.2.drop b))))) hi) : pm_C pm_g (SH L) HR (d + 2) m_Saying_sameWords [.inr 137, .inr S, .inl (nI a), .inl (nI b)] hi Q := by
  refine v_Saying_sameWords hS ?_
  have hl12 := hW.1
  have key : ∀ n k o, k + n = 12 → cpl (ws.drop a) (p.2.2.2.2.drop b) = k + cpl (ws.drop (a + k)) (p.2.2.2.2.drop (b + k)) → pm_W pm_g (SH L) HR (d + 1) pm_t52 6 [some (.inr 137), some (.inr S), some (.inl (nI a)), some (.inl (nI b)), some (.inl (nI k)), some (.inl (nI k)), o] [] hi Q := by
    intro n
    induction n with
    | zero =>
      intro k o hk hc
      refine v_Saying_sameWords_6 hS ⟨fun _ => ?_, fun hh => absurd (nI_le (a := 12) (by omega) (by omega)) hh⟩
      have := (cpl_le (ws.drop (a + k)) (p.2.2.2.2.drop (b + k))).1
      rw [List.length_drop] at this
      rw [hc, show cpl (ws.drop (a + k)) (p.2.2.2.2.drop (b + k)) = 0 by omega] at h
      exact h
    | succ n ih =>
      intro k o hk hc
      refine v_Saying_sameWords_6 hS ⟨fun hh => absurd hh (nI_ge (b := 12) (by omega) (by omega)), fun _ => ?_⟩
      rw [nI_add, nI_add, hY.1, hp.2.2.2.2.1]
      refine ⟨fun hh => absurd hh (nI_pos (by omega)), fun _ => ⟨fun hh => ?_, fun hh => ?_⟩⟩
      · have := (nI_leI (by omega) (by omega)).mp hh
        rw [List.drop_of_length_le this] at hc
        rw [hc] at h
        exact h
      · have hlt : a + k < ws.length := Nat.lt_of_not_le (fun h1 => hh (nI_le h1 (by omega)))
        refine ⟨fun _ => ⟨a + k, by omega, rfl, ?_⟩, fun h2 => absurd (nI_lt (b := 12) (by omega) (by omega)) h2⟩
        have hw := hW.2 _ (List.getElem_mem hlt)
        rw [hY.2.at hlt]
        refine ⟨fun h2 => absurd h2 (nI_pos (by omega)), fun _ => ⟨fun h2 => ⟨fun h3 => absurd h3 (isw_ne hw), fun _ => ?_⟩, fun h2 => ?_⟩⟩
        · have := (nI_leI (by omega) (by omega)).mp h2
          rw [List.drop_of_length_le this, cpl_nil] at hc
          rw [hc] at h
          exact h
        · have hlt2 : b + k < p.2.2.2.2.length := Nat.lt_of_not_le (fun h1 => h2 (nI_le h1 (by omega)))
          refine ⟨fun h3 => absurd h3 (nI_ge (b := 24) (by omega) (by omega)), fun _ => ⟨b + k, by omega, rfl, ?_⟩⟩
          rw [hp.2.2.2.2.2.at hlt2]
          rw [List.drop_eq_getElem_cons hlt, List.drop_eq_getElem_cons hlt2, cpl] at hc
          refine ⟨fun h3 => ?_, fun h3 => ?_⟩
          · rw [if_pos h3] at hc
            rw [nI_1]
            exact ih (k + 1) _ (by omega) (by rw [hc, Nat.add_assoc a, Nat.add_assoc b]; omega)
          · rw [if_neg h3] at hc
            rw [hc] at h
            exact h
  exact key 12 0 _ rfl (Nat.zero_add _).symm
/-- the most of the same words from a place of the saying on, over the first n places of what one heard -/
def lmx (ws hs : List Int32) (a : Nat) : Nat → Nat
  | 0 => 0
  | n + 1 => max (lmx ws hs a n) (cpl (ws.drop a) (hs.drop n))
theorem lmx_le (ws hs : List Int32) (a : Nat) : ∀ n, lmx ws hs a n ≤ ws.length - a
  | 0 => Nat.zero_le _
  | n + 1 => by
    have := lmx_le ws hs a n
    have := (cpl_le (ws.drop a) (hs.drop n)).1
    rw [List.length_drop] at this
    unfold lmx
    omega
theorem nI_max {a b : Nat} (ha : a < 2 ^ 31) (hb : b < 2 ^ 31) : (if nI a < nI b then nI b else nI a) = nI (max a b) := by
  by_cases h : a < b
  · rw [if_pos (nI_lt h hb), Nat.max_eq_right (by omega)]
  · rw [if_neg (nI_nlt (by omega) ha), Nat.max_eq_left (by omega)]
theorem nI_min {a b : Nat} (ha : a < 2 ^ 31) (hb : b < 2 ^ 31) : (if nI a < nI b then nI a else nI b) = nI (min a b) := by
  by_cases h : a < b
  · rw [if_pos (nI_lt h hb), Nat.min_eq_left (by omega)]
  · rw [if_neg (nI_nlt (by omega) ha), Nat.min_eq_right (by omega)]
/-- the longest piece from a place on -/
def lpc (ws : List Int32) (p : ASp) (a : Nat) : Nat := min (goesN p) (lmx ws p.2.2.2.2 a p.2.2.2.2.length)
theorem longestPiece_c {L d S a : Nat} {ws : List Int32} {p : ASp} {hi : pm_B} {Q : pm_Q} (hS : pm_sk S) (hp : CS hi S p) (hl : p.2.2.2.2.length ≤ 24) (hY : CY hi ws) (hW : WY ws) (ha : a ≤ 24)
    (h : Q (some (.inl (nI (lpc ws p a)))) hi) : pm_C pm_g (SH L) HR (d + 3) m_Saying_longestPiece [.inr 137, .inr S, .inl (nI a), .inl (nI (goesN p))] hi Q := by
  refine v_Saying_longestPiece (d := d + 2) hS ?_
  have hl12 := hW.1
  obtain ⟨g1, g2, g3⟩ := goes_eq p
  have key : ∀ n k, k + n = p.2.2.2.2.length → pm_W pm_g (SH L) HR (d + 2) pm_t51 6 [some (.inr 137), some (.inr S), some (.inl (nI a)), some (.inl (nI (goesN p))), some (.inl (nI (lmx ws p.2.2.2.2 a k))), some (.inl (nI k))] [] hi Q := by
    intro n
    induction n with
    | zero =>
      intro k hk
      have := lmx_le ws p.2.2.2.2 a k
      refine v_Saying_longestPiece_6 hS ?_
      rw [hp.2.2.2.2.1, nI_min (by omega) (by omega)]
      refine ⟨fun _ => ?_, fun hh => absurd (nI_le (by omega) (by omega)) hh⟩
      unfold lpc at h
      rw [Nat.add_zero] at hk
      rw [hk]
      exact h
    | succ n ih =>
      intro k hk
      have h1 := lmx_le ws p.2.2.2.2 a k
      have h2 := (cpl_le (ws.drop a) (p.2.2.2.2.drop k)).2
      rw [List.length_drop] at h2
      refine v_Saying_longestPiece_6 hS ?_
      rw [hp.2.2.2.2.1]
      refine ⟨fun hh => absurd hh (nI_ge (by omega) (by omega)), fun _ => ?_⟩
      refine sameWords_c (d := d) hS hp hl hY hW ha (by omega) ⟨_, rfl, ?_⟩
      rw [nI_max (by omega) (by omega), nI_1]
      exact ih (k + 1) (by omega)
  exact key _ 0 (Nat.zero_add _)
/-- breaths: the longest piece each time -/
def abr (ws : List Int32) (p : ASp) : Nat → Nat → Nat → Option Nat
  | 0, _, br => some br
  | n + 1, a, br => if ws.length ≤ a then some br else if lpc ws p a = 0 then none else abr ws p n (a + lpc ws p a) (br + 1)
def abreaths (ws : List Int32) (p : ASp) : Int32 := match abr ws p 12 0 0 with
  | none => -1000000005
  | some b => nI b
theorem breathsOf_c {L d S : Nat} {ws : List Int32} {p : ASp} {hi : pm_B} {Q : pm_Q} (hS : pm_sk S) (hp : CS hi S p) (hl : p.2.2.2.2.length ≤ 24) (hY : CY hi ws) (hW : WY ws)
    (h : Q (some (.inl (abreaths ws p))) hi) : pm_C pm_g (SH L) HR (d + 4) m_Saying_breathsOf [.inr 137, .inr S] hi Q := by
  refine v_Saying_breathsOf (d := d + 2) hS ?_
  have hl12 := hW.1
  obtain ⟨g1, g2, g3⟩ := goes_eq p
  rw [hp.1, g1]
  have key : ∀ n k a br o, k + n = 12 → a ≤ 12 → abr ws p n a br = abr ws p 12 0 0 → pm_W pm_g (SH L) HR (d + 3) pm_t50 16 [some (.inr 137), some (.inr S), some (.inl (nI (goesN p))), some (.inl (nI br)), some (.inl (nI a)), some (.inl (nI k)), o] [] hi Q := by
    intro n
    induction n with
    | zero =>
      intro k a br o hk ha hb
      refine v_Saying_breathsOf_16 hS ⟨fun _ => ?_, fun hh => absurd (nI_le (a := 12) (by omega) (by omega)) hh⟩
      unfold abreaths at h
      rw [← hb] at h
      exact h
    | succ n ih =>
      intro k a br o hk ha hb
      refine v_Saying_breathsOf_16 hS ⟨fun hh => absurd hh (nI_ge (b := 12) (by omega) (by omega)), fun _ => ?_⟩
      rw [hY.1]
      rw [abr] at hb
      refine ⟨fun hh => ?_, fun hh => ?_⟩
      · rw [if_pos ((nI_leI (by omega) (by omega)).mp hh)] at hb
        unfold abreaths at h
        rw [← hb] at h
        exact h
      · have hlt : a < ws.length := Nat.lt_of_not_le (fun h1 => hh (nI_le h1 (by omega)))
        rw [if_neg (by omega)] at hb
        have h1 := lmx_le ws p.2.2.2.2 a p.2.2.2.2.length
        have h2 : lpc ws p a ≤ ws.length - a := by unfold lpc; omega
        refine longestPiece_c (d := d) hS hp hl hY hW (by omega) ⟨_, rfl, fun h3 => ?_, fun h3 => ?_⟩
        · have h4 : ¬ lpc ws p a = 0 := fun h5 => h3 (by rw [h5]; rfl)
          rw [if_neg h4] at hb
          rw [nI_1, nI_1, nI_add]
          exact ih (k + 1) _ _ _ (by omega) (by omega) hb
        · have h4 : lpc ws p a = 0 := Nat.eq_zero_of_not_pos (fun h5 => h3 (nI_ne0 h5 (by omega)))
          rw [if_pos h4] at hb
          unfold abreaths at h
          rw [← hb] at h
          exact h
  exact key 12 0 0 0 _ rfl (by omega) rfl
/-- the first word of a row that a set lacks -/
def aout (set : Int32) : List Int32 → Int32
  | [] => -1000000005
  | w :: r => if (((Int32.toUInt32 set >>> (Int32.toUInt32 w &&& Int32.toUInt32 31)).toInt32) &&& 1) = 0 then w else aout set r
theorem firstOutside_c {L d : Nat} {ws : List Int32} {set : Int32} {hi : pm_B} {Q : pm_Q} (hY : CY hi ws) (hW : WY ws)
    (h : Q (some (.inl (aout set ws))) hi) : pm_C pm_g (SH L) HR (d + 1) m_Saying_firstOutside [.inr 137, .inl set] hi Q := by
  refine v_Saying_firstOutside ?_
  have hl12 := hW.1
  have key : ∀ n k, k + n = ws.length → aout set (ws.drop k) = aout set ws → pm_W pm_g (SH L) HR d pm_t49 2 [some (.inr 137), some (.inl set), some (.inl (nI k))] [] hi Q := by
    intro n
    induction n with
    | zero =>
      intro k hk ha
      refine v_Saying_firstOutside_2 ?_
      rw [hY.1]
      rw [List.drop_of_length_le (by omega)] at ha
      rw [← ha] at h
      exact ⟨fun _ => h, fun hh => absurd (nI_le (by omega) (by omega)) hh⟩
    | succ n ih =>
      intro k hk ha
      refine v_Saying_firstOutside_2 ?_
      rw [hY.1]
      have hk' : k < ws.length := by omega
      rw [List.drop_eq_getElem_cons hk', aout] at ha
      refine ⟨fun hh => absurd hh (nI_ge (by omega) (by omega)), fun _ => ⟨fun hh => absurd hh (nI_ge (b := 12) (by omega) (by omega)), fun _ => ⟨k, by omega, rfl, ?_⟩⟩⟩
      rw [hY.2.at hk']
      refine ⟨fun hh => ?_, fun hh => ⟨k, by omega, rfl, ?_⟩⟩
      · rw [if_neg hh] at ha
        rw [nI_1]
        exact ih (k + 1) (by omega) ha
      · rw [if_pos (Decidable.not_not.mp hh)] at ha
        rw [hY.2.at hk', ha]
        exact h
  exact key _ 0 (Nat.zero_add _) rfl
/-- a sheet: sort, places -/
abbrev AH : Type := Int32 × List Int32
def CH (hi : pm_B) (T : Nat) (t : AH) : Prop := hi T 0 = t.1 ∧ hi T 1 = nI t.2.length ∧ Row (hi (T + 1)) t.2
/-- what one reads of a sheet as a saying -/
def aread (pl : List Int32) : List Int32 := (pl.take 12).takeWhile (fun w => decide (isw w))
theorem aread_W (pl : List Int32) : WY (aread pl) := by
  refine ⟨?_, fun w hw => ?_⟩
  · have h1 := (List.takeWhile_sublist (l := pl.take 12) (fun w => decide (isw w))).length_le
    rw [List.length_take] at h1
    unfold aread
    omega
  · have := List.all_takeWhile (p := fun w => decide (isw w)) (l := pl.take 12)
    have := List.all_eq_true.mp this w hw
    exact of_decide_eq_true this
theorem st_lt {T : Nat} (h : pm_st T) : 113 ≤ T ∧ T ≤ 135 := by
  rcases h with ⟨i, hi, rfl⟩ | ⟨i, hi, rfl⟩ <;> omega
theorem takeW_step {P : Int32 → Bool} {l : List Int32} {k : Nat} (hk : k < l.length) (h : (l.takeWhile P).take k = l.take k) : (P l[k] = true → (l.takeWhile P).take (k + 1) = l.take (k + 1)) ∧ (P l[k] = false → l.takeWhile P = l.take k) := by
  induction l generalizing k with
  | nil => exact absurd hk (by simp)
  | cons x r ih =>
    cases k with
    | zero =>
      refine ⟨fun hp => ?_, fun hp => ?_⟩
      · have hp : P x = true := hp
        simp [hp]
      · have hp : P x = false := hp
        simp [hp]
    | succ k =>
      by_cases hx : P x = true
      · rw [List.takeWhile_cons_of_pos hx] at h ⊢
        have hk' : k < r.length := by simpa using hk
        have := ih hk' (by simpa using h)
        simpa using this
      · rw [List.takeWhile_cons_of_neg hx] at h
        simp at h
theorem read_c {L d T : Nat} {t : AH} {hi : pm_B} {Q : pm_Q} (hT : pm_st T) (hC : CH hi T t) (hl : t.2.length ≤ 24)
    (h : ∀ hi', Fr (fun q _ => q = 137 ∨ q = 138) hi hi' → CY hi' (aread t.2) → Q none hi') : pm_C pm_g (SH L) HR (d + 2) m_Saying_read [.inr 137, .inr T] hi Q := by
  have hT2 := st_lt hT
  refine v_Saying_read hT ?_
  have hal : (aread t.2).length ≤ 12 := (aread_W t.2).1
  have key : ∀ n k hi', k + n = 12 → k ≤ t.2.length → Fr (fun q _ => q = 137 ∨ q = 138) hi hi' → hi' 137 1 = nI k → Row (hi' 138) (t.2.take k) → (aread t.2).take k = t.2.take k → pm_W pm_g (SH L) HR (d + 1) pm_t48 7 [some (.inr 137), some (.inr T), some (.inl (nI k))] [] hi' Q := by
    intro n
    induction n with
    | zero =>
      intro k hi' hk hkl hf e1 hr ha
      refine v_Saying_read_7 hT ⟨fun _ => h hi' hf ?_, fun hh => absurd (nI_le (a := 12) (by omega) (by omega)) hh⟩
      have : aread t.2 = t.2.take k := by rw [← ha, List.take_of_length_le (by omega)]
      rw [this]
      exact ⟨by rw [e1, List.length_take]; congr 1; omega, hr⟩
    | succ n ih =>
      intro k hi' hk hkl hf e1 hr ha
      have done : aread t.2 = t.2.take k → Q none hi' := fun e => h hi' hf (by rw [e]; exact ⟨by rw [e1, List.length_take]; congr 1; omega, hr⟩)
      refine v_Saying_read_7 hT ⟨fun hh => absurd hh (nI_ge (b := 12) (by omega) (by omega)), fun _ => ⟨fun hh => absurd hh (nI_pos (by omega)), fun _ => ?_⟩⟩
      rw [hf T 1 (by omega), hC.2.1]
      refine ⟨fun hh => ?_, fun hh => ?_⟩
      · have hle := (nI_leI (by omega) (by omega)).mp hh
        refine done ?_
        have h1 : t.2.take k = t.2 := List.take_of_length_le hle
        have h2 := (List.takeWhile_sublist (l := t.2.take 12) (fun w => decide (isw w))).length_le
        rw [List.length_take] at h2
        rw [← ha, List.take_of_length_le]
        unfold aread
        omega
      · have hlt : k < t.2.length := Nat.lt_of_not_le (fun h1 => hh (nI_le h1 (by omega)))
        refine ⟨fun hh => absurd hh (nI_ge (b := 24) (by omega) (by omega)), fun _ => ⟨k, by omega, rfl, ?_⟩⟩
        rw [hf (T + 1) k (by omega), hC.2.2.at hlt]
        have hk12 : k < (t.2.take 12).length := by rw [List.length_take]; omega
        have hst := takeW_step (P := fun w => decide (isw w)) hk12 (by rw [List.take_take, Nat.min_eq_left (by omega)]; exact ha)
        rw [List.getElem_take, List.take_take, List.take_take, Nat.min_eq_left (by omega), Nat.min_eq_left (by omega)] at hst
        refine ⟨fun c => done (hst.2 (decide_eq_false (fun w => w.1 c))), fun c => ⟨fun c' => done (hst.2 (decide_eq_false (fun w => w.2 c'))), fun c' => ⟨k, by omega, rfl, k, by omega, rfl, fun hi2 e2 => ?_⟩⟩⟩
        rw [nI_1]
        have f2 : ∀ j, j ≠ k → hi2 138 j = hi' 138 j := fun j hj => by rw [e2, pm_u_ne (Or.inl (by omega)), pm_u_ne (Or.inr hj)]
        refine ih (k + 1) hi2 (by omega) (by omega) ?_ ?_ ?_ (hst.1 (decide_eq_true ⟨c, c'⟩))
        · intro q j hn
          rw [e2, pm_u_ne (Or.inl (by omega)), pm_u_ne (Or.inl (by omega))]
          exact hf q j hn
        · rw [e2, pm_u_at, pm_u_ne (Or.inl (by omega)), e1, nI_1]
        · rw [List.take_succ_eq_append_getElem hlt]
          refine Row.snoc (hr.to (fun j hj => f2 j ?_)) ?_
          · rw [List.length_take] at hj; omega
          · rw [List.length_take, Nat.min_eq_left (by omega), e2, pm_u_ne (Or.inl (by omega)), pm_u_at, hf (T + 1) k (by omega)]
            exact hC.2.2.at hlt
  exact key 12 0 _ rfl (Nat.zero_le _) (fun q j hn => pm_u_ne (Or.inl (fun hh => hn (Or.inl hh)))) pm_u_at Row.nil rfl
