/-! ===== sayings (model side): the fewest breaths are those of the longest pieces ===== -/
def MY (hi : pm_B) (ws : List Int32) : Prop := hi 141 7 = nI ws.length ∧ Row (hi 146) ws
def PY : Nat → Nat → Prop := fun q j => (q = 141 ∧ j = 7) ∨ q = 146
theorem ix24 (i k : Nat) : (24 * nI i : Int32) + nI k = nI (24 * i + k) := by
  show nI 24 * nI i + nI k = _
  rw [pk_mul, nI_add]
theorem isw19 {w : Int32} (h0 : ¬ w < 0) : (19 < w ↔ 20 ≤ w) := by
  obtain ⟨j, hj, rfl⟩ := nI_of h0
  constructor
  · intro h
    have := (nI_ltI (a := 19) (by omega) hj).mp h
    exact nI_le (a := 20) (by omega) hj
  · intro h
    have := (nI_leI (a := 20) (by omega) hj).mp h
    exact nI_lt (a := 19) (by omega) hj
theorem mreads_c {L d i : Nat} {t : AH} {hi : pm_B} {Q : pm_Q} (hi4 : i < 4) (hC : MH hi i t) (hl : t.2.length ≤ 24)
    (h : ∀ hi', Fr PY hi hi' → MY hi' (aread t.2) → Q none hi') : pm_C pm_g (SH L) HR (d + 3) m_M_readsSaying [.inr 141, .inl (nI i)] hi Q := by
  refine v_M_readsSaying ?_
  have hal : (aread t.2).length ≤ 12 := (aread_W t.2).1
  have key : ∀ n k hi', k + n = 12 → k ≤ t.2.length → Fr PY hi hi' → hi' 141 7 = nI k → Row (hi' 146) (t.2.take k) → (aread t.2).take k = t.2.take k → pm_W pm_g (SH L) HR (d + 2) pm_t178 5 [some (.inr 141), some (.inl (nI i))] [] hi' Q := by
    intro n
    induction n with
    | zero =>
      intro k hi' hk hkl hf e1 hr ha
      refine v_M_readsSaying_5 ?_
      rw [e1]
      refine ⟨fun _ => h hi' hf ?_, fun hh => absurd (nI_le (a := 12) (by omega) (by omega)) hh⟩
      have : aread t.2 = t.2.take k := by rw [← ha, List.take_of_length_le (by omega)]
      rw [this]
      exact ⟨by rw [e1, List.length_take]; congr 1; omega, hr⟩
    | succ n ih =>
      intro k hi' hk hkl hf e1 hr ha
      have done : aread t.2 = t.2.take k → Q none hi' := fun e => h hi' hf (by rw [e]; exact ⟨by rw [e1, List.length_take]; congr 1; omega, hr⟩)
      refine v_M_readsSaying_5 ?_
      rw [e1]
      refine ⟨fun hh => absurd hh (nI_ge (b := 12) (by omega) (by omega)), fun _ => ⟨i, hi4, rfl, ?_⟩⟩
      rw [hf 158 i (by unfold PY; omega), hC.2.1]
      refine ⟨fun hh => ?_, fun hh => ?_⟩
      · have hle := (nI_leI (by omega) (by omega)).mp hh
        refine done ?_
        have h2 := (List.takeWhile_sublist (l := t.2.take 12) (fun w => decide (isw w))).length_le
        rw [List.length_take] at h2
        rw [← ha, List.take_of_length_le]
        unfold aread
        omega
      · have hlt : k < t.2.length := Nat.lt_of_not_le (fun h1 => hh (nI_le h1 (by omega)))
        refine ⟨24 * i + k, by omega, ix24 i k, ?_⟩
        rw [hf 159 _ (by unfold PY; omega), hC.2.2.at hlt]
        have hk12 : k < (t.2.take 12).length := by rw [List.length_take]; omega
        have hst := takeW_step (P := fun w => decide (isw w)) hk12 (by rw [List.take_take, Nat.min_eq_left (by omega)]; exact ha)
        rw [List.getElem_take, List.take_take, List.take_take, Nat.min_eq_left (by omega), Nat.min_eq_left (by omega)] at hst
        refine ⟨fun c => done (hst.2 (decide_eq_false (fun w => w.1 c))), fun c => ⟨fun c' => done (hst.2 (decide_eq_false (fun w => w.2 ((isw19 c).mp c')))), fun c' => ⟨24 * i + k, by omega, ix24 i k, k, by omega, rfl, fun hi2 e2 => ?_⟩⟩⟩
        rw [hf 159 _ (by unfold PY; omega), hC.2.2.at hlt] at e2
        refine ih (k + 1) hi2 (by omega) (by omega) (fun q j hn => ?_) ?_ ?_ (hst.1 (decide_eq_true ⟨c, fun hh => c' ((isw19 c).mpr hh)⟩))
        · unfold PY at hn
          rw [e2, pm_u_ne (by omega), pm_u_ne (by omega)]
          exact hf q j hn
        · rw [e2, pm_u_at, pm_u_ne (Or.inl (by omega)), e1, nI_1]
        · rw [List.take_succ_eq_append_getElem hlt, e2]
          refine Row.to (f := pm_u hi' 146 k t.2[k] 146) (hr.u (by rw [List.length_take]; omega)) (fun j _ => pm_u_ne (Or.inl (by omega)))
  refine key 12 0 _ rfl (Nat.zero_le _) (Fr.u (Or.inl ⟨rfl, rfl⟩)) pm_u_at Row.nil rfl
theorem ix55 (p k m : Nat) : (7 + 29 * nI p : Int32) + (5 + nI k + nI m) = nI (7 + 29 * p + (5 + (k + m))) := by
  show nI 7 + nI 29 * nI p + (nI 5 + nI k + nI m) = _
  rw [pk_mul, nI_add, nI_add, nI_add, nI_add]
  congr 1
  omega
theorem lmx_lt {ws hs : List Int32} {a m : Nat} : ∀ n, (∀ k, k < n → cpl (ws.drop a) (hs.drop k) < m) → 0 < m → lmx ws hs a n < m
  | 0, _, h0 => h0
  | n + 1, h, h0 => by
    have h1 := lmx_lt n (fun k hk => h k (by omega)) h0
    have h2 := h n (by omega)
    unfold lmx
    omega
theorem lmx_ge {ws hs : List Int32} {a k : Nat} : ∀ n, k < n → cpl (ws.drop a) (hs.drop k) ≤ lmx ws hs a n
  | n + 1, h => by
    unfold lmx
    by_cases hk : k = n
    · subst hk; omega
    · have := lmx_ge n (a := a) (ws := ws) (hs := hs) (k := k) (by omega)
      omega
theorem lmx_has {ws hs : List Int32} {a : Nat} : ∀ n, 0 < lmx ws hs a n → ∃ k, k < n ∧ lmx ws hs a n = cpl (ws.drop a) (hs.drop k)
  | 0, h => absurd h (by unfold lmx; omega)
  | n + 1, h => by
    unfold lmx at h ⊢
    by_cases hc : lmx ws hs a n ≤ cpl (ws.drop a) (hs.drop n)
    · exact ⟨n, by omega, by omega⟩
    · obtain ⟨k, hk, e⟩ := lmx_has n (a := a) (ws := ws) (hs := hs) (by omega)
      exact ⟨k, by omega, by omega⟩
theorem mhasHeard_c {L d p a b : Nat} {ws : List Int32} {s : ASp} {hi : pm_B} {Q : pm_Q} (hp : p < 8) (hS : MS (hi 142) p s) (hl : s.2.2.2.2.length ≤ 12) (hY : MY hi ws) (hW : ws.length ≤ 12) (hab : a < b) (hb : b ≤ ws.length)
    (h : Q (some (.inl (if b - a ≤ lmx ws s.2.2.2.2 a s.2.2.2.2.length then 1 else 0))) hi) : pm_C pm_g (SH L) HR (d + 2) m_M_hasHeard [.inr 141, .inl (nI p), .inl (nI a), .inl (nI b)] hi Q := by
  refine v_M_hasHeard (d := d) ?_
  obtain ⟨s0, s1, s2, s3, s4, sR⟩ := hS
  generalize hhs : s.2.2.2.2 = hs at h hl s4 sR
  have outer : ∀ n k o, k + n = 13 → (∀ k', k' < k → cpl (ws.drop a) (hs.drop k') < b - a) → pm_W pm_g (SH L) HR (d + 1) pm_t179 3 [some (.inr 141), some (.inl (nI p)), some (.inl (nI a)), some (.inl (nI b)), some (.inl (nI k)), o] [] hi Q := by
    intro n
    induction n with
    | zero =>
      intro k o hk hlt
      refine v_M_hasHeard_3 ⟨7 + 29 * p + 4, by omega, ix p 4, ?_⟩
      rw [s4, nI_add, nI_sub (by omega)]
      refine ⟨fun _ => ?_, fun c => absurd (nI_lt (by omega) (by omega)) c⟩
      have := lmx_lt (ws := ws) (hs := hs) (a := a) (m := b - a) hs.length (fun k' hk' => hlt k' (by omega)) (show 0 < b - a by omega)
      rw [if_neg (by omega)] at h
      exact h
    | succ n ih =>
      intro k o hk hlt
      refine v_M_hasHeard_3 ⟨7 + 29 * p + 4, by omega, ix p 4, ?_⟩
      rw [s4, nI_add, nI_sub (by omega)]
      refine ⟨fun c => ?_, fun c => ?_⟩
      · have c := (nI_ltI (by omega) (by omega)).mp c
        have := lmx_lt (ws := ws) (hs := hs) (a := a) (m := b - a) hs.length (fun k' hk' => ?_) (show 0 < b - a by omega)
        · rw [if_neg (by omega)] at h
          exact h
        · by_cases hkk : k' < k
          · exact hlt k' hkk
          · have := (cpl_le (ws.drop a) (hs.drop k')).2
            rw [List.length_drop] at this
            omega
      · have c : k + b - a ≤ hs.length := Nat.le_of_not_lt (fun hh => c (nI_lt hh (by omega)))
        have inner : ∀ r m, m + r = b - a → cpl (ws.drop a) (hs.drop k) = m + cpl (ws.drop (a + m)) (hs.drop (k + m)) → pm_W pm_g (SH L) HR (d + 1) pm_t179 21 [some (.inr 141), some (.inl (nI p)), some (.inl (nI a)), some (.inl (nI b)), some (.inl (nI k)), some (.inl (nI m))] [] hi Q := by
          intro r
          induction r with
          | zero =>
            intro m hm hc
            refine v_M_hasHeard_21 ?_
            rw [nI_add]
            have hge := lmx_ge (ws := ws) (hs := hs) (a := a) (k := k) hs.length (by omega)
            rw [if_pos (by omega)] at h
            refine ⟨fun _ => ⟨fun c1 => absurd (congrArg nI (show a + m = b by omega)) c1, fun _ => h⟩, fun c1 => absurd (nI_le (by omega) (by omega)) c1⟩
          | succ r ihr =>
            intro m hm hc
            refine v_M_hasHeard_21 ?_
            rw [nI_add]
            have ham : a + m < ws.length := by omega
            have hkm : k + m < hs.length := by omega
            refine ⟨fun c1 => absurd c1 (nI_ge (by omega) (by omega)), fun _ => ⟨7 + 29 * p + (5 + (k + m)), by omega, ix55 p k m, a + m, by omega, rfl, ?_⟩⟩
            rw [sR.at hkm, hY.2.at ham]
            rw [List.drop_eq_getElem_cons ham, List.drop_eq_getElem_cons hkm, cpl] at hc
            refine ⟨fun c1 => ⟨fun _ => ?_, fun c2 => absurd (fun e => absurd ((nI_eq (by omega) (by omega)).mp e) (by omega)) c2⟩, fun c1 => ?_⟩
            · rw [if_neg (fun e => c1 e.symm)] at hc
              rw [nI_1]
              refine ih (k + 1) _ (by omega) (fun k' hk' => ?_)
              by_cases hkk : k' = k
              · subst hkk; omega
              · exact hlt k' (by omega)
            · rw [if_pos (Decidable.not_not.mp c1).symm] at hc
              rw [nI_1]
              exact ihr (m + 1) (by omega) (by rw [hc, Nat.add_assoc a, Nat.add_assoc k]; omega)
        exact inner (b - a) 0 (by omega) (by rw [Nat.add_zero, Nat.add_zero, Nat.zero_add])
  exact outer 13 0 _ rfl (fun k' hk' => absurd hk' (by omega))
/-- how far one comes with so many of the longest pieces -/
def gpos (ws : List Int32) (p : ASp) : Nat → Nat
  | 0 => 0
  | i + 1 => gpos ws p i + lpc ws p (gpos ws p i)
theorem cpl_tail {x y : List Int32} : cpl x y ≤ cpl (x.drop 1) (y.drop 1) + 1 := by
  cases x with
  | nil => cases y <;> simp [cpl]
  | cons a r =>
    cases y with
    | nil => simp [cpl]
    | cons b t =>
      rw [show cpl (a :: r) (b :: t) = if a = b then cpl r t + 1 else 0 from rfl]
      simp only [List.drop_succ_cons, List.drop_zero]
      split <;> omega
theorem lpc_mono {ws : List Int32} {p : ASp} {a : Nat} : a + lpc ws p a ≤ a + 1 + lpc ws p (a + 1) := by
  unfold lpc
  by_cases h0 : lmx ws p.2.2.2.2 a p.2.2.2.2.length = 0
  · rw [h0]; omega
  · obtain ⟨k, hk, e⟩ := lmx_has p.2.2.2.2.length (ws := ws) (hs := p.2.2.2.2) (a := a) (by omega)
    have h1 := cpl_tail (x := ws.drop a) (y := p.2.2.2.2.drop k)
    rw [List.drop_drop, List.drop_drop] at h1
    by_cases hk1 : k + 1 < p.2.2.2.2.length
    · have h2 := lmx_ge (ws := ws) (hs := p.2.2.2.2) (a := a + 1) (k := k + 1) p.2.2.2.2.length hk1
      omega
    · have e0 : p.2.2.2.2.drop (k + 1) = [] := List.drop_of_length_le (by omega)
      rw [e0, cpl_nil] at h1
      omega
theorem reach_mono {ws : List Int32} {p : ASp} {a b : Nat} (h : a ≤ b) : a + lpc ws p a ≤ b + lpc ws p b := by
  induction b with
  | zero => rw [show a = 0 by omega]; exact Nat.le_refl _
  | succ b ih =>
    by_cases hb : a = b + 1
    · subst hb; exact Nat.le_refl _
    · have h1 := ih (by omega)
      have h2 := lpc_mono (ws := ws) (p := p) (a := b)
      omega
/-- v is the fewest for a place t -/
def isL (ws : List Int32) (p : ASp) (t : Nat) (v : Option Nat) : Prop := match v with
  | some i => t ≤ gpos ws p i ∧ ∀ j, j < i → gpos ws p j < t
  | none => ∀ j, gpos ws p j < t
theorem isL_one {ws : List Int32} {p : ASp} {t : Nat} {v w : Option Nat} (h : isL ws p t v) (h' : isL ws p t w) : v = w := by
  cases v with
  | none =>
    cases w with
    | none => rfl
    | some j => exact absurd (h j) (by have := h'.1; omega)
  | some i =>
    cases w with
    | none => exact absurd (h' i) (by have := h.1; omega)
    | some j =>
      rcases Nat.lt_trichotomy i j with hij | hij | hij
      · have := h'.2 i hij; have := h.1; omega
      · rw [hij]
      · have := h.2 j hij; have := h'.1; omega
theorem stuck {ws : List Int32} {p : ASp} {i : Nat} (h0 : lpc ws p (gpos ws p i) = 0) : ∀ j, gpos ws p (i + j) = gpos ws p i
  | 0 => rfl
  | j + 1 => by
    show gpos ws p (i + j) + lpc ws p (gpos ws p (i + j)) = _
    rw [stuck h0 j, h0]
    rfl
theorem gpos_mono {ws : List Int32} {p : ASp} {i : Nat} : ∀ {j}, j ≤ i → gpos ws p j ≤ gpos ws p i := by
  induction i with
  | zero => intro j hj; rw [show j = 0 by omega]; exact Nat.le_refl _
  | succ i ih =>
    intro j hj
    by_cases hji : j = i + 1
    · subst hji; exact Nat.le_refl _
    · have := ih (j := j) (by omega)
      show _ ≤ gpos ws p i + lpc ws p (gpos ws p i)
      omega
theorem abr_L {ws : List Int32} {p : ASp} (hl : ws.length ≤ 12) : ∀ n br, br + n = 12 → br ≤ gpos ws p br → (∀ j, j < br → gpos ws p j < ws.length) → isL ws p ws.length (abr ws p n (gpos ws p br) br) := by
  intro n
  induction n with
  | zero =>
    intro br hn hg hj
    exact ⟨by omega, hj⟩
  | succ n ih =>
    intro br hn hg hj
    unfold abr
    by_cases c : ws.length ≤ gpos ws p br
    · rw [if_pos c]; exact ⟨c, hj⟩
    · rw [if_neg c]
      by_cases c0 : lpc ws p (gpos ws p br) = 0
      · rw [if_pos c0]
        intro j
        by_cases hjb : j ≤ br
        · have := gpos_mono (ws := ws) (p := p) hjb; omega
        · have := stuck c0 (j - br)
          rw [show br + (j - br) = j by omega] at this
          omega
      · rw [if_neg c0]
        refine ih (br + 1) (by omega) (by show _ ≤ gpos ws p br + lpc ws p (gpos ws p br); omega) (fun j hj' => ?_)
        by_cases hjb : j = br
        · subst hjb; omega
        · exact hj j (by omega)
def bro (ws : List Int32) (p : ASp) : Option Nat := abr ws p 12 0 0
theorem bro_L {ws : List Int32} {p : ASp} (hl : ws.length ≤ 12) : isL ws p ws.length (bro ws p) := abr_L hl 12 0 rfl (Nat.le_refl _) (fun j hj => absurd hj (by omega))
def encO (v : Option Nat) : Int32 := match v with
  | none => -1
  | some i => nI i
theorem abr_le {ws : List Int32} {p : ASp} : ∀ n a br c, abr ws p n a br = some c → c ≤ n + br := by
  intro n
  induction n with
  | zero => intro a br c h; cases h; omega
  | succ n ih =>
    intro a br c h
    unfold abr at h
    split at h
    · cases h; omega
    · split at h
      · cases h
      · have := ih _ _ _ h; omega
theorem encO_neg {v : Option Nat} (hv : ∀ i, v = some i → i < 1000) : encO v < 0 ↔ v = none := by
  cases v with
  | none => exact ⟨fun _ => rfl, fun _ => by decide⟩
  | some i => exact ⟨fun h => absurd h (nI_pos (by have := hv i rfl; omega)), fun h => by cases h⟩
def PB : Nat → Nat → Prop := fun q _ => q = 147
theorem isL_lt {ws : List Int32} {p : ASp} {t i : Nat} (h : isL ws p t (some i)) : i ≤ t := by
  have key : ∀ j, j < i → j ≤ gpos ws p j := by
    intro j
    induction j with
    | zero => intro _; exact Nat.zero_le _
    | succ j ih =>
      intro hj
      have h1 := ih (by omega)
      by_cases c0 : lpc ws p (gpos ws p j) = 0
      · exfalso
        have := stuck c0 (i - j)
        rw [show j + (i - j) = i by omega] at this
        have h2 := h.1
        have h3 := h.2 j (by omega)
        omega
      · show j + 1 ≤ gpos ws p j + lpc ws p (gpos ws p j)
        omega
  cases i with
  | zero => exact Nat.zero_le _
  | succ i =>
    have h1 := key i (by omega)
    have h2 := h.2 i (by omega)
    omega
theorem mbreathsOf_c {L d p : Nat} {ws : List Int32} {s : ASp} {hi : pm_B} {Q : pm_Q} (hp : p < 8) (hS : MS (hi 142) p s) (hl : s.2.2.2.2.length ≤ 12) (hY : MY hi ws) (hW : ws.length ≤ 12)
    (h : ∀ hi', Fr PB hi hi' → Q (some (.inl (encO (bro ws s)))) hi') : pm_C pm_g (SH L) HR (d + 4) m_M_breathsOf [.inr 141, .inl (nI p)] hi Q := by
  obtain ⟨g1, g2, g3⟩ := goes_eq s
  refine v_M_breathsOf (d := d + 2) (mgoesOf_c (d := d + 1) hp hS ⟨_, rfl, ?_⟩)
  have outer : ∀ n t hi' o4 o5, t + n = ws.length + 1 → 1 ≤ t → Fr PB hi hi' → (∀ u, u < t → ∃ v, isL ws s u v ∧ hi' 147 u = encO v) → pm_W pm_g (SH L) HR (d + 2 + 1) pm_t180 15 [some (.inr 141), some (.inl (nI p)), some (.inl (nI (goesN s))), some (.inl (nI t)), o4, o5] [] hi' Q := by
    intro n
    induction n with
    | zero =>
      intro t hi' o4 o5 ht h1 hf htab
      refine v_M_breathsOf_15 ?_
      rw [hf 141 7 (by unfold PB; omega), hY.1]
      refine ⟨fun _ => ⟨ws.length, by omega, rfl, ?_⟩, fun c => absurd (nI_lt (by omega) (by omega)) c⟩
      obtain ⟨v, hv, e⟩ := htab ws.length (by omega)
      rw [e, isL_one hv (bro_L hW)]
      exact h hi' hf
    | succ n ih =>
      intro t hi' o4 o5 ht h1 hf htab
      refine v_M_breathsOf_15 ?_
      rw [hf 141 7 (by unfold PB; omega), hY.1]
      refine ⟨fun c => absurd c (nI_nlt (by omega) (by omega)), fun _ => ⟨t, by omega, rfl, ?_⟩⟩
      have hst : f_M_within (nI t - nI (goesN s)) 0 (nI t) = nI (t - goesN s) := by
        by_cases hg : goesN s ≤ t
        · rw [nI_sub hg, within_min (by omega) (by omega)]; congr 1; omega
        · unfold f_M_within
          rw [if_neg (Int32.not_le.mpr (pk_sneg (by omega) (by omega))), show t - goesN s = 0 by omega]
          rfl
      rw [hst]
      have inner : ∀ m f hi2 cur o5, f + m = t → t - goesN s ≤ f → Fr PB hi hi2 → (∀ u, u < t → ∃ v, isL ws s u v ∧ hi2 147 u = encO v) → hi2 147 t = encO cur → (∀ c, cur = some c → t ≤ gpos ws s c ∧ c < 100) → (∀ f', t - goesN s ≤ f' → f' < f → ∀ i, isL ws s f' (some i) → t - f' ≤ lmx ws s.2.2.2.2 f' s.2.2.2.2.length → ∃ c, cur = some c ∧ c ≤ i + 1) → pm_W pm_g (SH L) HR (d + 2 + 1) pm_t180 40 [some (.inr 141), some (.inl (nI p)), some (.inl (nI (goesN s))), some (.inl (nI t)), some (.inl (nI f)), o5] [] hi2 Q := by
        intro m
        induction m with
        | zero =>
          intro f hi2 cur o5 hm hsf hf2 htab2 ecur hc1 hc2
          refine v_M_breathsOf_40 ⟨fun _ => ?_, fun c => absurd (nI_le (by omega) (by omega)) c⟩
          rw [nI_1]
          refine ih (t + 1) hi2 _ _ (by omega) (by omega) hf2 (fun u hu => ?_)
          by_cases hut : u = t
          · subst hut
            refine ⟨cur, ?_, ecur⟩
            have cand : ∀ j, gpos ws s j < u → u ≤ gpos ws s (j + 1) → ∃ c, cur = some c ∧ c ≤ j + 1 := by
              intro j hj1 hj2
              have hj2 : u ≤ gpos ws s j + lpc ws s (gpos ws s j) := hj2
              obtain ⟨v, hv, _⟩ := htab2 (gpos ws s j) hj1
              cases v with
              | none => exact absurd (hv j) (by omega)
              | some i =>
                have hij : i ≤ j := Nat.le_of_not_lt (fun hh => absurd (hv.2 j hh) (by omega))
                unfold lpc at hj2
                obtain ⟨c, e, hc⟩ := hc2 (gpos ws s j) (by omega) (by omega) i hv (by omega)
                exact ⟨c, e, by omega⟩
            cases hcur : cur with
            | none =>
              intro j
              induction j with
              | zero => show 0 < u; omega
              | succ j ihj =>
                refine Nat.lt_of_not_le (fun hh => ?_)
                obtain ⟨c, e, _⟩ := cand j ihj hh
                rw [hcur] at e
                cases e
            | some c =>
              refine ⟨(hc1 c hcur).1, fun j => ?_⟩
              induction j with
              | zero => intro _; show 0 < u; omega
              | succ j ihj =>
                intro hj
                refine Nat.lt_of_not_le (fun hh => ?_)
                obtain ⟨c', e, hc'⟩ := cand j (ihj (by omega)) hh
                rw [hcur] at e
                cases e
                omega
          · exact htab2 u (by omega)
        | succ m ihm =>
          intro f hi2 cur o5 hm hsf hf2 htab2 ecur hc1 hc2
          refine v_M_breathsOf_40 ⟨fun c => absurd c (nI_ge (by omega) (by omega)), fun _ => ⟨f, by omega, rfl, ?_⟩⟩
          obtain ⟨v, hv, ev⟩ := htab2 f (by omega)
          have vlt : ∀ i, v = some i → i < 1000 := fun i e => by subst e; have := isL_lt hv; omega
          have clt : ∀ i, cur = some i → i < 1000 := fun i e => by have := (hc1 i e).2; omega
          have keep : ∀ (hi3 : pm_B) o, (∀ q j, hi3 q j = hi2 q j) → (∀ i, isL ws s f (some i) → t - f ≤ lmx ws s.2.2.2.2 f s.2.2.2.2.length → ∃ c, cur = some c ∧ c ≤ i + 1) → pm_W pm_g (SH L) HR (d + 2 + 1) pm_t180 40 [some (.inr 141), some (.inl (nI p)), some (.inl (nI (goesN s))), some (.inl (nI t)), some (.inl (nI (f + 1))), o] [] hi3 Q := by
            intro hi3 o e3 hx
            have e3 : hi3 = hi2 := funext (fun q => funext (fun j => e3 q j))
            subst e3
            refine ihm (f + 1) hi3 cur o (by omega) (by omega) hf2 htab2 ecur hc1 (fun f' a b => ?_)
            by_cases hff : f' = f
            · subst hff; exact hx
            · exact hc2 f' a (by omega)
          have same : ∀ q j, pm_u hi2 147 t (hi2 147 t) q j = hi2 q j := fun q j => by
            by_cases e : q = 147 ∧ j = t
            · rw [e.1, e.2, pm_u_at]
            · exact pm_u_ne (by omega)
          have take : ∀ i o, v = some i → t - f ≤ lmx ws s.2.2.2.2 f s.2.2.2.2.length → (∀ c, cur = some c → i + 1 ≤ c) → pm_W pm_g (SH L) HR (d + 2 + 1) pm_t180 40 [some (.inr 141), some (.inl (nI p)), some (.inl (nI (goesN s))), some (.inl (nI t)), some (.inl (nI (f + 1))), o] [] (pm_u hi2 147 t (hi2 147 f + 1)) Q := by
            intro i o ei hlm hcur
            subst ei
            have hle := isL_lt hv
            refine ihm (f + 1) _ (some (i + 1)) o (by omega) (by omega) (hf2.tr (Fr.u rfl)) (fun u hu => ?_) ?_ (fun c e => ?_) (fun f' a b i' hi' hl' => ?_)
            · obtain ⟨v', hv', e'⟩ := htab2 u hu
              exact ⟨v', hv', by rw [pm_u_ne (Or.inr (by omega))]; exact e'⟩
            · rw [pm_u_at, ev]; exact nI_1 i
            · cases e
              have h1 := reach_mono (ws := ws) (p := s) hv.1
              have h2 : t ≤ f + lpc ws s f := by unfold lpc; omega
              refine ⟨?_, by omega⟩
              show t ≤ gpos ws s i + lpc ws s (gpos ws s i)
              omega
            · by_cases hff : f' = f
              · subst hff
                have := isL_one hv hi'
                cases this
                exact ⟨i + 1, rfl, by omega⟩
              · obtain ⟨c, e, hc⟩ := hc2 f' a (by omega) i' hi' hl'
                exact ⟨i + 1, rfl, by have := hcur c e; omega⟩
          have hS2 : MS (hi2 142) p s := hS.kept (fun j a b => hf2 142 j (by unfold PB; omega))
          have hY2 : MY hi2 ws := ⟨(hf2 141 7 (by unfold PB; omega)).trans hY.1, hY.2.to (fun k _ => hf2 146 k (by unfold PB; omega))⟩
          rw [nI_1]
          refine ⟨fun c => ?_, fun c => ⟨t, by omega, rfl, fun c1 => ?_, fun c1 => ?_⟩⟩
          · refine ⟨t, by omega, rfl, t, by omega, rfl, keep _ _ same (fun i hi' _ => ?_)⟩
            rw [ev] at c
            have := (encO_neg vlt).mp c
            subst this
            exact absurd (isL_one hv hi') (by simp)
          · rw [ecur] at c1
            have c1 := (encO_neg clt).mp c1
            have cv : ∃ i, v = some i := by
              cases v with
              | none => rw [ev] at c; exact absurd (by decide) c
              | some i => exact ⟨i, rfl⟩
            obtain ⟨i, ei⟩ := cv
            refine mhasHeard_c (d := d + 1) hp hS2 hl hY2 hW (by omega) (by omega) ⟨_, rfl, fun c2 => ?_, fun c2 => ?_⟩
            · refine ⟨t, by omega, rfl, t, by omega, rfl, keep _ _ same (fun i' hi' hl' => ?_)⟩
              rw [if_pos hl'] at c2
              exact absurd c2 (by decide)
            · refine ⟨f, by omega, rfl, t, by omega, rfl, take i _ ei ?_ (fun c e => ?_)⟩
              · exact Classical.byContradiction (fun hh => c2 (by rw [if_neg hh]))
              · rw [c1] at e; cases e
          · have cv : ∃ i, v = some i := by
              cases v with
              | none => rw [ev] at c; exact absurd (by decide) c
              | some i => exact ⟨i, rfl⟩
            obtain ⟨i, ei⟩ := cv
            have cc : ∃ c, cur = some c := by
              cases cur with
              | none => rw [ecur] at c1; exact absurd (by decide) c1
              | some c => exact ⟨c, rfl⟩
            obtain ⟨cu, ecu⟩ := cc
            have hi1000 := vlt i ei
            have hc1000 := clt cu ecu
            refine ⟨f, by omega, rfl, t, by omega, rfl, ?_⟩
            have evi : hi2 147 f + 1 = nI (i + 1) := by rw [ev, ei]; exact nI_1 i
            have ecc : hi2 147 t = nI cu := by rw [ecur, ecu]; rfl
            refine ⟨fun c2 => ?_, fun c2 => ?_⟩
            · rw [evi, ecc] at c2
              have c2 := (nI_leI (by omega) (by omega)).mp c2
              refine ⟨t, by omega, rfl, t, by omega, rfl, keep _ _ same (fun i' hi' _ => ?_)⟩
              subst ei
              have := isL_one hv hi'
              cases this
              exact ⟨cu, ecu, c2⟩
            · rw [evi, ecc] at c2
              have c2 : i + 1 < cu := Nat.lt_of_not_le (fun hh => c2 (nI_le hh (by omega)))
              refine mhasHeard_c (d := d + 1) hp hS2 hl hY2 hW (by omega) (by omega) ⟨_, rfl, fun c3 => ?_, fun c3 => ?_⟩
              · refine ⟨t, by omega, rfl, t, by omega, rfl, keep _ _ same (fun i' hi' hl' => ?_)⟩
                rw [if_pos hl'] at c3
                exact absurd c3 (by decide)
              · refine ⟨f, by omega, rfl, t, by omega, rfl, take i _ ei ?_ (fun c e => ?_)⟩
                · exact Classical.byContradiction (fun hh => c3 (by rw [if_neg hh]))
                · rw [ecu] at e; cases e; omega
      refine inner (t - (t - goesN s)) (t - goesN s) _ none _ (by omega) (Nat.le_refl _) (hf.tr (Fr.u rfl)) (fun u hu => ?_) pm_u_at (fun c e => by cases e) (fun f' a b => absurd b (by omega))
      obtain ⟨v, hv, e⟩ := htab u hu
      exact ⟨v, hv, by rw [pm_u_ne (Or.inr (by omega))]; exact e⟩
  refine outer ws.length 1 _ _ _ (by omega) (by omega) (Fr.u rfl) (fun u hu => ?_)
  rw [show u = 0 by omega]
  exact ⟨some 0, ⟨Nat.zero_le _, fun j hj => absurd hj (by omega)⟩, pm_u_at⟩
