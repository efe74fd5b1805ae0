/-! ===== bits: words learnt, words counted ===== -/
abbrev bitA (x w : Int32) : Int32 := (((Int32.toUInt32 x >>> (Int32.toUInt32 w &&& Int32.toUInt32 31)).toInt32) &&& 1)
theorem lbit (x : Int32) {j : Nat} (hj : j < 20) : bitA x (nI j) = nI (if x.toBitVec.getLsbD j then 1 else 0) := by
  unfold bitA
  have e31 : ∀ j, j < 20 → (((nI j).toUInt32 &&& Int32.toUInt32 31).toBitVec % 32).toNat = j := by decide +kernel
  rw [pk_and _ (m := 1) 1 (by decide), pk_ushr x (nI j) j (e31 j hj)]
  congr 1
  show _ = if x.toBitVec.toNat.testBit j = true then 1 else 0
  rw [Nat.testBit_eq_decide_div_mod_eq]
  by_cases h : x.toBitVec.toNat / 2 ^ j % 2 = 1
  · rw [if_pos (decide_eq_true h)]; omega
  · rw [if_neg (by rw [decide_eq_false h]; decide)]; omega
theorem lbit1 (x : Int32) {j : Nat} (hj : j < 20) : (bitA x (nI j) = 1 ↔ x.toBitVec.getLsbD j = true) ∧ (bitA x (nI j) = 0 ↔ x.toBitVec.getLsbD j = false) := by
  rw [lbit x hj]
  cases x.toBitVec.getLsbD j <;> decide
theorem learn_bit (x y : Int32) {j : Nat} (hj : j < 20) : bitA (x &&& (y ^^^ (-1))) (nI j) = 1 ↔ (bitA x (nI j) = 1 ∧ bitA y (nI j) = 0) := by
  rw [(lbit1 _ hj).1, (lbit1 _ hj).1, (lbit1 _ hj).2]
  have e : (x &&& (y ^^^ (-1))).toBitVec = x.toBitVec &&& (y.toBitVec ^^^ BitVec.allOnes 32) := by
    rw [Int32.toBitVec_and, Int32.toBitVec_xor]
    rfl
  rw [e, BitVec.getLsbD_and, BitVec.getLsbD_xor, BitVec.getLsbD_allOnes]
  have : decide (j < 32) = true := decide_eq_true (by omega)
  rw [this]
  cases x.toBitVec.getLsbD j <;> cases y.toBitVec.getLsbD j <;> decide
def lrnN (z : Int32) : Nat → Nat → Int32
  | 0, _ => -1000000005
  | n + 1, w => if bitA z (nI w) = 1 then nI w else lrnN z n (w + 1)
def o_learns (s : St) (a n : Int32) : St × Int32 := match ixo a s.1.1.length with
  | none => (s, -1000000001)
  | some i => match ixd n 100 with
    | none => (s, -1000000001)
    | some k => (s, lrnN (setOf (spa (adays k s.1) i).2.2.2.2 &&& (setOf (spa s.1 i).2.2.2.2 ^^^ (-1))) 20 0)
theorem E_learns {L d : Nat} {s : St} {a n : Int32} {hi : pm_B} {Q : pm_Q} (hW : WI s) (hC : CI hi s) (h : EP hi (o_learns s a n) Q) : pm_C pm_g (SH L) HR (d + 20) m_E_learns [.inr 16, .inl a, .inl n] hi Q := by
  have h8 := hW.1.1
  unfold o_learns at h
  refine v_E_learns (d := d + 18) (gE hC.1.n hW.1.1 (fun x => ?_) (fun i hi8 hx x => gD 100 rfl (by omega) (fun y => ?_) (fun n hn1 hn2 hy y => ?_)))
  · rw [x] at h; exact h.same hC
  · rw [x] at h; dsimp only at h; rw [y] at h; exact h.same hC
  · rw [x] at h; dsimp only at h; rw [y] at h; dsimp only at h
    subst hy hx
    obtain ⟨wa, wt, wl⟩ := days_all (n := n) hW.1
    refine become_c (d := d + 17) fo88 fo50 (by omega) hW.1.wf hC.1 (fun hi0 f0 c0 => ⟨rfl, ?_⟩)
    have key : ∀ m k hi' o, k + m = n → Fr PG hi hi' → CF hi' 88 (adays k s.1) → pm_W pm_g (SH L) HR (d + 18 + 1) pm_t94 37 [some (.inr 16), some (.inl (nI i)), some (.inl (nI n)), some (.inl (nI k)), o] [] hi' Q := by
      intro m
      induction m with
      | zero =>
        intro k hi' o hk hf hc
        rw [Nat.add_zero] at hk
        subst hk
        refine v_E_learns_37 (d := d + 18) ⟨fun _ => ⟨i, by omega, rfl, ?_⟩, fun c => absurd (nI_le (Nat.le_refl _) (by omega)) c⟩
        have ci := hc.at (i := i) (by omega)
        have wi := (wa.at (i := i) (by omega)).2.2.1
        refine wordSet_c (d := d + 18) (sk_of fo88 (by omega)) ci.2.2.2.2.1 ci.2.2.2.2.2 (by omega) ⟨_, rfl, i, by omega, rfl, ?_⟩
        have cj := (hC.1.beside h8 rfl hf).at hi8
        have wj := (hW.1.at hi8).2.2.1
        refine wordSet_c (d := d + 18) (sk_of fo50 (by omega)) cj.2.2.2.2.1 cj.2.2.2.2.2 (by omega) ⟨_, rfl, ?_⟩
        have h := h.sameF hC hW hf
        generalize setOf (spa (adays k s.1) i).2.2.2.2 &&& (setOf (spa s.1 i).2.2.2.2 ^^^ (-1)) = z at h
        have key2 : ∀ n w, w + n = 20 → lrnN z n w = lrnN z 20 0 → pm_W pm_g (SH L) HR (d + 18 + 1) pm_t94 86 [some (.inr 16), some (.inl (nI i)), some (.inl (nI k)), some (.inl z), some (.inl (nI w))] [] hi' Q := by
          intro n
          induction n with
          | zero =>
            intro w hw e
            rw [← e] at h
            exact v_E_learns_86 (d := d + 18) ⟨fun _ => h, fun c => absurd (nI_le (a := 20) (by omega) (by omega)) c⟩
          | succ n ih =>
            intro w hw e
            rw [lrnN] at e
            refine v_E_learns_86 (d := d + 18) ⟨fun c => absurd c (nI_ge (b := 20) (by omega) (by omega)), fun _ => ⟨fun c => ?_, fun c => ?_⟩⟩
            · rw [if_neg c] at e
              rw [nI_1]
              exact ih (w + 1) (by omega) e
            · rw [if_pos (Decidable.not_not.mp c)] at e
              rw [← e] at h
              exact h
        exact key2 20 0 rfl rfl
      | succ m ih =>
        intro k hi' o hk hf hc
        refine v_E_learns_37 (d := d + 18) ⟨fun c => absurd c (nI_ge (by omega) (by omega)), fun _ => ?_⟩
        refine trialDay_c (d := d + 12) hW.1 hC.2.2.1 hf hc (fun hi2 f2 c2 => ⟨rfl, ?_⟩)
        rw [nI_1]
        exact ih (k + 1) hi2 _ (by omega) f2 c2
    exact key n 0 hi0 _ (by omega) (beco f0) c0
theorem M_learns {L d : Nat} {s : St} {a n : Int32} {hi : pm_B} {Q : pm_Q} (hW : WI s) (hM : MI hi s) (h : MP hi (o_learns s a n) Q) : pm_C pm_g (SH L) HR (d + 20) m_M_learns [.inr 141, .inl a, .inl n] hi Q := by
  have h8 := hW.1.1
  unfold o_learns at h
  refine v_M_learns (d := d + 17) (gM hM.1.n (by omega) (fun x => ?_) (fun i hi8 hx x => gD 100 rfl (by omega) (fun y => ?_) (fun n hn1 hn2 hy y => ?_)))
  · rw [x] at h; exact h.same hM
  · rw [x] at h; dsimp only at h; rw [y] at h; exact h.same hM
  · rw [x] at h; dsimp only at h; rw [y] at h; dsimp only at h
    subst hy hx
    obtain ⟨wa, wt, wl⟩ := days_all (n := n) hW.1
    refine mthinks_c (d := d + 18) (fun hi5 f5 e5 => ⟨rfl, ?_⟩)
    have m5 : MF (hi5 142) s.1 := hM.1.kept hW.1.l24 h8 (fun j _ => f5 142 j (by omega))
    have x5 : MX (hi5 142) (txo s.1) := hM.2.2.1.kept (fun j _ => f5 142 j (by omega))
    have wj := (hW.1.at hi8).2.2.1
    have wi := (wa.at (i := i) (by omega)).2.2.1
    refine mwordsOf_c (d := d + 17) (by omega) (m5.at hi8) (by omega) ⟨_, rfl, ?_⟩
    refine mgoesOn_c (d := d + 8) (by omega) hW.1 m5 x5 (fun hi6 f6 m6 => ⟨rfl, ?_⟩)
    refine mwordsOf_c (d := d + 17) (by omega) (m6.at (by omega)) (by omega) ⟨_, rfl, ?_⟩
    refine mputsBack_c (d := d + 18) (fun hi12 f12 e12 => ⟨rfl, ?_⟩)
    have h := h.sameF hM hW (thought f5 e5 (PT.px f6) f12 e12)
    generalize setOf (spa (adays n s.1) i).2.2.2.2 = has at h
    generalize setOf (spa s.1 i).2.2.2.2 = had at h
    have key2 : ∀ n' w, w + n' = 20 → lrnN (has &&& (had ^^^ (-1))) n' w = lrnN (has &&& (had ^^^ (-1))) 20 0 → pm_W pm_g (SH L) HR (d + 17 + 2) pm_t190 50 [some (.inr 141), some (.inl (nI i)), some (.inl (nI n)), some (.inl had), some (.inl has), some (.inl (nI w))] [] hi12 Q := by
      intro n'
      induction n' with
      | zero =>
        intro w hw e
        rw [← e] at h
        exact v_M_learns_50 (d := d + 17) ⟨fun _ => h, fun c => absurd (nI_le (a := 20) (by omega) (by omega)) c⟩
      | succ n' ih =>
        intro w hw e
        rw [lrnN] at e
        have hb := learn_bit has had (j := w) (by omega)
        refine v_M_learns_50 (d := d + 17) ⟨fun c => absurd c (nI_ge (b := 20) (by omega) (by omega)), fun _ => ?_⟩
        rw [shr_bit _ (show w < 20 by omega), shr_bit _ (show w < 20 by omega), nI_1]
        refine ⟨fun c => ?_, fun c => ⟨fun c1 => ?_, fun c1 => ?_⟩⟩
        · rw [if_neg (fun hh => c (hb.mp hh).1)] at e
          exact ih (w + 1) (by omega) e
        · rw [if_neg (fun hh => c1 (hb.mp hh).2)] at e
          exact ih (w + 1) (by omega) e
        · rw [if_pos (hb.mpr ⟨Decidable.not_not.mp c, Decidable.not_not.mp c1⟩)] at e
          rw [← e] at h
          exact h
    exact key2 20 0 rfl rfl
theorem W_learns {s : St} {a n : Int32} (hW : WI s) : WI (o_learns s a n).1 := by
  unfold o_learns
  cases ixo a s.1.1.length
  · exact hW
  · dsimp only
    cases ixd n 100 <;> exact hW
/-! the first of the least -/
/-- the least value so far, and where -/
def lea (v : Nat → Option Int32) : Nat → Option (Nat × Int32)
  | 0 => none
  | k + 1 => match v k with
    | none => lea v k
    | some x => match lea v k with
      | none => some (k, x)
      | some (b, l) => if l ≤ x then some (b, l) else some (k, x)
def leaA (o : Option (Nat × Int32)) (w : Int32) : Int32 := match o with
  | none => -1000000005
  | some (b, l) => if w = 0 then nI b else l
def leE0 (o : Option (Nat × Int32)) : Int32 := match o with
  | none => -1000000005
  | some (b, _) => nI b
def leE1 (o : Option (Nat × Int32)) : Int32 := match o with
  | none => -1000000005
  | some (_, l) => l
def leM0 (o : Option (Nat × Int32)) : Int32 := match o with
  | none => -1
  | some (b, _) => nI b
def leM1 (o : Option (Nat × Int32)) : Int32 := match o with
  | none => 0
  | some (_, l) => l
theorem lea_lt {v : Nat → Option Int32} : ∀ {k b l}, lea v k = some (b, l) → b < k
  | k + 1, b, l, h => by
    unfold lea at h
    split at h
    · have := lea_lt h; omega
    · split at h
      · cases h; omega
      · rename_i b' l' e
        split at h
        · cases h; have := lea_lt e; omega
        · cases h; omega
theorem leE_none {v : Nat → Option Int32} {k : Nat} (hk : k < 100) : leE0 (lea v k) = -1000000005 ↔ lea v k = none := by
  cases e : lea v k with
  | none => exact ⟨fun _ => rfl, fun _ => rfl⟩
  | some p =>
    refine ⟨fun h => ?_, fun h => by cases h⟩
    have hb := lea_lt (b := p.1) (l := p.2) e
    have h1 := nI_pos (n := p.1) (by omega)
    have h : nI p.1 = -1000000005 := h
    rw [h] at h1
    exact absurd (by decide) h1
theorem leM_none {v : Nat → Option Int32} {k : Nat} (hk : k < 100) : leM0 (lea v k) < 0 ↔ lea v k = none := by
  cases e : lea v k with
  | none => exact ⟨fun _ => rfl, fun _ => by decide⟩
  | some p =>
    refine ⟨fun h => ?_, fun h => by cases h⟩
    have hb := lea_lt (b := p.1) (l := p.2) e
    exact absurd h (nI_pos (n := p.1) (by omega))
/-! quiet -/
def mute (f : AF) (i : Nat) : AF := spu f i ((spa f i).1, (spa f i).2.1, (spa f i).2.2.1, (spa f i).2.2.2.1, [])
theorem WA.mute {f : AF} {i : Nat} (h : WA f) (hi8 : i < f.1.length) : WA (mute f i) := by
  have wp := h.at hi8
  exact h.spu ⟨wp.1, wp.2.1, Nat.zero_le _, fun w hw => absurd hw (by simp)⟩
def quiV (f : AF) (n k : Nat) : Option Int32 := some (adays n (mute f k)).2.2.1
def o_quiet (s : St) (n w : Int32) : St × Int32 := match ixd n 100 with
  | none => (s, -1000000001)
  | some k => match ixo w 2 with
    | none => (s, -1000000001)
    | some _ => (s, leaA (lea (quiV s.1 k) s.1.1.length) w)
theorem spoken_c {L d n i : Nat} {s : St} {hi : pm_B} {Q : pm_Q} (hW : WI s) (hC : CI hi s) (hi8 : i < s.1.1.length) (hn : n ≤ 100) (h : ∀ hi', Fr PG hi hi' → Q (some (.inl (adays n (mute s.1 i)).2.2.1)) hi') : pm_C pm_g (SH L) HR (d + 9) m_E_spokenWithout [.inr 16, .inl (nI i), .inl (nI n)] hi Q := by
  have h8 := hW.1.1
  refine v_E_spokenWithout (d := d + 8) ?_
  refine become_c (d := d + 6) fo88 fo50 (by omega) hW.1.wf hC.1 (fun hi0 f0 c0 => ⟨rfl, i, by omega, rfl, ?_⟩)
  have hp := c0.at hi8
  have hl := (hW.1.at hi8).2.2.1
  obtain ⟨p0, p1, p2, p3, p4, pR⟩ := hp
  rw [p4]
  refine forgetOldest_c (d := d + 7) (ws := (spa s.1 i).2.2.2.2) (sk_of fo88 (by omega)) p4 pR (by omega) (Nat.le_refl _) (fun hi1 f1 h4 hr => ⟨rfl, ?_⟩)
  rw [List.drop_length] at h4
  have hS : ∀ j, j ≠ 4 → hi1 (88 + 2 + 2 * i) j = hi0 (88 + 2 + 2 * i) j := fun j hj => f1 _ _ (by omega)
  have c1 : CF hi1 88 (mute s.1 i) := c0.sp h8 hi8 ⟨(hS _ (by omega)).trans p0, (hS _ (by omega)).trans p1, (hS _ (by omega)).trans p2, (hS _ (by omega)).trans p3, h4, Row.nil⟩ (fun q j a b c d => f1 q j (by omega))
  have g1 : Fr PG hi hi1 := (beco f0).tr (f1.mono (fun q j hq => by unfold PG; omega))
  have wm := hW.1.mute hi8
  have key : ∀ m k hi', k + m = n → Fr PG hi hi' → CF hi' 88 (adays k (mute s.1 i)) → pm_W pm_g (SH L) HR (d + 8) pm_t132 32 [some (.inr 16), some (.inl (nI i)), some (.inl (nI n)), some (.inr (88 + 2 + 2 * i)), some (.inl (nI k))] [] hi' Q := by
    intro m
    induction m with
    | zero =>
      intro k hi' hk hf hc
      rw [Nat.add_zero] at hk
      subst hk
      refine v_E_spokenWithout_32 (sk_of fo88 (by omega)) ⟨fun _ => ?_, fun c => absurd (nI_le (Nat.le_refl _) (by omega)) c⟩
      rw [hc.all.2.1]
      exact h hi' hf
    | succ m ih =>
      intro k hi' hk hf hc
      refine v_E_spokenWithout_32 (sk_of fo88 (by omega)) ⟨fun c => absurd c (nI_ge (by omega) (by omega)), fun _ => ?_⟩
      refine trialDay_c (d := d + 1) wm (show CX hi (txo s.1) from hC.2.2.1) hf hc (fun hi2 f2 c2 => ⟨rfl, ?_⟩)
      rw [nI_1]
      exact ih (k + 1) hi2 (by omega) f2 c2
  exact key n 0 hi1 (by omega) g1 c1
theorem E_quiet {L d : Nat} {s : St} {n w : Int32} {hi : pm_B} {Q : pm_Q} (hW : WI s) (hC : CI hi s) (h : EP hi (o_quiet s n w) Q) : pm_C pm_g (SH L) HR (d + 20) m_E_quiet [.inr 16, .inl n, .inl w] hi Q := by
  have h8 := hW.1.1
  unfold o_quiet at h
  refine v_E_quiet (d := d + 18) (gD 100 rfl (by omega) (fun x => ?_) (fun n hn1 hn2 hx x => ?_))
  · rw [x] at h; exact h.same hC
  · rw [x] at h; dsimp only at h
    subst hx
    have go : MP hi (s, 0) Q ∨ True → (∃ i, ixo w 2 = some i) → pm_W pm_g (SH L) HR (d + 18 + 1) pm_t95 30 [some (.inr 16), some (.inl (nI n)), some (.inl w), some (.inl (-1000000005)), some (.inl (-1000000005)), some (.inl 0), none] [] hi Q := by
      intro _ hw
      obtain ⟨_, y⟩ := hw
      rw [y] at h; dsimp only at h
      have key : ∀ m k hi' o, k + m = s.1.1.length → Fr PG hi hi' → pm_W pm_g (SH L) HR (d + 18 + 1) pm_t95 30 [some (.inr 16), some (.inl (nI n)), some (.inl w), some (.inl (leE0 (lea (quiV s.1 n) k))), some (.inl (leE1 (lea (quiV s.1 n) k))), some (.inl (nI k)), o] [] hi' Q := by
        intro m
        induction m with
        | zero =>
          intro k hi' o hk hf
          rw [Nat.add_zero] at hk
          refine v_E_quiet_30 (d := d + 18) ?_
          rw [(hC.1.beside h8 rfl hf).n, hk]
          refine ⟨fun _ => ?_, fun c => absurd (nI_le (Nat.le_refl _) (by omega)) c⟩
          have h := h.sameF hC hW hf
          cases e : lea (quiV s.1 n) s.1.1.length with
          | none =>
            rw [e] at h
            exact ⟨fun _ => h, fun _ => h⟩
          | some p =>
            rw [e] at h
            refine ⟨fun c => ?_, fun c => ?_⟩
            · have h : Q (some (.inl (if w = 0 then nI p.1 else p.2))) hi' := h
              rw [if_neg c] at h; exact h
            · have h : Q (some (.inl (if w = 0 then nI p.1 else p.2))) hi' := h
              rw [if_pos (Decidable.not_not.mp c)] at h; exact h
        | succ m ih =>
          intro k hi' o hk hf
          refine v_E_quiet_30 (d := d + 18) ?_
          have hk' : k < s.1.1.length := by omega
          rw [(hC.1.beside h8 rfl hf).n]
          refine ⟨fun c => absurd c (nI_ge (by omega) (by omega)), fun _ => ?_⟩
          have hC' : CI hi' s := hC.same hW (fun q j _ hn => hf q j hn)
          refine spoken_c (d := d + 10) hW hC' hk' (by omega) (fun hi2 f2 => ⟨_, rfl, ?_⟩)
          have nx := fun o => ih (k + 1) hi2 o (by omega) (hf.tr f2)
          have ev : quiV s.1 n k = some (adays n (mute s.1 k)).2.2.1 := rfl
          generalize (adays n (mute s.1 k)).2.2.1 = v at ev
          have el : lea (quiV s.1 n) (k + 1) = match lea (quiV s.1 n) k with
            | none => some (k, v)
            | some (b, l) => if l ≤ v then some (b, l) else some (k, v) := by rw [lea, ev]
          rw [nI_1]
          refine ⟨fun c => ?_, fun c => ?_⟩
          · rw [(leE_none (by omega)).mp c] at el
            have := nx (some (.inl v))
            rw [el] at this
            exact this
          · cases e : lea (quiV s.1 n) k with
            | none => exact absurd ((leE_none (by omega)).mpr e) c
            | some p =>
              rw [e] at el
              have el : lea (quiV s.1 n) (k + 1) = if p.2 ≤ v then some (p.1, p.2) else some (k, v) := el
              refine ⟨fun c1 => ?_, fun c1 => ?_⟩
              · have c1 : p.2 ≤ v := c1
                rw [if_pos c1] at el
                have := nx (some (.inl v))
                rw [el] at this
                exact this
              · have c1 : ¬ p.2 ≤ v := c1
                rw [if_neg c1] at el
                have := nx (some (.inl v))
                rw [el] at this
                exact this
      exact key _ 0 hi _ (Nat.zero_add _) Fr.rf
    refine g01 (fun y => ?_) (fun hw y => go (Or.inr trivial) ⟨_, y⟩) (fun hw y => go (Or.inr trivial) ⟨_, y⟩)
    rw [y] at h; exact h.same hC
theorem M_quiet {L d : Nat} {s : St} {n w : Int32} {hi : pm_B} {Q : pm_Q} (hW : WI s) (hM : MI hi s) (h : MP hi (o_quiet s n w) Q) : pm_C pm_g (SH L) HR (d + 20) m_M_quiet [.inr 141, .inl n, .inl w] hi Q := by
  have h8 := hW.1.1
  unfold o_quiet at h
  refine v_M_quiet (d := d + 18) (gD 100 rfl (by omega) (fun x => ?_) (fun n hn1 hn2 hx x => gT 1 rfl (by omega) (fun y => ?_) (fun i hi2 hy y => ?_)))
  · rw [x] at h; exact h.same hM
  · rw [x] at h; dsimp only at h; rw [y] at h; exact h.same hM
  · rw [x] at h; dsimp only at h; rw [y] at h; dsimp only at h
    subst hx
    refine mthinks_c (d := d + 18) (fun hi5 f5 e5 => ⟨rfl, ?_⟩)
    have key : ∀ m k hi' o, k + m = s.1.1.length → Fr PH' hi hi' → (∀ j, j < 239 → hi' 148 j = hi 142 j) → pm_W pm_g (SH L) HR (d + 18 + 1) pm_t191 34 [some (.inr 141), some (.inl (nI n)), some (.inl w), some (.inl (leM0 (lea (quiV s.1 n) k))), some (.inl (leM1 (lea (quiV s.1 n) k))), some (.inl (nI k)), o] [] hi' Q := by
      intro m
      induction m with
      | zero =>
        intro k hi' o hk hf he
        rw [Nat.add_zero] at hk
        refine v_M_quiet_34 (d := d + 18) ?_
        rw [(hM.1.beside hW.1 hf).n, hk]
        refine ⟨fun _ => ?_, fun c => absurd (nI_le (Nat.le_refl _) (by omega)) c⟩
        have h := h.sameF hM hW hf
        cases e : lea (quiV s.1 n) s.1.1.length with
        | none =>
          rw [e] at h
          exact ⟨fun c => absurd c (by decide), fun _ => h⟩
        | some p =>
          rw [e] at h
          have hb := lea_lt (b := p.1) (l := p.2) e
          have h : Q (some (.inl (if w = 0 then nI p.1 else p.2))) hi' := h
          refine ⟨fun _ => ⟨fun c => ?_, fun c => ?_⟩, fun c => absurd (nI_pos' (n := p.1) (by omega)) c⟩
          · rw [if_neg c] at h; exact h
          · rw [if_pos (Decidable.not_not.mp c)] at h; exact h
      | succ m ih =>
        intro k hi' o hk hf he
        refine v_M_quiet_34 (d := d + 18) ?_
        have hk' : k < s.1.1.length := by omega
        have m0 := hM.1.beside hW.1 hf
        rw [m0.n]
        refine ⟨fun c => absurd c (nI_ge (by omega) (by omega)), fun _ => ⟨7 + 29 * k + 4, by omega, ix k 4, fun hi2 e2 => ?_⟩⟩
        have m2 : MF (hi2 142) (mute s.1 k) := by
          rw [e2]
          exact m0.sp hW.1.l24 h8 hk' (MS.u4 (m0.at hk')) (fun j' a b => pm_u_ne (Or.inr (by omega)))
        have f2 : Fr PX hi' hi2 := by
          rw [e2]
          exact Fr.u (Or.inl ⟨rfl, by omega⟩)
        have x2 : MX (hi2 142) (txo (mute s.1 k)) := hM.2.2.1.kept (fun j hj => by rw [f2 142 j (by unfold PX; omega)]; exact hf 142 j (by unfold PH'; omega))
        refine mgoesOn_c (d := d + 8) (by omega) (hW.1.mute hk') m2 x2 (fun hi6 f6 m6 => ⟨rfl, ?_⟩)
        rw [m6.all.2.2.2.1]
        refine mputsBack_c (d := d + 18) (fun hi12 f12 e12 => ⟨rfl, ?_⟩)
        obtain ⟨t1, t2⟩ := thought2 hf he (f2.tr (PT.px f6)) f12 e12
        have nx := fun o => ih (k + 1) hi12 o (by omega) t1 t2
        have ev : quiV s.1 n k = some (adays n (mute s.1 k)).2.2.1 := rfl
        generalize (adays n (mute s.1 k)).2.2.1 = v at ev
        have el : lea (quiV s.1 n) (k + 1) = match lea (quiV s.1 n) k with
          | none => some (k, v)
          | some (b, l) => if l ≤ v then some (b, l) else some (k, v) := by rw [lea, ev]
        rw [nI_1]
        refine ⟨fun c => ?_, fun c => ?_⟩
        · rw [(leM_none (by omega)).mp c] at el
          have := nx (some (.inl v))
          rw [el] at this
          exact this
        · cases e : lea (quiV s.1 n) k with
          | none => exact absurd ((leM_none (by omega)).mpr e) c
          | some p =>
            rw [e] at el
            have el : lea (quiV s.1 n) (k + 1) = if p.2 ≤ v then some (p.1, p.2) else some (k, v) := el
            refine ⟨fun c1 => ?_, fun c1 => ?_⟩
            · have c1 : p.2 ≤ v := c1
              rw [if_pos c1] at el
              have := nx (some (.inl v))
              rw [el] at this
              exact this
            · have c1 : ¬ p.2 ≤ v := c1
              rw [if_neg c1] at el
              have := nx (some (.inl v))
              rw [el] at this
              exact this
    exact key _ 0 hi5 _ (Nat.zero_add _) (f5.mono (fun q j hq => by unfold PH'; omega)) e5
theorem W_quiet {s : St} {n w : Int32} (hW : WI s) : WI (o_quiet s n w).1 := by
  unfold o_quiet
  cases ixd n 100
  · exact hW
  · dsimp only
    cases ixo w 2 <;> exact hW
