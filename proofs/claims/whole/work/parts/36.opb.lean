/-! as -/
theorem CK.above {hi : pm_B} (h : CK hi) : ∀ n, n < 6 → hi 2 n = abv (nI n) := by
  intro n hn
  rw [h 2 n (by omega) (by omega)]
  have key : ∀ n, n < 6 → HI (fun _ => 0) 2 n = abv (nI n) := by decide +kernel
  exact key n hn
theorem under_is : ∀ n, n < 6 → ∀ m, m < 6 → f_M_isUnder (nI n) (nI m) = isofN 6 (nI n) (nI m) := by decide +kernel
def o_as (s : St) (a k : Int32) : St × Int32 := match ixo a s.1.1.length with
  | none => (s, -1000000001)
  | some i => match ixo k 6 with
    | none => (s, -1000000001)
    | some _ => (s, if isofN 6 (spa s.1 i).1 k = 0 then -1000000012 else (spa s.1 i).2.2.1)
theorem E_as {L d : Nat} {s : St} {a k : Int32} {hi : pm_B} {Q : pm_Q} (hW : WI s) (hC : CI hi s) (h : EP hi (o_as s a k) Q) : pm_C pm_g (SH L) HR (d + 20) m_E_as [.inr 16, .inl a, .inl k] hi Q := by
  have h8 := hW.1.1
  unfold o_as at h
  refine v_E_as (d := d + 18) (gE hC.1.n hW.1.1 (fun x => ?_) (fun i hi8 hx x => gL 6 rfl (by omega) (fun y => ?_) (fun m hm hy y => ⟨i, by omega, hx, ?_⟩)))
  · rw [x] at h; exact h.same hC
  · rw [x] at h; dsimp only at h; rw [y] at h; exact h.same hC
  · rw [x] at h; dsimp only at h; rw [y] at h; dsimp only at h
    have hp := hC.1.at hi8
    rw [hp.1]
    refine isOf_c (d := d + 18) hC.2.2.2.2.2.2.2.2.2.above ⟨_, rfl, fun c => ?_, fun c => ?_⟩
    · rw [if_pos c] at h; exact h.same hC
    · rw [if_neg c] at h; rw [hp.2.2.1]; exact h.same hC
theorem M_as {L d : Nat} {s : St} {a k : Int32} {hi : pm_B} {Q : pm_Q} (hW : WI s) (hM : MI hi s) (h : MP hi (o_as s a k) Q) : pm_C pm_g (SH L) HR (d + 20) m_M_as [.inr 141, .inl a, .inl k] hi Q := by
  have h8 := hW.1.1
  unfold o_as at h
  refine v_M_as (d := d + 17) (gM hM.1.n (by omega) (fun x => ?_) (fun i hi8 hx x => gT 5 rfl (by omega) (fun y => ?_) (fun m hm hy y => ?_)))
  · rw [x] at h; exact h.same hM
  · rw [x] at h; dsimp only at h; rw [y] at h; exact h.same hM
  · rw [x] at h; dsimp only at h; rw [y] at h; dsimp only at h
    have hp := hM.1.at hi8
    obtain ⟨⟨n, hn, e⟩, _⟩ := hW.1.at hi8
    subst hx
    refine ⟨7 + 29 * i + 0, by omega, ix i 0, ?_⟩
    rw [hp.1]
    have eu : f_M_isUnder (spa s.1 i).1 k = isofN 6 (spa s.1 i).1 k := by rw [e, hy]; exact under_is n hn m hm
    rw [eu]
    refine ⟨fun c => ?_, fun c => ⟨7 + 29 * i + 2, by omega, ix i 2, ?_⟩⟩
    · rw [if_pos c] at h; exact h.same hM
    · rw [if_neg c] at h; rw [hp.2.2.1]; exact h.same hM
theorem W_as {s : St} {a k : Int32} (hW : WI s) : WI (o_as s a k).1 := by
  unfold o_as
  cases ixo a s.1.1.length
  · exact hW
  · dsimp only
    cases ixo k 6 <;> exact hW
/-! turns, set -/
theorem CS.u0 {hi : pm_B} {S : Nat} {p : ASp} (h : CS hi S p) (v : Int32) : CS (pm_u hi S 0 v) S (v, p.2) := by
  obtain ⟨a, b, c, d, e, f⟩ := h
  exact ⟨pm_u_at, (pm_u_ne (Or.inr (by omega))).trans b, (pm_u_ne (Or.inr (by omega))).trans c, (pm_u_ne (Or.inr (by omega))).trans d, (pm_u_ne (Or.inr (by omega))).trans e, f.to (fun k _ => pm_u_ne (Or.inl (by omega)))⟩
theorem CS.u1 {hi : pm_B} {S : Nat} {p : ASp} (h : CS hi S p) (v : Int32) : CS (pm_u hi S 1 v) S (p.1, v, p.2.2) := by
  obtain ⟨a, b, c, d, e, f⟩ := h
  exact ⟨(pm_u_ne (Or.inr (by omega))).trans a, pm_u_at, (pm_u_ne (Or.inr (by omega))).trans c, (pm_u_ne (Or.inr (by omega))).trans d, (pm_u_ne (Or.inr (by omega))).trans e, f.to (fun k _ => pm_u_ne (Or.inl (by omega)))⟩
theorem CS.u2 {hi : pm_B} {S : Nat} {p : ASp} (h : CS hi S p) (v : Int32) : CS (pm_u hi S 2 v) S (p.1, p.2.1, v, p.2.2.2) := by
  obtain ⟨a, b, c, d, e, f⟩ := h
  exact ⟨(pm_u_ne (Or.inr (by omega))).trans a, (pm_u_ne (Or.inr (by omega))).trans b, pm_u_at, (pm_u_ne (Or.inr (by omega))).trans d, (pm_u_ne (Or.inr (by omega))).trans e, f.to (fun k _ => pm_u_ne (Or.inl (by omega)))⟩
theorem MS.u0 {hi : pm_B} {q i : Nat} {p : ASp} (h : MS (hi q) i p) (v : Int32) : MS (pm_u hi q (7 + 29 * i + 0) v q) i (v, p.2) := by
  obtain ⟨a, b, c, d, e, f⟩ := h
  exact ⟨pm_u_at, (pm_u_ne (Or.inr (by omega))).trans b, (pm_u_ne (Or.inr (by omega))).trans c, (pm_u_ne (Or.inr (by omega))).trans d, (pm_u_ne (Or.inr (by omega))).trans e, f.to (fun k _ => pm_u_ne (Or.inr (by omega)))⟩
theorem MS.u1 {hi : pm_B} {q i : Nat} {p : ASp} (h : MS (hi q) i p) (v : Int32) : MS (pm_u hi q (7 + 29 * i + 1) v q) i (p.1, v, p.2.2) := by
  obtain ⟨a, b, c, d, e, f⟩ := h
  exact ⟨(pm_u_ne (Or.inr (by omega))).trans a, pm_u_at, (pm_u_ne (Or.inr (by omega))).trans c, (pm_u_ne (Or.inr (by omega))).trans d, (pm_u_ne (Or.inr (by omega))).trans e, f.to (fun k _ => pm_u_ne (Or.inr (by omega)))⟩
theorem MS.u2 {hi : pm_B} {q i : Nat} {p : ASp} (h : MS (hi q) i p) (v : Int32) : MS (pm_u hi q (7 + 29 * i + 2) v q) i (p.1, p.2.1, v, p.2.2.2) := by
  obtain ⟨a, b, c, d, e, f⟩ := h
  exact ⟨(pm_u_ne (Or.inr (by omega))).trans a, (pm_u_ne (Or.inr (by omega))).trans b, pm_u_at, (pm_u_ne (Or.inr (by omega))).trans d, (pm_u_ne (Or.inr (by omega))).trans e, f.to (fun k _ => pm_u_ne (Or.inr (by omega)))⟩
theorem MS.u4 {hi : pm_B} {q i : Nat} {p : ASp} (h : MS (hi q) i p) : MS (pm_u hi q (7 + 29 * i + 4) 0 q) i (p.1, p.2.1, p.2.2.1, p.2.2.2.1, []) := by
  obtain ⟨a, b, c, d, e, f⟩ := h
  exact ⟨(pm_u_ne (Or.inr (by omega))).trans a, (pm_u_ne (Or.inr (by omega))).trans b, (pm_u_ne (Or.inr (by omega))).trans c, (pm_u_ne (Or.inr (by omega))).trans d, pm_u_at, Row.nil⟩
/-- one place of one speaker is written -/
theorem EP.sp {hi : pm_B} {s : St} {i j : Nat} {p : ASp} {v w : Int32} {Q : pm_Q} (h : EP hi ((spu s.1 i p, s.2), v) Q) (hC : CI hi s) (hW : WI s) (hi8 : i < s.1.1.length) (hp : CS (pm_u hi (50 + 2 + 2 * i) j w) (50 + 2 + 2 * i) p) : Q (some (.inl v)) (pm_u hi (50 + 2 + 2 * i) j w) := by
  have h8 := hW.1.1
  exact h.nowF hC hW (fun q j' hn => pm_u_ne (Or.inl (fun e => hn (by unfold PF; omega)))) (hC.1.sp h8 hi8 hp (fun q j' a b c d => pm_u_ne (Or.inl c))) rfl
theorem MP.sp {hi hi' : pm_B} {s : St} {i j : Nat} {p : ASp} {v w : Int32} {Q : pm_Q} (h : MP hi ((spu s.1 i p, s.2), v) Q) (hM : MI hi s) (hW : WI s) (hi8 : i < s.1.1.length) (hj : 7 + 29 * i ≤ j ∧ j < 7 + 29 * i + 29) (e : hi' = pm_u hi 142 j w) (hp : MS (pm_u hi 142 j w 142) i p) : Q (some (.inl v)) hi' := by
  have h8 := hW.1.1
  subst e
  exact h.nowF hM hW (PL.u (by omega)) (hM.1.sp hW.1.l24 h8 hi8 hp (fun j' a b => pm_u_ne (Or.inr (by omega)))) rfl
def o_turns (s : St) (a k : Int32) : St × Int32 := match ixo a s.1.1.length with
  | none => (s, -1000000001)
  | some i => match ixo k 6 with
    | none => (s, -1000000001)
    | some _ => ((spu s.1 i (k, (spa s.1 i).2), s.2), (spa s.1 i).1)
theorem E_turns {L d : Nat} {s : St} {a k : Int32} {hi : pm_B} {Q : pm_Q} (hW : WI s) (hC : CI hi s) (h : EP hi (o_turns s a k) Q) : pm_C pm_g (SH L) HR (d + 20) m_E_turns [.inr 16, .inl a, .inl k] hi Q := by
  have h8 := hW.1.1
  unfold o_turns at h
  refine v_E_turns (d := d + 18) (gE hC.1.n hW.1.1 (fun x => ?_) (fun i hi8 hx x => gL 6 rfl (by omega) (fun y => ?_) (fun m hm hy y => ⟨i, by omega, hx, ?_⟩)))
  · rw [x] at h; exact h.same hC
  · rw [x] at h; dsimp only at h; rw [y] at h; exact h.same hC
  · rw [x] at h; dsimp only at h; rw [y] at h; dsimp only at h
    have hp := hC.1.at hi8
    rw [hp.1]
    exact h.sp hC hW hi8 (hp.u0 k)
theorem ix0 (p : Nat) : (7 + 29 * nI p : Int32) = nI (7 + 29 * p + 0) := by
  show nI 7 + nI 29 * nI p = _
  rw [pk_mul, nI_add]
  rfl
theorem M_turns {L d : Nat} {s : St} {a k : Int32} {hi : pm_B} {Q : pm_Q} (hW : WI s) (hM : MI hi s) (h : MP hi (o_turns s a k) Q) : pm_C pm_g (SH L) HR (d + 20) m_M_turns [.inr 141, .inl a, .inl k] hi Q := by
  have h8 := hW.1.1
  unfold o_turns at h
  refine v_M_turns (d := d + 17) (gM hM.1.n (by omega) (fun x => ?_) (fun i hi8 hx x => gT 5 rfl (by omega) (fun y => ?_) (fun m hm hy y => ?_)))
  · rw [x] at h; exact h.same hM
  · rw [x] at h; dsimp only at h; rw [y] at h; exact h.same hM
  · rw [x] at h; dsimp only at h; rw [y] at h; dsimp only at h
    have hp := hM.1.at hi8
    subst hx
    refine ⟨7 + 29 * i + 0, by omega, ix0 i, 7 + 29 * i + 0, by omega, ix0 i, fun hi7 e7 => ?_⟩
    rw [hp.1]
    exact h.sp hM hW hi8 (by omega) e7 (hp.u0 k)
theorem W_turns {s : St} {a k : Int32} (hW : WI s) : WI (o_turns s a k).1 := by
  unfold o_turns
  rcases ixo_cases a s.1.1.length with ⟨x, _⟩ | ⟨i, hi8, hx, x⟩
  · rw [x]; exact hW
  · rw [x]; dsimp only
    rcases ixo_cases k 6 with ⟨x, _⟩ | ⟨j, hj, hy, x⟩
    · rw [x]; exact hW
    · rw [x]; dsimp only
      have wp := hW.1.at hi8
      exact now_WI hW (hW.1.spu ⟨⟨j, hj, hy⟩, wp.2⟩) rfl rfl
def o_set (s : St) (a w v : Int32) : St × Int32 := match ixo a s.1.1.length with
  | none => (s, -1000000001)
  | some i => if w = 1 then (if v < 1 then (s, -1000000001) else if 9 < v then (s, -1000000001) else ((spu s.1 i ((spa s.1 i).1, v, (spa s.1 i).2.2), s.2), (spa s.1 i).2.1))
    else if w = 2 then (if v < 0 then (s, -1000000001) else if 99 < v then (s, -1000000001) else ((spu s.1 i ((spa s.1 i).1, (spa s.1 i).2.1, v, (spa s.1 i).2.2.2), s.2), (spa s.1 i).2.2.1))
    else (s, -1000000001)
theorem E_set {L d : Nat} {s : St} {a w v : Int32} {hi : pm_B} {Q : pm_Q} (hW : WI s) (hC : CI hi s) (h : EP hi (o_set s a w v) Q) : pm_C pm_g (SH L) HR (d + 20) m_E_set [.inr 16, .inl a, .inl w, .inl v] hi Q := by
  have h8 := hW.1.1
  unfold o_set at h
  refine v_E_set (d := d + 18) (gE hC.1.n hW.1.1 (fun x => ?_) (fun i hi8 hx x => ⟨i, by omega, hx, ?_⟩))
  · rw [x] at h; exact h.same hC
  · rw [x] at h; dsimp only at h
    have hp := hC.1.at hi8
    have n21 : ¬ (1 : Int32) = 2 := by decide
    refine ⟨fun c => ⟨fun c2 => ?_, fun c2 => ⟨fun c3 => ?_, fun c3 => ⟨fun c4 => ?_, fun c4 => ?_⟩⟩⟩, fun c => ?_⟩
    · rw [if_neg c, if_neg c2] at h; exact h.same hC
    · rw [if_neg c, if_pos (Decidable.not_not.mp c2), if_pos c3] at h; exact h.same hC
    · rw [if_neg c, if_pos (Decidable.not_not.mp c2), if_neg c3, if_pos c4] at h; exact h.same hC
    · rw [if_neg c, if_pos (Decidable.not_not.mp c2), if_neg c3, if_neg c4] at h
      rw [hp.2.2.1]
      exact h.sp hC hW hi8 (hp.u2 v)
    · have c := Decidable.not_not.mp c
      rw [c]
      rw [if_pos c] at h
      refine ⟨fun c1 => ⟨fun _ => ?_, fun hh => absurd n21 hh⟩, fun c1 => ⟨fun c2 => ⟨fun _ => ?_, fun hh => absurd n21 hh⟩, fun c2 => ?_⟩⟩
      · rw [if_pos c1] at h; exact h.same hC
      · rw [if_neg c1, if_pos c2] at h; exact h.same hC
      · rw [if_neg c1, if_neg c2] at h
        rw [hp.2.1]
        exact h.sp hC hW hi8 (hp.u1 v)
theorem in12w {w : Int32} (c1 : ¬ w < 1) (c2 : ¬ 2 < w) (c3 : ¬ w = 1) : w = 2 := by
  obtain ⟨j, hj, rfl⟩ := nI_of (x := w) (fun hh => c1 (Int32.lt_trans hh (by decide)))
  have h1 : 1 ≤ j := Nat.le_of_not_lt (fun hh => c1 (nI_lt (b := 1) hh (by omega)))
  have h2 : j ≤ 2 := Nat.le_of_not_lt (fun hh => c2 (nI_lt (a := 2) hh (by omega)))
  have h3 : j ≠ 1 := fun hh => c3 (by rw [hh]; rfl)
  rw [show j = 2 by omega]
  rfl
theorem M_set {L d : Nat} {s : St} {a w v : Int32} {hi : pm_B} {Q : pm_Q} (hW : WI s) (hM : MI hi s) (h : MP hi (o_set s a w v) Q) : pm_C pm_g (SH L) HR (d + 20) m_M_set [.inr 141, .inl a, .inl w, .inl v] hi Q := by
  have h8 := hW.1.1
  unfold o_set at h
  refine v_M_set (d := d + 17) (gM hM.1.n (by omega) (fun x => ?_) (fun i hi8 hx x => ?_))
  · rw [x] at h; exact h.same hM
  · rw [x] at h; dsimp only at h
    have hp := hM.1.at hi8
    subst hx
    have bad : (w < 1 ∨ 2 < w) → Q (some (.inl (-1000000001))) hi := fun hh => by
      rw [if_neg (fun e => by subst e; exact absurd hh (by decide)), if_neg (fun e => by subst e; exact absurd hh (by decide))] at h
      exact h.same hM
    refine ⟨fun c => bad (Or.inl c), fun d1 => ⟨fun c => bad (Or.inr c), fun d2 => ⟨fun c => ?_, fun c => ?_⟩⟩⟩
    · have c2 := in12w d1 d2 c
      rw [if_neg c, if_pos c2] at h
      refine ⟨fun c3 => ?_, fun c3 => ⟨fun c4 => ?_, fun c4 => ?_⟩⟩
      · rw [if_pos c3] at h; exact h.same hM
      · rw [if_neg c3, if_pos c4] at h; exact h.same hM
      · rw [if_neg c3, if_neg c4] at h
        rw [c2]
        refine ⟨7 + 29 * i + 2, by omega, ix i 2, 7 + 29 * i + 2, by omega, ix i 2, fun hi7 e7 => ?_⟩
        rw [hp.2.2.1]
        exact h.sp hM hW hi8 (by omega) e7 (hp.u2 v)
    · have c2 := Decidable.not_not.mp c
      rw [if_pos c2] at h
      refine ⟨fun c3 => ?_, fun c3 => ⟨fun c4 => ?_, fun c4 => ?_⟩⟩
      · rw [if_pos c3] at h; exact h.same hM
      · rw [if_neg c3, if_pos c4] at h; exact h.same hM
      · rw [if_neg c3, if_neg c4] at h
        rw [c2]
        refine ⟨7 + 29 * i + 1, by omega, ix i 1, 7 + 29 * i + 1, by omega, ix i 1, fun hi7 e7 => ?_⟩
        rw [hp.2.1]
        exact h.sp hM hW hi8 (by omega) e7 (hp.u1 v)
theorem W_set {s : St} {a w v : Int32} (hW : WI s) : WI (o_set s a w v).1 := by
  unfold o_set
  rcases ixo_cases a s.1.1.length with ⟨x, _⟩ | ⟨i, hi8, hx, x⟩
  · rw [x]; exact hW
  · rw [x]; dsimp only
    have wp := hW.1.at hi8
    by_cases c : w = 1
    · rw [if_pos c]
      by_cases c1 : v < 1
      · rw [if_pos c1]; exact hW
      · by_cases c2 : 9 < v
        · rw [if_neg c1, if_pos c2]; exact hW
        · rw [if_neg c1, if_neg c2]
          exact now_WI hW (hW.1.spu ⟨wp.1, in19 c1 c2, wp.2.2⟩) rfl rfl
    · rw [if_neg c]
      by_cases c0 : w = 2
      · rw [if_pos c0]
        by_cases c1 : v < 0
        · rw [if_pos c1]; exact hW
        · by_cases c2 : 99 < v
          · rw [if_neg c1, if_pos c2]; exact hW
          · rw [if_neg c1, if_neg c2]
            exact now_WI hW (hW.1.spu ⟨wp.1, wp.2.1, wp.2.2⟩) rfl rfl
      · rw [if_neg c0]; exact hW
/-! says, forgets, talk, seed -/
def o_says (s : St) (a b k : Int32) : St × Int32 := match ixo a s.1.1.length with
  | none => (s, -1000000001)
  | some i => match ixo b s.1.1.length with
    | none => (s, -1000000001)
    | some j => if i = j then (s, -1000000001) else match ixo k 12 with
      | none => (s, -1000000001)
      | some m => if m < (spa s.1 i).2.2.2.2.length then ((asay s.1 i j m, s.2), nI (arow (spa s.1 i) m).length) else (s, -1000000005)
theorem E_says {L d : Nat} {s : St} {a b k : Int32} {hi : pm_B} {Q : pm_Q} (hW : WI s) (hC : CI hi s) (h : EP hi (o_says s a b k) Q) : pm_C pm_g (SH L) HR (d + 20) m_E_says [.inr 16, .inl a, .inl b, .inl k] hi Q := by
  have h8 := hW.1.1
  unfold o_says at h
  refine v_E_says (d := d + 18) (gE hC.1.n hW.1.1 (fun x => ?_) (fun i hi8 hx x => gE hC.1.n hW.1.1 (fun y => ?_) (fun j hj8 hy y => ⟨fun c => ?_, fun c => gL 12 rfl (by omega) (fun z => ?_) (fun m hm hz z => ⟨i, by omega, hx, ?_⟩)⟩)))
  · rw [x] at h; exact h.same hC
  · rw [x] at h; dsimp only at h; rw [y] at h; exact h.same hC
  · rw [x] at h; dsimp only at h; rw [y] at h; dsimp only at h
    have c : i = j := (nI_eq (by omega) (by omega)).mp (by rw [← hx, ← hy]; exact c)
    rw [if_pos c] at h; exact h.same hC
  · have c : ¬ i = j := fun hh => c (by rw [hx, hy, hh])
    rw [x] at h; dsimp only at h; rw [y] at h; dsimp only at h; rw [if_neg c, z] at h; exact h.same hC
  · have c : ¬ i = j := fun hh => c (by rw [hx, hy, hh])
    rw [x] at h; dsimp only at h; rw [y] at h; dsimp only at h; rw [if_neg c, z] at h; dsimp only at h
    have hp := hC.1.at hi8
    have hl := (hW.1.at hi8).2.2.1
    subst hz
    rw [hp.2.2.2.2.1]
    refine ⟨fun c1 => ⟨j, by omega, hy, ?_⟩, fun c1 => ?_⟩
    · have c1 := (nI_ltI (by omega) (by omega)).mp c1
      rw [if_pos c1] at h
      exact speakTo_c (d := d + 13) fo50 c (spa_at hi8) (spa_at hj8) c1 hW.1.wf hC.1 hC.2.2.1 (fun hi' hf hc => ⟨_, rfl, h.nowF hC hW hf hc txo_say.1⟩)
    · rw [if_neg (fun hh => c1 (nI_lt hh (by omega)))] at h; exact h.same hC
theorem M_says {L d : Nat} {s : St} {a b k : Int32} {hi : pm_B} {Q : pm_Q} (hW : WI s) (hM : MI hi s) (h : MP hi (o_says s a b k) Q) : pm_C pm_g (SH L) HR (d + 20) m_M_says [.inr 141, .inl a, .inl b, .inl k] hi Q := by
  have h8 := hW.1.1
  unfold o_says at h
  refine v_M_says (d := d + 17) (gM hM.1.n (by omega) (fun x => ?_) (fun i hi8 hx x => gM hM.1.n (by omega) (fun y => ?_) (fun j hj8 hy y => ⟨fun c => ?_, fun c => gT 11 rfl (by omega) (fun z => ?_) (fun m hm hz z => ?_)⟩)))
  · rw [x] at h; exact h.same hM
  · rw [x] at h; dsimp only at h; rw [y] at h; exact h.same hM
  · rw [x] at h; dsimp only at h; rw [y] at h; dsimp only at h
    have c : i = j := (nI_eq (by omega) (by omega)).mp (by rw [← hx, ← hy]; exact c)
    rw [if_pos c] at h; exact h.same hM
  · have c : ¬ i = j := fun hh => c (by rw [hx, hy, hh])
    rw [x] at h; dsimp only at h; rw [y] at h; dsimp only at h; rw [if_neg c, z] at h; exact h.same hM
  · have cij : ¬ i = j := fun hh => c (by rw [hx, hy, hh])
    rw [x] at h; dsimp only at h; rw [y] at h; dsimp only at h; rw [if_neg cij, z] at h; dsimp only at h
    have hp := hM.1.at hi8
    have hl := (hW.1.at hi8).2.2.1
    subst hz hx hy
    refine ⟨7 + 29 * i + 4, by omega, ix i 4, ?_⟩
    rw [hp.2.2.2.2.1]
    refine ⟨fun c1 => ?_, fun c1 => ?_⟩
    · have c1 := (nI_leI (by omega) (by omega)).mp c1
      rw [if_neg (by omega)] at h; exact h.same hM
    · have c1 : m < (spa s.1 i).2.2.2.2.length := Nat.lt_of_not_le (fun hh => c1 (nI_le hh (by omega)))
      rw [if_pos c1] at h
      exact mtells_c (d := d + 11) cij (spa_at hi8) (spa_at hj8) c1 hW.1.wf hW.1.wv hM.1 hM.2.2.1 hW.1.wx (fun hi' hf hc => ⟨_, rfl, h.nowF hM hW (PT.pl hf) hc txo_say.1⟩)
theorem W_says {s : St} {a b k : Int32} (hW : WI s) : WI (o_says s a b k).1 := by
  unfold o_says
  cases ixo a s.1.1.length with
  | none => exact hW
  | some i =>
    dsimp only
    cases ixo b s.1.1.length with
    | none => exact hW
    | some j =>
      dsimp only
      by_cases c : i = j
      · rw [if_pos c]; exact hW
      · rw [if_neg c]
        cases ixo k 12 with
        | none => exact hW
        | some m =>
          dsimp only
          by_cases c1 : m < (spa s.1 i).2.2.2.2.length
          · rw [if_pos c1]; exact now_WI hW hW.1.say txo_say.2.1 txo_say.1
          · rw [if_neg c1]; exact hW
theorem CF.talk {hi : pm_B} {F : Nat} {f : AF} (h : CF hi F f) (v : Int32) : CF (pm_u hi F 3 v) F (f.1, v, f.2.2) := by
  obtain ⟨sps, talk, spoken, lost, day, z, txs⟩ := f
  obtain ⟨c2, c3, c4, c5, c6, c7, c8, c9, cS⟩ := h
  have t : ∀ j, j ≠ 3 → pm_u hi F 3 v F j = hi F j := fun j hj => pm_u_ne (Or.inr hj)
  exact ⟨(t _ (by omega)).trans c2, pm_u_at, (t _ (by omega)).trans c4, (t _ (by omega)).trans c5, (t _ (by omega)).trans c6, (t _ (by omega)).trans c7, (t _ (by omega)).trans c8, fun k hk => (pm_u_ne (Or.inl (by omega))).trans (c9 k hk), fun i p hp => (cS i p hp).kept (fun j => pm_u_ne (Or.inl (by omega))) (fun j => pm_u_ne (Or.inl (by omega)))⟩
theorem CF.lost {hi : pm_B} {F : Nat} {f : AF} (h : CF hi F f) (v : Int32) : CF (pm_u hi F 5 v) F (f.1, f.2.1, f.2.2.1, v, f.2.2.2.2) := by
  obtain ⟨sps, talk, spoken, lost, day, z, txs⟩ := f
  obtain ⟨c2, c3, c4, c5, c6, c7, c8, c9, cS⟩ := h
  have t : ∀ j, j ≠ 5 → pm_u hi F 5 v F j = hi F j := fun j hj => pm_u_ne (Or.inr hj)
  exact ⟨(t _ (by omega)).trans c2, (t _ (by omega)).trans c3, (t _ (by omega)).trans c4, pm_u_at, (t _ (by omega)).trans c6, (t _ (by omega)).trans c7, (t _ (by omega)).trans c8, fun k hk => (pm_u_ne (Or.inl (by omega))).trans (c9 k hk), fun i p hp => (cS i p hp).kept (fun j => pm_u_ne (Or.inl (by omega))) (fun j => pm_u_ne (Or.inl (by omega)))⟩
theorem MF.f {hi : pm_B} {f : AF} {v : Int32} (h : MF (hi 142) f) : MF (pm_u hi 142 3 v 142) (f.1, v, f.2.2) ∧ MF (pm_u hi 142 5 v 142) (f.1, f.2.1, f.2.2.1, v, f.2.2.2.2) ∧ MF (pm_u hi 142 0 v 142) (f.1, f.2.1, f.2.2.1, f.2.2.2.1, f.2.2.2.2.1, v, f.2.2.2.2.2.2) := by
  obtain ⟨sps, talk, spoken, lost, day, z, txs⟩ := f
  obtain ⟨c0, c1, c2, c3, c4, c5, c6, cS⟩ := h
  have t : ∀ m j, j ≠ m → pm_u hi 142 m v 142 j = hi 142 j := fun m j hj => pm_u_ne (Or.inr hj)
  refine ⟨⟨(t _ _ (by omega)).trans c0, (t _ _ (by omega)).trans c1, (t _ _ (by omega)).trans c2, pm_u_at, (t _ _ (by omega)).trans c4, (t _ _ (by omega)).trans c5, (t _ _ (by omega)).trans c6, fun i p hp => (cS i p hp).kept (fun j a b => t _ _ (by omega))⟩, ⟨(t _ _ (by omega)).trans c0, (t _ _ (by omega)).trans c1, (t _ _ (by omega)).trans c2, (t _ _ (by omega)).trans c3, (t _ _ (by omega)).trans c4, pm_u_at, (t _ _ (by omega)).trans c6, fun i p hp => (cS i p hp).kept (fun j a b => t _ _ (by omega))⟩, ⟨pm_u_at, (t _ _ (by omega)).trans c1, (t _ _ (by omega)).trans c2, (t _ _ (by omega)).trans c3, (t _ _ (by omega)).trans c4, (t _ _ (by omega)).trans c5, (t _ _ (by omega)).trans c6, fun i p hp => (cS i p hp).kept (fun j a b => t _ _ (by omega))⟩⟩
theorem CF.all {hi : pm_B} {F : Nat} {f : AF} (h : CF hi F f) : hi F 3 = f.2.1 ∧ hi F 4 = f.2.2.1 ∧ hi F 5 = f.2.2.2.1 ∧ hi F 6 = f.2.2.2.2.1 ∧ hi F 7 = f.2.2.2.2.2.1 ∧ hi F 8 = nI (txo f).length := by
  obtain ⟨sps, talk, spoken, lost, day, z, txs⟩ := f
  obtain ⟨c2, c3, c4, c5, c6, c7, c8, c9, cS⟩ := h
  exact ⟨c3, c4, c5, c6, c7, c8⟩
theorem MF.all {r : Nat → Int32} {f : AF} (h : MF r f) : r 0 = f.2.2.2.2.2.1 ∧ r 2 = f.2.2.2.2.1 ∧ r 3 = f.2.1 ∧ r 4 = f.2.2.1 ∧ r 5 = f.2.2.2.1 := by
  obtain ⟨sps, talk, spoken, lost, day, z, txs⟩ := f
  obtain ⟨c0, c1, c2, c3, c4, c5, c6, cS⟩ := h
  exact ⟨c0, c2, c3, c4, c5⟩
def aforget (f : AF) (i : Nat) : AF := ((spu f i ((spa f i).1, (spa f i).2.1, (spa f i).2.2.1, (spa f i).2.2.2.1, [])).1, f.2.1, f.2.2.1, f.2.2.2.1 + nI (spa f i).2.2.2.2.length, f.2.2.2.2)
def o_forgets (s : St) (a : Int32) : St × Int32 := match ixo a s.1.1.length with
  | none => (s, -1000000001)
  | some i => ((aforget s.1 i, s.2), nI (spa s.1 i).2.2.2.2.length)
theorem E_forgets {L d : Nat} {s : St} {a : Int32} {hi : pm_B} {Q : pm_Q} (hW : WI s) (hC : CI hi s) (h : EP hi (o_forgets s a) Q) : pm_C pm_g (SH L) HR (d + 20) m_E_forgets [.inr 16, .inl a] hi Q := by
  have h8 := hW.1.1
  unfold o_forgets at h
  refine v_E_forgets (d := d + 18) (gE hC.1.n hW.1.1 (fun x => ?_) (fun i hi8 hx x => ⟨i, by omega, hx, ?_⟩))
  · rw [x] at h; exact h.same hC
  · rw [x] at h; dsimp only at h
    have hp := hC.1.at hi8
    have hl := (hW.1.at hi8).2.2.1
    obtain ⟨p0, p1, p2, p3, p4, pR⟩ := hp
    rw [p4]
    refine forgetOldest_c (d := d + 18) (ws := (spa s.1 i).2.2.2.2) (sk_of fo50 (by omega)) p4 pR (by omega) (Nat.le_refl _) (fun hi' hf h4 hr => ⟨rfl, ?_⟩)
    rw [List.drop_length] at h4
    have hS : ∀ j, j ≠ 4 → hi' (50 + 2 + 2 * i) j = hi (50 + 2 + 2 * i) j := fun j hj => hf _ _ (by omega)
    have hc : CF hi' 50 (spu s.1 i ((spa s.1 i).1, (spa s.1 i).2.1, (spa s.1 i).2.2.1, (spa s.1 i).2.2.2.1, [])) := hC.1.sp h8 hi8 ⟨(hS _ (by omega)).trans p0, (hS _ (by omega)).trans p1, (hS _ (by omega)).trans p2, (hS _ (by omega)).trans p3, h4, Row.nil⟩ (fun q j a b c d => hf q j (by omega))
    rw [hf 50 5 (by omega), hC.1.all.2.2.1]
    refine h.nowF hC hW (fun q j hn => ?_) (hc.lost _) rfl
    unfold PF at hn
    rw [pm_u_ne (Or.inl (by omega)), hf q j (by omega)]
theorem M_forgets {L d : Nat} {s : St} {a : Int32} {hi : pm_B} {Q : pm_Q} (hW : WI s) (hM : MI hi s) (h : MP hi (o_forgets s a) Q) : pm_C pm_g (SH L) HR (d + 20) m_M_forgets [.inr 141, .inl a] hi Q := by
  have h8 := hW.1.1
  unfold o_forgets at h
  refine v_M_forgets (d := d + 17) (gM hM.1.n (by omega) (fun x => ?_) (fun i hi8 hx x => ?_))
  · rw [x] at h; exact h.same hM
  · rw [x] at h; dsimp only at h
    have hp := hM.1.at hi8
    subst hx
    refine ⟨7 + 29 * i + 4, by omega, ix i 4, 7 + 29 * i + 4, by omega, ix i 4, fun hi5 e5 => ?_⟩
    rw [hp.2.2.2.2.1] at e5 ⊢
    rw [hM.1.all.2.2.2.2] at e5
    have m1 := (MF.f (v := s.1.2.2.2.1 + nI (spa s.1 i).2.2.2.2.length) hM.1).2.1
    subst e5
    refine h.nowF hM hW ((PL.u (by omega)).tr (PL.u (by omega))) (m1.sp hW.1.l24 h8 hi8 (MS.u4 (m1.at hi8)) (fun j' a b => pm_u_ne (Or.inr (by omega)))) rfl
theorem W_forgets {s : St} {a : Int32} (hW : WI s) : WI (o_forgets s a).1 := by
  unfold o_forgets
  rcases ixo_cases a s.1.1.length with ⟨x, _⟩ | ⟨i, hi8, hx, x⟩
  · rw [x]; exact hW
  · rw [x]; dsimp only
    have wp := hW.1.at hi8
    have := hW.1.spu (i := i) (p := ((spa s.1 i).1, (spa s.1 i).2.1, (spa s.1 i).2.2.1, (spa s.1 i).2.2.2.1, [])) ⟨wp.1, wp.2.1, Nat.zero_le _, fun w hw => absurd hw (by simp)⟩
    exact now_WI hW ⟨this.1, this.2.1, this.2.2⟩ rfl rfl
def o_talk (s : St) (v : Int32) : St × Int32 := match ixo v 101 with
  | none => (s, -1000000001)
  | some _ => (((s.1.1, v, s.1.2.2), s.2), s.1.2.1)
theorem E_talk {L d : Nat} {s : St} {v : Int32} {hi : pm_B} {Q : pm_Q} (hW : WI s) (hC : CI hi s) (h : EP hi (o_talk s v) Q) : pm_C pm_g (SH L) HR (d + 20) m_E_talk [.inr 16, .inl v] hi Q := by
  unfold o_talk at h
  refine v_E_talk (d := d + 19) (gU 100 rfl (by omega) (fun x => ?_) (fun i hi8 hx x => ?_))
  · rw [x] at h; exact h.same hC
  · rw [x] at h; dsimp only at h
    rw [hC.1.all.1]
    exact h.nowF hC hW (Fr.u (Or.inr (Or.inl rfl))) (hC.1.talk v) rfl
theorem M_talk {L d : Nat} {s : St} {v : Int32} {hi : pm_B} {Q : pm_Q} (hW : WI s) (hM : MI hi s) (h : MP hi (o_talk s v) Q) : pm_C pm_g (SH L) HR (d + 20) m_M_talk [.inr 141, .inl v] hi Q := by
  unfold o_talk at h
  refine v_M_talk (d := d + 18) (gT 100 rfl (by omega) (fun x => ?_) (fun i hi8 hx x => fun hi3 e3 => ?_))
  · rw [x] at h; exact h.same hM
  · rw [x] at h; dsimp only at h
    rw [hM.1.all.2.2.1]
    subst e3
    exact h.nowF hM hW (PL.u (by omega)) (MF.f hM.1).1 rfl
theorem W_talk {s : St} {v : Int32} (hW : WI s) : WI (o_talk s v).1 := by
  unfold o_talk
  cases ixo v 101
  · exact hW
  · exact now_WI hW ⟨hW.1.1, hW.1.2.1, hW.1.2.2⟩ rfl rfl
def o_seed (s : St) (v : Int32) : St × Int32 := (((s.1.1, s.1.2.1, s.1.2.2.1, s.1.2.2.2.1, s.1.2.2.2.2.1, v, s.1.2.2.2.2.2.2), s.2), s.1.2.2.2.2.2.1)
theorem E_seed {L d : Nat} {s : St} {v : Int32} {hi : pm_B} {Q : pm_Q} (hW : WI s) (hC : CI hi s) (h : EP hi (o_seed s v) Q) : pm_C pm_g (SH L) HR (d + 20) m_E_seed [.inr 16, .inl v] hi Q := by
  unfold o_seed at h
  refine v_E_seed (d := d + 19) ?_
  rw [hC.1.all.2.2.2.2.1]
  exact h.nowF hC hW (Fr.u (Or.inr (Or.inl rfl))) (CF.z hC.1 v) rfl
theorem M_seed {L d : Nat} {s : St} {v : Int32} {hi : pm_B} {Q : pm_Q} (hW : WI s) (hM : MI hi s) (h : MP hi (o_seed s v) Q) : pm_C pm_g (SH L) HR (d + 20) m_M_seed [.inr 141, .inl v] hi Q := by
  unfold o_seed at h
  refine v_M_seed (d := d + 18) (fun hi1 e1 => ?_)
  rw [hM.1.all.1]
  subst e1
  exact h.nowF hM hW (PL.u (by omega)) (MF.f hM.1).2.2 rfl
theorem W_seed {s : St} {v : Int32} (hW : WI s) : WI (o_seed s v).1 := now_WI hW ⟨hW.1.1, hW.1.2.1, hW.1.2.2⟩ rfl rfl
