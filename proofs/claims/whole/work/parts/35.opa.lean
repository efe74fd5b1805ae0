/-! ===== speakers and words: what the calls do ===== -/
theorem fo50 : pm_fo 50 := by unfold pm_fo; omega
theorem fo69 : pm_fo 69 := by unfold pm_fo; omega
theorem fo88 : pm_fo 88 := by unfold pm_fo; omega
def PG : Nat → Nat → Prop := fun q _ => q = 49 ∨ (88 ≤ q ∧ q < 107) ∨ (137 ≤ q ∧ q < 140)
def PH' : Nat → Nat → Prop := fun q j => (q = 141 ∧ (j = 5 ∨ j = 7)) ∨ q = 144 ∨ q = 145 ∨ q = 146 ∨ q = 147 ∨ q = 148 ∨ q = 155 ∨ q = 156
theorem EP.nowF {hi hi' : pm_B} {s : St} {f : AF} {v : Int32} {Q : pm_Q} (h : EP hi ((f, s.2), v) Q) (hC : CI hi s) (hW : WI s) (hf : Fr (PF 50) hi hi') (hcf : CF hi' 50 f) (ht : txo f = txo s.1) : Q (some (.inl v)) hi' :=
  h hi' (hf.mono (fun q j hp => by unfold PF at hp; unfold PE; omega)) (hC.now hW (fun q j _ hn => hf q j (fun hp => hn (by unfold PF at hp; unfold PN; omega))) hcf ht)
theorem EP.sameF {hi hi' : pm_B} {s : St} {v : Int32} {Q : pm_Q} (h : EP hi (s, v) Q) (hC : CI hi s) (hW : WI s) (hf : Fr PG hi hi') : Q (some (.inl v)) hi' :=
  h hi' (hf.mono (fun q j hp => by unfold PG at hp; unfold PE; omega)) (hC.same hW (fun q j _ hn => hf q j hn))
theorem MP.nowF {hi hi' : pm_B} {s : St} {f : AF} {v : Int32} {Q : pm_Q} (h : MP hi ((f, s.2), v) Q) (hM : MI hi s) (hW : WI s) (hf : Fr PL hi hi') (hmf : MF (hi' 142) f) (ht : txo f = txo s.1) : Q (some (.inl v)) hi' :=
  h hi' (hf.mono (fun q j hp => by unfold PL at hp; unfold PQ; omega)) (hM.now hW (fun q j _ hn => hf q j hn) hmf ht)
theorem MP.sameF {hi hi' : pm_B} {s : St} {v : Int32} {Q : pm_Q} (h : MP hi (s, v) Q) (hM : MI hi s) (hW : WI s) (hf : Fr PH' hi hi') : Q (some (.inl v)) hi' :=
  h hi' (hf.mono (fun q j hp => by unfold PH' at hp; unfold PQ; omega)) (hM.same hW (fun q j _ hn => hf q j hn))
theorem PL.u {a : pm_B} {j : Nat} {v : Int32} (hj : j < 239) : Fr PL a (pm_u a 142 j v) := Fr.u (Or.inl ⟨rfl, Or.inl hj⟩)
theorem PT.pl {a b : pm_B} (h : Fr PT a b) : Fr PL a b := h.mono (fun q j hp => by unfold PT at hp; unfold PL; omega)
theorem enter_all {f : AF} {k e m : Int32} (h8 : f.1.length < 8) : (aenter f k e m).1.length = f.1.length + 1 ∧ txo (aenter f k e m) = txo f ∧ (aenter f k e m).2.2.2.2.1 = f.2.2.2.2.1 := by
  obtain ⟨sps, talk, spoken, lost, day, z, txs⟩ := f
  unfold aenter
  dsimp only at h8 ⊢
  rw [if_pos h8]
  exact ⟨by rw [List.length_append]; rfl, rfl, rfl⟩
theorem MF.enter {r r' : Nat → Int32} {f : AF} {k e m : Int32} (h : MF r f) (hl : ∀ p ∈ f.1, p.2.2.2.2.length ≤ 24) (h8 : f.1.length < 8) (n1 : r' 1 = nI (f.1.length + 1)) (e0 : r' (7 + 29 * f.1.length + 0) = k) (e1 : r' (7 + 29 * f.1.length + 1) = e) (e2 : r' (7 + 29 * f.1.length + 2) = m) (e3 : r' (7 + 29 * f.1.length + 3) = 0) (e4 : r' (7 + 29 * f.1.length + 4) = 0) (hk : ∀ j, j < 239 → j ≠ 1 → ¬ (7 + 29 * f.1.length ≤ j ∧ j < 7 + 29 * f.1.length + 29) → r' j = r j) : MF r' (aenter f k e m) := by
  obtain ⟨sps, talk, spoken, lost, day, z, txs⟩ := f
  obtain ⟨c0, c1, c2, c3, c4, c5, c6, cS⟩ := h
  dsimp only at h8 hl n1 e0 e1 e2 e3 e4 hk
  unfold aenter
  dsimp only
  rw [if_pos h8]
  have t : ∀ j, j < 7 → j ≠ 1 → r' j = r j := fun j a b => hk j (by omega) b (by omega)
  refine ⟨(t _ (by omega) (by omega)).trans c0, ?_, (t _ (by omega) (by omega)).trans c2, (t _ (by omega) (by omega)).trans c3, (t _ (by omega) (by omega)).trans c4, (t _ (by omega) (by omega)).trans c5, (t _ (by omega) (by omega)).trans c6, fun i p hp => ?_⟩
  · rw [n1, List.length_append]; rfl
  · have hi9 : i < sps.length + 1 := by
      have := (List.getElem?_eq_some_iff.mp hp).1
      rw [List.length_append] at this
      exact this
    by_cases hil : i = sps.length
    · subst hil
      rw [List.getElem?_append_right (Nat.le_refl _), Nat.sub_self] at hp
      cases hp
      exact ⟨e0, e1, e2, e3, e4, Row.nil⟩
    · rw [List.getElem?_append_left (by omega)] at hp
      have := hl p (List.mem_of_getElem? hp)
      exact (cS i p hp).kept (fun j a b => hk j (by omega) (by omega) (by omega))
def o_speaker (s : St) (k e m : Int32) : St × Int32 := match ixo k 6 with
  | none => (s, -1000000001)
  | some _ => if e < 1 then (s, -1000000001) else if 9 < e then (s, -1000000001) else match ixo m 100 with
    | none => (s, -1000000001)
    | some _ => if s.1.1.length = 8 then (s, -1000000003) else ((aenter s.1 k e m, s.2), nI s.1.1.length)
theorem E_speaker {L d : Nat} {s : St} {k e m : Int32} {hi : pm_B} {Q : pm_Q} (hW : WI s) (hC : CI hi s) (h : EP hi (o_speaker s k e m) Q) : pm_C pm_g (SH L) HR (d + 20) m_E_speaker [.inr 16, .inl k, .inl e, .inl m] hi Q := by
  have h8 := hW.1.1
  unfold o_speaker at h
  refine v_E_speaker (d := d + 18) (gL 6 rfl (by omega) (fun x => ?_) (fun i hi6 hx x => ?_))
  · rw [x] at h; exact h.same hC
  · rw [x] at h; dsimp only at h
    refine ⟨fun c => ?_, fun c1 => ⟨fun c => ?_, fun c2 => ?_⟩⟩
    · rw [if_pos c] at h; exact h.same hC
    · rw [if_neg c1, if_pos c] at h; exact h.same hC
    · rw [if_neg c1, if_neg c2] at h
      refine gT 99 rfl (by omega) (fun x => ?_) (fun j hj hy x => ?_)
      · rw [x] at h; exact h.same hC
      · rw [x] at h; dsimp only at h
        rw [hC.1.n]
        refine ⟨fun c => absurd c (nI_pos (by omega)), fun _ => ⟨fun c => ?_, fun c => ?_⟩⟩
        · have c := (nI_leI (a := 8) (by omega) (by omega)).mp c
          rw [if_pos (by omega)] at h; exact h.same hC
        · have c : s.1.1.length < 8 := Nat.lt_of_not_le (fun hh => c (nI_le (a := 8) hh (by omega)))
          rw [if_neg (by omega)] at h
          obtain ⟨a1, a2, a3⟩ := enter_all (f := s.1) (k := k) (e := e) (m := m) c
          refine enter_c (d := d + 17) fo50 hW.1.1 hC.1 (fun hi' hf hc => ⟨rfl, ?_⟩)
          rw [hc.n, a1, show nI (s.1.1.length + 1) - 1 = nI s.1.1.length from nI_sub (b := 1) (by omega)]
          exact h.nowF hC hW hf hc a2
theorem M_speaker {L d : Nat} {s : St} {k e m : Int32} {hi : pm_B} {Q : pm_Q} (hW : WI s) (hM : MI hi s) (h : MP hi (o_speaker s k e m) Q) : pm_C pm_g (SH L) HR (d + 20) m_M_speaker [.inr 141, .inl k, .inl e, .inl m] hi Q := by
  have h8 := hW.1.1
  unfold o_speaker at h
  refine v_M_speaker (d := d + 17) (gT 5 rfl (by omega) (fun x => ?_) (fun i hi6 hx x => ?_))
  · rw [x] at h; exact h.same hM
  · rw [x] at h; dsimp only at h
    refine ⟨fun c => ?_, fun c1 => ⟨fun c => ?_, fun c2 => ?_⟩⟩
    · rw [if_pos c] at h; exact h.same hM
    · rw [if_neg c1, if_pos c] at h; exact h.same hM
    · rw [if_neg c1, if_neg c2] at h
      refine gT 99 rfl (by omega) (fun x => ?_) (fun j hj hy x => ?_)
      · rw [x] at h; exact h.same hM
      · rw [x] at h; dsimp only at h
        rw [hM.1.n]
        refine ⟨fun c => ?_, fun c => ?_⟩
        · have c : ¬ s.1.1.length = 8 := fun hh => c (by rw [hh]; rfl)
          rw [if_neg c] at h
          refine ⟨7 + 29 * s.1.1.length + 0, by omega, ix _ 0, fun hi9 e9 => ⟨7 + 29 * s.1.1.length + 1, by omega, ix _ 1, fun hi11 e11 => ⟨7 + 29 * s.1.1.length + 2, by omega, ix _ 2, fun hi13 e13 => ⟨7 + 29 * s.1.1.length + 3, by omega, ix _ 3, fun hi15 e15 => ⟨7 + 29 * s.1.1.length + 4, by omega, ix _ 4, fun hi17 e17 => ?_⟩⟩⟩⟩⟩
          obtain ⟨a1, a2, a3⟩ := enter_all (f := s.1) (k := k) (e := e) (m := m) (by omega)
          refine h.nowF hM hW ?_ (hM.1.enter hW.1.l24 (by omega) ?_ ?_ ?_ ?_ ?_ ?_ (fun j' a b c' => ?_)) a2
          · rw [e17, e15, e13, e11, e9]
            exact ((((((PL.u (by omega)).tr (PL.u (by omega))).tr (PL.u (by omega))).tr (PL.u (by omega))).tr (PL.u (by omega))).tr (PL.u (by omega)))
          · rw [e17, pm_u_ne (Or.inr (by omega)), e15, pm_u_ne (Or.inr (by omega)), e13, pm_u_ne (Or.inr (by omega)), e11, pm_u_ne (Or.inr (by omega)), e9, pm_u_ne (Or.inr (by omega)), pm_u_at, nI_1]
          · rw [e17, pm_u_ne (Or.inr (by omega)), e15, pm_u_ne (Or.inr (by omega)), e13, pm_u_ne (Or.inr (by omega)), e11, pm_u_ne (Or.inr (by omega)), e9, pm_u_at]
          · rw [e17, pm_u_ne (Or.inr (by omega)), e15, pm_u_ne (Or.inr (by omega)), e13, pm_u_ne (Or.inr (by omega)), e11, pm_u_at]
          · rw [e17, pm_u_ne (Or.inr (by omega)), e15, pm_u_ne (Or.inr (by omega)), e13, pm_u_at]
          · rw [e17, pm_u_ne (Or.inr (by omega)), e15, pm_u_at]
          · rw [e17, pm_u_at]
          · rw [e17, pm_u_ne (Or.inr (by omega)), e15, pm_u_ne (Or.inr (by omega)), e13, pm_u_ne (Or.inr (by omega)), e11, pm_u_ne (Or.inr (by omega)), e9, pm_u_ne (Or.inr (by omega)), pm_u_ne (Or.inr (by omega))]
        · have c : s.1.1.length = 8 := by
            have := Decidable.not_not.mp c
            exact (nI_eq (a := s.1.1.length) (b := 8) (by omega) (by omega)).mp this
          rw [if_pos c] at h; exact h.same hM
theorem now_WI {s : St} {f : AF} (h : WI s) (hf : WA f) (hd : f.2.2.2.2.1 = s.1.2.2.2.2.1) (ht : txo f = txo s.1) : WI (f, s.2) := by
  obtain ⟨a1, a2, a3, a4, a5, a6⟩ := h
  refine ⟨hf, ?_, a3, a4, ?_, a6⟩
  · obtain ⟨n, hn, e⟩ := a2
    exact ⟨n, hn, hd.trans e⟩
  · show (txo s.2.1).length ≤ (txo f).length
    rw [ht]; exact a5
theorem in19 {e : Int32} (c1 : ¬ e < 1) (c2 : ¬ 9 < e) : ∃ n : Nat, e = nI n ∧ 1 ≤ n ∧ n ≤ 9 := by
  obtain ⟨j, hj, rfl⟩ := nI_of (x := e) (fun hh => c1 (Int32.lt_trans hh (by decide)))
  exact ⟨j, rfl, Nat.le_of_not_lt (fun hh => c1 (nI_lt (b := 1) hh (by omega))), Nat.le_of_not_lt (fun hh => c2 (nI_lt (a := 9) hh (by omega)))⟩
theorem W_speaker {s : St} {k e m : Int32} (hW : WI s) : WI (o_speaker s k e m).1 := by
  unfold o_speaker
  rcases ixo_cases k 6 with ⟨x, _⟩ | ⟨i, hi6, hx, x⟩
  · rw [x]; exact hW
  · rw [x]; dsimp only
    by_cases c1 : e < 1
    · rw [if_pos c1]; exact hW
    · by_cases c2 : 9 < e
      · rw [if_neg c1, if_pos c2]; exact hW
      · rw [if_neg c1, if_neg c2]
        rcases ixo_cases m 100 with ⟨x, _⟩ | ⟨j, hj, hy, x⟩
        · rw [x]; exact hW
        · rw [x]; dsimp only
          have h8 := hW.1.1
          by_cases c : s.1.1.length = 8
          · rw [if_pos c]; exact hW
          · rw [if_neg c]
            obtain ⟨a1, a2, a3⟩ := enter_all (f := s.1) (k := k) (e := e) (m := m) (by omega)
            exact now_WI hW (hW.1.enter ⟨i, hi6, hx⟩ (in19 c1 c2)) a3 a2
/-! told -/
def atold (f : AF) (i : Nat) (w : Int32) : Int32 := if w = 0 then (spa f i).1 else if w = 1 then (spa f i).2.1 else if w = 2 then (spa f i).2.2.1 else if w = 3 then (spa f i).2.2.2.1 else if w = 4 then nI (spa f i).2.2.2.2.length else if w = 5 then setOf (spa f i).2.2.2.2 else if w = 6 then akeeps (txo f) (spa f i) (spa f i).2.2.2.2.length else if w = 7 then f_Kinds_takesOf (spa f i).1 (spa f i).2.1 else if w = 8 then f_Kinds_goesOf (spa f i).1 else if w = 9 then f_Kinds_worthOf (spa f i).1 (spa f i).2.2.1 else -1000000001
def o_told (s : St) (a w : Int32) : St × Int32 := match ixo a s.1.1.length with
  | none => (s, -1000000001)
  | some i => (s, atold s.1 i w)
theorem CF.law0 {hi : pm_B} {F : Nat} {f : AF} (h : CF hi F f) : ∀ k, k < 3 → hi (F + 18) k = lix (lk (txo f) (nI k)) := by
  obtain ⟨sps, talk, spoken, lost, day, z, txs⟩ := f
  exact h.2.2.2.2.2.2.2.1
theorem MF.t6 {r : Nat → Int32} {f : AF} (h : MF r f) : r 6 = nI (txo f).length := by
  obtain ⟨sps, talk, spoken, lost, day, z, txs⟩ := f
  exact h.2.2.2.2.2.2.1
theorem E_told {L d : Nat} {s : St} {a w : Int32} {hi : pm_B} {Q : pm_Q} (hW : WI s) (hC : CI hi s) (h : EP hi (o_told s a w) Q) : pm_C pm_g (SH L) HR (d + 20) m_E_told [.inr 16, .inl a, .inl w] hi Q := by
  have h8 := hW.1.1
  unfold o_told at h
  refine v_E_told (d := d + 18) (gE hC.1.n hW.1.1 (fun x => ?_) (fun i hi8 hx x => ⟨i, by omega, hx, ?_⟩))
  · rw [x] at h; exact h.same hC
  · rw [x] at h; dsimp only at h
    have hp := hC.1.at hi8
    have wp := hW.1.at hi8
    have hl := wp.2.2.1
    have hS := sk_of fo50 (show i < 8 by omega)
    unfold atold at h
    obtain ⟨p0, p1, p2, p3, p4, pR⟩ := hp
    refine ⟨fun c => ?_, fun c0 => ⟨fun c => ?_, fun c1 => ⟨fun c => ?_, fun c2 => ⟨fun c => ?_, fun c3 => ⟨fun c => ?_, fun c4 => ⟨fun c => ?_, fun c5 => ⟨fun c => ?_, fun c6 => ⟨fun c => ?_, fun c7 => ⟨fun c => ?_, fun c8 => ⟨fun c => ?_, fun c9 => ?_⟩⟩⟩⟩⟩⟩⟩⟩⟩⟩
    · rw [c] at h; rw [p0]; exact h.same hC
    · rw [c] at h; rw [p1]; exact h.same hC
    · rw [c] at h; rw [p2]; exact h.same hC
    · rw [c] at h; rw [p3]; exact h.same hC
    · rw [c] at h; rw [p4]; exact h.same hC
    · rw [c] at h; exact wordSet_c (d := d + 18) hS p4 pR (by omega) ⟨_, rfl, h.same hC⟩
    · rw [c] at h; rw [p4]
      exact keepsOf_c (d := d + 16) fo50 hS ⟨p0, p1, p2, p3, p4, pR⟩ (hC.1.law0 0 (by omega)) hC.2.2.1 (fun hi' hf => ⟨_, rfl, h.sameF hC hW (hf.mono (fun q j hq => Or.inl hq))⟩)
    · rw [c] at h; rw [p0, p1]; exact h.same hC
    · rw [c] at h; rw [p0]; exact h.same hC
    · rw [c] at h; rw [p0, p2]; exact h.same hC
    · rw [if_neg c0, if_neg c1, if_neg c2, if_neg c3, if_neg c4, if_neg c5, if_neg c6, if_neg c7, if_neg c8, if_neg c9] at h
      exact h.same hC
theorem mworthOf_c {L d p : Nat} {s : ASp} {hi : pm_B} {Q : pm_Q} (hp : p < 8) (hS : MS (hi 142) p s) (h : Q (some (.inl (f_Kinds_worthOf s.1 s.2.2.1))) hi) : pm_C pm_g (SH L) HR (d + 2) m_M_worthOf [.inr 141, .inl (nI p)] hi Q := by
  refine v_M_worthOf ⟨7 + 29 * p + 2, by omega, ix p 2, 7 + 29 * p + 0, by omega, ix p 0, ?_⟩
  rw [hS.1, hS.2.2.1]
  unfold f_Kinds_worthOf at h
  refine ⟨fun c => ?_, fun c1 => ⟨fun c => ?_, fun c2 => ⟨fun c => ?_, fun c3 => ⟨fun c => ?_, fun c4 => ⟨fun c => ?_, fun c5 => ?_⟩⟩⟩⟩⟩
  · rw [c] at h; exact h
  · rw [c] at h; exact h
  · rw [c] at h; exact h
  · rw [c] at h; exact h
  · rw [c] at h; exact h
  · simp only [c1, c2, c3, c4, c5, if_false] at h
    exact h
theorem M_told {L d : Nat} {s : St} {a w : Int32} {hi : pm_B} {Q : pm_Q} (hW : WI s) (hM : MI hi s) (h : MP hi (o_told s a w) Q) : pm_C pm_g (SH L) HR (d + 20) m_M_told [.inr 141, .inl a, .inl w] hi Q := by
  have h8 := hW.1.1
  unfold o_told at h
  refine v_M_told (d := d + 17) (gM hM.1.n (by omega) (fun x => ?_) (fun i hi8 hx x => ?_))
  · rw [x] at h; exact h.same hM
  · rw [x] at h; dsimp only at h
    subst hx
    have hp := hM.1.at hi8
    have wp := hW.1.at hi8
    have hl := wp.2.2.1
    unfold atold at h
    have hp0 := hp
    obtain ⟨p0, p1, p2, p3, p4, pR⟩ := hp
    refine ⟨fun c => ?_, fun c0 => ⟨fun c => ?_, fun c1 => ⟨fun c => ?_, fun c2 => ⟨fun c => ?_, fun c3 => ⟨fun c => ?_, fun c4 => ⟨fun c => ?_, fun c5 => ⟨fun c => ?_, fun c6 => ⟨fun c => ?_, fun c7 => ⟨fun c => ?_, fun c8 => ⟨fun c => ?_, fun c9 => ?_⟩⟩⟩⟩⟩⟩⟩⟩⟩⟩
    · rw [c] at h ⊢; exact ⟨7 + 29 * i + 0, by omega, ix i 0, by rw [p0]; exact h.same hM⟩
    · rw [c] at h ⊢; exact ⟨7 + 29 * i + 1, by omega, ix i 1, by rw [p1]; exact h.same hM⟩
    · rw [c] at h ⊢; exact ⟨7 + 29 * i + 2, by omega, ix i 2, by rw [p2]; exact h.same hM⟩
    · rw [c] at h ⊢; exact ⟨7 + 29 * i + 3, by omega, ix i 3, by rw [p3]; exact h.same hM⟩
    · rw [c] at h ⊢; exact ⟨7 + 29 * i + 4, by omega, ix i 4, by rw [p4]; exact h.same hM⟩
    · rw [c] at h; exact mwordsOf_c (d := d + 17) (by omega) hp0 (by omega) ⟨_, rfl, h.same hM⟩
    · rw [c] at h
      exact mkeepsOf_c (d := d + 15) (by omega) hp0 hM.1.t6 hM.2.2.1 hW.1.wx (fun hi' hf => ⟨_, rfl, h.sameF hM hW (hf.mono (fun q j hq => by unfold PK at hq; unfold PH'; omega))⟩)
    · rw [c] at h; exact mtakesOf_c (d := d + 17) (by omega) hp0 wp.2.1 ⟨_, rfl, by rw [← (takes_eq wp.2.1).1]; exact h.same hM⟩
    · rw [c] at h; exact mgoesOf_c (d := d + 17) (by omega) hp0 ⟨_, rfl, by rw [← (goes_eq (spa s.1 i)).1]; exact h.same hM⟩
    · rw [c] at h; exact mworthOf_c (d := d + 17) (by omega) hp0 ⟨_, rfl, h.same hM⟩
    · rw [if_neg c0, if_neg c1, if_neg c2, if_neg c3, if_neg c4, if_neg c5, if_neg c6, if_neg c7, if_neg c8, if_neg c9] at h
      exact h.same hM
theorem W_told {s : St} {a w : Int32} (hW : WI s) : WI (o_told s a w).1 := by
  unfold o_told
  cases ixo a s.1.1.length <;> exact hW
/-! heard -/
def o_heard (s : St) (a k : Int32) : St × Int32 := match ixo a s.1.1.length with
  | none => (s, -1000000001)
  | some i => match ixo k 12 with
    | none => (s, -1000000001)
    | some m => (s, ((spa s.1 i).2.2.2.2[m]?).getD (-1000000005))
theorem E_heard {L d : Nat} {s : St} {a k : Int32} {hi : pm_B} {Q : pm_Q} (hW : WI s) (hC : CI hi s) (h : EP hi (o_heard s a k) Q) : pm_C pm_g (SH L) HR (d + 20) m_E_heard [.inr 16, .inl a, .inl k] hi Q := by
  have h8 := hW.1.1
  unfold o_heard at h
  refine v_E_heard (d := d + 18) (gE hC.1.n hW.1.1 (fun x => ?_) (fun i hi8 hx x => gL 12 rfl (by omega) (fun y => ?_) (fun m hm hy y => ⟨i, by omega, hx, ?_⟩)))
  · rw [x] at h; exact h.same hC
  · rw [x] at h; dsimp only at h; rw [y] at h; exact h.same hC
  · rw [x] at h; dsimp only at h; rw [y] at h; dsimp only at h
    subst hy
    have hp := hC.1.at hi8
    have hl := (hW.1.at hi8).2.2.1
    rw [hp.2.2.2.2.1]
    refine ⟨fun c => absurd c (nI_pos (by omega)), fun _ => ⟨fun c => ?_, fun c => ?_⟩⟩
    · have c := (nI_leI (by omega) (by omega)).mp c
      rw [List.getElem?_eq_none c] at h; exact h.same hC
    · have c : m < (spa s.1 i).2.2.2.2.length := Nat.lt_of_not_le (fun hh => c (nI_le hh (by omega)))
      refine ⟨fun c' => absurd c' (nI_ge (b := 24) (by omega) (by omega)), fun _ => ⟨m, by omega, rfl, ?_⟩⟩
      rw [List.getElem?_eq_getElem c] at h
      rw [hp.2.2.2.2.2.at c]
      exact h.same hC
theorem M_heard {L d : Nat} {s : St} {a k : Int32} {hi : pm_B} {Q : pm_Q} (hW : WI s) (hM : MI hi s) (h : MP hi (o_heard s a k) Q) : pm_C pm_g (SH L) HR (d + 20) m_M_heard [.inr 141, .inl a, .inl k] hi Q := by
  have h8 := hW.1.1
  unfold o_heard at h
  refine v_M_heard (d := d + 17) (gM hM.1.n (by omega) (fun x => ?_) (fun i hi8 hx x => gT 11 rfl (by omega) (fun y => ?_) (fun m hm hy y => ?_)))
  · rw [x] at h; exact h.same hM
  · rw [x] at h; dsimp only at h; rw [y] at h; exact h.same hM
  · rw [x] at h; dsimp only at h; rw [y] at h; dsimp only at h
    subst hy hx
    have hp := hM.1.at hi8
    have hl := (hW.1.at hi8).2.2.1
    refine ⟨7 + 29 * i + 4, by omega, ix i 4, ?_⟩
    rw [hp.2.2.2.2.1]
    refine ⟨fun c => ?_, fun c => ?_⟩
    · have c := (nI_leI (by omega) (by omega)).mp c
      rw [List.getElem?_eq_none c] at h; exact h.same hM
    · have c : m < (spa s.1 i).2.2.2.2.length := Nat.lt_of_not_le (fun hh => c (nI_le hh (by omega)))
      refine ⟨7 + 29 * i + (5 + m), by omega, ix5 i m, ?_⟩
      rw [List.getElem?_eq_getElem c] at h
      rw [hp.2.2.2.2.2.at c]
      exact h.same hM
theorem W_heard {s : St} {a k : Int32} (hW : WI s) : WI (o_heard s a k).1 := by
  unfold o_heard
  cases ixo a s.1.1.length
  · exact hW
  · dsimp only
    cases ixo k 12 <;> exact hW
