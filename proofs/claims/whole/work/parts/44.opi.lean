/-! ===== laws told, the tape, told rows, images ===== -/
theorem leaf3 {c f1 f2 : Int32} (h : c ≠ -3) (a b : Int32) : f_Laws_leafOf c f1 f2 a = f_Laws_leafOf c f1 f2 b := by
  unfold f_Laws_leafOf
  rw [if_neg h, if_neg h]
theorem evs3 {f1 f2 : Int32} (a b : Int32) : ∀ (code st : List Int32), (∀ c ∈ code, c ≠ -3) → evs f1 f2 a code st = evs f1 f2 b code st := by
  intro code
  induction code with
  | nil => intro st _; rfl
  | cons c r ih =>
    intro st h
    have e : ev1 f1 f2 a st c = ev1 f1 f2 b st c := by
      unfold ev1
      rw [leaf3 (h c (by simp)) a b]
    show evs f1 f2 a r (ev1 f1 f2 a st c) = evs f1 f2 b r (ev1 f1 f2 b st c)
    rw [e]
    exact ih _ (fun x hx => h x (by simp [hx]))
theorem aval3 {code : List Int32} {f1 f2 : Int32} (a b : Int32) (h : ∀ c ∈ code, c ≠ -3) : aval code f1 f2 a = aval code f1 f2 b := by
  unfold aval
  rw [evs3 a b code [] h]
def alaw (txs : List AT) (k : Int32) (v a b : Int32) : Int32 := match lk txs k with
  | none => v
  | some i => aval (txs.getD i (0, 0, [])).2.2 a b 0
theorem lkn_key {txs : List AT} {k : Int32} : ∀ {n i : Nat}, lkn txs k n = some i → (txs.getD i (0, 0, [])).1 = k
  | n + 1, i, h => by
    unfold lkn at h
    by_cases c : (txs.getD n (0, 0, [])).1 = k
    · rw [if_pos c] at h; cases h; exact c
    · rw [if_neg c] at h; exact lkn_key h
theorem getD_at {txs : List AT} {i : Nat} (h : i < txs.length) : txs[i]? = some (txs.getD i (0, 0, [])) := by rw [List.getD_eq_getElem?_getD, List.getElem?_eq_getElem h]; rfl
theorem elaw_c {L d : Nat} {txs : List AT} {k v a b : Int32} {hi : pm_B} {Q : pm_Q} (hX : CX hi txs) (hW : ∀ t ∈ txs, WT t) (h : ∀ hi', Fr (fun q _ => q = 49) hi hi' → Q (some (.inl (alaw txs k v a b))) hi') : ((¬ (lix (lk txs k)) = (-1000000005)) → pm_C pm_g (SH L) HR (d + 2) m_Laws_valueOf [.inr 17, .inl (lix (lk txs k)), .inl a, .inl b, .inl 0] hi (fun v hi2 => ∃ x3 : Int32, v = some (.inl x3) ∧ (Q (some (.inl x3)) hi2))) ∧ ((¬ (¬ (lix (lk txs k)) = (-1000000005))) → Q (some (.inl v)) hi) := by
  have hl := hX.2.1
  unfold alaw at h
  refine ⟨fun c => ?_, fun c => ?_⟩
  · cases e : lk txs k with
    | none => rw [e] at c; exact absurd rfl c
    | some i =>
      rw [e] at h
      have hi1 := lkn_lt e
      have ht := getD_at hi1
      exact valueOf_c (d := d) (by omega) (hX.1 i _ ht) (hX.2.2 _ (List.mem_of_getElem? ht)) (fun hi' hf => ⟨_, rfl, h hi' hf⟩)
  · have e := (lix_none (by omega) k).mp (Decidable.not_not.mp c)
    rw [e] at h
    exact h hi Fr.rf
def o_fee (s : St) : St × Int32 := (s, alaw (txo s.1) 1 s.1.2.2.1 s.1.2.2.1 s.1.2.2.2.1)
theorem E_fee {L d : Nat} {s : St} {hi : pm_B} {Q : pm_Q} (hW : WI s) (hC : CI hi s) (h : EP hi (o_fee s) Q) : pm_C pm_g (SH L) HR (d + 20) m_E_fee [.inr 16] hi Q := by
  refine v_E_fee (d := d + 18) ?_
  have el : hi 68 1 = lix (lk (txo s.1) 1) := hC.1.law0 1 (by omega)
  rw [el, hC.1.all.2.1, hC.1.all.2.2.1]
  exact elaw_c (d := d + 17) hC.2.2.1 hW.1.2.2 (fun hi' hf => h.sameF hC hW (hf.mono (fun q j hq => Or.inl hq)))
theorem mlaw_c {L d : Nat} {txs : List AT} {k v a b : Int32} {hi : pm_B} {Q : pm_Q} (hk : ¬ k = 0) (hX : MX (hi 142) txs) (hW : ∀ t ∈ txs, WT t) (e0 : hi 156 0 = a) (e1 : hi 156 1 = b) {R : pm_B → Prop} (hr : lk txs k = none → R hi) (h : ∀ hi', Fr PK hi hi' → lk txs k ≠ none → Q (some (.inl (alaw txs k v a b))) hi') : ((0 ≤ lim (lk txs k)) → pm_C pm_g (SH L) HR (d + 2) m_M_worksOut [.inr 141, .inl (lim (lk txs k))] hi (fun v hi5 => ∃ x6 : Int32, v = some (.inl x6) ∧ (Q (some (.inl x6)) hi5))) ∧ ((¬ (0 ≤ lim (lk txs k))) → R hi) := by
  have hl := hX.1
  unfold alaw at h
  cases e : lk txs k with
  | none => exact ⟨fun c => absurd c (by decide), fun _ => hr e⟩
  | some i =>
    rw [e] at h
    have hi1 := lkn_lt e
    have ht := getD_at hi1
    have wt := hW _ (List.mem_of_getElem? ht)
    have n3 : ∀ c ∈ (txs.getD i (0, 0, [])).2.2, c ≠ -3 := by
      rcases wt.2.2 with e' | e'
      · exact absurd ((lkn_key e).symm.trans e') hk
      · exact e'
    refine ⟨fun _ => ?_, fun c => absurd (nI_pos' (n := i) (by omega)) c⟩
    refine mworksOut_c (d := d) (by omega) (hX.2 i _ ht) wt.2.1 wt.1 e0 e1 rfl (fun hi' hf => ⟨_, rfl, ?_⟩)
    rw [aval3 (hi 156 2) 0 n3]
    exact h hi' (hf.mono (fun q j hq => Or.inl hq)) (fun hh => by cases hh)
theorem M_fee {L d : Nat} {s : St} {hi : pm_B} {Q : pm_Q} (hW : WI s) (hM : MI hi s) (h : MP hi (o_fee s) Q) : pm_C pm_g (SH L) HR (d + 20) m_M_fee [.inr 141] hi Q := by
  unfold o_fee at h
  refine v_M_fee (d := d + 19) (mcounts_c (d := d + 18) hM.1.t6 hM.2.2.1 ⟨_, rfl, fun hi3 e3 => ?_⟩)
  have f3 : Fr PK hi hi3 := fun q j hn => by unfold PK at hn; rw [e3, pm_u_ne (Or.inl (by omega)), pm_u_ne (Or.inl (by omega))]
  have m3 : ∀ j, hi3 142 j = hi 142 j := fun j => f3 142 j (by unfold PK; omega)
  have a0 : hi3 156 0 = s.1.2.2.1 := by rw [e3, pm_u_ne (Or.inr (by omega)), pm_u_at]; exact hM.1.all.2.2.2.1
  have a1 : hi3 156 1 = s.1.2.2.2.1 := by rw [e3, pm_u_at, pm_u_ne (Or.inl (by omega))]; exact hM.1.all.2.2.2.2
  have ph : ∀ {b}, Fr PK hi b → Fr PH' hi b := fun hb => hb.mono (fun q j hq => by unfold PK at hq; unfold PH'; omega)
  refine mlaw_c (d := d + 17) (k := 1) (v := s.1.2.2.1) (R := fun hi3 => Q (some (.inl (hi3 142 4))) hi3) (by decide) (hM.2.2.1.kept (fun j _ => m3 j)) hW.1.2.2 a0 a1 (fun e => ?_) (fun hi' hf _ => h.sameF hM hW (ph (f3.tr hf)))
  unfold alaw at h
  rw [e] at h
  rw [m3 4, hM.1.all.2.2.2.1]
  exact h.sameF hM hW (ph f3)
theorem W_fee {s : St} (hW : WI s) : WI (o_fee s).1 := hW
def o_fine (s : St) (a : Int32) : St × Int32 := match ixo a s.1.1.length with
  | none => (s, -1000000001)
  | some i => (s, alaw (txo s.1) 2 (spa s.1 i).2.2.2.1 (spa s.1 i).2.2.2.1 (spa s.1 i).2.2.1)
theorem E_fine {L d : Nat} {s : St} {a : Int32} {hi : pm_B} {Q : pm_Q} (hW : WI s) (hC : CI hi s) (h : EP hi (o_fine s a) Q) : pm_C pm_g (SH L) HR (d + 20) m_E_fine [.inr 16, .inl a] hi Q := by
  have h8 := hW.1.1
  unfold o_fine at h
  refine v_E_fine (d := d + 18) (gE hC.1.n hW.1.1 (fun x => ?_) (fun i hi8 hx x => ⟨i, by omega, hx, ?_⟩))
  · rw [x] at h; exact h.same hC
  · rw [x] at h; dsimp only at h
    have el : hi 68 2 = lix (lk (txo s.1) 2) := hC.1.law0 2 (by omega)
    have hp := hC.1.at hi8
    rw [el, hp.2.2.1, hp.2.2.2.1]
    exact elaw_c (d := d + 17) hC.2.2.1 hW.1.2.2 (fun hi' hf => h.sameF hC hW (hf.mono (fun q j hq => Or.inl hq)))
theorem M_fine {L d : Nat} {s : St} {a : Int32} {hi : pm_B} {Q : pm_Q} (hW : WI s) (hM : MI hi s) (h : MP hi (o_fine s a) Q) : pm_C pm_g (SH L) HR (d + 20) m_M_fine [.inr 141, .inl a] hi Q := by
  have h8 := hW.1.1
  unfold o_fine at h
  refine v_M_fine (d := d + 17) (gM hM.1.n (by omega) (fun x => ?_) (fun i hi8 hx x => ?_))
  · rw [x] at h; exact h.same hM
  · rw [x] at h; dsimp only at h
    subst hx
    have hp := hM.1.at hi8
    refine mcounts_c (d := d + 18) hM.1.t6 hM.2.2.1 ⟨_, rfl, 7 + 29 * i + 3, by omega, ix i 3, 7 + 29 * i + 2, by omega, ix i 2, fun hi3 e3 => ?_⟩
    have f3 : Fr PK hi hi3 := fun q j hn => by unfold PK at hn; rw [e3, pm_u_ne (Or.inl (by omega)), pm_u_ne (Or.inl (by omega))]
    have m3 : ∀ j, hi3 142 j = hi 142 j := fun j => f3 142 j (by unfold PK; omega)
    have a0 : hi3 156 0 = (spa s.1 i).2.2.2.1 := by rw [e3, pm_u_ne (Or.inr (by omega)), pm_u_at]; exact hp.2.2.2.1
    have a1 : hi3 156 1 = (spa s.1 i).2.2.1 := by rw [e3, pm_u_at, pm_u_ne (Or.inl (by omega))]; exact hp.2.2.1
    have ph : ∀ {b}, Fr PK hi b → Fr PH' hi b := fun hb => hb.mono (fun q j hq => by unfold PK at hq; unfold PH'; omega)
    refine mlaw_c (d := d + 17) (k := 2) (v := (spa s.1 i).2.2.2.1) (R := fun hi3 => ∃ k11 : Nat, k11 < 1611 ∧ ((7 + (29 * nI i)) + 3) = nI k11 ∧ (Q (some (.inl (hi3 142 k11))) hi3)) (by decide) (hM.2.2.1.kept (fun j _ => m3 j)) hW.1.2.2 a0 a1 (fun e => ⟨7 + 29 * i + 3, by omega, ix i 3, ?_⟩) (fun hi' hf _ => h.sameF hM hW (ph (f3.tr hf)))
    unfold alaw at h
    rw [e] at h
    rw [m3, hp.2.2.2.1]
    exact h.sameF hM hW (ph f3)
theorem W_fine {s : St} {a : Int32} (hW : WI s) : WI (o_fine s a).1 := by
  unfold o_fine
  cases ixo a s.1.1.length <;> exact hW
/-! why, textTold -/
def o_why (s : St) (k : Int32) : St × Int32 := match ixo k 3 with
  | none => (s, -1000000001)
  | some _ => (s, lix (lk (txo s.1) k))
theorem E_why {L d : Nat} {s : St} {k : Int32} {hi : pm_B} {Q : pm_Q} (hW : WI s) (hC : CI hi s) (h : EP hi (o_why s k) Q) : pm_C pm_g (SH L) HR (d + 20) m_E_why [.inr 16, .inl k] hi Q := by
  unfold o_why at h
  refine v_E_why (d := d + 18) ?_
  rcases ixo_cases k 3 with ⟨e, hne⟩ | ⟨i, hi3, hx, e⟩
  · rw [e] at h
    refine ⟨fun _ => h.same hC, fun c0 => ⟨fun c1 => ?_, fun _ => h.same hC⟩⟩
    obtain ⟨j, hj, rfl⟩ := nI_of c0
    exact absurd rfl (hne j ((nI_ltI (b := 3) hj (by omega)).mp c1))
  · rw [e] at h; dsimp only at h
    subst hx
    have el : hi 68 i = lix (lk (txo s.1) (nI i)) := hC.1.law0 i hi3
    refine ⟨fun c => absurd c (nI_pos (by omega)), fun _ => ⟨fun _ => ⟨fun c => absurd c (nI_pos (by omega)), fun _ => ⟨fun c => absurd c (nI_ge (b := 3) (by omega) (by omega)), fun _ => ⟨i, hi3, rfl, ?_⟩⟩⟩, fun c => absurd (nI_lt (b := 3) (by omega) (by omega)) c⟩⟩
    rw [el]
    exact h.same hC
theorem M_why {L d : Nat} {s : St} {k : Int32} {hi : pm_B} {Q : pm_Q} (hW : WI s) (hM : MI hi s) (h : MP hi (o_why s k) Q) : pm_C pm_g (SH L) HR (d + 20) m_M_why [.inr 141, .inl k] hi Q := by
  unfold o_why at h
  refine v_M_why (d := d + 18) (gT 2 rfl (by omega) (fun x => ?_) (fun i hi3 hx x => ?_))
  · rw [x] at h; exact h.same hM
  · rw [x] at h; dsimp only at h
    have h := h.same hM
    refine mcounts_c (d := d + 18) hM.1.t6 hM.2.2.1 ⟨_, rfl, ?_⟩
    have hl := hM.2.2.1.1
    cases e : lk (txo s.1) k with
    | none =>
      rw [e] at h
      exact ⟨fun c => absurd c (by decide), fun _ => h⟩
    | some j =>
      rw [e] at h
      have := lkn_lt e
      exact ⟨fun _ => h, fun c => absurd (nI_pos' (n := j) (by omega)) c⟩
theorem W_why {s : St} {k : Int32} (hW : WI s) : WI (o_why s k).1 := by
  unfold o_why
  cases ixo k 3 <;> exact hW
def o_textTold (s : St) (t w : Int32) : St × Int32 := match ixo t (txo s.1).length with
  | none => (s, -1000000001)
  | some i => match ixo w 2 with
    | none => (s, -1000000001)
    | some _ => (s, if w = 0 then ((txo s.1).getD i (0, 0, [])).1 else ((txo s.1).getD i (0, 0, [])).2.1)
theorem E_textTold {L d : Nat} {s : St} {t w : Int32} {hi : pm_B} {Q : pm_Q} (hW : WI s) (hC : CI hi s) (h : EP hi (o_textTold s t w) Q) : pm_C pm_g (SH L) HR (d + 20) m_E_textTold [.inr 16, .inl t, .inl w] hi Q := by
  have hl := hC.2.2.1.2.1
  unfold o_textTold at h
  refine v_E_textTold (d := d + 18) (gE' (m := 15) hC.1.all.2.2.2.2.2 rfl (by omega) (by omega) (fun x => ?_) (fun i hi8 hx x => ?_))
  · rw [x] at h; exact h.same hC
  · rw [x] at h; dsimp only at h
    have ht := hC.2.2.1.1 i _ (getD_at hi8)
    refine g01 (fun y => ?_) (fun hw y => ⟨fun c => absurd hw c, fun _ => ⟨i, by omega, hx, ?_⟩⟩) (fun hw y => ⟨fun _ => ⟨i, by omega, hx, ?_⟩, fun c => absurd (by rw [hw]; decide) c⟩)
    · rw [y] at h; exact h.same hC
    · rw [y] at h; dsimp only at h; rw [if_pos hw] at h; rw [ht.1]; exact h.same hC
    · rw [y] at h; dsimp only at h; rw [if_neg (by rw [hw]; decide)] at h; rw [ht.2.1]; exact h.same hC
theorem M_textTold {L d : Nat} {s : St} {t w : Int32} {hi : pm_B} {Q : pm_Q} (hW : WI s) (hM : MI hi s) (h : MP hi (o_textTold s t w) Q) : pm_C pm_g (SH L) HR (d + 20) m_M_textTold [.inr 141, .inl t, .inl w] hi Q := by
  have hl := hM.2.2.1.1
  unfold o_textTold at h
  refine v_M_textTold (d := d + 18) (gM hM.1.t6 (by omega) (fun x => ?_) (fun i hi8 hx x => gT 1 rfl (by omega) (fun y => ?_) (fun j hj hy y => ?_)))
  · rw [x] at h; exact h.same hM
  · rw [x] at h; dsimp only at h; rw [y] at h; exact h.same hM
  · rw [x] at h; dsimp only at h; rw [y] at h; dsimp only at h
    subst hx
    have ht := hM.2.2.1.2 i _ (getD_at hi8)
    refine ⟨fun c => ⟨240 + 2 * i, by omega, ?_, ?_⟩, fun c => ⟨239 + 2 * i, by omega, ixt i, ?_⟩⟩
    · rw [ixt, nI_1]; congr 1; omega
    · rw [if_neg c] at h
      obtain ⟨K, _, _, _, _, e, _⟩ := ht
      rw [e]
      exact h.same hM
    · rw [if_pos (Decidable.not_not.mp c)] at h
      rw [ht.key]
      exact h.same hM
theorem W_textTold {s : St} {t w : Int32} (hW : WI s) : WI (o_textTold s t w).1 := by
  unfold o_textTold
  cases ixo t (txo s.1).length
  · exact hW
  · dsimp only
    cases ixo w 2 <;> exact hW
/-! count -/
def o_count (s : St) (w : Int32) : St × Int32 := (s, if w = 0 then nI s.1.1.length else if w = 1 then s.1.2.2.2.2.1 else if w = 2 then s.1.2.1 else if w = 3 then nI (txo s.1).length else if w = 4 then nI s.2.2.2.2.2.2.length else if w = 5 then nI s.2.2.2.1.length else if w = 6 then s.1.2.2.2.2.2.1 else -1000000001)
theorem E_count {L d : Nat} {s : St} {w : Int32} {hi : pm_B} {Q : pm_Q} (hW : WI s) (hC : CI hi s) (h : EP hi (o_count s w) Q) : pm_C pm_g (SH L) HR (d + 20) m_E_count [.inr 16, .inl w] hi Q := by
  have h := h.same hC
  obtain ⟨a3, a4, a5, a6, a7, a8⟩ := hC.1.all
  refine v_E_count (d := d + 19) ⟨fun c => ?_, fun c0 => ⟨fun c => ?_, fun c1 => ⟨fun c => ?_, fun c2 => ⟨fun c => ?_, fun c3 => ⟨fun c => ?_, fun c4 => ⟨fun c => ?_, fun c5 => ⟨fun c => ?_, fun c6 => ?_⟩⟩⟩⟩⟩⟩⟩
  · rw [c] at h; rw [hC.1.n]; exact h
  · rw [c] at h; rw [a6]; exact h
  · rw [c] at h; rw [a3]; exact h
  · rw [c] at h; rw [a8]; exact h
  · rw [c] at h; rw [hC.2.2.2.2.2.2.2.2.1.1]; exact h
  · rw [c] at h; rw [hC.2.2.2.2.2.1.1]; exact h
  · rw [c] at h; rw [a7]; exact h
  · rw [if_neg c0, if_neg c1, if_neg c2, if_neg c3, if_neg c4, if_neg c5, if_neg c6] at h; exact h
theorem M_count {L d : Nat} {s : St} {w : Int32} {hi : pm_B} {Q : pm_Q} (hW : WI s) (hM : MI hi s) (h : MP hi (o_count s w) Q) : pm_C pm_g (SH L) HR (d + 20) m_M_count [.inr 141, .inl w] hi Q := by
  have h := h.same hM
  obtain ⟨a0, a2, a3, a4, a5⟩ := hM.1.all
  refine v_M_count (d := d + 19) ⟨fun c => ?_, fun c0 => ⟨fun c => ?_, fun c1 => ⟨fun c => ?_, fun c2 => ⟨fun c => ?_, fun c3 => ⟨fun c => ?_, fun c4 => ⟨fun c => ?_, fun c5 => ⟨fun c => ?_, fun c6 => ?_⟩⟩⟩⟩⟩⟩⟩
  · rw [c] at h; rw [hM.1.n]; exact h
  · rw [c] at h; rw [a2]; exact h
  · rw [c] at h; rw [a3]; exact h
  · rw [c] at h; rw [hM.1.t6]; exact h
  · rw [c] at h; rw [hM.2.2.2.2.2.2.2.2.1.1]; exact h
  · rw [c] at h; rw [hM.2.2.2.2.2.1.1]; exact h
  · rw [c] at h; rw [a0]; exact h
  · rw [if_neg c0, if_neg c1, if_neg c2, if_neg c3, if_neg c4, if_neg c5, if_neg c6] at h; exact h
theorem W_count {s : St} {w : Int32} (hW : WI s) : WI (o_count s w).1 := hW
/-! tell, trim, feed -/
def uT (s : St) (bs : List Int32) : St := (s.1, s.2.1, s.2.2.1, bs, s.2.2.2.2)
def uW (s : St) (wt : List Int32) : St := (s.1, s.2.1, s.2.2.1, s.2.2.2.1, s.2.2.2.2.1, s.2.2.2.2.2.1, wt)
theorem CI.tape {hi hi' : pm_B} {s : St} {bs : List Int32} (h : CI hi s) (hW : WI s) (hk : ∀ q j, q < 141 → ¬ (q = 107 ∨ q = 108) → hi' q j = hi q j) (hb : CB hi' bs) : CI hi' (uT s bs) := by
  obtain ⟨a1, a2, a3, a4, a5, a6, a7, a8, a9, a10⟩ := h
  have k : ∀ q j, q < 141 ∧ ¬ (q = 107 ∨ q = 108) → hi' q j = hi q j := fun q j c => hk q j c.1 c.2
  exact ⟨a1.kept hW.1.1 (fun q j u v => k q j (by omega)), a2.kept hW.2.2.1.1 (fun q j u v => k q j (by omega)), a3.kept (fun q j u v => k q j (by omega)), a4.kept (fun q j u v => k q j (by omega)), (k _ _ (by omega)).trans a5, hb, fun i hi4 => (a7 i hi4).kept (fun q j u v => k q j (by omega)), fun i hi5 => (a8 i hi5).kept (fun q j u v => k q j (by omega)), ⟨(k _ _ (by omega)).trans a9.1, a9.2.to (fun j _ => k _ _ (by omega))⟩, fun q j u v => (k q j (by omega)).trans (a10 q j u v)⟩
theorem MI.tape {hi hi' : pm_B} {s : St} {bs : List Int32} (h : MI hi s) (hW : WI s) (hk : ∀ q j, 141 ≤ q → ¬ ((q = 141 ∧ 11 ≤ j ∧ j < 37) ∨ q = 149 ∨ q = 152 ∨ q = 153 ∨ q = 154) → hi' q j = hi q j) (hb : MB hi' bs) : MI hi' (uT s bs) := by
  obtain ⟨a1, a2, a3, a4, a5, a6, a7, a8, a9, a10⟩ := h
  have k : ∀ q j, 141 ≤ q ∧ ¬ ((q = 141 ∧ 11 ≤ j ∧ j < 37) ∨ q = 149 ∨ q = 152 ∨ q = 153 ∨ q = 154) → hi' q j = hi q j := fun q j c => hk q j c.1 c.2
  exact ⟨a1.kept hW.1.l24 hW.1.1 (fun j u => k _ j (by omega)), fun hz => (a2 hz).kept hW.2.2.1.l24 hW.2.2.1.1 (fun j u => k _ j (by omega)), a3.kept' (fun j u v => k _ j (by omega)), a4.kept' (fun j u v => k _ j (by omega)), (k _ _ (by omega)).trans a5, hb, fun i hi4 => (a7 i hi4).kept (fun q j u v => k q j (by omega)), fun i hi5 => (a8 i hi5).kept (fun q j u v => k q j (by omega)), ⟨(k _ _ (by omega)).trans a9.1, a9.2.to (fun j _ => k _ _ (by omega))⟩, fun q j u => (k q j (by omega)).trans (a10 q j u)⟩
theorem CI.wait {hi hi' : pm_B} {s : St} {wt : List Int32} (h : CI hi s) (hW : WI s) (hk : ∀ q j, q < 141 → ¬ ((q = 16 ∧ j = 12) ∨ q = 140) → hi' q j = hi q j) (hb : CW hi' wt) : CI hi' (uW s wt) := by
  obtain ⟨a1, a2, a3, a4, a5, a6, a7, a8, a9, a10⟩ := h
  have k : ∀ q j, q < 141 ∧ ¬ ((q = 16 ∧ j = 12) ∨ q = 140) → hi' q j = hi q j := fun q j c => hk q j c.1 c.2
  exact ⟨a1.kept hW.1.1 (fun q j u v => k q j (by omega)), a2.kept hW.2.2.1.1 (fun q j u v => k q j (by omega)), a3.kept (fun q j u v => k q j (by omega)), a4.kept (fun q j u v => k q j (by omega)), (k _ _ (by omega)).trans a5, ⟨(k _ _ (by omega)).trans a6.1, a6.2.to (fun j _ => k _ _ (by omega))⟩, fun i hi4 => (a7 i hi4).kept (fun q j u v => k q j (by omega)), fun i hi5 => (a8 i hi5).kept (fun q j u v => k q j (by omega)), hb, fun q j u v => (k q j (by omega)).trans (a10 q j u v)⟩
theorem MI.wait {hi hi' : pm_B} {s : St} {wt : List Int32} (h : MI hi s) (hW : WI s) (hk : ∀ q j, 141 ≤ q → ¬ ((q = 141 ∧ j = 37) ∨ q = 165) → hi' q j = hi q j) (hb : MW hi' wt) : MI hi' (uW s wt) := by
  obtain ⟨a1, a2, a3, a4, a5, a6, a7, a8, a9, a10⟩ := h
  have k : ∀ q j, 141 ≤ q ∧ ¬ ((q = 141 ∧ j = 37) ∨ q = 165) → hi' q j = hi q j := fun q j c => hk q j c.1 c.2
  exact ⟨a1.kept hW.1.l24 hW.1.1 (fun j u => k _ j (by omega)), fun hz => (a2 hz).kept hW.2.2.1.l24 hW.2.2.1.1 (fun j u => k _ j (by omega)), a3.kept' (fun j u v => k _ j (by omega)), a4.kept' (fun j u v => k _ j (by omega)), (k _ _ (by omega)).trans a5, ⟨(k _ _ (by omega)).trans a6.1, a6.2.to (fun j _ => k _ _ (by omega))⟩, fun i hi4 => (a7 i hi4).kept (fun q j u v => k q j (by omega)), fun i hi5 => (a8 i hi5).kept (fun q j u v => k q j (by omega)), hb, fun q j u => (k q j (by omega)).trans (a10 q j u)⟩
def o_tell (s : St) (v : Int32) : St × Int32 := if s.2.2.2.2.2.2.length = 60 then (s, -1000000003) else (uW s (s.2.2.2.2.2.2 ++ [v]), nI (s.2.2.2.2.2.2.length + 1))
theorem E_tell {L d : Nat} {s : St} {v : Int32} {hi : pm_B} {Q : pm_Q} (hW : WI s) (hC : CI hi s) (h : EP hi (o_tell s v) Q) : pm_C pm_g (SH L) HR (d + 20) m_E_tell [.inr 16, .inl v] hi Q := by
  have hw := hC.2.2.2.2.2.2.2.2.1
  have hl := hW.2.2.2.2.2.2.2.2.2
  unfold o_tell at h
  refine v_E_tell (d := d + 19) ?_
  rw [hw.1]
  refine ⟨fun c => absurd c (nI_pos (by omega)), fun _ => ⟨fun c => ?_, fun c => ?_⟩⟩
  · have c := (nI_ltI (b := 60) (by omega) (by omega)).mp c
    rw [if_neg (by omega)] at h
    refine ⟨_, c, rfl, fun hi4 e4 => ?_⟩
    have n4 : hi4 16 12 = nI (s.2.2.2.2.2.2.length + 1) := by rw [e4, pm_u_at, pm_u_ne (Or.inl (by omega)), hw.1, nI_1]
    rw [n4]
    refine h hi4 (fun q j hn => ?_) (hC.wait hW (fun q j _ hn => ?_) ⟨?_, ?_⟩)
    · unfold PE at hn; rw [e4, pm_u_ne (by omega), pm_u_ne (by omega)]
    · rw [e4, pm_u_ne (by omega), pm_u_ne (by omega)]
    · rw [n4, List.length_append]; rfl
    · rw [e4]
      exact Row.to (f := pm_u hi 140 s.2.2.2.2.2.2.length v 140) (hw.2.u rfl) (fun j _ => pm_u_ne (Or.inl (by omega)))
  · have c : ¬ s.2.2.2.2.2.2.length < 60 := fun hh => c (nI_lt (b := 60) hh (by omega))
    rw [if_pos (by omega)] at h
    exact h.same hC
theorem M_tell {L d : Nat} {s : St} {v : Int32} {hi : pm_B} {Q : pm_Q} (hW : WI s) (hM : MI hi s) (h : MP hi (o_tell s v) Q) : pm_C pm_g (SH L) HR (d + 20) m_M_tell [.inr 141, .inl v] hi Q := by
  have hw := hM.2.2.2.2.2.2.2.2.1
  have hl := hW.2.2.2.2.2.2.2.2.2
  unfold o_tell at h
  refine v_M_tell (d := d + 19) ?_
  rw [hw.1]
  refine ⟨fun c => ?_, fun c => ?_⟩
  · have c : ¬ s.2.2.2.2.2.2.length = 60 := fun hh => c (by rw [hh]; rfl)
    rw [if_neg c] at h
    refine ⟨_, show s.2.2.2.2.2.2.length < 60 by omega, rfl, fun hi4 e4 => ?_⟩
    have n4 : hi4 141 37 = nI (s.2.2.2.2.2.2.length + 1) := by rw [e4, pm_u_at, pm_u_ne (Or.inl (by omega)), hw.1, nI_1]
    rw [n4]
    refine h hi4 (fun q j hn => ?_) (hM.wait hW (fun q j _ hn => ?_) ⟨?_, ?_⟩)
    · unfold PQ at hn; rw [e4, pm_u_ne (by omega), pm_u_ne (by omega)]
    · rw [e4, pm_u_ne (by omega), pm_u_ne (by omega)]
    · rw [n4, List.length_append]; rfl
    · rw [e4]
      exact Row.to (f := pm_u hi 165 s.2.2.2.2.2.2.length v 165) (hw.2.u rfl) (fun j _ => pm_u_ne (Or.inl (by omega)))
  · have c := (nI_eq (a := s.2.2.2.2.2.2.length) (b := 60) (by omega) (by omega)).mp (Decidable.not_not.mp c)
    rw [if_pos c] at h
    exact h.same hM
theorem wait_WI {s : St} {wt : List Int32} (h : WI s) (hl : wt.length ≤ 60) : WI (uW s wt) := by
  obtain ⟨a1, a2, a3, a4, a5, a6, a7, a8, a9, a10⟩ := h
  exact ⟨a1, a2, a3, a4, a5, a6, a7, a8, a9, hl⟩
theorem tape_WI {s : St} {bs : List Int32} (h : WI s) (hl : bs.length ≤ 96) (hb : ∀ b ∈ bs, ∃ n, n < 256 ∧ b = nI n) : WI (uT s bs) := by
  obtain ⟨a1, a2, a3, a4, a5, a6, a7, a8, a9, a10⟩ := h
  exact ⟨a1, a2, a3, a4, a5, a6, ⟨hl, hb⟩, a8, a9, a10⟩
theorem W_tell {s : St} {v : Int32} (hW : WI s) : WI (o_tell s v).1 := by
  have hl := hW.2.2.2.2.2.2.2.2.2
  unfold o_tell
  by_cases c : s.2.2.2.2.2.2.length = 60
  · rw [if_pos c]; exact hW
  · rw [if_neg c]
    exact wait_WI hW (by rw [List.length_append, List.length_singleton]; omega)
def o_trim (s : St) (n : Int32) : St × Int32 := match ixo n (s.2.2.2.1.length + 1) with
  | none => (s, -1000000001)
  | some k => (uT s (s.2.2.2.1.take k), n)
theorem E_trim {L d : Nat} {s : St} {n : Int32} {hi : pm_B} {Q : pm_Q} (hW : WI s) (hC : CI hi s) (h : EP hi (o_trim s n) Q) : pm_C pm_g (SH L) HR (d + 20) m_E_trim [.inr 16, .inl n] hi Q := by
  have hb := hC.2.2.2.2.2.1
  have hl := hW.2.2.2.2.2.2.1.1
  unfold o_trim at h
  refine v_E_trim (d := d + 19) (gU s.2.2.2.1.length hb.1 (by omega) (fun x => ?_) (fun k hk hx x => ?_))
  · rw [x] at h; exact h.same hC
  · rw [x] at h; dsimp only at h
    refine h _ (fun q j hn => ?_) (hC.tape hW (fun q j _ hn => pm_u_ne (by omega)) ⟨?_, ?_⟩)
    · unfold PE at hn; exact pm_u_ne (by omega)
    · rw [pm_u_at, hx, List.length_take, Nat.min_eq_left (by omega)]
    · exact (hb.2.take k).to (fun j _ => pm_u_ne (Or.inl (by omega)))
theorem M_trim {L d : Nat} {s : St} {n : Int32} {hi : pm_B} {Q : pm_Q} (hW : WI s) (hM : MI hi s) (h : MP hi (o_trim s n) Q) : pm_C pm_g (SH L) HR (d + 20) m_M_trim [.inr 141, .inl n] hi Q := by
  have hb := hM.2.2.2.2.2.1
  have hl := hW.2.2.2.2.2.2.1.1
  unfold o_trim at h
  refine v_M_trim (d := d + 18) (gT s.2.2.2.1.length hb.1 (by omega) (fun x => ?_) (fun k hk hx x => ?_))
  · rw [x] at h; exact h.same hM
  · rw [x] at h; dsimp only at h
    refine h _ (fun q j hn => ?_) (hM.tape hW (fun q j _ hn => pm_u_ne (by omega)) ⟨?_, ?_⟩)
    · unfold PQ at hn; exact pm_u_ne (by omega)
    · rw [pm_u_at, hx, List.length_take, Nat.min_eq_left (by omega)]
    · exact (hb.2.take k).to (fun j _ => pm_u_ne (Or.inl (by omega)))
theorem W_trim {s : St} {n : Int32} (hW : WI s) : WI (o_trim s n).1 := by
  unfold o_trim
  have hb := hW.2.2.2.2.2.2.1
  cases ixo n (s.2.2.2.1.length + 1) with
  | none => exact hW
  | some k => exact tape_WI hW (by rw [List.length_take]; omega) (fun b h => hb.2 b (List.mem_of_mem_take h))
theorem byt_shr (v : Int32) {k : Nat} (hk : k < 4) : ((v >>> (nI (24 - 8 * k) &&& 31)) &&& 255) = byt v (nI (24 - 8 * k)) ∧ ∃ n, n < 256 ∧ byt v (nI (24 - 8 * k)) = nI n := by
  unfold byt
  rw [pk_and _ (m := 255) 8 (by decide), pk_and _ (m := 255) 8 (by decide)]
  have e31 : ∀ k, k < 4 → ((nI (24 - 8 * k) &&& 31).toBitVec.smod 32).toNat = 24 - 8 * k ∧ (((nI (24 - 8 * k)).toUInt32 &&& Int32.toUInt32 31).toBitVec % 32).toNat = 24 - 8 * k := by decide +kernel
  have h1 := pk_shr v (nI (24 - 8 * k) &&& 31) _ (e31 k hk).1
  have h2 := pk_ushr v (nI (24 - 8 * k)) _ (e31 k hk).2
  rw [h2]
  refine ⟨?_, _, Nat.mod_lt _ (by omega), rfl⟩
  generalize v >>> (nI (24 - 8 * k) &&& 31) = y at h1 ⊢
  have h3 : y.toInt = if 2 * y.toBitVec.toNat < 2 ^ 32 then (y.toBitVec.toNat : Int) else (y.toBitVec.toNat : Int) - 2 ^ 32 := BitVec.toInt_eq_toNat_cond y.toBitVec
  have h4 : v.toInt = if 2 * v.toBitVec.toNat < 2 ^ 32 then (v.toBitVec.toNat : Int) else (v.toBitVec.toNat : Int) - 2 ^ 32 := BitVec.toInt_eq_toNat_cond v.toBitVec
  rw [h3, h4, Int.shiftRight_eq_div_pow] at h1
  have hx := v.toBitVec.isLt
  have hy := y.toBitVec.isLt
  congr 1
  generalize v.toBitVec.toNat = a at h1 hx ⊢
  generalize y.toBitVec.toNat = b at h1 hy ⊢
  clear h2 h3 h4 e31
  rcases (show k = 0 ∨ k = 1 ∨ k = 2 ∨ k = 3 by omega) with rfl | rfl | rfl | rfl <;> simp only [Nat.reducePow, Nat.reduceMul, Nat.reduceSub] at h1 ⊢ <;> split at h1 <;> split at h1 <;> omega
def bt (a b c : Int32) (k : Nat) : Int32 := byt (if k < 4 then a else if k < 8 then b else c) (nI (24 - 8 * (k % 4)))
def b12 (a b c : Int32) : List Int32 := (List.range 12).map (bt a b c)
theorem b12_eq (a b c : Int32) : b12 a b c = [byt a 24, byt a 16, byt a 8, byt a 0] ++ [byt b 24, byt b 16, byt b 8, byt b 0] ++ [byt c 24, byt c 16, byt c 8, byt c 0] := rfl
def o_feed (s : St) (a b c : Int32) : St × Int32 := if s.2.2.2.1.length + 12 ≤ 96 then (uT s (s.2.2.2.1 ++ b12 a b c), nI (s.2.2.2.1.length + 12)) else (s, -1000000003)
theorem E_feed {L d : Nat} {s : St} {a b c : Int32} {hi : pm_B} {Q : pm_Q} (hW : WI s) (hC : CI hi s) (h : EP hi (o_feed s a b c) Q) : pm_C pm_g (SH L) HR (d + 20) m_E_feed [.inr 16, .inl a, .inl b, .inl c] hi Q := by
  have hb := hC.2.2.2.2.2.1
  have hl := hW.2.2.2.2.2.2.1.1
  unfold o_feed at h
  refine v_E_feed (d := d + 19) ?_
  rw [hb.1, show (12 : Int32) = nI 12 from rfl, nI_add]
  refine ⟨fun x => ?_, fun x => ?_⟩
  · have x := (nI_leI (b := 96) (by omega) (by omega)).mp x
    rw [if_pos x] at h
    refine putNumber_c (d := d + 18) hb (by omega) (fun hi1 f1 c1 => ⟨rfl, ?_⟩)
    refine putNumber_c (d := d + 18) c1 (by rw [List.length_append]; show s.2.2.2.1.length + 4 + 4 ≤ 96; omega) (fun hi2 f2 c2 => ⟨rfl, ?_⟩)
    refine putNumber_c (d := d + 18) c2 (by rw [List.length_append, List.length_append]; show s.2.2.2.1.length + 4 + 4 + 4 ≤ 96; omega) (fun hi3 f3 c3 => ⟨rfl, ?_⟩)
    have f := (f1.tr f2).tr f3
    have c3 : CB hi3 (s.2.2.2.1 ++ b12 a b c) := by
      rw [b12_eq, ← List.append_assoc, ← List.append_assoc]
      exact c3
    have n3 : hi3 107 1 = nI (s.2.2.2.1.length + 12) := by rw [c3.1, List.length_append]; rfl
    rw [n3]
    exact h hi3 (fun q j hn => f q j (by unfold PE at hn; omega)) (hC.tape hW (fun q j _ hn => f q j hn) c3)
  · rw [if_neg (fun hh => x (nI_le (b := 96) hh (by omega)))] at h
    exact h.same hC
theorem M_feed {L d : Nat} {s : St} {a b c : Int32} {hi : pm_B} {Q : pm_Q} (hW : WI s) (hM : MI hi s) (h : MP hi (o_feed s a b c) Q) : pm_C pm_g (SH L) HR (d + 20) m_M_feed [.inr 141, .inl a, .inl b, .inl c] hi Q := by
  have hb := hM.2.2.2.2.2.1
  have hl := hW.2.2.2.2.2.2.1.1
  unfold o_feed at h
  refine v_M_feed (d := d + 19) ?_
  rw [hb.1, show (12 : Int32) = nI 12 from rfl, nI_add]
  refine ⟨fun x => ?_, fun x => ?_⟩
  · have x := (nI_leI (b := 96) (by omega) (by omega)).mp x
    rw [if_pos x] at h
    have hlen : (b12 a b c).length = 12 := rfl
    have key : ∀ m k hi' o, k + m = 12 → Fr (fun q _ => q = 149) hi hi' → Row (hi' 149) (s.2.2.2.1 ++ (b12 a b c).take k) → pm_W pm_g (SH L) HR (d + 19) pm_t196 18 [some (.inr 141), some (.inl a), some (.inl b), some (.inl c), some (.inl (nI k)), o] [] hi' Q := by
      intro m
      induction m with
      | zero =>
        intro k hi' o hk hf hr
        have hk : k = 12 := by omega
        subst hk
        refine v_M_feed_18 (d := d + 19) ⟨fun _ => ?_, fun c' => absurd (nI_le (a := 12) (by omega) (by omega)) c'⟩
        rw [hf 141 11 (by omega), hb.1, pm_u_at, show (12 : Int32) = nI 12 from rfl, nI_add]
        rw [List.take_of_length_le (by omega)] at hr
        refine h _ (fun q j hn => ?_) (hM.tape hW (fun q j _ hn => ?_) ⟨?_, ?_⟩)
        · unfold PQ at hn; rw [pm_u_ne (by omega), hf q j (by omega)]
        · rw [pm_u_ne (by omega), hf q j (by omega)]
        · rw [pm_u_at, List.length_append, hlen]
        · exact hr.to (fun j _ => pm_u_ne (Or.inl (by omega)))
      | succ m ih =>
        intro k hi' o hk hf hr
        have hk12 : k < (b12 a b c).length := by omega
        have hel : (b12 a b c)[k] = bt a b c k := by
          have e : b12 a b c = (List.range 12).map (bt a b c) := rfl
          rw [List.getElem_of_eq e hk12, List.getElem_map, List.getElem_range]
        have es : (24 : Int32) - 8 * (nI k - nI k / 4 * 4) = nI (24 - 8 * (k % 4)) := by
          rw [show (4 : Int32) = nI 4 from rfl, pk_rem (by omega) (by omega) (by omega), show (8 : Int32) = nI 8 from rfl, show (24 : Int32) = nI 24 from rfl, pk_mul, nI_sub (by omega)]
        have step : ∀ (w : Int32) o, w = (if k < 4 then a else if k < 8 then b else c) → pm_W pm_g (SH L) HR (d + 19) pm_t196 18 [some (.inr 141), some (.inl a), some (.inl b), some (.inl c), some (.inl (nI k + 1)), o] [] (pm_u hi' 149 (s.2.2.2.1.length + k) ((w >>> ((24 - (8 * (nI k - nI k / 4 * 4))) &&& 31)) &&& 255)) Q := by
          intro w o ew
          rw [es, (byt_shr w (show k % 4 < 4 by omega)).1, nI_1]
          refine ih (k + 1) _ _ (by omega) (hf.tr (Fr.u rfl)) ?_
          rw [List.take_succ_eq_append_getElem hk12, ← List.append_assoc, hel]
          have : byt w (nI (24 - 8 * (k % 4))) = bt a b c k := by unfold bt; rw [← ew]
          rw [this]
          exact hr.u (by rw [List.length_append, List.length_take]; omega)
        refine v_M_feed_18 (d := d + 19) ⟨fun c' => absurd c' (nI_ge (b := 12) (by omega) (by omega)), fun _ => ?_⟩
        rw [hf 141 11 (by omega), hb.1, nI_add]
        refine ⟨fun c4 => ⟨fun c8 => ⟨_, show s.2.2.2.1.length + k < 96 by omega, rfl, ?_⟩, fun c8 => ⟨_, show s.2.2.2.1.length + k < 96 by omega, rfl, ?_⟩⟩, fun c4 => ⟨_, show s.2.2.2.1.length + k < 96 by omega, rfl, ?_⟩⟩
        · have c4 := (nI_leI (a := 4) (by omega) (by omega)).mp c4
          have c8 := (nI_leI (a := 8) (by omega) (by omega)).mp c8
          exact step c _ (by rw [if_neg (by omega), if_neg (by omega)])
        · have c4 := (nI_leI (a := 4) (by omega) (by omega)).mp c4
          have c8 : ¬ 8 ≤ k := fun hh => c8 (nI_le (a := 8) hh (by omega))
          exact step b _ (by rw [if_neg (by omega), if_pos (by omega)])
        · have c4 : ¬ 4 ≤ k := fun hh => c4 (nI_le (a := 4) hh (by omega))
          exact step a _ (by rw [if_pos (by omega)])
    refine key 12 0 hi _ rfl Fr.rf ?_
    rw [List.take_zero, List.append_nil]
    exact hb.2
  · rw [if_neg (fun hh => x (nI_le (b := 96) hh (by omega)))] at h
    exact h.same hM
theorem W_feed {s : St} {a b c : Int32} (hW : WI s) : WI (o_feed s a b c).1 := by
  unfold o_feed
  by_cases x : s.2.2.2.1.length + 12 ≤ 96
  · rw [if_pos x]
    refine tape_WI hW (by rw [List.length_append]; exact x) (fun y hy => ?_)
    rcases List.mem_append.mp hy with h | h
    · exact hW.2.2.2.2.2.2.1.2 y h
    · obtain ⟨k, hk, e⟩ := List.mem_map.mp h
      rw [← e]
      unfold bt
      exact (byt_shr _ (show k % 4 < 4 by omega)).2
  · rw [if_neg x]; exact hW
