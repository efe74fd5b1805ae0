/-! ===== the folk: entering, becoming, counting (class side) ===== -/
def aenter (f : AF) (kind ear fame : Int32) : AF := match f with
  | (sps, talk, spoken, lost, day, z, txs) => if sps.length < 8 then (sps ++ [(kind, ear, fame, 0, [])], talk, spoken, lost, day, z, txs) else f
theorem enter_c {L d F : Nat} {f : AF} {kind ear fame : Int32} {hi : pm_B} {Q : pm_Q} (hF : pm_fo F) (hl : f.1.length ≤ 8) (hC : CF hi F f)
    (h : ∀ hi', Fr (PF F) hi hi' → CF hi' F (aenter f kind ear fame) → Q none hi') : pm_C pm_g (SH L) HR (d + 2) m_Folk_enter [.inr F, .inl kind, .inl ear, .inl fame] hi Q := by
  obtain ⟨sps, talk, spoken, lost, day, z, txs⟩ := f
  have hC0 := hC
  obtain ⟨c2, c3, c4, c5, c6, c7, c8, c9, cS⟩ := hC
  dsimp only at hl
  refine v_Folk_enter hF ?_
  rw [c2]
  unfold aenter at h
  dsimp only at h
  refine ⟨fun hc => absurd hc (nI_pos (by omega)), fun _ => ⟨fun hc => ?_, fun hc => ?_⟩⟩
  · have h8 : 8 ≤ sps.length := (nI_leI (a := 8) (by omega) (by omega)).mp hc
    rw [if_neg (by omega)] at h
    exact h hi Fr.rf hC0
  · have h8 : sps.length < 8 := Nat.lt_of_not_le (fun hh => hc (nI_le (a := 8) hh (by omega)))
    rw [if_pos h8] at h
    refine ⟨sps.length, h8, rfl, fun hi4 e4 hi5 e5 hi6 e6 => ?_⟩
    have a6 : ∀ q j, q ≠ F + 2 + 2 * sps.length → hi6 q j = hi q j := fun q j hq => by
      rw [e6, pm_u_ne (Or.inl hq), e5, pm_u_ne (Or.inl hq), pm_u_ne (Or.inl hq), e4, pm_u_ne (Or.inl hq), pm_u_ne (Or.inl hq)]
    rw [a6 F 2 (by omega), c2, nI_1]
    have tF : ∀ j, j ≠ 2 → pm_u hi6 F 2 (nI (sps.length + 1)) F j = hi F j := fun j hj => by rw [pm_u_ne (Or.inr hj), a6 F j (by omega)]
    refine h _ ?_ ?_
    · intro q j hn
      unfold PF at hn
      rw [pm_u_ne (Or.inl (by omega)), a6 q j (by omega)]
    · refine ⟨?_, (tF 3 (by omega)).trans c3, (tF 4 (by omega)).trans c4, (tF 5 (by omega)).trans c5, (tF 6 (by omega)).trans c6, (tF 7 (by omega)).trans c7, (tF 8 (by omega)).trans c8, fun k hk => ?_, fun i p hp => ?_⟩
      · rw [pm_u_at, List.length_append]; rfl
      · rw [pm_u_ne (Or.inl (by omega)), a6 _ _ (by omega)]; exact c9 k hk
      · have hi9 : i < sps.length + 1 := by
          have := (List.getElem?_eq_some_iff.mp hp).1
          rw [List.length_append] at this
          exact this
        by_cases hil : i = sps.length
        · subst hil
          rw [List.getElem?_append_right (Nat.le_refl _), Nat.sub_self] at hp
          cases hp
          have b : ∀ j, pm_u hi6 F 2 (nI (sps.length + 1)) (F + 2 + 2 * sps.length) j = hi6 (F + 2 + 2 * sps.length) j := fun j => pm_u_ne (Or.inl (by omega))
          refine ⟨?_, ?_, ?_, ?_, ?_, Row.nil⟩
          · rw [b, e6, pm_u_ne (Or.inr (by omega)), e5, pm_u_ne (Or.inr (by omega)), pm_u_ne (Or.inr (by omega)), e4, pm_u_ne (Or.inr (by omega)), pm_u_at]
          · rw [b, e6, pm_u_ne (Or.inr (by omega)), e5, pm_u_ne (Or.inr (by omega)), pm_u_ne (Or.inr (by omega)), e4, pm_u_at]
          · rw [b, e6, pm_u_ne (Or.inr (by omega)), e5, pm_u_ne (Or.inr (by omega)), pm_u_at]
          · rw [b, e6, pm_u_ne (Or.inr (by omega)), e5, pm_u_at]
          · rw [b, e6, pm_u_at]; rfl
        · rw [List.getElem?_append_left (by omega)] at hp
          exact (cS i p hp).kept (fun j => by rw [pm_u_ne (Or.inl (by omega)), a6 _ _ (by omega)]) (fun j => by rw [pm_u_ne (Or.inl (by omega)), a6 _ _ (by omega)])
/-- one enters by lot -/
def alot (f : AF) : AF := match f with
  | (sps, talk, spoken, lost, day, z, txs) => aenter (sps, talk, spoken, lost, day, zn (zn (zn z)), txs) (nI (drN z % 6)) (1 + nI (drN (zn z) % 9)) (nI (drN (zn (zn z)) % 100))
theorem enterByLot_c {L d F : Nat} {f : AF} {hi : pm_B} {Q : pm_Q} (hF : pm_fo F) (hl : f.1.length ≤ 8) (hC : CF hi F f)
    (h : ∀ hi', Fr (PF F) hi hi' → CF hi' F (alot f) → Q none hi') : pm_C pm_g (SH L) HR (d + 3) m_Folk_enterByLot [.inr F] hi Q := by
  obtain ⟨sps, talk, spoken, lost, day, z, txs⟩ := f
  unfold alot at h
  dsimp only at h hl
  have fru : ∀ (a : pm_B) (v : Int32) (j : Nat), Fr (PF F) a (pm_u a F j v) := fun a v j q' j' hn => pm_u_ne (Or.inl (fun hh => hn (Or.inr (Or.inl hh))))
  refine v_Folk_enterByLot (d := d + 2) hF ?_
  refine drawBelow_c (d := d + 1) (n := 6) hF (by omega) (by omega) hC.2.2.2.2.2.1 ⟨_, rfl, ?_⟩
  have hC1 := hC.z (zn z)
  have fr1 := fru hi (zn z) 7
  generalize pm_u hi F 7 (zn z) = hi1 at hC1 fr1 ⊢
  refine drawBelow_c (d := d + 1) (n := 9) hF (by omega) (by omega) hC1.2.2.2.2.2.1 ⟨_, rfl, ?_⟩
  have hC2 := hC1.z (zn (zn z))
  have fr2 := fr1.tr (fru hi1 (zn (zn z)) 7)
  generalize pm_u hi1 F 7 (zn (zn z)) = hi2 at hC2 fr2 ⊢
  refine drawBelow_c (d := d + 1) (n := 100) hF (by omega) (by omega) hC2.2.2.2.2.2.1 ⟨_, rfl, ?_⟩
  have hC3 := hC2.z (zn (zn (zn z)))
  have fr3 := fr2.tr (fru hi2 (zn (zn (zn z))) 7)
  generalize pm_u hi2 F 7 (zn (zn (zn z))) = hi3 at hC3 fr3 ⊢
  generalize nI (drN z % 6) = a at h ⊢
  generalize nI (drN (zn z) % 9) = b at h ⊢
  generalize nI (drN (zn (zn z)) % 100) = c at h ⊢
  generalize zn (zn (zn z)) = z' at h hC3 ⊢
  exact enter_c (d := d) (f := (sps, talk, spoken, lost, day, z', txs)) hF hl hC3 (fun hi' hf hc => ⟨rfl, h hi' (fr3.tr hf) hc⟩)
/-- a speaker becomes as another -/
theorem spBecome_c {L d S T : Nat} {p : ASp} {hi : pm_B} {Q : pm_Q} (hS : pm_sk S) (hT : pm_sk T) (hST : S ≠ T) (hl : p.2.2.2.2.length ≤ 24) (hC : CS hi T p)
    (h : ∀ hi', Fr (fun q _ => q = S ∨ q = S + 1) hi hi' → CS hi' S p → Q none hi') : pm_C pm_g (SH L) HR (d + 1) m_Speaker_become [.inr S, .inr T] hi Q := by
  obtain ⟨n1, n2⟩ := sk_ne2 hS hT
  obtain ⟨n3, _⟩ := sk_ne2 hT hS
  have n2 := n2 hST
  obtain ⟨a0, a1, a2, a3, a4, aR⟩ := hC
  refine v_Speaker_become hS hT (fun hi1 e1 hi2 e2 => ?_)
  have f1 : ∀ q j, q ≠ S → hi1 q j = hi q j := fun q j hq => by rw [e1, pm_u_ne (Or.inl hq), pm_u_ne (Or.inl hq)]
  have f2 : ∀ q j, q ≠ S → hi2 q j = hi q j := fun q j hq => by rw [e2, pm_u_ne (Or.inl hq), pm_u_ne (Or.inl hq), f1 q j hq]
  have g : ∀ q j, q ≠ S → pm_u hi2 S 4 (hi2 T 4) q j = hi q j := fun q j hq => by rw [pm_u_ne (Or.inl hq), f2 q j hq]
  have g4 : pm_u hi2 S 4 (hi2 T 4) S 4 = nI p.2.2.2.2.length := by rw [pm_u_at, f2 _ _ (Ne.symm hST)]; exact a4
  have g3 : pm_u hi2 S 4 (hi2 T 4) S 3 = p.2.2.2.1 := by rw [pm_u_ne (Or.inr (by omega)), e2, pm_u_at, pm_u_ne (Or.inl (Ne.symm hST)), f1 _ _ (Ne.symm hST)]; exact a3
  have g2 : pm_u hi2 S 4 (hi2 T 4) S 2 = p.2.2.1 := by rw [pm_u_ne (Or.inr (by omega)), e2, pm_u_ne (Or.inr (by omega)), pm_u_at, f1 _ _ (Ne.symm hST)]; exact a2
  have g1 : pm_u hi2 S 4 (hi2 T 4) S 1 = p.2.1 := by rw [pm_u_ne (Or.inr (by omega)), e2, pm_u_ne (Or.inr (by omega)), pm_u_ne (Or.inr (by omega)), e1, pm_u_at, pm_u_ne (Or.inl (Ne.symm hST))]; exact a1
  have g0 : pm_u hi2 S 4 (hi2 T 4) S 0 = p.1 := by rw [pm_u_ne (Or.inr (by omega)), e2, pm_u_ne (Or.inr (by omega)), pm_u_ne (Or.inr (by omega)), e1, pm_u_ne (Or.inr (by omega)), pm_u_at]; exact a0
  generalize pm_u hi2 S 4 (hi2 T 4) = hi3 at g g0 g1 g2 g3 g4 ⊢
  clear f1 f2 e1 e2
  have key : ∀ n k hi', k + n = p.2.2.2.2.length → (∀ q j, q ≠ S + 1 → hi' q j = hi3 q j) → (∀ j, j < k → hi' (S + 1) j = hi (T + 1) j) → pm_W pm_g (SH L) HR d pm_t62 42 [some (.inr S), some (.inr T), some (.inl (nI k))] [] hi' Q := by
    intro n
    induction n with
    | zero =>
      intro k hi' hk u1 u2
      refine v_Speaker_become_42 hS hT ?_
      rw [u1 S 4 (by omega), g4]
      refine ⟨fun _ => h hi' ?_ ?_, fun hc => absurd (nI_le (by omega) (by omega)) hc⟩
      · intro q j hn
        rw [u1 q j (fun hh => hn (Or.inr hh)), g q j (fun hh => hn (Or.inl hh))]
      · refine ⟨(u1 S 0 (by omega)).trans g0, (u1 S 1 (by omega)).trans g1, (u1 S 2 (by omega)).trans g2, (u1 S 3 (by omega)).trans g3, (u1 S 4 (by omega)).trans g4, aR.to (fun j hj => u2 j (by omega))⟩
    | succ n ih =>
      intro k hi' hk u1 u2
      refine v_Speaker_become_42 hS hT ?_
      rw [u1 S 4 (by omega), g4]
      refine ⟨fun hc => absurd hc (nI_ge (by omega) (by omega)), fun _ => ⟨fun hc => absurd hc (nI_ge (b := 24) (by omega) (by omega)), fun _ => ⟨k, by omega, rfl, k, by omega, rfl, ?_⟩⟩⟩
      rw [nI_1]
      refine ih (k + 1) _ (by omega) (fun q j hq => ?_) (fun j hj => ?_)
      · rw [pm_u_ne (Or.inl hq)]; exact u1 q j hq
      · by_cases hjk : j = k
        · subst hjk
          rw [pm_u_at, u1 _ _ (by omega), g _ _ (by omega)]
        · rw [pm_u_ne (Or.inr hjk)]; exact u2 j (by omega)
  exact key _ 0 hi3 (Nat.zero_add _) (fun _ _ _ => rfl) (fun j hj => absurd hj (by omega))
/-- a folk becomes as another -/
theorem become_c {L d F G : Nat} {f : AF} {hi : pm_B} {Q : pm_Q} (hF : pm_fo F) (hG : pm_fo G) (hFG : F ≠ G) (hW : WF f) (hC : CF hi G f)
    (h : ∀ hi', Fr (fun q _ => q = F ∨ (F + 2 ≤ q ∧ q < F + 19)) hi hi' → CF hi' F f → Q none hi') : pm_C pm_g (SH L) HR (d + 2) m_Folk_become [.inr F, .inr G] hi Q := by
  obtain ⟨sps, talk, spoken, lost, day, z, txs⟩ := f
  obtain ⟨c2, c3, c4, c5, c6, c7, c8, c9, cS⟩ := hC
  have hl8 : sps.length ≤ 8 := hW.1
  have far : G + 19 ≤ F ∨ F + 19 ≤ G := by rcases hF with rfl | rfl | rfl <;> rcases hG with rfl | rfl | rfl <;> omega
  refine v_Folk_become (d := d + 1) hF hG ?_
  rw [c2]
  have last : ∀ n k hi', k + n = 3 → (∀ q j, q < F ∨ F + 19 ≤ q → hi' q j = hi q j) → (∀ q j, q = F + 1 → hi' q j = hi q j) → hi' F 2 = nI sps.length → hi' F 3 = talk → hi' F 4 = spoken → hi' F 5 = lost → hi' F 6 = day → hi' F 7 = z → hi' F 8 = nI txs.length → (∀ i p, sps[i]? = some p → CS hi' (F + 2 + 2 * i) p) → (∀ j, j < k → hi' (F + 18) j = lix (lk txs (nI j))) → pm_W pm_g (SH L) HR (d + 1) pm_t1 98 [some (.inr F), some (.inr G), some (.inl (nI k))] [] hi' Q := by
    intro n
    induction n with
    | zero =>
      intro k hi' hk u0 u1 b2 b3 b4 b5 b6 b7 b8 bS b9
      refine v_Folk_become_98 hF hG ⟨fun _ => h hi' ?_ ⟨b2, b3, b4, b5, b6, b7, b8, fun j hj => b9 j (by omega), bS⟩, fun hc => absurd (nI_le (a := 3) (by omega) (by omega)) hc⟩
      intro q j hn
      by_cases hq : q = F + 1
      · exact u1 q j hq
      · exact u0 q j (by omega)
    | succ n ih =>
      intro k hi' hk u0 u1 b2 b3 b4 b5 b6 b7 b8 bS b9
      refine v_Folk_become_98 hF hG ⟨fun hc => absurd hc (nI_ge (b := 3) (by omega) (by omega)), fun _ => ⟨k, by omega, rfl, k, by omega, rfl, ?_⟩⟩
      rw [nI_1]
      have w : ∀ q j, q ≠ F + 18 → pm_u hi' (F + 18) k (hi' (G + 18) k) q j = hi' q j := fun q j hq => pm_u_ne (Or.inl hq)
      refine ih (k + 1) _ (by omega) (fun q j hq => ?_) (fun q j hq => ?_) ((w F 2 (by omega)).trans b2) ((w F 3 (by omega)).trans b3) ((w F 4 (by omega)).trans b4) ((w F 5 (by omega)).trans b5) ((w F 6 (by omega)).trans b6) ((w F 7 (by omega)).trans b7) ((w F 8 (by omega)).trans b8) (fun i p hp => ?_) (fun j hj => ?_)
      · rw [w q j (by omega)]; exact u0 q j hq
      · rw [w q j (by omega)]; exact u1 q j hq
      · have hi9 := (List.getElem?_eq_some_iff.mp hp).1
        exact (bS i p hp).kept (fun j => w _ _ (by omega)) (fun j => w _ _ (by omega))
      · by_cases hjk : j = k
        · subst hjk
          rw [pm_u_at, u0 _ _ (by omega)]
          exact c9 j (by omega)
        · rw [pm_u_ne (Or.inr hjk)]; exact b9 j (by omega)
  have copy : ∀ hi', (∀ q j, q < F ∨ F + 19 ≤ q → hi' q j = hi q j) → (∀ q j, q = F + 1 ∨ q = F + 18 → hi' q j = hi q j) → hi' F 2 = nI sps.length → (∀ i p, sps[i]? = some p → CS hi' (F + 2 + 2 * i) p) → ∀ hi2 : pm_B, hi2 = pm_u (pm_u hi' F 3 (hi' G 3)) F 4 ((pm_u hi' F 3 (hi' G 3)) G 4) → (∀ hi3 : pm_B, hi3 = pm_u (pm_u hi2 F 5 (hi2 G 5)) F 6 ((pm_u hi2 F 5 (hi2 G 5)) G 6) → (∀ hi4 : pm_B, hi4 = pm_u (pm_u hi3 F 7 (hi3 G 7)) F 8 ((pm_u hi3 F 7 (hi3 G 7)) G 8) → (pm_W pm_g (SH L) HR (d + 1) pm_t1 98 [some (.inr F), some (.inr G), some (.inl 0)] [] hi4 Q))) := by
    intro hi' u0 u1 b2 bS hi2 e2 hi3 e3 hi4 e4
    have nGF : G ≠ F := Ne.symm hFG
    have f2 : ∀ q j, q ≠ F → hi2 q j = hi' q j := fun q j hq => by rw [e2, pm_u_ne (Or.inl hq), pm_u_ne (Or.inl hq)]
    have f3 : ∀ q j, q ≠ F → hi3 q j = hi' q j := fun q j hq => by rw [e3, pm_u_ne (Or.inl hq), pm_u_ne (Or.inl hq), f2 q j hq]
    have f4 : ∀ q j, q ≠ F → hi4 q j = hi' q j := fun q j hq => by rw [e4, pm_u_ne (Or.inl hq), pm_u_ne (Or.inl hq), f3 q j hq]
    have uG : ∀ j, hi' G j = hi G j := fun j => u0 G j (by omega)
    refine last 3 0 hi4 (by omega) (fun q j hq => ?_) (fun q j hq => ?_) ?_ ?_ ?_ ?_ ?_ ?_ ?_ (fun i p hp => ?_) (fun j hj => absurd hj (by omega))
    · rw [f4 q j (by omega)]; exact u0 q j hq
    · rw [f4 q j (by omega)]; exact u1 q j (Or.inl hq)
    · rw [e4, pm_u_ne (Or.inr (by omega)), pm_u_ne (Or.inr (by omega)), e3, pm_u_ne (Or.inr (by omega)), pm_u_ne (Or.inr (by omega)), e2, pm_u_ne (Or.inr (by omega)), pm_u_ne (Or.inr (by omega))]; exact b2
    · rw [e4, pm_u_ne (Or.inr (by omega)), pm_u_ne (Or.inr (by omega)), e3, pm_u_ne (Or.inr (by omega)), pm_u_ne (Or.inr (by omega)), e2, pm_u_ne (Or.inr (by omega)), pm_u_at, uG]; exact c3
    · rw [e4, pm_u_ne (Or.inr (by omega)), pm_u_ne (Or.inr (by omega)), e3, pm_u_ne (Or.inr (by omega)), pm_u_ne (Or.inr (by omega)), e2, pm_u_at, pm_u_ne (Or.inl nGF), uG]; exact c4
    · rw [e4, pm_u_ne (Or.inr (by omega)), pm_u_ne (Or.inr (by omega)), e3, pm_u_ne (Or.inr (by omega)), pm_u_at, f2 _ _ nGF, uG]; exact c5
    · rw [e4, pm_u_ne (Or.inr (by omega)), pm_u_ne (Or.inr (by omega)), e3, pm_u_at, pm_u_ne (Or.inl nGF), f2 _ _ nGF, uG]; exact c6
    · rw [e4, pm_u_ne (Or.inr (by omega)), pm_u_at, f3 _ _ nGF, uG]; exact c7
    · rw [e4, pm_u_at, pm_u_ne (Or.inl nGF), f3 _ _ nGF, uG]; exact c8
    · have hi9 := (List.getElem?_eq_some_iff.mp hp).1
      exact (bS i p hp).kept (fun j => f4 _ _ (by omega)) (fun j => f4 _ _ (by omega))
  have key : ∀ n k hi', k + n = sps.length → (∀ q j, q < F ∨ F + 19 ≤ q → hi' q j = hi q j) → (∀ q j, q = F + 1 ∨ q = F + 18 → hi' q j = hi q j) → hi' F 2 = nI sps.length → (∀ i p, i < k → sps[i]? = some p → CS hi' (F + 2 + 2 * i) p) → pm_W pm_g (SH L) HR (d + 1) pm_t1 10 [some (.inr F), some (.inr G), some (.inl (nI k))] [] hi' Q := by
    intro n
    induction n with
    | zero =>
      intro k hi' hk u0 u1 b2 bS
      refine v_Folk_become_10 hF hG ?_
      rw [b2]
      exact ⟨fun _ => copy hi' u0 u1 b2 (fun i p hp => bS i p (by have := (List.getElem?_eq_some_iff.mp hp).1; omega) hp), fun hc => absurd (nI_le (by omega) (by omega)) hc⟩
    | succ n ih =>
      intro k hi' hk u0 u1 b2 bS
      refine v_Folk_become_10 hF hG ?_
      rw [b2]
      refine ⟨fun hc => absurd hc (nI_ge (by omega) (by omega)), fun _ => ⟨fun hc => absurd hc (nI_ge (b := 8) (by omega) (by omega)), fun _ => ⟨k, by omega, rfl, k, by omega, rfl, ?_⟩⟩⟩
      obtain ⟨p, hp⟩ : ∃ p, sps[k]? = some p := ⟨_, List.getElem?_eq_getElem (by omega)⟩
      have w12 := (hW.2 p (List.mem_of_getElem? hp)).2
      have hcs : CS hi' (G + 2 + 2 * k) p := (cS k p hp).kept (fun j => u0 _ _ (by omega)) (fun j => u0 _ _ (by omega))
      refine spBecome_c (d := d) (sk_of hF (by omega)) (sk_of hG (by omega)) (by omega) (by omega) hcs (fun hi2 hf2 hc2 => ⟨rfl, ?_⟩)
      rw [nI_1]
      refine ih (k + 1) hi2 (by omega) (fun q j hq => ?_) (fun q j hq => ?_) ?_ (fun i r hik hr => ?_)
      · rw [hf2 q j (by omega)]; exact u0 q j hq
      · rw [hf2 q j (by omega)]; exact u1 q j hq
      · rw [hf2 _ _ (by omega)]; exact b2
      · by_cases hik' : i = k
        · subst hik'
          rw [hp] at hr
          cases hr
          exact hc2
        · exact (bS i r (by omega) hr).kept (fun j => hf2 _ _ (by omega)) (fun j => hf2 _ _ (by omega))
  refine key _ 0 _ (Nat.zero_add _) (fun q j hq => pm_u_ne (Or.inl (by omega))) (fun q j hq => pm_u_ne (Or.inl (by omega))) pm_u_at (fun i p hi0 => absurd hi0 (by omega))
/-- how many words the folk has -/
def awords (sps : List ASp) : Int32 := sps.foldl (fun a p => a + nI p.2.2.2.2.length) 0
def aany (sps : List ASp) : Int32 := sps.foldl (fun a p => a ||| setOf p.2.2.2.2) 0
def aall (sps : List ASp) : Int32 := if sps.length = 0 then 0 else sps.foldl (fun a p => a &&& setOf p.2.2.2.2) 1048575
/-- all but the deaf have the word w -/
def abut (w : Int32) : List ASp → Int32
  | [] => 1
  | p :: r => if p.1 = 5 ∨ (((Int32.toUInt32 (setOf p.2.2.2.2) >>> (Int32.toUInt32 w &&& Int32.toUInt32 31)).toInt32) &&& 1) = 1 then abut w r else 0
theorem foldl_take {α β : Type} (g : β → α → β) (b : β) {l : List α} {k : Nat} {p : α} (h : l[k]? = some p) : (l.take (k + 1)).foldl g b = g ((l.take k).foldl g b) p := by
  obtain ⟨hk, rfl⟩ := List.getElem?_eq_some_iff.mp h
  rw [List.take_succ_eq_append_getElem hk, List.foldl_append]
  rfl
theorem wordsTogether_c {L d F : Nat} {f : AF} {hi : pm_B} {Q : pm_Q} (hF : pm_fo F) (hW : WF f) (hC : CF hi F f) (h : Q (some (.inl (awords f.1))) hi) : pm_C pm_g (SH L) HR (d + 1) m_Folk_wordsTogether [.inr F] hi Q := by
  obtain ⟨sps, talk, spoken, lost, day, z, txs⟩ := f
  obtain ⟨c2, c3, c4, c5, c6, c7, c8, c9, cS⟩ := hC
  have hl8 : sps.length ≤ 8 := hW.1
  dsimp only at h
  refine v_Folk_wordsTogether hF ?_
  have key : ∀ n k, k + n = sps.length → pm_W pm_g (SH L) HR d pm_t13 4 [some (.inr F), some (.inl (awords (sps.take k))), some (.inl (nI k))] [] hi Q := by
    intro n
    induction n with
    | zero =>
      intro k hk
      refine v_Folk_wordsTogether_4 hF ?_
      rw [c2, List.take_of_length_le (by omega)]
      exact ⟨fun _ => h, fun hc => absurd (nI_le (by omega) (by omega)) hc⟩
    | succ n ih =>
      intro k hk
      refine v_Folk_wordsTogether_4 hF ?_
      rw [c2]
      obtain ⟨p, hp⟩ : ∃ p, sps[k]? = some p := ⟨_, List.getElem?_eq_getElem (by omega)⟩
      refine ⟨fun hc => absurd hc (nI_ge (by omega) (by omega)), fun _ => ⟨fun hc => absurd hc (nI_ge (b := 8) (by omega) (by omega)), fun _ => ⟨k, by omega, rfl, ?_⟩⟩⟩
      have := ih (k + 1) (by omega)
      rw [awords, foldl_take _ _ hp] at this
      rw [nI_1, (cS k p hp).2.2.2.2.1]
      exact this
  exact key _ 0 (Nat.zero_add _)
theorem wordsOfSomebody_c {L d F : Nat} {f : AF} {hi : pm_B} {Q : pm_Q} (hF : pm_fo F) (hW : WF f) (hC : CF hi F f) (h : Q (some (.inl (aany f.1))) hi) : pm_C pm_g (SH L) HR (d + 2) m_Folk_wordsOfSomebody [.inr F] hi Q := by
  obtain ⟨sps, talk, spoken, lost, day, z, txs⟩ := f
  obtain ⟨c2, c3, c4, c5, c6, c7, c8, c9, cS⟩ := hC
  have hl8 : sps.length ≤ 8 := hW.1
  dsimp only at h
  refine v_Folk_wordsOfSomebody (d := d + 1) hF ?_
  have key : ∀ n k, k + n = sps.length → pm_W pm_g (SH L) HR (d + 1) pm_t14 4 [some (.inr F), some (.inl (aany (sps.take k))), some (.inl (nI k))] [] hi Q := by
    intro n
    induction n with
    | zero =>
      intro k hk
      refine v_Folk_wordsOfSomebody_4 hF ?_
      rw [c2, List.take_of_length_le (by omega)]
      exact ⟨fun _ => h, fun hc => absurd (nI_le (by omega) (by omega)) hc⟩
    | succ n ih =>
      intro k hk
      refine v_Folk_wordsOfSomebody_4 hF ?_
      rw [c2]
      obtain ⟨p, hp⟩ : ∃ p, sps[k]? = some p := ⟨_, List.getElem?_eq_getElem (by omega)⟩
      refine ⟨fun hc => absurd hc (nI_ge (by omega) (by omega)), fun _ => ⟨fun hc => absurd hc (nI_ge (b := 8) (by omega) (by omega)), fun _ => ⟨k, by omega, rfl, ?_⟩⟩⟩
      have := ih (k + 1) (by omega)
      rw [aany, foldl_take _ _ hp] at this
      have w12 := (hW.2 p (List.mem_of_getElem? hp)).2
      refine wordSet_c (sk_of hF (by omega)) (cS k p hp).2.2.2.2.1 (cS k p hp).2.2.2.2.2 (by omega) ⟨_, rfl, ?_⟩
      rw [nI_1]
      exact this
  exact key _ 0 (Nat.zero_add _)
theorem wordsOfAll_c {L d F : Nat} {f : AF} {hi : pm_B} {Q : pm_Q} (hF : pm_fo F) (hW : WF f) (hC : CF hi F f) (h : Q (some (.inl (aall f.1))) hi) : pm_C pm_g (SH L) HR (d + 2) m_Folk_wordsOfAll [.inr F] hi Q := by
  obtain ⟨sps, talk, spoken, lost, day, z, txs⟩ := f
  obtain ⟨c2, c3, c4, c5, c6, c7, c8, c9, cS⟩ := hC
  have hl8 : sps.length ≤ 8 := hW.1
  unfold aall at h
  dsimp only at h
  refine v_Folk_wordsOfAll (d := d + 1) hF ?_
  rw [c2]
  refine ⟨fun hc => ?_, fun hc => ?_⟩
  · have h0 : ¬ sps.length = 0 := fun hh => hc (by rw [hh]; rfl)
    rw [if_neg h0] at h
    have key : ∀ n k, k + n = sps.length → pm_W pm_g (SH L) HR (d + 1) pm_t15 14 [some (.inr F), some (.inl ((sps.take k).foldl (fun a p => a &&& setOf p.2.2.2.2) 1048575)), some (.inl (nI k))] [] hi Q := by
      intro n
      induction n with
      | zero =>
        intro k hk
        refine v_Folk_wordsOfAll_14 hF ?_
        rw [c2, List.take_of_length_le (by omega)]
        exact ⟨fun _ => h, fun hc => absurd (nI_le (by omega) (by omega)) hc⟩
      | succ n ih =>
        intro k hk
        refine v_Folk_wordsOfAll_14 hF ?_
        rw [c2]
        obtain ⟨p, hp⟩ : ∃ p, sps[k]? = some p := ⟨_, List.getElem?_eq_getElem (by omega)⟩
        refine ⟨fun hc => absurd hc (nI_ge (by omega) (by omega)), fun _ => ⟨fun hc => absurd hc (nI_ge (b := 8) (by omega) (by omega)), fun _ => ⟨k, by omega, rfl, ?_⟩⟩⟩
        have := ih (k + 1) (by omega)
        rw [foldl_take _ _ hp] at this
        have w12 := (hW.2 p (List.mem_of_getElem? hp)).2
        refine wordSet_c (sk_of hF (by omega)) (cS k p hp).2.2.2.2.1 (cS k p hp).2.2.2.2.2 (by omega) ⟨_, rfl, ?_⟩
        rw [nI_1]
        exact this
    exact key _ 0 (Nat.zero_add _)
  · have h0 : sps.length = 0 := Nat.eq_zero_of_not_pos (fun hh => hc (nI_ne0 hh (by omega)))
    rw [if_pos h0] at h
    exact h
theorem allButDeafHave_c {L d F : Nat} {f : AF} {w : Int32} {hi : pm_B} {Q : pm_Q} (hF : pm_fo F) (hW : WF f) (hC : CF hi F f) (h : Q (some (.inl (abut w f.1))) hi) : pm_C pm_g (SH L) HR (d + 2) m_Folk_allButDeafHave [.inr F, .inl w] hi Q := by
  obtain ⟨sps, talk, spoken, lost, day, z, txs⟩ := f
  obtain ⟨c2, c3, c4, c5, c6, c7, c8, c9, cS⟩ := hC
  have hl8 : sps.length ≤ 8 := hW.1
  dsimp only at h
  refine v_Folk_allButDeafHave (d := d + 1) hF ?_
  have key : ∀ n k o, k + n = sps.length → abut w (sps.drop k) = abut w sps → pm_W pm_g (SH L) HR (d + 1) pm_t16 2 [some (.inr F), some (.inl w), some (.inl (nI k)), o] [] hi Q := by
    intro n
    induction n with
    | zero =>
      intro k o hk ha
      refine v_Folk_allButDeafHave_2 hF ?_
      rw [List.drop_of_length_le (by omega)] at ha
      rw [← ha] at h
      rw [c2]
      exact ⟨fun _ => h, fun hc => absurd (nI_le (by omega) (by omega)) hc⟩
    | succ n ih =>
      intro k o hk ha
      refine v_Folk_allButDeafHave_2 hF ?_
      rw [c2]
      have hk' : k < sps.length := by omega
      have hp : sps[k]? = some sps[k] := List.getElem?_eq_getElem hk'
      rw [List.drop_eq_getElem_cons hk'] at ha
      have w12 := (hW.2 _ (List.mem_of_getElem? hp)).2
      have hs := cS k _ hp
      generalize sps[k] = p at hp ha w12 hs
      rw [abut] at ha
      refine ⟨fun hc => absurd hc (nI_ge (by omega) (by omega)), fun _ => ⟨fun hc => absurd hc (nI_ge (b := 8) (by omega) (by omega)), fun _ => ⟨k, by omega, rfl, ?_⟩⟩⟩
      refine wordSet_c (sk_of hF (by omega)) hs.2.2.2.2.1 hs.2.2.2.2.2 (by omega) ⟨_, rfl, ?_⟩
      rw [nI_1]
      refine ⟨fun c1 => ⟨k, by omega, rfl, ?_⟩, fun c1 => ⟨k, by omega, rfl, ?_⟩⟩
      · rw [hs.1]
        refine ⟨fun c => ih (k + 1) _ (by omega) ?_, fun c => ?_⟩
        · rw [if_pos (Or.inl c)] at ha; exact ha
        · rw [if_neg (fun hh => hh.elim c c1)] at ha
          rw [ha]
          exact h
      · have c1 := Decidable.not_not.mp c1
        rw [if_pos (Or.inr c1)] at ha
        exact ⟨fun _ => ih (k + 1) _ (by omega) ha, fun _ => ih (k + 1) _ (by omega) ha⟩
  exact key _ 0 _ (Nat.zero_add _) rfl
