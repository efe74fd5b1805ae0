/-! ===== the model's laws ===== -/
/-- a code of the class, as the model writes it -/
def enc (c : Int32) : Int32 := if ¬ c < 0 then c else if c = -1 then 10000 else if c = -2 then 10001 else if c = -3 then 10002 else if c = -124 then -1 else if c = -38 then -2 else if c = -60 then -3 else if c = -61 then -4 else if c = -62 then -5 else if c = -43 then -6 else if c = -45 then -7 else if c = -42 then -8 else if c = -47 then -9 else -10
def MT (r : Nat → Int32) (i : Nat) (t : AT) : Prop := ∃ K, K < 3 ∧ t.1 = nI K ∧ t.2.2.length ≤ 96 ∧ r (239 + 2 * i) = nI (1000 * K + t.2.2.length) ∧ r (240 + 2 * i) = t.2.1 ∧ Row (fun k => r (267 + 96 * i + k)) (t.2.2.map enc)
def MX (r : Nat → Int32) (txs : List AT) : Prop := txs.length ≤ 14 ∧ ∀ i t, txs[i]? = some t → MT r i t
theorem ixt (i : Nat) : (239 + 2 * nI i : Int32) = nI (239 + 2 * i) := by
  show nI 239 + nI 2 * nI i = _
  rw [pk_mul, nI_add]
theorem ixc (i k : Nat) : (267 + 96 * nI i : Int32) + nI k = nI (267 + 96 * i + k) := by
  show nI 267 + nI 96 * nI i + nI k = _
  rw [pk_mul, nI_add, nI_add]
theorem MT.key {r : Nat → Int32} {i : Nat} {t : AT} (h : MT r i t) : r (239 + 2 * i) / 1000 = t.1 := by
  obtain ⟨K, hK, e1, hl, e2, _⟩ := h
  rw [e2, e1, show (1000 : Int32) = nI 1000 from rfl, pk_div (by omega) (by omega) (by omega)]
  congr 1
  omega
theorem MT.len {r : Nat → Int32} {i : Nat} {t : AT} (h : MT r i t) : r (239 + 2 * i) - r (239 + 2 * i) / 1000 * 1000 = nI t.2.2.length := by
  obtain ⟨K, hK, e1, hl, e2, _⟩ := h
  rw [e2, show (1000 : Int32) = nI 1000 from rfl, pk_rem (by omega) (by omega) (by omega)]
  congr 1
  omega
/-- the text that counts, as the model tells it -/
def lim (o : Option Nat) : Int32 := match o with
  | none => -1
  | some i => nI i
theorem mcounts_c {L d : Nat} {key : Int32} {txs : List AT} {hi : pm_B} {Q : pm_Q} (hn : hi 142 6 = nI txs.length) (hX : MX (hi 142) txs) (h : Q (some (.inl (lim (lk txs key)))) hi) : pm_C pm_g (SH L) HR (d + 1) m_M_counts [.inr 141, .inl key] hi Q := by
  refine v_M_counts ?_
  have hl := hX.1
  rw [hn, show nI txs.length - 1 = nI txs.length + (-1) from Int32.sub_eq_add_neg _ _]
  have key' : ∀ n, n ≤ txs.length → lkn txs key n = lk txs key → pm_W pm_g (SH L) HR d pm_t211 10 [some (.inr 141), some (.inl key), some (.inl (nI n + (-1)))] [] hi Q := by
    intro n
    induction n with
    | zero =>
      intro _ he
      refine v_M_counts_10 ⟨fun _ => ?_, fun hc => absurd (by decide) hc⟩
      rw [← he] at h
      exact h
    | succ n ih =>
      intro hle he
      obtain ⟨t, ht⟩ : ∃ t, txs[n]? = some t := ⟨_, List.getElem?_eq_getElem (by omega)⟩
      have hT := hX.2 n t ht
      rw [lkn, List.getD_eq_getElem?_getD, ht, Option.getD_some] at he
      rw [pk_m1]
      refine v_M_counts_10 ⟨fun hc => absurd hc (nI_pos (by omega)), fun _ => ⟨239 + 2 * n, by omega, ixt n, ?_⟩⟩
      rw [hT.key]
      refine ⟨fun hc => ?_, fun hc => ?_⟩
      · rw [if_neg hc] at he
        exact ih (by omega) he
      · rw [if_pos (Decidable.not_not.mp hc)] at he
        rw [← he] at h
        exact h
  exact key' _ (Nat.le_refl _) rfl
/-- a code that a text may hold -/
def okc (c : Int32) : Prop := (¬ c < 0 ∧ ¬ 10000 ≤ c) ∨ c = -1 ∨ c = -2 ∨ c = -3 ∨ c = -124 ∨ c = -38 ∨ c = -60 ∨ c = -61 ∨ c = -62 ∨ c = -43 ∨ c = -45 ∨ c = -42 ∨ c = -47 ∨ c = -33
theorem okc_cases {c : Int32} (h : okc c) : (c < (-3) ∧ enc c < 0 ∧ (c = (-33) ↔ enc c = (-10)) ∧ (¬ c = (-33) → ∀ a b, f_M_two (enc c) a b = f_Laws_joined (-c) a b)) ∨ (¬ c < (-3) ∧ ¬ enc c < 0 ∧ ((∃ j : Nat, j < 3 ∧ 10000 ≤ enc c ∧ enc c - 10000 = nI j ∧ ∀ f1 f2 f3, f_Laws_leafOf c f1 f2 f3 = if j = 0 then f1 else if j = 1 then f2 else f3) ∨ (¬ 10000 ≤ enc c ∧ enc c = c ∧ ∀ f1 f2 f3, f_Laws_leafOf c f1 f2 f3 = c))) := by
  rcases h with ⟨h0, h1⟩ | rfl | rfl | rfl | rfl | rfl | rfl | rfl | rfl | rfl | rfl | rfl | rfl | rfl
  · right
    have e : enc c = c := by unfold enc; rw [if_pos h0]
    have n1 : ¬ c = (-1) := fun hh => h0 (by rw [hh]; decide)
    have n2 : ¬ c = (-2) := fun hh => h0 (by rw [hh]; decide)
    have n3 : ¬ c = (-3) := fun hh => h0 (by rw [hh]; decide)
    obtain ⟨j, hj, rfl⟩ := nI_of h0
    refine ⟨fun hh => h0 (Int32.lt_trans hh (by decide)), by rw [e]; exact h0, Or.inr ⟨by rw [e]; exact h1, e, fun f1 f2 f3 => ?_⟩⟩
    unfold f_Laws_leafOf
    rw [if_neg n3, if_neg n2, if_neg n1]
  · exact Or.inr ⟨by decide, by decide, Or.inl ⟨0, by omega, by decide, by decide, fun _ _ _ => rfl⟩⟩
  · exact Or.inr ⟨by decide, by decide, Or.inl ⟨1, by omega, by decide, by decide, fun _ _ _ => rfl⟩⟩
  · exact Or.inr ⟨by decide, by decide, Or.inl ⟨2, by omega, by decide, by decide, fun _ _ _ => rfl⟩⟩
  · exact Or.inl ⟨by decide, by decide, by decide, fun _ _ _ => rfl⟩
  · exact Or.inl ⟨by decide, by decide, by decide, fun _ _ _ => rfl⟩
  · exact Or.inl ⟨by decide, by decide, by decide, fun _ _ _ => rfl⟩
  · exact Or.inl ⟨by decide, by decide, by decide, fun _ _ _ => rfl⟩
  · exact Or.inl ⟨by decide, by decide, by decide, fun _ _ _ => rfl⟩
  · exact Or.inl ⟨by decide, by decide, by decide, fun _ _ _ => rfl⟩
  · exact Or.inl ⟨by decide, by decide, by decide, fun _ _ _ => rfl⟩
  · exact Or.inl ⟨by decide, by decide, by decide, fun _ _ _ => rfl⟩
  · exact Or.inl ⟨by decide, by decide, by decide, fun _ _ _ => rfl⟩
  · exact Or.inl ⟨by decide, by decide, by decide, fun hh => absurd rfl hh⟩
theorem mworksOut_c {L d i : Nat} {t : AT} {f1 f2 f3 : Int32} {hi : pm_B} {Q : pm_Q} (hi14 : i < 14) (hT : MT (hi 142) i t) (hok : ∀ c ∈ t.2.2, okc c) (hw : wfp t.2.2) (a0 : hi 156 0 = f1) (a1 : hi 156 1 = f2) (a2 : hi 156 2 = f3)
    (h : ∀ hi', Fr (fun q _ => q = 155) hi hi' → Q (some (.inl (aval t.2.2 f1 f2 f3))) hi') : pm_C pm_g (SH L) HR (d + 2) m_M_worksOut [.inr 141, .inl (nI i)] hi Q := by
  have hlen := hT.len
  obtain ⟨K, hK, -, hl96, -, -, hrow⟩ := hT
  obtain ⟨key0, leaves, code⟩ := t
  dsimp only at hlen hrow hw h hok hl96
  refine v_M_worksOut ⟨239 + 2 * i, by omega, ixt i, ?_⟩
  rw [hlen]
  have key : ∀ (rest : List Int32) (k : Nat) (st : List Int32) (hi' : pm_B) (o : Option pm_V), code.drop k = rest → Fr (fun q _ => q = 155) hi hi' → Row (hi' 155) st.reverse → st.length ≤ k → k ≤ code.length → dps st.length rest = some 1 → evs f1 f2 f3 rest st = evs f1 f2 f3 code [] → pm_W pm_g (SH L) HR (d + 1) pm_t214 22 [some (.inr 141), some (.inl (nI i)), some (.inl (nI st.length)), some (.inl (nI code.length)), some (.inl (nI k)), o] [] hi' Q := by
    intro rest
    induction rest with
    | nil =>
      intro k st hi' o hd hF hr hk hkc hdp hev
      have hkl : code.length ≤ k := List.drop_eq_nil_iff.mp hd
      have h1 : st.length = 1 := Option.some.inj hdp
      match st, h1 with
      | [a], _ =>
        refine v_M_worksOut_22 ⟨fun _ => ?_, fun hc => absurd (nI_le hkl (by omega)) hc⟩
        have ha : hi' 155 0 = a := hr.rev.1
        have e : aval code f1 f2 f3 = a := by
          unfold aval
          rw [← hev]
          rfl
        rw [ha, ← e]
        exact h hi' hF
    | cons c rest ih =>
      intro k st hi' o hd hF hr hk hkc hdp hev
      have hkl : k < code.length := by
        by_cases hz : k < code.length
        · exact hz
        · rw [List.drop_eq_nil_of_le (by omega)] at hd
          cases hd
      have hck : code[k]? = some c := by
        have := congrArg List.head? hd
        rw [List.head?_drop] at this
        exact this
      have hd' : code.drop (k + 1) = rest := by
        have := congrArg List.tail hd
        rw [List.tail_drop] at this
        exact this
      have hc : hi' 142 (267 + 96 * i + k) = enc c := by
        rw [hF 142 _ (by omega)]
        exact hrow k (enc c) (by rw [List.getElem?_map, hck]; rfl)
      have hev' : evs f1 f2 f3 rest (ev1 f1 f2 f3 st c) = evs f1 f2 f3 code [] := hev
      refine v_M_worksOut_22 ⟨fun hcc => absurd hcc (nI_ge hkl (by omega)), fun _ => ⟨267 + 96 * i + k, by omega, ixc i k, ?_⟩⟩
      rw [hc, nI_1]
      unfold dps dp1 at hdp
      unfold ev1 at hev'
      rcases okc_cases (hok c (List.mem_of_getElem? hck)) with ⟨h3, hneg, h33i, htwo⟩ | ⟨h3, hneg, hleaf⟩
      · rw [if_pos h3] at hdp hev'
        refine ⟨fun _ => ⟨fun h10 => ?_, fun h10 => ?_⟩, fun hh => absurd hneg hh⟩
        · have h33 : ¬ c = (-33) := fun hh => h10 (h33i.mp hh)
          rw [if_pos h33] at hdp hev'
          match st, hr, hk, hdp, hev' with
          | [], _, _, hdp, _ => cases hdp
          | [_], _, _, hdp, _ => cases hdp
          | y :: x :: r, hr, hk, hdp, hev' =>
            have hlr : (y :: x :: r).length = r.length + 2 := rfl
            rw [hlr] at hk hdp ⊢
            rw [if_pos (by omega)] at hdp
            obtain ⟨hy, hr1⟩ := hr.rev
            obtain ⟨hx, hr2⟩ := hr1.rev
            have e1 : nI (r.length + 2) + (-1) = nI (r.length + 1) := pk_m1 (r.length + 1)
            have e2 : nI (r.length + 1) - 1 = nI r.length := nI_sub (a := r.length + 1) (b := 1) (by omega)
            rw [e1, e2]
            refine ⟨r.length, by omega, rfl, r.length + 1, by omega, rfl, r.length, by omega, rfl, ?_⟩
            have hy' : hi' 155 (r.length + 1) = y := hy
            have hx' : hi' 155 r.length = x := hx
            rw [hx', hy', htwo h33]
            refine ih (k + 1) (f_Laws_joined (-c) x y :: r) _ _ hd' (hF.tr (Fr.u rfl)) ?_ (by show r.length + 1 ≤ _; omega) hkl hdp hev'
            rw [List.reverse_cons]
            exact hr2.u (by rw [List.length_reverse])
        · have h33 : c = (-33) := h33i.mpr (Decidable.not_not.mp h10)
          rw [if_neg (fun hh => hh h33)] at hdp hev'
          match st, hr, hk, hdp, hev' with
          | [], _, _, hdp, _ => cases hdp
          | y :: r, hr, hk, hdp, hev' =>
            have hlr : (y :: r).length = r.length + 1 := rfl
            rw [hlr] at hk hdp ⊢
            rw [if_pos (by omega)] at hdp
            obtain ⟨hy, hr1⟩ := hr.rev
            have e2 : nI (r.length + 1) - 1 = nI r.length := nI_sub (a := r.length + 1) (b := 1) (by omega)
            rw [e2]
            refine ⟨r.length, by omega, rfl, ?_⟩
            rw [hy]
            refine ⟨fun hy0 => ⟨r.length, by omega, rfl, ?_⟩, fun hy0 => ⟨r.length, by omega, rfl, ?_⟩⟩
            · dsimp only at hev'
              rw [if_pos hy0] at hev'
              refine ih (k + 1) (0 :: r) _ _ hd' (hF.tr (Fr.u rfl)) ?_ (by show r.length + 1 ≤ _; omega) hkl hdp hev'
              rw [List.reverse_cons]
              exact hr1.u (by rw [List.length_reverse])
            · dsimp only at hev'
              rw [if_neg hy0] at hev'
              refine ih (k + 1) (1 :: r) _ _ hd' (hF.tr (Fr.u rfl)) ?_ (by show r.length + 1 ≤ _; omega) hkl hdp hev'
              rw [List.reverse_cons]
              exact hr1.u (by rw [List.length_reverse])
      · rw [if_neg h3] at hdp hev'
        refine ⟨fun hh => absurd hh hneg, fun _ => ?_⟩
        rcases hleaf with ⟨j, hj, hge, hsub, hlf⟩ | ⟨hge, he, hlf⟩
        · refine ⟨fun _ => ⟨j, by omega, hsub, st.length, by omega, rfl, ?_⟩, fun hh => absurd hge hh⟩
          have hv : hi' 156 j = f_Laws_leafOf c f1 f2 f3 := by
            rw [hF 156 j (by omega), hlf]
            rcases (show j = 0 ∨ j = 1 ∨ j = 2 by omega) with rfl | rfl | rfl
            · exact a0
            · exact a1
            · exact a2
          rw [hv, nI_1]
          refine ih (k + 1) (f_Laws_leafOf c f1 f2 f3 :: st) _ _ hd' (hF.tr (Fr.u rfl)) ?_ (by show st.length + 1 ≤ _; omega) hkl hdp hev'
          rw [List.reverse_cons]
          exact hr.u (by rw [List.length_reverse])
        · refine ⟨fun hh => absurd hh hge, fun _ => ⟨st.length, by omega, rfl, ?_⟩⟩
          rw [hlf] at hev'
          rw [he, nI_1]
          refine ih (k + 1) (c :: st) _ _ hd' (hF.tr (Fr.u rfl)) ?_ (by show st.length + 1 ≤ _; omega) hkl hdp hev'
          rw [List.reverse_cons]
          exact hr.u (by rw [List.length_reverse])
  exact key code 0 [] hi _ rfl Fr.rf Row.nil (Nat.le_refl _) (Nat.zero_le _) hw.1 rfl
