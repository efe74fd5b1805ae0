/-! ===== texts: the model's stacks ===== -/
def MZ (key : Int32) (hi : pm_B) (T oc : List Int32) (m : Nat) (ts : Nat → Int32) : Prop := hi 141 17 = key ∧ hi 141 21 = nI oc.length ∧ Row (hi 152) oc ∧ hi 141 22 = nI m ∧ hi 141 24 = nI T.length ∧ Row (hi 153) T.reverse ∧ ∀ j, hi 154 j = ts j
def PZ : Nat → Nat → Prop := fun q j => (q = 141 ∧ 17 ≤ j ∧ j ≤ 24) ∨ q = 152 ∨ q = 153 ∨ q = 154
def PV : Nat → Nat → Prop := fun q j => (q = 141 ∧ 12 ≤ j ∧ j ≤ 24) ∨ q = 152 ∨ q = 153 ∨ q = 154
theorem Fr.pc {hi hi' : pm_B} (h : Fr PC hi hi') : Fr PV hi hi' := h.mono (fun q j x => by unfold PC at x; unfold PV; omega)
theorem Fr.pz {hi hi' : pm_B} (h : Fr PZ hi hi') : Fr PV hi hi' := h.mono (fun q j x => by unfold PZ at x; unfold PV; omega)
theorem MZ.kept {key : Int32} {hi hi' : pm_B} {T oc : List Int32} {m : Nat} {ts : Nat → Int32} (h : MZ key hi T oc m ts) (hf : Fr PC hi hi') : MZ key hi' T oc m ts := by
  have hk : ∀ q j, ¬ (q = 141 ∧ 12 ≤ j ∧ j ≤ 16) → hi' q j = hi q j := hf
  exact ⟨(hk _ _ (by omega)).trans h.1, (hk _ _ (by omega)).trans h.2.1, h.2.2.1.to (fun j _ => hk _ _ (by omega)), (hk _ _ (by omega)).trans h.2.2.2.1, (hk _ _ (by omega)).trans h.2.2.2.2.1, h.2.2.2.2.2.1.to (fun j _ => hk _ _ (by omega)), fun j => (hk _ _ (by omega)).trans (h.2.2.2.2.2.2 j)⟩
theorem MC.kept {bs : List Int32} {hi hi' : pm_B} {s : Int32} {a e : Nat} (h : MC bs hi s a e) (hf : Fr PZ hi hi') : MC bs hi' s a e := by
  have hk : ∀ q j, ¬ ((q = 141 ∧ 17 ≤ j ∧ j ≤ 24) ∨ q = 152 ∨ q = 153 ∨ q = 154) → hi' q j = hi q j := hf
  obtain ⟨h1, h2, h3, h4, h5, h6, h7, h8⟩ := h
  refine ⟨⟨(hk _ _ (by omega)).trans h1.1, h1.2.to (fun j _ => hk _ _ (by omega))⟩, (hk _ _ (by omega)).trans h2, (hk _ _ (by omega)).trans h3, (hk _ _ (by omega)).trans h4, ?_, ?_, ?_, ?_⟩
  · rw [hk 141 15 (by omega)]; exact h5
  · rw [hk 141 15 (by omega)]; exact h6
  · rw [hk 141 16 (by omega)]; exact h7
  · rw [hk 141 16 (by omega)]; exact h8
theorem settle_c {L d k : Nat} {key : Int32} {T oc : List Int32} {m : Nat} {ts : Nat → Int32} {hi : pm_B} {Q : pm_Q} (hk : k ≤ 6) (hZ : MZ key hi T oc m ts) (hl : oc.length + T.length ≤ 96) (h : ∀ hi', Fr PZ hi hi' → MZ key hi' (stl k T oc).1 (stl k T oc).2 m ts → Q none hi') : pm_C pm_g (SH L) HR (d + 2) m_M_settle [.inr 141, .inl (nI k)] hi Q := by
  refine pm_C_of (maxL := 2) (t := pm_t204) rfl (Nat.le_of_ble_eq_true rfl) ?_
  show pm_W pm_g (SH L) HR (d + 1) pm_t204 0 [some (.inr 141), some (.inl (nI k))] [] hi Q
  have loop : ∀ T oc hi, MZ key hi T oc m ts → oc.length + T.length ≤ 96 → (∀ hi', Fr PZ hi hi' → MZ key hi' (stl k T oc).1 (stl k T oc).2 m ts → Q none hi') → pm_W pm_g (SH L) HR (d + 1) pm_t204 0 [some (.inr 141), some (.inl (nI k))] [] hi Q := by
    intro T
    induction T with
    | nil =>
      intro oc hi hZ hl h
      refine v_M_settle_0 (d := d) ⟨fun _ => h hi Fr.rf hZ, fun c => absurd (show hi 141 24 ≤ 0 by rw [hZ.2.2.2.2.1]; decide) c⟩
    | cons x T ih =>
      intro oc hi hZ hl h
      have hl' : oc.length + (T.length + 1) ≤ 96 := hl
      have e24 : hi 141 24 = nI (T.length + 1) := hZ.2.2.2.2.1
      have em : hi 141 24 - 1 = nI T.length := by rw [e24]; exact nI_sub (b := 1) (by omega)
      have hx := Row.rev hZ.2.2.2.2.2.1
      refine v_M_settle_0 (d := d) ⟨fun c => ?_, fun _ => ⟨T.length, by omega, em, fun c => ?_, fun c => ⟨T.length, by omega, em, fun c2 => ?_, fun c2 => ⟨T.length, by omega, by rw [pm_u_at]; exact em, oc.length, by omega, ?_, fun hi8 e8 => ?_⟩⟩⟩⟩
      · rw [e24] at c; exact absurd c (nI_nle (by omega) (by omega))
      · rw [hx.1] at c
        rw [stl, if_pos (Or.inl c)] at h
        exact h hi Fr.rf hZ
      · rw [hx.1, rk_I] at c2
        have c2 : rk x < k := (nI_ltI (by have := rk_le x; omega) (by omega)).mp c2
        rw [stl, if_pos (Or.inr c2)] at h
        exact h hi Fr.rf hZ
      · rw [pm_u_ne (Or.inr (by omega))]; exact hZ.2.1
      · rw [hx.1] at c
        rw [hx.1, rk_I] at c2
        have c2 : ¬ rk x < k := fun y => c2 ((nI_ltI (by have := rk_le x; omega) (by omega)).mpr y)
        rw [stl, if_neg (fun y => y.elim c c2)] at h
        have e81 : hi8 141 21 + 1 = nI (oc.length + 1) := by
          rw [e8, pm_u_ne (Or.inl (by omega)), pm_u_ne (Or.inr (by omega)), hZ.2.1]; exact nI_1 _
        have hf : Fr PZ hi (pm_u hi8 141 21 (hi8 141 21 + 1)) := fun q j hn => by
          unfold PZ at hn
          rw [pm_u_ne (by omega), e8, pm_u_ne (by omega), pm_u_ne (by omega)]
        refine ih (oc ++ [x]) _ ⟨?_, ?_, ?_, ?_, ?_, ?_, fun j => ?_⟩ (by rw [List.length_append]; show oc.length + 1 + _ ≤ 96; omega) (fun hi' hf' hZ' => h hi' (hf.tr hf') hZ')
        · rw [pm_u_ne (Or.inr (by omega)), e8, pm_u_ne (Or.inl (by omega)), pm_u_ne (Or.inr (by omega))]; exact hZ.1
        · rw [pm_u_at, e81, List.length_append]; rfl
        · rw [e8, pm_u_ne (q := 141) (q' := 153) (Or.inl (by omega)), hx.1]
          refine Row.to (Row.u (q := 152) (hi := pm_u hi 141 24 (hi 141 24 - 1)) (hZ.2.2.1.to (fun j _ => pm_u_ne (Or.inl (by omega)))) rfl) (fun j _ => ?_)
          exact pm_u_ne (Or.inl (by omega))
        · rw [pm_u_ne (Or.inr (by omega)), e8, pm_u_ne (Or.inl (by omega)), pm_u_ne (Or.inr (by omega))]; exact hZ.2.2.2.1
        · rw [pm_u_ne (Or.inr (by omega)), e8, pm_u_ne (Or.inl (by omega)), pm_u_at]; exact em
        · refine hx.2.to (fun j _ => ?_)
          rw [pm_u_ne (Or.inl (by omega)), e8, pm_u_ne (Or.inl (by omega)), pm_u_ne (Or.inl (by omega))]
        · rw [pm_u_ne (Or.inl (by omega)), e8, pm_u_ne (Or.inl (by omega)), pm_u_ne (Or.inl (by omega))]; exact hZ.2.2.2.2.2.2 j
  exact loop T oc hi hZ hl h
theorem notsOpen_c {L d : Nat} {key : Int32} {T oc : List Int32} {m : Nat} {ts : Nat → Int32} {hi : pm_B} {Q : pm_Q} (hZ : MZ key hi T oc m ts) (hl : T.length ≤ 96) (h : Q (some (.inl (nI (T.count (-10))))) hi) : pm_C pm_g (SH L) HR (d + 1) m_M_notsOpen [.inr 141] hi Q := by
  refine v_M_notsOpen ?_
  have loop : ∀ n k, k + n = T.length → pm_W pm_g (SH L) HR d pm_t208 4 [some (.inr 141), some (.inl (nI ((T.reverse.take k).count (-10)))), some (.inl (nI k))] [] hi Q := by
    intro n
    induction n with
    | zero =>
      intro k hk
      refine v_M_notsOpen_4 ⟨fun _ => ?_, fun c => ?_⟩
      · rw [List.take_of_length_le (by rw [List.length_reverse]; omega), List.count_reverse]; exact h
      · rw [hZ.2.2.2.2.1] at c; exact absurd (nI_le (by omega) (by omega)) c
    | succ n ih =>
      intro k hk
      have hkl : k < T.reverse.length := by rw [List.length_reverse]; omega
      have et : T.reverse.take (k + 1) = T.reverse.take k ++ [T.reverse[k]] := by rw [List.take_succ, List.getElem?_eq_getElem hkl]; rfl
      have ev : hi 153 k = T.reverse[k] := hZ.2.2.2.2.2.1.at hkl
      refine v_M_notsOpen_4 ⟨fun c => ?_, fun _ => ⟨k, by omega, rfl, fun c => ?_, fun c => ?_⟩⟩
      · rw [hZ.2.2.2.2.1] at c; exact absurd c (nI_ge (by omega) (by omega))
      · rw [ev] at c
        have h1 := ih (k + 1) (by omega)
        rw [et, List.count_append, List.count_singleton, if_neg (by simpa using c)] at h1
        rw [Int32.add_zero, nI_1]
        exact h1
      · rw [ev] at c
        have h1 := ih (k + 1) (by omega)
        rw [et, List.count_append, List.count_singleton, if_pos (by simpa using Decidable.not_not.mp c)] at h1
        rw [nI_1, nI_1]
        exact h1
  exact loop T.length 0 (Nat.zero_add _)
theorem nameOf_I {key b : Int32} {hi : pm_B} (h : hi 141 17 = key) : f_M_nameOf hi b = nameI key b := by
  unfold f_M_nameOf nameI
  rw [h]
  by_cases h0 : key = 0
  · rw [if_pos h0, if_pos h0]
    by_cases h1 : b = 101
    · rw [if_neg (fun x => x h1), if_pos h1]
    · rw [if_pos h1, if_neg h1]
      by_cases h2 : b = 102
      · rw [if_neg (fun x => x h2), if_pos h2]
      · rw [if_pos h2, if_neg h2]
        by_cases h3 : b = 119
        · rw [if_neg (fun x => x h3), if_pos h3]
        · rw [if_pos h3, if_neg h3]
  · rw [if_neg h0, if_neg h0]
    by_cases h4 : key = 1
    · rw [if_pos h4, if_pos h4]
      by_cases h1 : b = 115
      · rw [if_neg (fun x => x h1), if_pos h1]
      · rw [if_pos h1, if_neg h1]
        by_cases h2 : b = 108
        · rw [if_neg (fun x => x h2), if_pos h2]
        · rw [if_pos h2, if_neg h2]
    · rw [if_neg h4, if_neg h4]
      by_cases h1 : b = 115
      · rw [if_neg (fun x => x h1), if_pos h1]
      · rw [if_pos h1, if_neg h1]
        by_cases h2 : b = 102
        · rw [if_neg (fun x => x h2), if_pos h2]
        · rw [if_pos h2, if_neg h2]
theorem name_enc {key b : Int32} (h : ¬ nameI key b < 0) : enc (-1 - nameI key b) = 10000 + nameI key b := by
  rcases nameI_v key b with e | e | ⟨e, hk⟩ | e
  · rw [e]; decide
  · rw [e]; decide
  · rw [e]; decide
  · rw [e] at h; exact absurd (by decide) h
theorem num_enc {c : Int32} (h : ¬ c < 0) : enc c = c := by unfold enc; rw [if_pos h]
/-- the next word or sign, the stacks kept -/
theorem go2_c {L d : Nat} {bs : List Int32} {key s : Int32} {a e : Nat} {T oc : List Int32} {m : Nat} {ts : Nat → Int32} {hi : pm_B} {Q : pm_Q} (hW : WB bs) (hC : MC bs hi s a e) (he : e ≤ bs.length) (hs : s = 1 ∨ s = 2 ∨ s = 3) (hZ : MZ key hi T oc m ts) (h : ∀ hi', Fr PC hi hi' → MC bs hi' (stp bs s e).1 (stp bs s e).2.1 (stp bs s e).2.2 → MZ key hi' T oc m ts → Q none hi') : pm_C pm_g (SH L) HR (d + 2) m_M_go [.inr 141] hi Q := by
  refine mgo_c hW hC.1 hC.2.1 he ?_ (fun hi' hf hC' => h hi' hf hC' (hZ.kept hf))
  rcases hs with hs | hs | hs
  · exact Or.inl ⟨Or.inl hs, hC.2.2.2.2.2.2.1 (Or.inl hs)⟩
  · exact Or.inl ⟨Or.inr hs, hC.2.2.2.2.2.2.1 (Or.inr hs)⟩
  · exact Or.inr ⟨fun x => by rw [hs] at x; exact absurd x (by decide), hC.2.2.2.2.2.2.2 hs⟩
/-- a value behind the code -/
theorem MZ.put {key : Int32} {hi : pm_B} {T oc : List Int32} {m : Nat} {ts : Nat → Int32} {w : Int32} (hZ : MZ key hi T oc m ts) {hi9 : pm_B} (e9 : hi9 = pm_u (pm_u hi 152 oc.length w) 141 21 (((pm_u hi 152 oc.length w) 141 21) + 1)) : MZ key (pm_u hi9 141 22 ((hi9 141 22) + 1)) T (oc ++ [w]) (m + 1) ts ∧ Fr PZ hi (pm_u hi9 141 22 ((hi9 141 22) + 1)) := by
  have e22 : hi9 141 22 = nI m := by rw [e9, pm_u_ne (Or.inr (by omega)), pm_u_ne (Or.inl (by omega))]; exact hZ.2.2.2.1
  refine ⟨⟨?_, ?_, ?_, ?_, ?_, ?_, fun j => ?_⟩, fun q j hn => ?_⟩
  · rw [pm_u_ne (Or.inr (by omega)), e9, pm_u_ne (Or.inr (by omega)), pm_u_ne (Or.inl (by omega))]; exact hZ.1
  · rw [pm_u_ne (Or.inr (by omega)), e9, pm_u_at, pm_u_ne (Or.inl (by omega)), hZ.2.1, List.length_append]; exact nI_1 _
  · refine Row.to (Row.u (w := w) hZ.2.2.1 rfl) (fun j _ => ?_)
    rw [pm_u_ne (Or.inl (by omega)), e9, pm_u_ne (Or.inl (by omega))]
  · rw [pm_u_at, e22]; exact nI_1 _
  · rw [pm_u_ne (Or.inr (by omega)), e9, pm_u_ne (Or.inr (by omega)), pm_u_ne (Or.inl (by omega))]; exact hZ.2.2.2.2.1
  · refine hZ.2.2.2.2.2.1.to (fun j _ => ?_)
    rw [pm_u_ne (Or.inl (by omega)), e9, pm_u_ne (Or.inl (by omega)), pm_u_ne (Or.inl (by omega))]
  · rw [pm_u_ne (Or.inl (by omega)), e9, pm_u_ne (Or.inl (by omega)), pm_u_ne (Or.inl (by omega))]; exact hZ.2.2.2.2.2.2 j
  · unfold PZ at hn
    rw [pm_u_ne (by omega), e9, pm_u_ne (by omega), pm_u_ne (by omega)]
/-- a sign behind the signs that wait -/
theorem MZ.push {key : Int32} {hi : pm_B} {T oc : List Int32} {m : Nat} {ts : Nat → Int32} {x : Int32} (hZ : MZ key hi T oc m ts) : MZ key (pm_u (pm_u hi 153 T.length x) 141 24 (((pm_u hi 153 T.length x) 141 24) + 1)) (x :: T) oc m ts ∧ Fr PZ hi (pm_u (pm_u hi 153 T.length x) 141 24 (((pm_u hi 153 T.length x) 141 24) + 1)) := by
  refine ⟨⟨?_, ?_, ?_, ?_, ?_, ?_, fun j => ?_⟩, fun q j hn => ?_⟩
  · rw [pm_u_ne (Or.inr (by omega)), pm_u_ne (Or.inl (by omega))]; exact hZ.1
  · rw [pm_u_ne (Or.inr (by omega)), pm_u_ne (Or.inl (by omega))]; exact hZ.2.1
  · refine hZ.2.2.1.to (fun j _ => ?_)
    rw [pm_u_ne (Or.inl (by omega)), pm_u_ne (Or.inl (by omega))]
  · rw [pm_u_ne (Or.inr (by omega)), pm_u_ne (Or.inl (by omega))]; exact hZ.2.2.2.1
  · rw [pm_u_at, pm_u_ne (Or.inl (by omega)), hZ.2.2.2.2.1]; exact nI_1 _
  · rw [List.reverse_cons]
    refine Row.to (Row.u (w := x) hZ.2.2.2.2.2.1 (by rw [List.length_reverse])) (fun j _ => ?_)
    rw [pm_u_ne (Or.inl (by omega))]
  · rw [pm_u_ne (Or.inl (by omega)), pm_u_ne (Or.inl (by omega))]; exact hZ.2.2.2.2.2.2 j
  · unfold PZ at hn
    rw [pm_u_ne (by omega), pm_u_ne (by omega)]
theorem MZ.flag {key : Int32} {hi : pm_B} {T oc : List Int32} {m : Nat} {ts : Nat → Int32} {n : Nat} {v : Int32} (hZ : MZ key hi T oc m ts) : MZ key (pm_u hi 154 n v) T oc m (updT ts n v) ∧ Fr PZ hi (pm_u hi 154 n v) := by
  refine ⟨⟨?_, ?_, ?_, ?_, ?_, ?_, fun j => ?_⟩, fun q j hn => ?_⟩
  · rw [pm_u_ne (Or.inl (by omega))]; exact hZ.1
  · rw [pm_u_ne (Or.inl (by omega))]; exact hZ.2.1
  · exact hZ.2.2.1.to (fun j _ => pm_u_ne (Or.inl (by omega)))
  · rw [pm_u_ne (Or.inl (by omega))]; exact hZ.2.2.2.1
  · rw [pm_u_ne (Or.inl (by omega))]; exact hZ.2.2.2.2.1
  · exact hZ.2.2.2.2.2.1.to (fun j _ => pm_u_ne (Or.inl (by omega)))
  · unfold updT
    by_cases hj : j = n
    · rw [hj, pm_u_at, if_pos rfl]
    · rw [pm_u_ne (Or.inr hj), if_neg hj]; exact hZ.2.2.2.2.2.2 j
  · unfold PZ at hn
    rw [pm_u_ne (by omega)]
theorem takesPart_c {L d : Nat} {bs : List Int32} {key s : Int32} {a e : Nat} {T oc : List Int32} {m : Nat} {ts : Nat → Int32} {hi : pm_B} {Q : pm_Q} (hW : WB bs) (hC : MC bs hi s a e) (hCu : Cu bs s a e) (he : s = 0 ∨ e ≤ bs.length) (hZ : MZ key hi T oc m ts) (hl : oc.length + T.length ≤ a) (h0 : opd bs key s a e = none → Q (some (.inl 0)) hi) (h1 : ∀ v, opd bs key s a e = some v → ∀ hi', Fr PV hi hi' → MC bs hi' (stp bs s e).1 (stp bs s e).2.1 (stp bs s e).2.2 → MZ key hi' (stl 6 T (oc ++ [enc v])).1 (stl 6 T (oc ++ [enc v])).2 (m + 1) ts → Q (some (.inl 1)) hi') : pm_C pm_g (SH L) HR (d + 4) m_M_takesPart [.inr 141] hi Q := by
  have hw := hW.1
  have t14 := hC.2.2.2.1
  have fin : ∀ v w hi9, (s = 1 ∨ s = 2) → opd bs key s a e = some v → w = enc v → hi9 = pm_u (pm_u hi 152 oc.length w) 141 21 (((pm_u hi 152 oc.length w) 141 21) + 1) → pm_C pm_g (SH L) HR (d + 3) m_M_settle [.inr 141, .inl 6] (pm_u hi9 141 22 ((hi9 141 22) + 1)) (fun v hi10 => v = none ∧ (pm_C pm_g (SH L) HR (d + 3) m_M_go [.inr 141] hi10 (fun v hi11 => v = none ∧ (Q (some (.inl 1)) hi11)))) := by
    intro v w hi9 hs hv ew e9
    have hp := hZ.put e9
    have ha := hCu.2.2.1 (hs.imp id Or.inl)
    rw [ew] at hp
    refine settle_c (d := d + 1) (k := 6) (by omega) hp.1 (by rw [List.length_append]; show oc.length + 1 + _ ≤ 96; omega) (fun hi' hf hZ' => ⟨rfl, ?_⟩)
    refine go2_c (d := d + 1) hW ((hC.kept hp.2).kept hf) ?_ (hs.imp id Or.inl) hZ' (fun hi2 hf2 hC2 hZ2 => ⟨rfl, h1 v hv hi2 ((hp.2.tr hf).pz.tr hf2.pc) hC2 hZ2⟩)
    rcases he with he | he
    · rw [he] at hs; exact absurd hs (by decide)
    · exact he
  have hal : (s = 1 ∨ s = 2) → oc.length < 96 := fun hs => by
    have ha := hCu.2.2.1 (hs.imp id Or.inl)
    omega
  by_cases c2 : s = 2
  · have o1 : ¬ hi 141 14 = 1 := by
      rw [t14]; unfold tkn
      by_cases c4 : s = 2 ∧ 4 < e - a
      · rw [if_pos c4]; decide
      · rw [if_neg c4, c2]; decide
    by_cases c4 : e - a ≤ 4
    · have o2 : hi 141 14 = 2 := by rw [t14]; unfold tkn; rw [if_neg (by omega), c2]
      have ho : opd bs key s a e = some (nv bs a (e - a)) := by unfold opd; rw [if_pos ⟨c2, c4⟩]
      obtain ⟨q, hq, eq⟩ := nv_n hW (a := a) (e - a) (fun i h1 h2 => hCu.2.2.2 c2 i h1 (by omega))
      have hq4 : q < 10 ^ 4 := Nat.lt_of_lt_of_le hq (Nat.pow_le_pow_right (by decide) c4)
      have hq4 : q < 10000 := hq4
      refine v_M_takesPart (d := d + 2) ⟨fun _ => ⟨fun _ => ⟨fun c => absurd o2 c, fun _ => ⟨oc.length, hal (Or.inr c2), hZ.2.1, fun hi9 e9 => fin _ _ hi9 (Or.inr c2) ho ?_ e9⟩⟩, fun c => absurd o2 c⟩, fun c => absurd o1 c⟩
      rw [hC.2.2.2.2.2.1 c2 c4, num_enc]
      rw [eq]; exact nI_nlt (b := 0) (by omega) (by omega)
    · have o2 : ¬ hi 141 14 = 2 := by rw [t14]; unfold tkn; rw [if_pos ⟨c2, by omega⟩]; decide
      have ho : opd bs key s a e = none := by unfold opd; rw [if_neg (fun x => c4 x.2), if_neg (fun x => absurd (c2.symm.trans x.1) (by decide))]
      exact v_M_takesPart (d := d + 2) ⟨fun _ => ⟨fun c => absurd c o2, fun _ => h0 ho⟩, fun c => absurd o1 c⟩
  have et : tkn s a e = s := by unfold tkn; rw [if_neg (fun x => c2 x.1)]
  rw [et] at t14
  have o2 : ¬ hi 141 14 = 2 := by rw [t14]; exact c2
  by_cases c1 : s = 1
  · have o1 : hi 141 14 = 1 := by rw [t14]; exact c1
    have ha := hCu.2.2.1 (Or.inl c1)
    have e15 : hi 141 15 = bA bs a := hC.2.2.2.2.1 (Or.inl c1)
    have en : f_M_nameOf hi (hi 141 15) = nameI key (bA bs a) := by rw [e15]; exact nameOf_I hZ.1
    have el : hi 141 12 - hi 141 13 = nI (e - a) := by rw [hC.2.1, hC.2.2.1]; exact nI_sub (by omega)
    have he96 := hCu.2.1
    have el1 : hi 141 12 - hi 141 13 = 1 ↔ e - a = 1 := by rw [el]; exact nI_eq (b := 1) (by omega) (by omega)
    refine v_M_takesPart (d := d + 2) ⟨fun c => absurd o1 c, fun _ => ⟨fun c => ⟨fun c => absurd c o2, fun _ => h0 ?_⟩, fun c => ⟨fun c3 => ⟨fun c => absurd c o2, fun _ => h0 ?_⟩, fun c3 => ⟨fun c => absurd c o2, fun _ => ⟨fun _ => ⟨oc.length, hal (Or.inl c1), hZ.2.1, fun hi9 e9 => fin (-1 - nameI key (bA bs a)) _ hi9 (Or.inl c1) ?_ ?_ e9⟩, fun c => absurd o2 c⟩⟩⟩⟩⟩
    · unfold opd; rw [if_neg (fun x => c2 x.1), if_neg (fun x => c (el1.mpr x.2.1))]
    · rw [en] at c3
      unfold opd; rw [if_neg (fun x => c2 x.1), if_neg (fun x => Int32.not_le.mpr c3 x.2.2)]
    · rw [en] at c3
      unfold opd; rw [if_neg (fun x => c2 x.1), if_pos ⟨c1, el1.mp (Decidable.not_not.mp c), Int32.not_lt.mp c3⟩]
    · rw [en] at c3 ⊢
      exact (name_enc c3).symm
  · have o1 : ¬ hi 141 14 = 1 := by rw [t14]; exact c1
    refine v_M_takesPart (d := d + 2) ⟨fun _ => ⟨fun c => absurd c o2, fun _ => h0 ?_⟩, fun c => absurd o1 c⟩
    unfold opd; rw [if_neg (fun x => c2 x.1), if_neg (fun x => c1 x.1)]
