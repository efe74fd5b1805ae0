/-! teacher: the row that is spoken, of any length -/
def crow (p : ASp) (k m : Nat) : List Int32 := (p.2.2.2.2.drop k).take m
theorem mbeg_c {L d p k m : Nat} {s : ASp} {hi : pm_B} {Q : pm_Q} (hp : p < 8) (hS : MS (hi 142) p s) (hl : s.2.2.2.2.length ≤ 24) (hw : ∀ w ∈ s.2.2.2.2, ¬ w < 0) (hk : k ≤ s.2.2.2.2.length) (hm12 : m ≤ 12)
    (h : ∀ hi', Fr PR hi hi' → MR hi' (crow s k m) → Q none hi') : pm_C pm_g (SH L) HR (d + 2) m_M_begins [.inr 141, .inl (nI p), .inl (nI k), .inl (nI (m))] hi Q := by
  refine v_M_begins ?_
  obtain ⟨s0, s1, s2, s3, s4, sR⟩ := hS
  have hal : (crow s k m).length = min m (s.2.2.2.2.length - k) := by unfold crow; rw [List.length_take, List.length_drop]
  have key : ∀ r n hi', n + r = (crow s k m).length → Fr PR hi hi' → MR hi' ((crow s k m).take n) → pm_W pm_g (SH L) HR (d + 1) pm_t162 8 [some (.inr 141), some (.inl (nI p)), some (.inl (nI k)), some (.inl (nI (m))), some (.inl (nI (k + n)))] [] hi' Q := by
    intro r
    induction r with
    | zero =>
      intro n hi' hn hf hr
      rw [List.take_of_length_le (by omega)] at hr
      refine v_M_begins_8 ⟨7 + 29 * p + 4, by omega, ix p 4, ?_⟩
      rw [hf 142 _ (by unfold PR; omega), s4, hr.1]
      exact ⟨fun _ => h hi' hf hr, fun c => ⟨fun _ => h hi' hf hr, fun c' => absurd (nI_le (by have : ¬ s.2.2.2.2.length ≤ k + n := fun hh => c (nI_le hh (by omega)); omega) (by omega)) c'⟩⟩
    | succ r ih =>
      intro n hi' hn hf hr
      have hlen : ((crow s k m).take n).length = n := by rw [List.length_take]; omega
      have hkn : k + n < s.2.2.2.2.length := by omega
      refine v_M_begins_8 ⟨7 + 29 * p + 4, by omega, ix p 4, ?_⟩
      rw [hf 142 _ (by unfold PR; omega), s4, hr.1, hlen]
      refine ⟨fun c => absurd c (nI_ge hkn (by omega)), fun _ => ⟨fun c => absurd c (nI_ge (by omega) (by omega)), fun _ => ⟨7 + 29 * p + (5 + (k + n)), by omega, ix5 p (k + n), ?_⟩⟩⟩
      rw [hf 142 _ (by unfold PR; omega), sR.at hkn]
      refine ⟨fun c => absurd c (hw _ (List.getElem_mem hkn)), fun _ => ⟨n, by omega, rfl, fun hi7 e7 => ?_⟩⟩
      rw [nI_1]
      have hn1 : n < (crow s k m).length := by omega
      have hel : (crow s k m)[n] = s.2.2.2.2[k + n] := by
        have e : crow s k m = (s.2.2.2.2.drop k).take m := rfl
        rw [List.getElem_of_eq e hn1, List.getElem_take, List.getElem_drop]
      refine ih (n + 1) hi7 (by omega) (fun q j hq => ?_) ⟨?_, ?_⟩
      · unfold PR at hq
        rw [e7, pm_u_ne (by omega), pm_u_ne (by omega)]
        exact hf q j hq
      · rw [e7, pm_u_at, pm_u_ne (Or.inl (by omega)), hr.1, hlen, nI_1, List.length_take]
        congr 1
        omega
      · rw [List.take_succ_eq_append_getElem hn1]
        refine Row.snoc (hr.2.to (fun j hj => ?_)) ?_
        · rw [e7, pm_u_ne (Or.inl (by omega)), pm_u_ne (Or.inr (by omega))]
        · rw [hlen, e7, pm_u_ne (Or.inl (by omega)), pm_u_at, hel]
  exact key _ 0 _ (Nat.zero_add _) (fun q j hq => pm_u_ne (by unfold PR at hq; omega)) ⟨pm_u_at, Row.nil⟩
/-! teacher -/
def taught (ws : List Int32) (f : AF) (i k : Nat) : Option Int32 := if k = i then none else match bro ws (ahears (txo f) (spa f i) (spa f k).2.2.2.2) with
  | none => none
  | some b => some (nI b)
def o_teacher (s : St) (a b w : Int32) : St × Int32 := match ixo a 4 with
  | none => (s, -1000000001)
  | some i => match ixo b s.1.1.length with
    | none => (s, -1000000001)
    | some j => match ixo w 2 with
      | none => (s, -1000000001)
      | some _ => (s, asayS (s.2.2.2.2.1 i) (fun ws => leaA (lea (taught ws s.1 j) s.1.1.length) w))
def PGt : Nat → Nat → Prop := fun q _ => q = 49 ∨ (88 ≤ q ∧ q < 106)
theorem taught_c {L d i k : Nat} {ws : List Int32} {s : St} {hi hi' : pm_B} {Q : pm_Q} (hW : WI s) (hC : CI hi s) (hi8 : i < s.1.1.length) (hk8 : k < s.1.1.length) (hf : Fr PGt hi hi') (hl : hi 106 0 = lix (lk (txo s.1) 0)) (hY : CY hi ws) (hw : WY ws) (h : ∀ hi2, Fr PGt hi hi2 → Q (some (.inl (abreaths ws (ahears (txo s.1) (spa s.1 i) (spa s.1 k).2.2.2.2)))) hi2) : pm_C pm_g (SH L) HR (d + 6) m_E_breathsTaught [.inr 16, .inl (nI i), .inl (nI k)] hi' Q := by
  have h8 := hW.1.1
  have fp : ∀ {q j}, ¬ (q = 49 ∨ (88 ≤ q ∧ q < 106)) → hi' q j = hi q j := fun {q j} hn => hf q j hn
  have c1 : CF hi' 50 s.1 := hC.1.kept h8 (fun q j a b => fp (by omega))
  have wi := hW.1.at hi8
  have wk := hW.1.at hk8
  have li := wi.2.2.1
  have lk' := wk.2.2.1
  refine v_E_breathsTaught (d := d + 5) ⟨i, by omega, rfl, k, by omega, rfl, i, by omega, rfl, ?_⟩
  refine spBecome_c (d := d + 4) (sk_of fo88 (by omega)) (sk_of fo50 (by omega)) (by omega) (by omega) (c1.at hi8) (fun hi1 f1 p1 => ⟨rfl, ?_⟩)
  have ck : CS hi1 (50 + 2 + 2 * k) (spa s.1 k) := (c1.at hk8).kept (fun j => f1 _ _ (by omega)) (fun j => f1 _ _ (by omega))
  rw [ck.2.2.2.2.1]
  refine hears_c (d := d) (p := spa s.1 i) (row := (spa s.1 k).2.2.2.2) (txs := txo s.1) fo88 (sk_of fo88 (by omega)) (sh_sk1 (sk_of fo50 (show k < 8 by omega))) (by omega) (by omega) (by omega) p1 wi.2.1 li (f := 0) (ck.2.2.2.2.2.to (fun k _ => by rw [Nat.zero_add])) (by omega) (by rw [f1 106 0 (by omega), fp (by omega)]; exact hl) (hC.2.2.1.kept (fun q j a b => by rw [f1 q j (by omega), fp (by omega)])) (fun hi2 f2 p2 _ => ⟨rfl, ?_⟩)
  have fr : Fr PGt hi hi2 := fun q j hn => by
    have hn' := hn
    unfold PGt at hn
    rw [f2 q j (by omega), f1 q j (by omega), hf q j hn']
  have hY2 : CY hi2 ws := ⟨(fr 137 1 (by unfold PGt; omega)).trans hY.1, hY.2.to (fun j _ => fr 138 j (by unfold PGt; omega))⟩
  have w2 := wi.hears (txs := txo s.1) (row := (spa s.1 k).2.2.2.2) wk.2.2.2
  have l2 := w2.2.2.1
  exact breathsOf_c (d := d + 1) (sk_of fo88 (by omega)) p2 (by omega) hY2 hw ⟨_, rfl, h hi2 fr⟩
theorem lea_snoc {v : Nat → Option Int32} {k : Nat} {x : Int32} (h : v k = some x) : (lea v k = none → lea v (k + 1) = some (k, x)) ∧ (∀ p, lea v k = some p → lea v (k + 1) = if p.2 ≤ x then some p else some (k, x)) := by
  refine ⟨fun e => ?_, fun p e => ?_⟩
  · rw [lea, h, e]
  · rw [lea, h, e]
theorem lea_skip {v : Nat → Option Int32} {k : Nat} (h : v k = none) : lea v (k + 1) = lea v k := by rw [lea, h]
theorem E_teacher {L d : Nat} {s : St} {a b w : Int32} {hi : pm_B} {Q : pm_Q} (hW : WI s) (hC : CI hi s) (h : EP hi (o_teacher s a b w) Q) : pm_C pm_g (SH L) HR (d + 20) m_E_teacher [.inr 16, .inl a, .inl b, .inl w] hi Q := by
  have h8 := hW.1.1
  unfold o_teacher at h
  refine v_E_teacher (d := d + 18) (gL 4 rfl (by omega) (fun x => ?_) (fun i hi4 hx x => gE hC.1.n hW.1.1 (fun y => ?_) (fun j hj8 hy y => ?_)))
  · rw [x] at h; exact h.same hC
  · rw [x] at h; dsimp only at h; rw [y] at h; exact h.same hC
  · rw [x] at h; dsimp only at h; rw [y] at h; dsimp only at h
    subst hx hy
    have go : (∃ z, ixo w 2 = some z) → pm_C pm_g (SH L) HR (d + 18 + 1) m_E_readSaying [.inr 16, .inl (nI i)] hi (fun v hi7 => ∃ x8 : Int32, v = some (.inl x8) ∧ (((x8 = 0) → pm_C pm_g (SH L) HR (d + 18 + 1) m_Folk_become [.inr 88, .inr 50] hi7 (fun v hi10 => v = none ∧ (pm_W pm_g (SH L) HR (d + 18 + 1) pm_t91 65 [some (.inr 16), some (.inl (nI i)), some (.inl (nI j)), some (.inl w), some (.inl x8), some (.inl (-1000000005)), some (.inl (-1000000005)), some (.inl 0), none] [] hi10 Q))) ∧ ((¬ (x8 = 0)) → Q (some (.inl x8)) hi7))) := by
      intro hz
      obtain ⟨_, z⟩ := hz
      rw [z] at h; dsimp only at h
      have hH := hC.2.2.2.2.2.2.1 i hi4
      have wH := hW.2.2.2.2.2.2.2.1 i hi4
      generalize s.2.2.2.2.1 i = t at h hH wH
      unfold asayS at h
      refine readSay_c (d := d + 16) hi4 hH wH.2 (fun c => ⟨_, rfl, fun e => absurd e (by decide), fun _ => ?_⟩) (fun c hi' hf hY => ⟨_, rfl, fun e => ?_, fun e => ?_⟩)
      · rw [if_pos c] at h; exact h.same hC
      · have e0 : ¬ (aread t.2).length = 0 := fun hh => by rw [if_pos hh] at e; exact absurd e (by decide)
        rw [if_neg c, if_neg e0] at h
        have hal := aread_W t.2
        rw [if_neg e0]
        generalize aread t.2 = ws at h hY hal
        have hC1 : CI hi' s := hC.same hW (fun q j _ hn => hf q j hn)
        refine become_c (d := d + 17) fo88 fo50 (by omega) hW.1.wf hC1.1 (fun hi0 f0 c0 => ⟨rfl, ?_⟩)
        have hC0 : CI hi0 s := hC1.same hW (fun q j _ hn => f0 q j (by omega))
        have hY0 : CY hi0 ws := ⟨(f0 137 1 (by omega)).trans hY.1, hY.2.to (fun j _ => f0 138 j (by omega))⟩
        have hl0 := c0.law0 0 (by omega)
        have g0 : Fr PG hi hi0 := hf.tr (beco f0)
        have key : ∀ m k hi2 o, k + m = s.1.1.length → Fr PGt hi0 hi2 → pm_W pm_g (SH L) HR (d + 18 + 1) pm_t91 65 [some (.inr 16), some (.inl (nI i)), some (.inl (nI j)), some (.inl w), some (.inl 0), some (.inl (leE0 (lea (taught ws s.1 j) k))), some (.inl (leE1 (lea (taught ws s.1 j) k))), some (.inl (nI k)), o] [] hi2 Q := by
          intro m
          induction m with
          | zero =>
            intro k hi2 o hk f2
            rw [Nat.add_zero] at hk
            refine v_E_teacher_65 (d := d + 18) ?_
            have g2 : Fr PG hi hi2 := g0.tr (f2.mono (fun q j hq => by unfold PGt at hq; unfold PG; omega))
            rw [(hC.1.beside h8 rfl g2).n, hk]
            refine ⟨fun _ => ?_, fun c => absurd (nI_le (Nat.le_refl _) (by omega)) c⟩
            have h : Q (some (.inl (leaA (lea (taught ws s.1 j) s.1.1.length) w))) hi2 := h.sameF hC hW g2
            cases e : lea (taught ws s.1 j) s.1.1.length with
            | none =>
              rw [e] at h
              exact ⟨fun _ => h, fun _ => h⟩
            | some p =>
              rw [e] at h
              have h : Q (some (.inl (if w = 0 then nI p.1 else p.2))) hi2 := h
              refine ⟨fun c => ?_, fun c => ?_⟩
              · rw [if_neg c] at h; exact h
              · rw [if_pos (Decidable.not_not.mp c)] at h; exact h
          | succ m ih =>
            intro k hi2 o hk f2
            refine v_E_teacher_65 (d := d + 18) ?_
            have g2 : Fr PG hi hi2 := g0.tr (f2.mono (fun q j hq => by unfold PGt at hq; unfold PG; omega))
            have hk' : k < s.1.1.length := by omega
            rw [(hC.1.beside h8 rfl g2).n]
            refine ⟨fun c => absurd c (nI_ge (by omega) (by omega)), fun _ => ⟨fun ckj => ?_, fun ckj => ?_⟩⟩
            · have ckj : ¬ k = j := fun e => ckj (by rw [e])
              refine taught_c (d := d + 13) hW hC0 hj8 hk' f2 hl0 hY0 hal (fun hi3 f3 => ⟨_, rfl, ?_⟩)
              have nx := fun o => ih (k + 1) hi3 o (by omega) f3
              have ev : taught ws s.1 j k = match bro ws (ahears (txo s.1) (spa s.1 j) (spa s.1 k).2.2.2.2) with
                | none => none
                | some b => some (nI b) := by unfold taught; rw [if_neg ckj]
              rw [abreaths_enc, nI_1]
              cases hb : bro ws (ahears (txo s.1) (spa s.1 j) (spa s.1 k).2.2.2.2) with
              | none =>
                rw [hb] at ev
                rw [lea_skip ev] at nx
                exact ⟨fun _ => nx _, fun c => absurd rfl c⟩
              | some n =>
                rw [hb] at ev
                have hn12 := bro_le hb
                have hne : ¬ nI n = -1000000005 := fun e => by
                  have h1 := nI_pos (n := n) (by omega)
                  rw [e] at h1
                  exact absurd (by decide) h1
                obtain ⟨l1, l2⟩ := lea_snoc ev
                refine ⟨fun c => absurd c hne, fun _ => ⟨fun c => ?_, fun c => ?_⟩⟩
                · rw [l1 ((leE_none (by omega)).mp c)] at nx; exact nx _
                · cases e : lea (taught ws s.1 j) k with
                  | none => exact absurd ((leE_none (by omega)).mpr e) c
                  | some p =>
                    rw [l2 p e] at nx
                    refine ⟨fun c1 => ?_, fun c1 => ?_⟩
                    · have c1 : p.2 ≤ nI n := c1
                      rw [if_pos c1] at nx; exact nx _
                    · have c1 : ¬ p.2 ≤ nI n := c1
                      rw [if_neg c1] at nx; exact nx _
            · have ckj : k = j := (nI_eq (by omega) (by omega)).mp (Decidable.not_not.mp ckj)
              have ev : taught ws s.1 j k = none := by unfold taught; rw [if_pos ckj]
              have nx := fun o => ih (k + 1) hi2 o (by omega) f2
              rw [lea_skip ev] at nx
              rw [nI_1]
              exact nx _
        exact key _ 0 hi0 _ (Nat.zero_add _) Fr.rf
      · have e0 : (aread t.2).length = 0 := Classical.byContradiction (fun hh => e (by rw [if_neg hh]))
        rw [if_neg c, if_pos e0] at h
        rw [if_pos e0]
        exact h.sameF hC hW hf
    refine g01 (fun z => ?_) (fun hw z => go ⟨_, z⟩) (fun hw z => go ⟨_, z⟩)
    rw [z] at h; exact h.same hC
theorem M_teacher {L d : Nat} {s : St} {a b w : Int32} {hi : pm_B} {Q : pm_Q} (hW : WI s) (hM : MI hi s) (h : MP hi (o_teacher s a b w) Q) : pm_C pm_g (SH L) HR (d + 20) m_M_teacher [.inr 141, .inl a, .inl b, .inl w] hi Q := by
  have h8 := hW.1.1
  unfold o_teacher at h
  refine v_M_teacher (d := d + 17) (gT 3 rfl (by omega) (fun x => ?_) (fun i hi4 hx x => gM hM.1.n (by omega) (fun y => ?_) (fun j hj8 hy y => gT 1 rfl (by omega) (fun z => ?_) (fun iw hi2 hz z => ⟨i, hi4, hx, ?_⟩))))
  · rw [x] at h; exact h.same hM
  · rw [x] at h; dsimp only at h; rw [y] at h; exact h.same hM
  · rw [x] at h; dsimp only at h; rw [y] at h; dsimp only at h; rw [z] at h; exact h.same hM
  · rw [x] at h; dsimp only at h; rw [y] at h; dsimp only at h; rw [z] at h; dsimp only at h
    subst hx hy
    have hH := hM.2.2.2.2.2.2.1 i hi4
    have wH := hW.2.2.2.2.2.2.2.1 i hi4
    generalize s.2.2.2.2.1 i = t at h hH wH
    unfold asayS at h
    rw [hH.1]
    refine ⟨fun c => ?_, fun c => ?_⟩
    · rw [if_neg ((srt wH).mp c)] at h
      refine mreads_c (d := d + 16) hi4 hH wH.2 (fun hi' hf hY => ⟨rfl, ?_⟩)
      have hal := aread_W t.2
      have hl12 := hal.1
      generalize aread t.2 = ws at h hY hal hl12
      rw [hY.1]
      refine ⟨fun c1 => ?_, fun c1 => ?_⟩
      · have e0 : ¬ ws.length = 0 := fun hh => c1 (by rw [hh]; rfl)
        rw [if_neg e0] at h
        refine mthinks_c (d := d + 18) (fun hi5 f5 e5 => ⟨rfl, ?_⟩)
        have wj := hW.1.at hj8
        -- one teacher
        have one : ∀ (k m : Nat) (hi2 : pm_B) (G : Int32 → pm_B → Prop), k < s.1.1.length → m ≤ 12 → Fr PH' hi hi2 → (∀ j, j < 239 → hi2 148 j = hi 142 j) → MY hi2 ws → (∀ hi9, Fr PH' hi hi9 → (∀ j, j < 239 → hi9 148 j = hi 142 j) → MY hi9 ws → G (encO (bro ws (ahears (txo s.1) (spa s.1 j) (crow (spa s.1 k) 0 m)))) hi9) → pm_C pm_g (SH L) HR (d + 17 + 2) m_M_begins [.inr 141, .inl (nI k), .inl 0, .inl (nI m)] hi2 (fun v hi5 => v = none ∧ (pm_C pm_g (SH L) HR (d + 17 + 2) m_M_hears [.inr 141, .inl (nI j)] hi5 (fun v hi6 => v = none ∧ (pm_C pm_g (SH L) HR (d + 17 + 2) m_M_breathsOf [.inr 141, .inl (nI j)] hi6 (fun v hi7 => ∃ x8 : Int32, v = some (.inl x8) ∧ (pm_C pm_g (SH L) HR (d + 17 + 2) m_M_putsBack [.inr 141] hi7 (fun v hi9 => v = none ∧ G x8 hi9))))))) := by
          intro k m hi2 G hk8 hm f2 e2 y2 hg
          have m2 := hM.1.beside hW.1 f2
          have wk := hW.1.at hk8
          have lk' := wk.2.2.1
          refine mbeg_c (d := d + 17) (k := 0) (by omega) (m2.at hk8) (by omega) (fun w hw => (wk.2.2.2 w hw).1) (Nat.zero_le _) hm (fun hi3 f3 r3 => ⟨rfl, ?_⟩)
          have hcl : (crow (spa s.1 k) 0 m).length ≤ 12 := by unfold crow; rw [List.length_take]; omega
          have m3 : MF (hi3 142) s.1 := m2.kept hW.1.l24 h8 (fun j _ => f3 142 j (by unfold PR; omega))
          have x3 : MX (hi3 142) (txo s.1) := hM.2.2.1.kept (fun j hj => by rw [f3 142 j (by unfold PR; omega)]; exact f2 142 j (by unfold PH'; omega))
          refine mhears_c (d := d + 13) (by omega) (m3.at hj8) wj.2.1 wj.2.2.1 r3 hcl m3.t6 x3 hW.1.wx (fun hi4 f4 p4 _ => ⟨rfl, ?_⟩)
          have hcw : ∀ w ∈ crow (spa s.1 k) 0 m, isw w := fun w hw => wk.2.2.2 w (List.mem_of_mem_drop (List.mem_of_mem_take hw))
          have w4 := wj.hears (txs := txo s.1) hcw
          have y4 : MY hi4 ws := ⟨by rw [f4 141 7 (by unfold PH PW PK; omega), f3 141 7 (by unfold PR; omega)]; exact y2.1, y2.2.to (fun j _ => by rw [f4 146 j (by unfold PH PW PK; omega), f3 146 j (by unfold PR; omega)])⟩
          refine mbreathsOf_c (d := d + 15) (by omega) p4 w4.2.2.1 y4 hl12 (fun hi7 f7 => ⟨_, rfl, ?_⟩)
          refine mputsBack_c (d := d + 18) (fun hi9 f9 e9 => ⟨rfl, ?_⟩)
          have fx : Fr PX hi2 hi7 := ((f3.mono (fun q j hq => by unfold PR at hq; unfold PX; omega)).tr (f4.mono (fun q j' hq => by unfold PH PW PK at hq; unfold PX; omega))).tr (PB.px f7)
          obtain ⟨t1, t2⟩ := thought2 f2 e2 fx f9 e9
          refine hg hi9 t1 t2 ⟨?_, ?_⟩
          · rw [f9 141 7 (by omega), f7 141 7 (by unfold PB; omega)]; exact y4.1
          · exact y4.2.to (fun j _ => by rw [f9 146 j (by omega), f7 146 j (by unfold PB; omega)])
        have key : ∀ m k hi2 o, k + m = s.1.1.length → Fr PH' hi hi2 → (∀ j, j < 239 → hi2 148 j = hi 142 j) → MY hi2 ws → pm_W pm_g (SH L) HR (d + 17 + 2) pm_t186 67 [some (.inr 141), some (.inl (nI i)), some (.inl (nI j)), some (.inl w), some (.inl (leM0 (lea (taught ws s.1 j) k))), some (.inl (leM1 (lea (taught ws s.1 j) k))), some (.inl (nI k)), o] [] hi2 Q := by
          intro m
          induction m with
          | zero =>
            intro k hi2 o hk f2 e2 y2
            rw [Nat.add_zero] at hk
            refine v_M_teacher_67 (d := d + 17) ?_
            rw [(hM.1.beside hW.1 f2).n, hk]
            refine ⟨fun _ => ?_, fun c => absurd (nI_le (Nat.le_refl _) (by omega)) c⟩
            have h : Q (some (.inl (leaA (lea (taught ws s.1 j) s.1.1.length) w))) hi2 := h.sameF hM hW f2
            cases e : lea (taught ws s.1 j) s.1.1.length with
            | none =>
              rw [e] at h
              exact ⟨fun c => absurd c (by decide), fun _ => h⟩
            | some p =>
              rw [e] at h
              have hb := lea_lt (b := p.1) (l := p.2) e
              have h : Q (some (.inl (if w = 0 then nI p.1 else p.2))) hi2 := h
              refine ⟨fun _ => ⟨fun c => ?_, fun c => ?_⟩, fun c => absurd (nI_pos' (n := p.1) (by omega)) c⟩
              · rw [if_neg c] at h; exact h
              · rw [if_pos (Decidable.not_not.mp c)] at h; exact h
          | succ m ih =>
            intro k hi2 o hk f2 e2 y2
            refine v_M_teacher_67 (d := d + 17) ?_
            have hk' : k < s.1.1.length := by omega
            rw [(hM.1.beside hW.1 f2).n, nI_1]
            refine ⟨fun c => absurd c (nI_ge (by omega) (by omega)), fun _ => ⟨fun ckj => ?_, fun ckj => ?_⟩⟩
            · have ckj' : ¬ k = j := fun e => ckj (by rw [e])
              refine one k 12 hi2 _ hk' (by omega) f2 e2 y2 (fun hi9 t1 t2 y9 => ?_)
              have nx := fun o => ih (k + 1) hi9 o (by omega) t1 t2 y9
              have lk' := (hW.1.at hk').2.2.1
              have ec : crow (spa s.1 k) 0 12 = (spa s.1 k).2.2.2.2 := by unfold crow; rw [List.drop_zero, List.take_of_length_le (by omega)]
              rw [ec]
              have ep := encO_pos (ws := ws) (p := ahears (txo s.1) (spa s.1 j) (spa s.1 k).2.2.2.2) hl12 e0
              have ev : taught ws s.1 j k = match bro ws (ahears (txo s.1) (spa s.1 j) (spa s.1 k).2.2.2.2) with
                | none => none
                | some b => some (nI b) := by unfold taught; rw [if_neg ckj']
              refine ⟨fun c => absurd c ckj, fun _ => ⟨fun c => ?_, fun c => ?_⟩⟩
              · rw [ep.mp c] at ev
                rw [lea_skip ev] at nx
                exact nx _
              · cases hb : bro ws (ahears (txo s.1) (spa s.1 j) (spa s.1 k).2.2.2.2) with
                | none => exact absurd (ep.mpr hb) c
                | some n =>
                  rw [hb] at ev
                  obtain ⟨l1, l2⟩ := lea_snoc ev
                  refine ⟨fun c => ?_, fun c => ?_⟩
                  · rw [l1 ((leM_none (by omega)).mp c)] at nx; exact nx _
                  · cases e : lea (taught ws s.1 j) k with
                    | none => exact absurd ((leM_none (by omega)).mpr e) c
                    | some p =>
                      rw [l2 p e] at nx
                      refine ⟨fun c1 => ?_, fun c1 => ?_⟩
                      · have c1 : p.2 ≤ nI n := c1
                        rw [if_pos c1] at nx; exact nx _
                      · have c1 : ¬ p.2 ≤ nI n := c1
                        rw [if_neg c1] at nx; exact nx _
            · have ckj' : k = j := (nI_eq (by omega) (by omega)).mp (Decidable.not_not.mp ckj)
              refine one k 0 hi2 _ hk' (by omega) f2 e2 y2 (fun hi9 t1 t2 y9 => ?_)
              have nx := fun o => ih (k + 1) hi9 o (by omega) t1 t2 y9
              have ev : taught ws s.1 j k = none := by unfold taught; rw [if_pos ckj']
              rw [lea_skip ev] at nx
              exact ⟨fun _ => nx _, fun c => absurd (Decidable.not_not.mp ckj) c⟩
        refine key _ 0 hi5 _ (Nat.zero_add _) ((PY.ph hf).tr (f5.mono (fun q j hq => by unfold PH'; omega))) (fun j hj => by rw [e5 j hj]; exact hf 142 j (by unfold PY; omega)) ⟨(f5 141 7 (by omega)).trans hY.1, hY.2.to (fun j _ => f5 146 j (by omega))⟩
      · have e0 : ws.length = 0 := Nat.eq_zero_of_not_pos (fun e => c1 (nI_ne0 e (by omega)))
        rw [if_pos e0] at h
        exact h.sameF hM hW (PY.ph hf)
    · rw [if_pos (Classical.byContradiction (fun hh => c ((srt wH).mpr hh)))] at h
      exact h.same hM
theorem W_teacher {s : St} {a b w : Int32} (hW : WI s) : WI (o_teacher s a b w).1 := by
  unfold o_teacher
  cases ixo a 4
  · exact hW
  · dsimp only
    cases ixo b s.1.1.length
    · exact hW
    · dsimp only
      cases ixo w 2 <;> exact hW
