/-! ===== texts: a piece in both readings ===== -/
theorem nameI_v (key b : Int32) : nameI key b = 0 ∨ nameI key b = 1 ∨ (nameI key b = 2 ∧ key = 0) ∨ nameI key b = -1 := by
  unfold nameI
  by_cases h0 : key = 0
  · rw [if_pos h0]
    by_cases h1 : b = 101
    · rw [if_pos h1]; exact Or.inl rfl
    · rw [if_neg h1]
      by_cases h2 : b = 102
      · rw [if_pos h2]; exact Or.inr (Or.inl rfl)
      · rw [if_neg h2]
        by_cases h3 : b = 119
        · rw [if_pos h3]; exact Or.inr (Or.inr (Or.inl ⟨rfl, h0⟩))
        · rw [if_neg h3]; exact Or.inr (Or.inr (Or.inr rfl))
  · rw [if_neg h0]
    by_cases h4 : key = 1
    · rw [if_pos h4]
      by_cases h1 : b = 115
      · rw [if_pos h1]; exact Or.inl rfl
      · rw [if_neg h1]
        by_cases h2 : b = 108
        · rw [if_pos h2]; exact Or.inr (Or.inl rfl)
        · rw [if_neg h2]; exact Or.inr (Or.inr (Or.inr rfl))
    · rw [if_neg h4]
      by_cases h1 : b = 115
      · rw [if_pos h1]; exact Or.inl rfl
      · rw [if_neg h1]
        by_cases h2 : b = 102
        · rw [if_pos h2]; exact Or.inr (Or.inl rfl)
        · rw [if_neg h2]; exact Or.inr (Or.inr (Or.inr rfl))
theorem name_ok {key b : Int32} (h : 0 ≤ nameI key b) : okc (-1 - nameI key b) ∧ ¬ (-1 - nameI key b) < -3 ∧ (key = 0 ∨ (-1 - nameI key b) ≠ -3) := by
  rcases nameI_v key b with e | e | ⟨e, hk⟩ | e
  · rw [e]; exact ⟨by unfold okc; decide, by decide, Or.inr (by decide)⟩
  · rw [e]; exact ⟨by unfold okc; decide, by decide, Or.inr (by decide)⟩
  · rw [e]; exact ⟨by unfold okc; decide, by decide, Or.inl hk⟩
  · rw [e] at h; exact absurd h (by decide)
section
variable {bs : List Int32} {key : Int32} {f : Nat}
abbrev Nn (n : Nat) : List Int32 := List.replicate n (-10)
def PcG (bs : List Int32) (key : Int32) (f : Nat) (p : PS) (n : Nat) (B : List Int32) (ts : Nat → Int32) (q : PS) : Prop :=
  (q.2.2.2.2.2.1 = none → ∃ ts', En bs f q (Nn n ++ B) ∧ tsr 4 (B.count (-11)) ts ts' ∧ Gd key p.2.2.2.2.2.2.1 q.2.2.2.2.2.2.1 ∧ p.2.1 ≤ q.2.1 ∧ ∀ res, Run bs key (cur q) B (q.2.2.2.2.2.2.1.map enc ++ Nn n) q.2.2.2.2.2.2.2 ts' (B.count (-10)) false res → Run bs key (cur p) (Nn n ++ B) (p.2.2.2.2.2.2.1.map enc) p.2.2.2.2.2.2.2 ts ((Nn n ++ B).count (-10)) true res)
  ∧ (∀ x, q.2.2.2.2.2.1 = some x → q.1 = 4 ∧ Run bs key (cur p) (Nn n ++ B) (p.2.2.2.2.2.2.1.map enc) p.2.2.2.2.2.2.2 ts ((Nn n ++ B).count (-10)) true (some x, [], 0))
theorem Nn_ok {n : Nat} : ∀ x ∈ Nn n, x ≠ -11 ∧ 6 ≤ rk x := fun x hx => by rw [List.eq_of_mem_replicate hx]; decide
theorem stl_N {n : Nat} {B oc : List Int32} (hB : blk 6 B) : stl 6 (Nn n ++ B) oc = (B, oc ++ Nn n) := stl_app hB _ _ Nn_ok
theorem cnt_N {n : Nat} {B : List Int32} : (Nn n ++ B).count (-11) = B.count (-11) := by
  rw [List.count_append, List.count_eq_zero.mpr (fun hx => absurd (List.eq_of_mem_replicate hx) (by decide)), Nat.zero_add]
theorem fail_run {p : PS} {n : Nat} {B : List Int32} {ts : Nat → Int32} (hE : En bs f p (Nn n ++ B)) (h1 : ¬ (p.1 = 3 ∧ bA bs p.2.1 = 33 ∧ p.2.2.2.2.1 < 8)) (h2 : ¬ (p.1 = 3 ∧ bA bs p.2.1 = 40 ∧ p.2.2.2.1 < 8)) (h3 : opd bs key p.1 p.2.1 p.2.2.1 = none) : PcG bs key f p n B ts (pFail p) := by
  refine ⟨fun hz => ?_, fun x hx => ⟨rfl, ?_⟩⟩
  · exact absurd (show some _ = none from hz) (by intro h; cases h)
  · have : p.2.1 = x := by
      have hx : some (p.2.2.2.2.2.1.getD p.2.1) = some x := hx
      rw [hE.1] at hx
      exact Option.some.inj hx
    rw [← this]
    exact Run.f1 (by rw [← hE.2.2.1]; exact h1) (by rw [← hE.2.1]; exact h2) h3
theorem leaf_run {p : PS} {n : Nat} {B : List Int32} {ts : Nat → Int32} {v : Int32} (hW : WB bs) (hE : En bs f p (Nn n ++ B)) (hB : blk 6 B) (hs : p.1 = 1 ∨ p.1 = 2 ∨ p.1 = 3) (hv : opd bs key p.1 p.2.1 p.2.2.1 = some v) (ok : okc v) (ok1 : ¬ v < -3) (ok3 : key = 0 ∨ v ≠ -3) : PcG bs key f p n B ts (pLeaf bs v p) := by
  have hc := hE.2.2.2.2.1
  have ha := hc.2.2.1 hs
  have hl := hE.2.2.2.1
  have hw := hW.1
  have hst := stp_Cu hW (s := p.1) hc.2.1
  have ec : (pLeaf bs v p).2.2.2.2.2.2.1 = p.2.2.2.2.2.2.1 ++ [v] := by
    show (if p.2.2.2.2.2.2.1.length < 96 then p.2.2.2.2.2.2.1 ++ [v] else p.2.2.2.2.2.2.1) = _
    rw [if_pos (by omega)]
  refine ⟨fun _ => ⟨ts, ⟨hE.1, hE.2.1, hE.2.2.1, ?_, hst.1, hE.2.2.2.2.2⟩, fun m _ => Iff.rfl, ?_, ?_, fun res h => ?_⟩, fun x hx => ?_⟩
  · rw [ec, List.length_append]
    show p.2.2.2.2.2.2.1.length + 1 + _ ≤ (stp bs p.1 p.2.2.1).2.1
    omega
  · rw [ec]; exact Gd.one ok ok1 ok3
  · show p.2.1 ≤ (stp bs p.1 p.2.2.1).2.1
    omega
  · rw [ec, List.map_append] at h
    refine Run.pt v hv ?_
    rw [stl_N hB]
    exact h
  · exact absurd (hE.1.symm.trans hx) (by intro h; cases h)
theorem opd3 {a e : Nat} : opd bs key 3 a e = none := by
  unfold opd
  rw [if_neg (fun x => absurd x.1 (by decide)), if_neg (fun x => absurd x.1 (by decide))]
def Pc (bs : List Int32) (key : Int32) (f : Nat) : Prop := ∀ p n B ts, En bs f p (Nn n ++ B) → blk 6 B → PcG bs key f p n B ts (pieceF bs key f p)
theorem Pc.cl (h : Pc bs key f) : Cl bs key f 6 (pieceF bs key f) := by
  intro p T ts hE hb _
  have h1 := h p 0 T ts hE hb
  refine ⟨fun hz => ?_, fun x hx => h1.2 x hx⟩
  obtain ⟨ts', a, b, c, d, e⟩ := h1.1 hz
  refine ⟨[], (pieceF bs key f p).2.2.2.2.2.2.1.map enc, ts', ⟨a, List.append_nil _, fun x hx => absurd hx (List.not_mem_nil), fun m hm => b m (hm.imp id (fun y => ⟨by omega, y.2⟩)), c⟩, fun h3 => ?_, d, fun res hr => e res ?_⟩
  · by_cases hz : sgn (bA bs (pieceF bs key f p).2.1) = 0
    · exact Or.inl hz
    · have := (sgn_all _ (sgn_in hz)).2.2.2.1
      exact Or.inr (Or.inl (by omega))
  · rw [show Nn 0 = [] from rfl, List.append_nil]; exact hr
theorem not_run {p : PS} {n : Nat} {B : List Int32} {ts : Nat → Int32} (hW : WB bs) (h : Pc bs key f) (hE : En bs (f + 1) p (Nn n ++ B)) (hB : blk 6 B) (hs : isS bs p 33) : PcG bs key (f + 1) p n B ts (pNot bs (pieceF bs key f) p) := by
  unfold pNot
  by_cases c : p.2.2.2.2.1 < 8
  · rw [if_pos c]
    have hc := hE.2.2.2.2.1
    have ha := hc.2.2.1 (Or.inr (Or.inr hs.1))
    have hl := hE.2.2.2.1
    have hst := stp_Cu hW (s := p.1) hc.2.1
    have hlen : (Nn n ++ B).length = n + B.length := by rw [List.length_append, List.length_replicate]
    have hlen' : (Nn (n + 1) ++ B).length = n + 1 + B.length := by rw [List.length_append, List.length_replicate]
    have ht : Nn (n + 1) ++ B = -10 :: (Nn n ++ B) := rfl
    have hc10 : (Nn (n + 1) ++ B).count (-10) = (Nn n ++ B).count (-10) + 1 := by rw [ht]; exact List.count_cons_self
    have hE1 : En bs f (pStep bs (pOn (p.2.2.2.2.1 + 1) p)) (Nn (n + 1) ++ B) := by
      refine ⟨hE.1, ?_, ?_, ?_, hst.1, ?_, hE.2.2.2.2.2.2.1, ?_⟩
      · rw [cnt_N, ← cnt_N (n := n)]; exact hE.2.1
      · rw [hc10, ← hE.2.2.1]; rfl
      · rw [hlen']
        rw [hlen] at hl
        show p.2.2.2.2.2.2.1.length + (n + 1 + B.length) ≤ (stp bs p.1 p.2.2.1).2.1
        omega
      · show p.2.2.2.2.1 + 1 ≤ 8
        omega
      · show 17 ≤ p.2.2.2.2.1 + 1 + p.2.2.2.1 + f
        have := hE.2.2.2.2.2.2.2
        omega
    have h1 := h _ (n + 1) B ts hE1 hB
    generalize hq : pieceF bs key f (pStep bs (pOn (p.2.2.2.2.1 + 1) p)) = q at h1
    have nt : ∀ res, Run bs key (cur (pStep bs (pOn (p.2.2.2.2.1 + 1) p))) (Nn (n + 1) ++ B) (p.2.2.2.2.2.2.1.map enc) p.2.2.2.2.2.2.2 ts ((Nn (n + 1) ++ B).count (-10)) true res → Run bs key (cur p) (Nn n ++ B) (p.2.2.2.2.2.2.1.map enc) p.2.2.2.2.2.2.2 ts ((Nn n ++ B).count (-10)) true res := by
      intro res hr
      have hr' := Run.nt (bs := bs) (key := key) (a := p.2.1) (e := p.2.2.1) (T := Nn n ++ B) (oc := p.2.2.2.2.2.2.1.map enc) (m := p.2.2.2.2.2.2.2) (ts := ts) (no := (Nn n ++ B).count (-10)) (r := res) hs.2 (by rw [← hE.2.2.1]; exact c) (by
        have e : cur (pStep bs (pOn (p.2.2.2.2.1 + 1) p)) = stp bs 3 p.2.2.1 := by rw [← hs.1]; rfl
        rw [e] at hr
        exact hr)
      rw [← hs.1] at hr'
      exact hr'
    refine ⟨fun hz => ?_, fun x hx => ?_⟩
    · obtain ⟨ts', a, b, cc, d, e⟩ := h1.1 hz
      have hql := a.2.2.2.1
      have h96 := a.2.2.2.2.1.1
      rw [hlen'] at hql
      have ec : (pPut (-33) q).2.2.2.2.2.2.1 = q.2.2.2.2.2.2.1 ++ [-33] := by
        show (if q.2.2.2.2.2.2.1.length < 96 then q.2.2.2.2.2.2.1 ++ [-33] else q.2.2.2.2.2.2.1) = _
        rw [if_pos (by omega)]
      have eon : q.2.2.2.2.1 = (Nn n ++ B).count (-10) + 1 := a.2.2.1.trans hc10
      refine ⟨ts', ⟨a.1, ?_, ?_, ?_, a.2.2.2.2.1, ?_, a.2.2.2.2.2.2.1, ?_⟩, b, ?_, ?_, fun res hr => nt res (e res ?_)⟩
      · rw [cnt_N, ← cnt_N (n := n + 1)]; exact a.2.1
      · show q.2.2.2.2.1 - 1 = _
        omega
      · show (pPut (-33) q).2.2.2.2.2.2.1.length + _ ≤ q.2.1
        rw [ec, hlen, List.length_append]
        show q.2.2.2.2.2.2.1.length + 1 + _ ≤ _
        omega
      · show q.2.2.2.2.1 - 1 ≤ 8
        have := a.2.2.2.2.2.1
        omega
      · show 17 ≤ q.2.2.2.2.1 - 1 + q.2.2.2.1 + (f + 1)
        have := a.2.2.2.2.2.2.2
        omega
      · show Gd key _ (pPut (-33) q).2.2.2.2.2.2.1
        rw [ec]; exact Gd.no cc
      · show p.2.1 ≤ q.2.1
        have d : (stp bs p.1 p.2.2.1).2.1 ≤ q.2.1 := d
        omega
      · have hr : Run bs key (cur q) B ((pPut (-33) q).2.2.2.2.2.2.1.map enc ++ Nn n) q.2.2.2.2.2.2.2 ts' (B.count (-10)) false res := hr
        rw [ec, List.map_append, List.append_assoc] at hr
        exact hr
    · have := h1.2 x hx
      exact ⟨this.1, nt _ this.2⟩
  · rw [if_neg c]
    exact fail_run hE (fun x => c x.2.2) (fun x => absurd (hs.2.symm.trans x.2.1) (by decide)) (by rw [hs.1]; exact opd3)
theorem br_run {p : PS} {n : Nat} {B : List Int32} {ts : Nat → Int32} (hW : WB bs) (h : Cl bs key f 1 (orF bs (pieceF bs key f))) (hE : En bs (f + 1) p (Nn n ++ B)) (hB : blk 6 B) (hs : isS bs p 40) : PcG bs key (f + 1) p n B ts (pBr bs (orF bs (pieceF bs key f)) p) := by
  unfold pBr
  by_cases c : p.2.2.2.1 < 8
  · rw [if_pos c]
    have hc := hE.2.2.2.2.1
    have ha := hc.2.2.1 (Or.inr (Or.inr hs.1))
    have hl := hE.2.2.2.1
    have hst := stp_Cu hW (s := p.1) hc.2.1
    have c11 : (-11 :: (Nn n ++ B)).count (-11) = (Nn n ++ B).count (-11) + 1 := List.count_cons_self
    have c10 : (-11 :: (Nn n ++ B)).count (-10) = (Nn n ++ B).count (-10) := List.count_cons_of_ne (by decide)
    have hE1 : En bs f (pStep bs (pOb (p.2.2.2.1 + 1) p)) (-11 :: (Nn n ++ B)) := by
      refine ⟨hE.1, ?_, ?_, ?_, hst.1, hE.2.2.2.2.2.1, ?_, ?_⟩
      · rw [c11, ← hE.2.1]; rfl
      · rw [c10]; exact hE.2.2.1
      · rw [List.length_cons]
        show p.2.2.2.2.2.2.1.length + ((Nn n ++ B).length + 1) ≤ (stp bs p.1 p.2.2.1).2.1
        omega
      · show p.2.2.2.1 + 1 ≤ 8
        omega
      · show 17 ≤ p.2.2.2.2.1 + (p.2.2.2.1 + 1) + f
        have := hE.2.2.2.2.2.2.2
        omega
    have h1 := h _ _ (updT ts ((Nn n ++ B).count (-11) + 1) 0) hE1 (Or.inr ⟨_, _, rfl, Or.inl rfl⟩) (fun _ => by rw [c11]; unfold updT; rw [if_pos rfl])
    generalize hq : orF bs (pieceF bs key f) (pStep bs (pOb (p.2.2.2.1 + 1) p)) = q at h1
    rw [c11, c10] at h1
    have op : ∀ res, Run bs key (cur (pStep bs (pOb (p.2.2.2.1 + 1) p))) (-11 :: (Nn n ++ B)) (p.2.2.2.2.2.2.1.map enc) p.2.2.2.2.2.2.2 (updT ts ((Nn n ++ B).count (-11) + 1) 0) ((Nn n ++ B).count (-10)) true res → Run bs key (cur p) (Nn n ++ B) (p.2.2.2.2.2.2.1.map enc) p.2.2.2.2.2.2.2 ts ((Nn n ++ B).count (-10)) true res := by
      intro res hr
      have hr' := Run.op (bs := bs) (key := key) (a := p.2.1) (e := p.2.2.1) (T := Nn n ++ B) (oc := p.2.2.2.2.2.2.1.map enc) (m := p.2.2.2.2.2.2.2) (ts := ts) (no := (Nn n ++ B).count (-10)) (r := res) hs.2 (by rw [← hE.2.1]; exact c) (by
        have e : cur (pStep bs (pOb (p.2.2.2.1 + 1) p)) = stp bs 3 p.2.2.1 := by rw [← hs.1]; rfl
        rw [e] at hr
        rw [c10]
        exact hr)
      rw [← hs.1] at hr'
      exact hr'
    cases hf : q.2.2.2.2.2.1 with
    | none =>
      obtain ⟨P, oc, ts', ⟨hEq, eoc, hP, hts, hG⟩, hN, hle, hR⟩ := h1.1 hf
      rw [c11] at hts
      have hcn := cnt_P (T := -11 :: (Nn n ++ B)) hP
      rw [c11, c10] at hcn
      unfold pCl
      by_cases c41 : isS bs q 41
      · rw [if_pos c41]
        have hcq := hEq.2.2.2.2.1
        have hstq := stp_Cu hW (s := q.1) hcq.2.1
        have haq := hcq.2.2.1 (Or.inr (Or.inr c41.1))
        have hql := hEq.2.2.2.1
        rw [List.length_cons] at hql
        have eob : q.2.2.2.1 = (Nn n ++ B).count (-11) + 1 := hEq.2.1.trans c11
        refine ⟨fun _ => ⟨ts', ⟨hEq.1, ?_, ?_, ?_, hstq.1, hEq.2.2.2.2.2.1, ?_, ?_⟩, fun m hm => ?_, hG, ?_, fun res hr => op res (hR res ?_)⟩, fun x hx => ?_⟩
        · show q.2.2.2.1 - 1 = _
          omega
        · show q.2.2.2.2.1 = _
          exact hEq.2.2.1.trans c10
        · show q.2.2.2.2.2.2.1.length + (Nn n ++ B).length ≤ (stp bs q.1 q.2.2.1).2.1
          omega
        · show q.2.2.2.1 - 1 ≤ 8
          have := hEq.2.2.2.2.2.2.1
          omega
        · show 17 ≤ q.2.2.2.2.1 + (q.2.2.2.1 - 1) + (f + 1)
          have := hEq.2.2.2.2.2.2.2
          omega
        · have hm' : m < (Nn n ++ B).count (-11) + 1 := by rw [cnt_N]; omega
          rw [hts m (Or.inl hm')]
          unfold updT
          rw [if_neg (by omega)]
        · show p.2.1 ≤ (stp bs q.1 q.2.2.1).2.1
          have hle : (stp bs p.1 p.2.2.1).2.1 ≤ q.2.1 := hle
          omega
        · have e : cur (pOb (q.2.2.2.1 - 1) (pStep bs q)) = stp bs 3 q.2.2.1 := by rw [← c41.1]; rfl
          have hr' := Run.cl (bs := bs) (key := key) (a := q.2.1) (e := q.2.2.1) (T := P ++ (-11 :: (Nn n ++ B))) (oc := oc) (T' := Nn n ++ B) (oc' := oc ++ P) (m := q.2.2.2.2.2.2.2) (ts := ts') (no := (Nn n ++ B).count (-10)) (r := res) c41.2 (by rw [hcn.1]; omega) (stl_app (Or.inr ⟨_, _, rfl, Or.inl rfl⟩) P oc (fun x hx => ⟨(hP x hx).2.1, Nat.zero_le _⟩)) (by
            rw [stl_N hB, eoc]
            have hr : Run bs key (cur (pOb (q.2.2.2.1 - 1) (pStep bs q))) B (q.2.2.2.2.2.2.1.map enc ++ Nn n) q.2.2.2.2.2.2.2 ts' (B.count (-10)) false res := hr
            rw [e] at hr
            exact hr)
          rw [← c41.1] at hr'
          exact hr'
        · exact absurd (hf.symm.trans hx) (by intro h; cases h)
      · rw [if_neg c41]
        refine ⟨fun hz => ?_, fun x hx => ⟨rfl, op _ (hR _ ?_)⟩⟩
        · exact absurd (show some _ = none from hz) (by intro h; cases h)
        · have : q.2.1 = x := by
            have hx : some (q.2.2.2.2.2.1.getD q.2.1) = some x := hx
            rw [hf] at hx
            exact Option.some.inj hx
          rw [← this]
          by_cases c0 : q.1 = 0
          · have hr' := Run.en (bs := bs) (key := key) (a := q.2.1) (e := q.2.2.1) (T := P ++ (-11 :: (Nn n ++ B))) (oc := oc) (m := q.2.2.2.2.2.2.2) (ts := ts') (no := (Nn n ++ B).count (-10))
            rw [if_neg (by rw [hcn.1]; omega), ← c0] at hr'
            exact hr'
          · refine Run.f2 c0 (fun x => c41 ⟨x.1, x.2.1⟩) (fun h3 => ?_)
            rw [hcn.1]
            rcases hN h3 with x | x | x
            · exact Or.inl x
            · have := (rk_le (sgn (bA bs q.2.1))).1
              omega
            · exact Or.inr x
    | some x =>
      have h2 := h1.2 x hf
      have e : pCl bs q = pFail q := by unfold pCl; rw [if_neg (fun y => absurd (h2.1.symm.trans y.1) (by decide))]
      rw [e]
      refine ⟨fun hz => ?_, fun y hy => ⟨rfl, op _ ?_⟩⟩
      · exact absurd (show some _ = none from hz) (by intro h; cases h)
      · have : x = y := by
          have hy : some (q.2.2.2.2.2.1.getD q.2.1) = some y := hy
          rw [hf] at hy
          exact Option.some.inj hy
        rw [← this]; exact h2.2
  · rw [if_neg c]
    exact fail_run hE (fun x => absurd (hs.2.symm.trans x.2.1) (by decide)) (fun x => c x.2.2) (by rw [hs.1]; exact opd3)
theorem piece_run (hW : WB bs) : ∀ f, Pc bs key f
  | 0 => fun p n B ts hE _ => by
    have := hE.2.2.2.2.2
    omega
  | f + 1 => fun p n B ts hE hB => by
    have ih := piece_run hW f
    have hc := hE.2.2.2.2.1
    rw [pieceF]
    by_cases c2 : p.1 = 2
    · rw [if_pos c2]
      unfold pNum
      by_cases c4 : p.2.2.1 - p.2.1 ≤ 4
      · rw [if_pos c4]
        obtain ⟨m, hm, em⟩ := nv_n hW (a := p.2.1) (p.2.2.1 - p.2.1) (fun i h1 h2 => hc.2.2.2 c2 i h1 (by omega))
        have hm4 : m < 10 ^ 4 := Nat.lt_of_lt_of_le hm (Nat.pow_le_pow_right (by decide) c4)
        have hm4 : m < 10000 := hm4
        refine leaf_run hW hE hB (Or.inr (Or.inl c2)) (by unfold opd; rw [if_pos ⟨c2, c4⟩]) (Or.inl ?_) ?_ (Or.inr ?_)
        · rw [em]; exact ⟨nI_nlt (b := 0) (by omega) (by omega), fun h => absurd ((nI_leI (a := 10000) (by omega) (by omega)).mp h) (by omega)⟩
        · rw [em]; intro h; exact nI_nlt (a := m) (b := 0) (by omega) (by omega) (Int32.lt_trans h (by decide))
        · rw [em]; intro h; exact nI_nlt (a := m) (b := 0) (by omega) (by omega) (by rw [h]; decide)
      · rw [if_neg c4]
        refine fail_run hE (fun x => absurd (c2.symm.trans x.1) (by decide)) (fun x => absurd (c2.symm.trans x.1) (by decide)) ?_
        unfold opd
        rw [if_neg (fun x => c4 x.2), if_neg (fun x => absurd (c2.symm.trans x.1) (by decide))]
    rw [if_neg c2]
    by_cases c1 : p.1 = 1
    · rw [if_pos c1]
      unfold pName
      by_cases c4 : p.2.2.1 - p.2.1 = 1 ∧ 0 ≤ nameI key (bA bs p.2.1)
      · rw [if_pos c4]
        have ok := name_ok c4.2
        refine leaf_run hW hE hB (Or.inl c1) (by unfold opd; rw [if_neg (fun x => c2 x.1), if_pos ⟨c1, c4⟩]) ok.1 ok.2.1 ok.2.2
      · rw [if_neg c4]
        refine fail_run hE (fun x => absurd (c1.symm.trans x.1) (by decide)) (fun x => absurd (c1.symm.trans x.1) (by decide)) ?_
        unfold opd
        rw [if_neg (fun x => c2 x.1), if_neg (fun x => c4 x.2)]
    rw [if_neg c1]
    by_cases c33 : isS bs p 33
    · rw [if_pos c33]; exact not_run hW ih hE hB c33
    rw [if_neg c33]
    by_cases c40 : isS bs p 40
    · rw [if_pos c40]; exact br_run hW (Cl_or hW ih.cl) hE hB c40
    rw [if_neg c40]
    refine fail_run hE (fun x => c33 ⟨x.1, x.2.1⟩) (fun x => c40 ⟨x.1, x.2.1⟩) ?_
    unfold opd
    rw [if_neg (fun x => c2 x.1), if_neg (fun x => c1 x.1)]
/-- all of an E, up to the end -/
theorem all_run (hW : WB bs) {p : PS} {ts : Nat → Int32} (hE : En bs 17 p []) (hcd : p.2.2.2.2.2.2.1 = []) (h0 : ts 0 = 0) :
  ((pEnd (orF bs (pieceF bs key 17) p)).2.2.2.2.2.1 = none → Gd key [] (pEnd (orF bs (pieceF bs key 17) p)).2.2.2.2.2.2.1 ∧ (pEnd (orF bs (pieceF bs key 17) p)).2.2.2.2.2.2.1.length ≤ 96 ∧ Run bs key (cur p) [] [] p.2.2.2.2.2.2.2 ts 0 true (none, (pEnd (orF bs (pieceF bs key 17) p)).2.2.2.2.2.2.1.map enc, (pEnd (orF bs (pieceF bs key 17) p)).2.2.2.2.2.2.2))
  ∧ (∀ x, (pEnd (orF bs (pieceF bs key 17) p)).2.2.2.2.2.1 = some x → Run bs key (cur p) [] [] p.2.2.2.2.2.2.2 ts 0 true (some x, [], 0)) := by
  have h1 := Cl_or hW (piece_run (key := key) hW 17).cl p [] ts hE (Or.inl rfl) (fun _ => h0)
  generalize orF bs (pieceF bs key 17) p = q at h1
  rw [hcd] at h1
  cases hf : q.2.2.2.2.2.1 with
  | none =>
    obtain ⟨P, oc, ts', ⟨hEq, eoc, hP, hts, hG⟩, hN, hle, hR⟩ := h1.1 hf
    have hcn := cnt_P (T := []) hP
    unfold pEnd
    by_cases c0 : q.1 = 0
    · rw [if_pos c0]
      refine ⟨fun _ => ⟨hG, ?_, hR _ ?_⟩, fun x hx => absurd (hf.symm.trans hx) (by intro h; cases h)⟩
      · have := hEq.2.2.2.1
        have := hEq.2.2.2.2.1.1
        omega
      · have hr' := Run.en (bs := bs) (key := key) (a := q.2.1) (e := q.2.2.1) (T := P ++ []) (oc := oc) (m := q.2.2.2.2.2.2.2) (ts := ts') (no := 0)
        have hc0 : List.count (-11) (P ++ ([] : List Int32)) = 0 := hcn.1
        rw [if_pos hc0, stl_app (Or.inl rfl) P oc (fun x hx => ⟨(hP x hx).2.1, Nat.zero_le _⟩), eoc, ← c0] at hr'
        exact hr'
    · rw [if_neg c0]
      refine ⟨fun hz => absurd (show some _ = none from hz) (by intro h; cases h), fun x hx => hR _ ?_⟩
      have : q.2.1 = x := by
        have hx : some (q.2.2.2.2.2.1.getD q.2.1) = some x := hx
        rw [hf] at hx
        exact Option.some.inj hx
      rw [← this]
      refine Run.f2 c0 (fun x => ?_) (fun h3 => ?_)
      · have := x.2.2
        rw [hcn.1] at this
        exact absurd this (by decide)
      · rw [hcn.1]
        rcases hN h3 with x | x | x
        · exact Or.inl x
        · have := (rk_le (sgn (bA bs q.2.1))).1
          omega
        · exact Or.inr x
  | some x =>
    have h2 := h1.2 x hf
    have e : pEnd q = pFail q := by unfold pEnd; rw [if_neg (fun y => absurd (h2.1.symm.trans y) (by decide))]
    rw [e]
    refine ⟨fun hz => absurd (show some _ = none from hz) (by intro h; cases h), fun y hy => ?_⟩
    have : x = y := by
      have hy : some (q.2.2.2.2.2.1.getD q.2.1) = some y := hy
      rw [hf] at hy
      exact Option.some.inj hy
    rw [← this]; exact h2.2
end
