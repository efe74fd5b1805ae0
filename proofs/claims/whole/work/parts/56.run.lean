/-! ===== texts: the reading with two stacks, as a run ===== -/
def rk (k : Int32) : Nat := if ¬ k = (-1) then (if ¬ k = (-2) then (if k < (-5) then (if k < (-7) then (if k < (-9) then 6 else 5) else 4) else 3) else 2) else 1
theorem rk_I (k : Int32) : f_M_rank k = nI (rk k) := by
  unfold f_M_rank rk
  by_cases h1 : k = (-1)
  · rw [if_neg (fun x => x h1), if_neg (fun x => x h1)]; rfl
  · rw [if_pos h1, if_pos h1]
    by_cases h2 : k = (-2)
    · rw [if_neg (fun x => x h2), if_neg (fun x => x h2)]; rfl
    · rw [if_pos h2, if_pos h2]
      by_cases h3 : k < (-5)
      · rw [if_pos h3, if_pos h3]
        by_cases h4 : k < (-7)
        · rw [if_pos h4, if_pos h4]
          by_cases h5 : k < (-9)
          · rw [if_pos h5, if_pos h5]; rfl
          · rw [if_neg h5, if_neg h5]; rfl
        · rw [if_neg h4, if_neg h4]; rfl
      · rw [if_neg h3, if_neg h3]; rfl
theorem rk_le (k : Int32) : 1 ≤ rk k ∧ rk k ≤ 6 := by unfold rk; split <;> (try split) <;> (try split) <;> (try split) <;> (try split) <;> omega
def sgn (b : Int32) : Int32 := (if b = 38 then (-2) else (if b = 42 then (-8) else (if b = 43 then (-6) else (if b = 45 then (-7) else (if b = 47 then (-9) else (if b = 60 then (-3) else (if b = 61 then (-4) else (if b = 62 then (-5) else (if b = 124 then (-1) else 0)))))))))
theorem sgn_in {b : Int32} (h : sgn b ≠ 0) : b ∈ [(38 : Int32), 42, 43, 45, 47, 60, 61, 62, 124] := by
  unfold sgn at h
  by_cases h1 : b = 38
  · rw [h1]; decide
  by_cases h2 : b = 42
  · rw [h2]; decide
  by_cases h3 : b = 43
  · rw [h3]; decide
  by_cases h4 : b = 45
  · rw [h4]; decide
  by_cases h5 : b = 47
  · rw [h5]; decide
  by_cases h6 : b = 60
  · rw [h6]; decide
  by_cases h7 : b = 61
  · rw [h7]; decide
  by_cases h8 : b = 62
  · rw [h8]; decide
  by_cases h9 : b = 124
  · rw [h9]; decide
  rw [if_neg h1, if_neg h2, if_neg h3, if_neg h4, if_neg h5, if_neg h6, if_neg h7, if_neg h8, if_neg h9] at h
  exact absurd rfl h
theorem sgn_all : ∀ b ∈ [(38 : Int32), 42, 43, 45, 47, 60, 61, 62, 124], sgn b ≠ 0 ∧ enc (-b) = sgn b ∧ 1 ≤ rk (sgn b) ∧ rk (sgn b) ≤ 5 ∧ sgn b ≠ -10 ∧ sgn b ≠ -11 ∧ -b < -3 ∧ -b ≠ -33 ∧ -b ≠ -3 := by decide +kernel
theorem sgn_okc : ∀ b ∈ [(38 : Int32), 42, 43, 45, 47, 60, 61, 62, 124], okc (-b) := by unfold okc; decide +kernel
theorem ss5 (b : Int32) : b ∈ [(42 : Int32), 47] ↔ sgn b ≠ 0 ∧ rk (sgn b) = 5 := ⟨fun h => (show ∀ b ∈ [(42 : Int32), 47], sgn b ≠ 0 ∧ rk (sgn b) = 5 by decide +kernel) b h, fun h => (show ∀ b ∈ [(38 : Int32), 42, 43, 45, 47, 60, 61, 62, 124], rk (sgn b) = 5 → b ∈ [(42 : Int32), 47] by decide +kernel) b (sgn_in h.1) h.2⟩
theorem ss4 (b : Int32) : b ∈ [(43 : Int32), 45] ↔ sgn b ≠ 0 ∧ rk (sgn b) = 4 := ⟨fun h => (show ∀ b ∈ [(43 : Int32), 45], sgn b ≠ 0 ∧ rk (sgn b) = 4 by decide +kernel) b h, fun h => (show ∀ b ∈ [(38 : Int32), 42, 43, 45, 47, 60, 61, 62, 124], rk (sgn b) = 4 → b ∈ [(43 : Int32), 45] by decide +kernel) b (sgn_in h.1) h.2⟩
theorem ss3 (b : Int32) : b ∈ [(60 : Int32), 61, 62] ↔ sgn b ≠ 0 ∧ rk (sgn b) = 3 := ⟨fun h => (show ∀ b ∈ [(60 : Int32), 61, 62], sgn b ≠ 0 ∧ rk (sgn b) = 3 by decide +kernel) b h, fun h => (show ∀ b ∈ [(38 : Int32), 42, 43, 45, 47, 60, 61, 62, 124], rk (sgn b) = 3 → b ∈ [(60 : Int32), 61, 62] by decide +kernel) b (sgn_in h.1) h.2⟩
theorem ss2 (b : Int32) : b ∈ [(38 : Int32)] ↔ sgn b ≠ 0 ∧ rk (sgn b) = 2 := ⟨fun h => (show ∀ b ∈ [(38 : Int32)], sgn b ≠ 0 ∧ rk (sgn b) = 2 by decide +kernel) b h, fun h => (show ∀ b ∈ [(38 : Int32), 42, 43, 45, 47, 60, 61, 62, 124], rk (sgn b) = 2 → b ∈ [(38 : Int32)] by decide +kernel) b (sgn_in h.1) h.2⟩
theorem ss1 (b : Int32) : b ∈ [(124 : Int32)] ↔ sgn b ≠ 0 ∧ rk (sgn b) = 1 := ⟨fun h => (show ∀ b ∈ [(124 : Int32)], sgn b ≠ 0 ∧ rk (sgn b) = 1 by decide +kernel) b h, fun h => (show ∀ b ∈ [(38 : Int32), 42, 43, 45, 47, 60, 61, 62, 124], rk (sgn b) = 1 → b ∈ [(124 : Int32)] by decide +kernel) b (sgn_in h.1) h.2⟩
/-- what settles of the waiting signs (top first) -/
def stl (k : Nat) : List Int32 → List Int32 → List Int32 × List Int32
  | [], oc => ([], oc)
  | x :: T, oc => if x = -11 ∨ rk x < k then (x :: T, oc) else stl k T (oc ++ [x])
def blk (k : Nat) (T : List Int32) : Prop := T = [] ∨ ∃ x T', T = x :: T' ∧ (x = -11 ∨ rk x < k)
theorem stl_blk {k : Nat} {T oc : List Int32} (h : blk k T) : stl k T oc = (T, oc) := by
  rcases h with rfl | ⟨x, T', rfl, hx⟩
  · rfl
  · rw [stl, if_pos hx]
theorem stl_app {k : Nat} {T : List Int32} (hb : blk k T) : ∀ (P oc : List Int32), (∀ x ∈ P, x ≠ -11 ∧ k ≤ rk x) → stl k (P ++ T) oc = (T, oc ++ P)
  | [], oc, _ => by rw [List.nil_append, List.append_nil]; exact stl_blk hb
  | x :: P, oc, h => by
    have h1 := h x (List.mem_cons_self ..)
    rw [List.cons_append, stl, if_neg (by intro y; rcases y with y | y; exact h1.1 y; omega), stl_app hb P (oc ++ [x]) (fun y hy => h y (List.mem_cons_of_mem _ hy)), List.append_assoc]
    rfl
theorem stl_cnt (k : Nat) : ∀ T oc, (stl k T oc).1.count (-11) = T.count (-11)
  | [], _ => rfl
  | x :: T, oc => by
    rw [stl]
    by_cases h : x = -11 ∨ rk x < k
    · rw [if_pos h]
    · rw [if_neg h, stl_cnt k T, List.count_cons_of_ne (fun y => h (Or.inl y))]
theorem stl_len (k : Nat) : ∀ T oc, (stl k T oc).1.length + (stl k T oc).2.length = T.length + oc.length
  | [], _ => rfl
  | x :: T, oc => by
    rw [stl]
    by_cases h : x = -11 ∨ rk x < k
    · rw [if_pos h]
    · rw [if_neg h, stl_len k T, List.length_append]; simp only [List.length_cons, List.length_nil]; omega
def updT (ts : Nat → Int32) (n : Nat) (v : Int32) : Nat → Int32 := fun j => if j = n then v else ts j
/-- a number or a name as a part -/
def opd (bs : List Int32) (key : Int32) (s : Int32) (a e : Nat) : Option Int32 := if s = 2 ∧ e - a ≤ 4 then some (nv bs a (e - a)) else if s = 1 ∧ e - a = 1 ∧ 0 ≤ nameI key (bA bs a) then some (-1 - nameI key (bA bs a)) else none
/-- all that keeps the steps of the reading with two stacks -/
def Cls (bs : List Int32) (key : Int32) (R : Int32 × Nat × Nat → List Int32 → List Int32 → Nat → (Nat → Int32) → Nat → Bool → Option Nat × List Int32 × Nat → Prop) : Prop :=
  (∀ (a e : Nat) (T oc : List Int32) (m : Nat) (ts : Nat → Int32) (no : Nat) (r : Option Nat × List Int32 × Nat), bA bs a = 33 → no < 8 → R (stp bs 3 e) (-10 :: T) oc m ts ((-10 :: T).count (-10)) true r → R (3, a, e) T oc m ts no true r)
  ∧ (∀ (a e : Nat) (T oc : List Int32) (m : Nat) (ts : Nat → Int32) (no : Nat) (r : Option Nat × List Int32 × Nat), bA bs a = 40 → T.count (-11) < 8 → R (stp bs 3 e) (-11 :: T) oc m (updT ts (T.count (-11) + 1) 0) ((-11 :: T).count (-10)) true r → R (3, a, e) T oc m ts no true r)
  ∧ (∀ (s : Int32) (a e : Nat) (T oc : List Int32) (m : Nat) (ts : Nat → Int32) (no : Nat) (r : Option Nat × List Int32 × Nat) (v : Int32), opd bs key s a e = some v → R (stp bs s e) (stl 6 T (oc ++ [enc v])).1 (stl 6 T (oc ++ [enc v])).2 (m + 1) ts ((stl 6 T (oc ++ [enc v])).1.count (-10)) false r → R (s, a, e) T oc m ts no true r)
  ∧ (∀ (s : Int32) (a e : Nat) (T oc : List Int32) (m : Nat) (ts : Nat → Int32) (no : Nat), ¬ (s = 3 ∧ bA bs a = 33 ∧ no < 8) → ¬ (s = 3 ∧ bA bs a = 40 ∧ T.count (-11) < 8) → opd bs key s a e = none → R (s, a, e) T oc m ts no true (some a, [], 0))
  ∧ (∀ (a e : Nat) (T oc T' oc' : List Int32) (m : Nat) (ts : Nat → Int32) (no : Nat) (r : Option Nat × List Int32 × Nat), bA bs a = 41 → 0 < T.count (-11) → stl 0 T oc = (-11 :: T', oc') → R (stp bs 3 e) (stl 6 T' oc').1 (stl 6 T' oc').2 m ts ((stl 6 T' oc').1.count (-10)) false r → R (3, a, e) T oc m ts no false r)
  ∧ (∀ (a e : Nat) (T oc : List Int32) (m : Nat) (ts : Nat → Int32) (no : Nat) (r : Option Nat × List Int32 × Nat), sgn (bA bs a) ≠ 0 → ¬ (rk (sgn (bA bs a)) = 3 ∧ ts (T.count (-11)) ≠ 0) → R (stp bs 3 e) (sgn (bA bs a) :: (stl (rk (sgn (bA bs a))) T oc).1) (stl (rk (sgn (bA bs a))) T oc).2 m (updT ts (T.count (-11)) (if rk (sgn (bA bs a)) = 3 ∨ (3 < rk (sgn (bA bs a)) ∧ ts (T.count (-11)) ≠ 0) then 1 else 0)) no true r → R (3, a, e) T oc m ts no false r)
  ∧ (∀ (s : Int32) (a e : Nat) (T oc : List Int32) (m : Nat) (ts : Nat → Int32) (no : Nat), s ≠ 0 → ¬ (s = 3 ∧ bA bs a = 41 ∧ 0 < T.count (-11)) → (s = 3 → sgn (bA bs a) = 0 ∨ (rk (sgn (bA bs a)) = 3 ∧ ts (T.count (-11)) ≠ 0)) → R (s, a, e) T oc m ts no false (some a, [], 0))
  ∧ (∀ (a e : Nat) (T oc : List Int32) (m : Nat) (ts : Nat → Int32) (no : Nat), R (0, a, e) T oc m ts no false (if T.count (-11) = 0 then (none, (stl 0 T oc).2, m) else (some a, [], 0)))
def Run (bs : List Int32) (key : Int32) (c : Int32 × Nat × Nat) (T oc : List Int32) (m : Nat) (ts : Nat → Int32) (no : Nat) (w : Bool) (r : Option Nat × List Int32 × Nat) : Prop := ∀ R, Cls bs key R → R c T oc m ts no w r
theorem Run.nt {bs : List Int32} {key : Int32} {a e : Nat} {T oc : List Int32} {m : Nat} {ts : Nat → Int32} {no : Nat} {r : Option Nat × List Int32 × Nat} (h1 : bA bs a = 33) (h2 : no < 8) (h : Run bs key (stp bs 3 e) (-10 :: T) oc m ts ((-10 :: T).count (-10)) true r) : Run bs key (3, a, e) T oc m ts no true r := fun R hR => hR.1 _ _ _ _ _ _ _ _ h1 h2 (h R hR)
theorem Run.op {bs : List Int32} {key : Int32} {a e : Nat} {T oc : List Int32} {m : Nat} {ts : Nat → Int32} {no : Nat} {r : Option Nat × List Int32 × Nat} (h1 : bA bs a = 40) (h2 : T.count (-11) < 8) (h : Run bs key (stp bs 3 e) (-11 :: T) oc m (updT ts (T.count (-11) + 1) 0) ((-11 :: T).count (-10)) true r) : Run bs key (3, a, e) T oc m ts no true r := fun R hR => hR.2.1 _ _ _ _ _ _ _ _ h1 h2 (h R hR)
theorem Run.pt {bs : List Int32} {key : Int32} {s : Int32} {a e : Nat} {T oc : List Int32} {m : Nat} {ts : Nat → Int32} {no : Nat} {r : Option Nat × List Int32 × Nat} (v : Int32) (h1 : opd bs key s a e = some v) (h : Run bs key (stp bs s e) (stl 6 T (oc ++ [enc v])).1 (stl 6 T (oc ++ [enc v])).2 (m + 1) ts ((stl 6 T (oc ++ [enc v])).1.count (-10)) false r) : Run bs key (s, a, e) T oc m ts no true r := fun R hR => hR.2.2.1 _ _ _ _ _ _ _ _ _ _ h1 (h R hR)
theorem Run.f1 {bs : List Int32} {key : Int32} {s : Int32} {a e : Nat} {T oc : List Int32} {m : Nat} {ts : Nat → Int32} {no : Nat} (h1 : ¬ (s = 3 ∧ bA bs a = 33 ∧ no < 8)) (h2 : ¬ (s = 3 ∧ bA bs a = 40 ∧ T.count (-11) < 8)) (h3 : opd bs key s a e = none) : Run bs key (s, a, e) T oc m ts no true (some a, [], 0) := fun R hR => hR.2.2.2.1 _ _ _ _ _ _ _ _ h1 h2 h3
theorem Run.cl {bs : List Int32} {key : Int32} {a e : Nat} {T oc T' oc' : List Int32} {m : Nat} {ts : Nat → Int32} {no : Nat} {r : Option Nat × List Int32 × Nat} (h1 : bA bs a = 41) (h2 : 0 < T.count (-11)) (h3 : stl 0 T oc = (-11 :: T', oc')) (h : Run bs key (stp bs 3 e) (stl 6 T' oc').1 (stl 6 T' oc').2 m ts ((stl 6 T' oc').1.count (-10)) false r) : Run bs key (3, a, e) T oc m ts no false r := fun R hR => hR.2.2.2.2.1 _ _ _ _ _ _ _ _ _ _ h1 h2 h3 (h R hR)
theorem Run.sg {bs : List Int32} {key : Int32} {a e : Nat} {T oc : List Int32} {m : Nat} {ts : Nat → Int32} {no : Nat} {r : Option Nat × List Int32 × Nat} (h1 : sgn (bA bs a) ≠ 0) (h2 : ¬ (rk (sgn (bA bs a)) = 3 ∧ ts (T.count (-11)) ≠ 0)) (h : Run bs key (stp bs 3 e) (sgn (bA bs a) :: (stl (rk (sgn (bA bs a))) T oc).1) (stl (rk (sgn (bA bs a))) T oc).2 m (updT ts (T.count (-11)) (if rk (sgn (bA bs a)) = 3 ∨ (3 < rk (sgn (bA bs a)) ∧ ts (T.count (-11)) ≠ 0) then 1 else 0)) no true r) : Run bs key (3, a, e) T oc m ts no false r := fun R hR => hR.2.2.2.2.2.1 _ _ _ _ _ _ _ _ h1 h2 (h R hR)
theorem Run.f2 {bs : List Int32} {key : Int32} {s : Int32} {a e : Nat} {T oc : List Int32} {m : Nat} {ts : Nat → Int32} {no : Nat} (h0 : s ≠ 0) (h1 : ¬ (s = 3 ∧ bA bs a = 41 ∧ 0 < T.count (-11))) (h2 : s = 3 → sgn (bA bs a) = 0 ∨ (rk (sgn (bA bs a)) = 3 ∧ ts (T.count (-11)) ≠ 0)) : Run bs key (s, a, e) T oc m ts no false (some a, [], 0) := fun R hR => hR.2.2.2.2.2.2.1 _ _ _ _ _ _ _ _ h0 h1 h2
theorem Run.en {bs : List Int32} {key : Int32} {a e : Nat} {T oc : List Int32} {m : Nat} {ts : Nat → Int32} {no : Nat}  : Run bs key (0, a, e) T oc m ts no false (if T.count (-11) = 0 then (none, (stl 0 T oc).2, m) else (some a, [], 0)) := fun R hR => hR.2.2.2.2.2.2.2 _ _ _ _ _ _ _ 
def cur (p : PS) : Int32 × Nat × Nat := (p.1, p.2.1, p.2.2.1)
/-- a place among words and signs -/
def Cu (bs : List Int32) (s : Int32) (a e : Nat) : Prop := a ≤ 96 ∧ e ≤ 96 ∧ (s = 1 ∨ s = 2 ∨ s = 3 → a < e ∧ a < bs.length) ∧ (s = 2 → ∀ i, a ≤ i → i < e → f_Parser_sortOf (bA bs i) = 2)
theorem rn_fig {bs : List Int32} {s : Int32} : ∀ n e i, e ≤ i → i < rn bs s n e → f_Parser_sortOf (bA bs i) = s
  | 0, e, i, h1, h2 => by rw [rn] at h2; omega
  | n + 1, e, i, h1, h2 => by
    rw [rn] at h2
    by_cases h : f_Parser_sortOf (bA bs e) = s
    · rw [if_pos h] at h2
      by_cases h3 : i = e
      · rw [h3]; exact h
      · exact rn_fig n (e + 1) i (by omega) h2
    · rw [if_neg h] at h2; omega
theorem stp_Cu {bs : List Int32} (hW : WB bs) {s : Int32} {e : Nat} (he : e ≤ 96) : Cu bs (stp bs s e).1 (stp bs s e).2.1 (stp bs s e).2.2 ∧ e ≤ (stp bs s e).2.1 := by
  have h := stp_all hW (s := s) he
  refine ⟨⟨h.2.1, h.2.2.1, fun hs => ?_, fun h2 => ?_⟩, h.1⟩
  · rcases h.2.2.2.2 with x | x
    · rw [x] at hs; exact absurd hs (by decide)
    · exact ⟨x.2.1, x.2.2⟩
  · unfold stp stq at h2 ⊢
    by_cases c0 : f_Parser_sortOf (bA bs (skp bs 96 e)) = 0
    · rw [if_pos c0] at h2; exact absurd (show (0 : Int32) = 2 from h2) (by decide)
    · rw [if_neg c0] at h2 ⊢
      by_cases c3 : f_Parser_sortOf (bA bs (skp bs 96 e)) = 3
      · rw [if_pos c3] at h2; exact absurd (show (3 : Int32) = 2 from h2) (by decide)
      · rw [if_neg c3] at h2 ⊢
        dsimp only at h2 ⊢
        by_cases cc : (s = 1 ∨ s = 2) ∧ skp bs 96 e = e
        · rw [if_pos cc] at h2; exact absurd h2 (by decide)
        · rw [if_neg cc] at h2
          intro i h3 h4
          by_cases h5 : i = skp bs 96 e
          · rw [h5]; exact h2
          · rw [← h2]; exact rn_fig 96 _ i (by omega) h4
theorem fig_n : ∀ n, n < 256 → f_Parser_sortOf (nI n) = 2 → 48 ≤ n ∧ n ≤ 57 := by decide +kernel
theorem nv_n {bs : List Int32} (hW : WB bs) {a : Nat} : ∀ k, (∀ i, a ≤ i → i < a + k → f_Parser_sortOf (bA bs i) = 2) → ∃ m, m < 10 ^ k ∧ nv bs a k = nI m
  | 0, _ => ⟨0, by decide, rfl⟩
  | k + 1, h => by
    obtain ⟨m, hm, em⟩ := nv_n hW k (fun i h1 h2 => h i h1 (by omega))
    have hf := h (a + k) (by omega) (by omega)
    have hl : a + k < bs.length := by
      rcases Nat.lt_or_ge (a + k) bs.length with x | x
      · exact x
      · rw [bA_out x] at hf; exact absurd hf (by decide)
    obtain ⟨n, hn, en⟩ := bA_nI hW hl
    rw [en] at hf
    have hb := fig_n n hn hf
    refine ⟨m * 10 + (n - 48), ?_, ?_⟩
    · rw [Nat.pow_succ]; omega
    · rw [nv, em, en]
      show nI m * nI 10 + nI n - nI 48 = _
      rw [pk_mul, nI_add, show m * 10 + n = m * 10 + (n - 48) + 48 by omega, ← nI_add, Int32.add_sub_cancel]
theorem dps_app : ∀ (c d : List Int32) n, dps n (c ++ d) = (dps n c).bind (fun m => dps m d)
  | [], d, n => rfl
  | x :: c, d, n => by
    rw [List.cons_append, dps, dps]
    cases h : dp1 n x with
    | none => rfl
    | some m => exact dps_app c d m
/-- code of one value behind code -/
def Gd (key : Int32) (c c' : List Int32) : Prop := ∃ D, c' = c ++ D ∧ (∀ n, dps n D = some (n + 1)) ∧ ∀ x ∈ D, okc x ∧ (key = 0 ∨ x ≠ -3)
theorem Gd.one {key : Int32} {c : List Int32} {v : Int32} (h : okc v) (h1 : ¬ v < -3) (h3 : key = 0 ∨ v ≠ -3) : Gd key c (c ++ [v]) := by
  refine ⟨[v], rfl, fun n => ?_, fun x hx => ?_⟩
  · rw [dps, dp1, if_neg h1]; rfl
  · rw [List.mem_singleton.mp hx]; exact ⟨h, h3⟩
theorem Gd.two {key : Int32} {c c' c2 : List Int32} {b : Int32} (h1 : Gd key c c') (h2 : Gd key c' c2) (hb : sgn b ≠ 0) : Gd key c (c2 ++ [-b]) := by
  obtain ⟨D, rfl, hD, oD⟩ := h1
  obtain ⟨E, rfl, hE, oE⟩ := h2
  have hs := sgn_all b (sgn_in hb)
  refine ⟨D ++ (E ++ [-b]), by rw [List.append_assoc, List.append_assoc], fun n => ?_, fun x hx => ?_⟩
  · rw [dps_app, hD]
    show dps (n + 1) (E ++ [-b]) = _
    rw [dps_app, hE]
    show dps (n + 1 + 1) [-b] = _
    rw [dps, dp1, if_pos hs.2.2.2.2.2.2.1, if_pos hs.2.2.2.2.2.2.2.1, if_pos (by omega)]
    rfl
  · rcases List.mem_append.mp hx with y | y
    · exact oD x y
    · rcases List.mem_append.mp y with y | y
      · exact oE x y
      · rw [List.mem_singleton.mp y]; exact ⟨sgn_okc b (sgn_in hb), Or.inr hs.2.2.2.2.2.2.2.2⟩
theorem Gd.no {key : Int32} {c c' : List Int32} (h1 : Gd key c c') : Gd key c (c' ++ [-33]) := by
  obtain ⟨D, rfl, hD, oD⟩ := h1
  refine ⟨D ++ [-33], by rw [List.append_assoc], fun n => ?_, fun x hx => ?_⟩
  · rw [dps_app, hD]
    show dps (n + 1) [-33] = _
    rw [dps, dp1, if_pos (by decide), if_neg (by decide), if_pos (by omega)]
    rfl
  · rcases List.mem_append.mp hx with y | y
    · exact oD x y
    · rw [List.mem_singleton.mp y]; exact ⟨by unfold okc; decide, Or.inr (by decide)⟩
def En (bs : List Int32) (f : Nat) (p : PS) (T : List Int32) : Prop := p.2.2.2.2.2.1 = none ∧ p.2.2.2.1 = T.count (-11) ∧ p.2.2.2.2.1 = T.count (-10) ∧ p.2.2.2.2.2.2.1.length + T.length ≤ p.2.1 ∧ Cu bs p.1 p.2.1 p.2.2.1 ∧ p.2.2.2.2.1 ≤ 8 ∧ p.2.2.2.1 ≤ 8 ∧ 17 ≤ p.2.2.2.2.1 + p.2.2.2.1 + f
def okP (r : Nat) (x : Int32) : Prop := r ≤ rk x ∧ x ≠ -11 ∧ x ≠ -10
def tsr (r n : Nat) (ts ts' : Nat → Int32) : Prop := ∀ m, (m < n ∨ (4 ≤ r ∧ m = n)) → (ts' m = 0 ↔ ts m = 0)
def Ex (bs : List Int32) (key : Int32) (f r : Nat) (c0 T : List Int32) (ts : Nat → Int32) (p : PS) (P oc : List Int32) (ts' : Nat → Int32) : Prop := En bs f p T ∧ oc ++ P = p.2.2.2.2.2.2.1.map enc ∧ (∀ x ∈ P, okP r x) ∧ tsr r (T.count (-11)) ts ts' ∧ Gd key c0 p.2.2.2.2.2.2.1
def NX (bs : List Int32) (r : Nat) (p : PS) (ts : Nat → Int32) (n : Nat) : Prop := p.1 = 3 → sgn (bA bs p.2.1) = 0 ∨ rk (sgn (bA bs p.2.1)) < r ∨ (rk (sgn (bA bs p.2.1)) = 3 ∧ ts n ≠ 0)
def Cl (bs : List Int32) (key : Int32) (f r : Nat) (g : PS → PS) : Prop := ∀ p T ts, En bs f p T → blk r T → (r ≤ 3 → ts (T.count (-11)) = 0) →
  ((g p).2.2.2.2.2.1 = none → ∃ P oc ts', Ex bs key f r p.2.2.2.2.2.2.1 T ts (g p) P oc ts' ∧ NX bs r (g p) ts' (T.count (-11)) ∧ p.2.1 ≤ (g p).2.1 ∧ ∀ res, Run bs key (cur (g p)) (P ++ T) oc (g p).2.2.2.2.2.2.2 ts' (T.count (-10)) false res → Run bs key (cur p) T (p.2.2.2.2.2.2.1.map enc) p.2.2.2.2.2.2.2 ts (T.count (-10)) true res)
  ∧ (∀ x, (g p).2.2.2.2.2.1 = some x → (g p).1 = 4 ∧ Run bs key (cur p) T (p.2.2.2.2.2.2.1.map enc) p.2.2.2.2.2.2.2 ts (T.count (-10)) true (some x, [], 0))
