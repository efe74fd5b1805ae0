/-! ===== ears: how many words a set has, counted in two ways ===== -/
theorem nI_and {a b : Nat} (ha : a < 2 ^ 32) (hb : b < 2 ^ 32) : nI a &&& nI b = nI (a &&& b) := by
  apply Int32.toBitVec_inj.mp
  apply BitVec.eq_of_toNat_eq
  rw [Int32.toBitVec_and, BitVec.toNat_and, pk_tn ha, pk_tn hb, pk_tn (Nat.lt_of_le_of_lt Nat.and_le_left ha)]
theorem nI_or {a b : Nat} (ha : a < 2 ^ 32) (hb : b < 2 ^ 32) : nI a ||| nI b = nI (a ||| b) := by
  apply Int32.toBitVec_inj.mp
  apply BitVec.eq_of_toNat_eq
  rw [Int32.toBitVec_or, BitVec.toNat_or, pk_tn ha, pk_tn hb, pk_tn (Nat.or_lt_two_pow ha hb)]
theorem and_split (k A B : Nat) {a b : Nat} (ha : a < 2 ^ k) (hb : b < 2 ^ k) : (2 ^ k * A + a) &&& (2 ^ k * B + b) = 2 ^ k * (A &&& B) + (a &&& b) := by
  apply Nat.eq_of_testBit_eq
  intro i
  have hab : a &&& b < 2 ^ k := Nat.and_lt_two_pow a hb
  rw [Nat.testBit_and, Nat.testBit_two_pow_mul_add A ha, Nat.testBit_two_pow_mul_add B hb, Nat.testBit_two_pow_mul_add (A &&& B) hab]
  split
  · rw [Nat.testBit_and]
  · rw [Nat.testBit_and]
def pcF : Nat → Nat → Nat
  | 0, _ => 0
  | f + 1, n => n % 2 + pcF f (n / 2)
theorem pc_pred : ∀ f n, 0 < n → n < 2 ^ f → pcF f (n &&& (n - 1)) + 1 = pcF f n
  | 0, n, h0, h => absurd h (by rw [Nat.pow_zero]; omega)
  | f + 1, n, h0, h => by
    rw [Nat.pow_succ] at h
    by_cases hb : n % 2 = 1
    · have e : n &&& (n - 1) = 2 * (n / 2) := by
        have h1 := and_split 1 (n / 2) (n / 2) (a := 1) (b := 0) (by decide) (by decide)
        rw [Nat.pow_one, Nat.and_self, show (1 &&& 0 : Nat) = 0 by decide, Nat.add_zero, Nat.add_zero] at h1
        rw [show 2 * (n / 2) + 1 = n by omega] at h1
        rw [show n - 1 = 2 * (n / 2) by omega]
        exact h1
      rw [e, pcF, pcF, hb, show 2 * (n / 2) % 2 = 0 by omega, show 2 * (n / 2) / 2 = n / 2 by omega]
      omega
    · have e : n &&& (n - 1) = 2 * ((n / 2) &&& (n / 2 - 1)) := by
        have h1 := and_split 1 (n / 2) (n / 2 - 1) (a := 0) (b := 1) (by decide) (by decide)
        rw [Nat.pow_one, show (0 &&& 1 : Nat) = 0 by decide, Nat.add_zero, Nat.add_zero] at h1
        rw [show 2 * (n / 2 - 1) + 1 = n - 1 by omega, show 2 * (n / 2) = n by omega] at h1
        exact h1
      have ih := pc_pred f (n / 2) (by omega) (by omega)
      rw [e, pcF, pcF]
      generalize (n / 2) &&& (n / 2 - 1) = m at ih ⊢
      rw [show 2 * m % 2 = 0 by omega, show 2 * m / 2 = m by omega]
      omega
theorem pc_zero : ∀ f, pcF f 0 = 0
  | 0 => rfl
  | f + 1 => by rw [pcF]; show 0 + pcF f 0 = 0; rw [pc_zero f]
theorem pc_le : ∀ f n, pcF f n ≤ f
  | 0, _ => Nat.le_refl _
  | f + 1, n => by rw [pcF]; have := pc_le f (n / 2); omega
theorem mmanyOf_c {L d n : Nat} {hi : pm_B} {Q : pm_Q} (hn : n < 2 ^ 20) (h : Q (some (.inl (nI (pcF 20 n)))) hi) : pm_C pm_g (SH L) HR (d + 1) m_M_manyOf [.inl (nI n)] hi Q := by
  refine v_M_manyOf ?_
  have key : ∀ c m k, pcF 20 m = c → m < 2 ^ 20 → k + pcF 20 m = pcF 20 n → pm_W pm_g (SH L) HR d pm_t192 4 [some (.inl (nI n)), some (.inl (nI k)), some (.inl (nI m))] [] hi Q := by
    intro c
    induction c with
    | zero =>
      intro m k hc hm hk
      by_cases h0 : m = 0
      · subst h0
        rw [pc_zero, Nat.add_zero] at hk
        rw [← hk] at h
        exact v_M_manyOf_4 ⟨fun _ => h, fun c => absurd rfl c⟩
      · have := pc_pred 20 m (by omega) hm
        omega
    | succ c ih =>
      intro m k hc hm hk
      have h0 : 0 < m := Nat.pos_of_ne_zero (fun e => by subst e; rw [pc_zero] at hc; omega)
      have hp := pc_pred 20 m h0 hm
      refine v_M_manyOf_4 ⟨fun c => absurd c (nI_ne0 h0 (by omega)), fun _ => ?_⟩
      rw [show nI m - 1 = nI (m - 1) from nI_sub (b := 1) h0, nI_and (by omega) (by omega), nI_1]
      exact ih (m &&& (m - 1)) (k + 1) (by omega) (Nat.lt_of_le_of_lt Nat.and_le_left hm) (by omega)
  exact key _ n 0 rfl hn (by omega)
def p4 (x : Nat) : Nat := x % 2 + x / 2 % 2 + x / 4 % 2 + x / 8 % 2
theorem pc4 (f : Nat) {x y : Nat} (hx : x < 16) : pcF (f + 4) (x + 16 * y) = p4 x + pcF f y := by
  rw [pcF, pcF, pcF, pcF, Nat.div_div_eq_div_mul, Nat.div_div_eq_div_mul, Nat.div_div_eq_div_mul]
  simp only [Nat.reduceMul]
  rw [show (x + 16 * y) / 16 = y by omega, show (x + 16 * y) % 2 = x % 2 by omega, show (x + 16 * y) / 2 % 2 = x / 2 % 2 by omega, show (x + 16 * y) / 4 % 2 = x / 4 % 2 by omega, show (x + 16 * y) / 8 % 2 = x / 8 % 2 by omega]
  unfold p4
  omega
/-- a row of nibbles against a mask of nibbles -/
theorem and5 (m : Nat) {a b c d e M : Nat} (hm : m < 16) (ha : a < 16) (hb : b < 16) (hc : c < 16) (hd : d < 16) (he : e < 16) (hM : M = m + 16 * (m + 16 * (m + 16 * (m + 16 * (m + 16 * (m + 16 * (m + 16 * m))))))) : (a + 16 * (b + 16 * (c + 16 * (d + 16 * e)))) &&& M = (a &&& m) + 16 * ((b &&& m) + 16 * ((c &&& m) + 16 * ((d &&& m) + 16 * (e &&& m)))) := by
  have s := fun (A B : Nat) {a b : Nat} (ha : a < 16) (hb : b < 16) => and_split 4 A B (a := a) (b := b) ha hb
  subst hM
  have e1 := s (b + 16 * (c + 16 * (d + 16 * e))) (m + 16 * (m + 16 * (m + 16 * (m + 16 * (m + 16 * (m + 16 * m)))))) ha hm
  have e2 := s (c + 16 * (d + 16 * e)) (m + 16 * (m + 16 * (m + 16 * (m + 16 * (m + 16 * m))))) hb hm
  have e3 := s (d + 16 * e) (m + 16 * (m + 16 * (m + 16 * (m + 16 * m)))) hc hm
  have e4 := s e (m + 16 * (m + 16 * (m + 16 * m))) hd hm
  have e5 := s 0 (m + 16 * (m + 16 * m)) he hm
  rw [Nat.zero_and] at e5
  have r : ∀ x y : Nat, 2 ^ 4 * x + y = y + 16 * x := fun x y => by omega
  simp only [r] at e1 e2 e3 e4 e5
  simp only [Nat.mul_zero, Nat.add_zero] at e5
  rw [e1, e2, e3, e4, e5]
def n5 (a b c d e : Nat) : Nat := a + 16 * (b + 16 * (c + 16 * (d + 16 * e)))
def h1 (x : Nat) : Nat := (x / 2) &&& 5
theorem t1 : ∀ x, x < 16 → ∀ y, y < 2 → ((x / 2 + 8 * y) &&& 5) = h1 x ∧ h1 x ≤ x := by decide +kernel
theorem t2 : ∀ x, x < 16 → ∀ y, y < 4 → ((((x - h1 x) / 4 + 4 * y) &&& 3) = (x - h1 x) / 4) ∧ ((x - h1 x) &&& 3) + (x - h1 x) / 4 = p4 x ∧ p4 x ≤ 4 := by decide +kernel
theorem i1_eq {a b c d e : Nat} (ha : a < 16) (hb : b < 16) (hc : c < 16) (hd : d < 16) (he : e < 16) : n5 a b c d e / 2 ^ 1 &&& 1431655765 = n5 (h1 a) (h1 b) (h1 c) (h1 d) (h1 e) := by
  rw [show n5 a b c d e / 2 ^ 1 = (a / 2 + 8 * (b % 2)) + 16 * ((b / 2 + 8 * (c % 2)) + 16 * ((c / 2 + 8 * (d % 2)) + 16 * ((d / 2 + 8 * (e % 2)) + 16 * (e / 2 + 8 * 0)))) by unfold n5; omega]
  rw [and5 5 (by omega) (by omega) (by omega) (by omega) (by omega) (by omega) rfl, (t1 a ha _ (by omega)).1, (t1 b hb _ (by omega)).1, (t1 c hc _ (by omega)).1, (t1 d hd _ (by omega)).1, (t1 e he 0 (by omega)).1]
  rfl
theorem k1_eq {a b c d e : Nat} (ha : a < 16) (hb : b < 16) (hc : c < 16) (hd : d < 16) (he : e < 16) : n5 a b c d e &&& 858993459 = n5 (a &&& 3) (b &&& 3) (c &&& 3) (d &&& 3) (e &&& 3) := by unfold n5; exact and5 3 (by omega) ha hb hc hd he rfl
theorem k2_eq {a b c d e : Nat} (ha : a < 16) (hb : b < 16) (hc : c < 16) (hd : d < 16) (he : e < 16) (qa : ∀ y, y < 4 → ((a / 4 + 4 * y) &&& 3) = a / 4) (qb : ∀ y, y < 4 → ((b / 4 + 4 * y) &&& 3) = b / 4) (qc : ∀ y, y < 4 → ((c / 4 + 4 * y) &&& 3) = c / 4) (qd : ∀ y, y < 4 → ((d / 4 + 4 * y) &&& 3) = d / 4) (qe : ∀ y, y < 4 → ((e / 4 + 4 * y) &&& 3) = e / 4) : n5 a b c d e / 2 ^ 2 &&& 858993459 = n5 (a / 4) (b / 4) (c / 4) (d / 4) (e / 4) := by
  rw [show n5 a b c d e / 2 ^ 2 = (a / 4 + 4 * (b % 4)) + 16 * ((b / 4 + 4 * (c % 4)) + 16 * ((c / 4 + 4 * (d % 4)) + 16 * ((d / 4 + 4 * (e % 4)) + 16 * (e / 4 + 4 * 0)))) by unfold n5; omega]
  rw [and5 3 (by omega) (by omega) (by omega) (by omega) (by omega) (by omega) rfl, qa _ (by omega), qb _ (by omega), qc _ (by omega), qd _ (by omega), qe 0 (by omega)]
  rfl
theorem t3 : ∀ x, x < 16 → (x &&& 15) = x ∧ (x &&& 0) = 0 := by decide +kernel
theorem k3_eq {pa pb pc pd pe : Nat} (ha : pa ≤ 4) (hb : pb ≤ 4) (hc : pc ≤ 4) (hd : pd ≤ 4) (he : pe ≤ 4) : n5 (pa + pb) (pb + pc) (pc + pd) (pd + pe) pe &&& 252645135 = (pa + pb) + 256 * ((pc + pd) + 256 * pe) := by
  unfold n5
  have s := fun (A B : Nat) {a b : Nat} (ha : a < 16) (hb : b < 16) => and_split 4 A B (a := a) (b := b) ha hb
  have e1 := s ((pb + pc) + 16 * ((pc + pd) + 16 * ((pd + pe) + 16 * pe))) 15790320 (a := pa + pb) (b := 15) (by omega) (by omega)
  have e2 := s ((pc + pd) + 16 * ((pd + pe) + 16 * pe)) 986895 (a := pb + pc) (b := 0) (by omega) (by omega)
  have e3 := s ((pd + pe) + 16 * pe) 61680 (a := pc + pd) (b := 15) (by omega) (by omega)
  have e4 := s pe 3855 (a := pd + pe) (b := 0) (by omega) (by omega)
  have e5 := s 0 240 (a := pe) (b := 15) (by omega) (by omega)
  rw [(t3 _ (by omega)).1] at e1
  rw [(t3 _ (by omega)).2] at e2
  rw [(t3 _ (by omega)).1] at e3
  rw [(t3 _ (by omega)).2] at e4
  rw [(t3 _ (by omega)).1, Nat.zero_and] at e5
  have r : ∀ x y : Nat, 2 ^ 4 * x + y = y + 16 * x := fun x y => by omega
  rw [r, r, r] at e1
  rw [r, r, r] at e2
  rw [r, r, r] at e3
  rw [r, r, r] at e4
  rw [r, r] at e5
  have f5 : pe &&& 3855 = pe := e5
  rw [f5] at e4
  have f4 : (pd + pe + 16 * pe) &&& 61680 = 0 + 16 * pe := e4
  rw [f4] at e3
  have f3 : (pc + pd + 16 * (pd + pe + 16 * pe)) &&& 986895 = pc + pd + 16 * (0 + 16 * pe) := e3
  rw [f3] at e2
  have f2 : (pb + pc + 16 * (pc + pd + 16 * (pd + pe + 16 * pe))) &&& 15790320 = 0 + 16 * (pc + pd + 16 * (0 + 16 * pe)) := e2
  rw [f2] at e1
  have f1 : (pa + pb + 16 * (pb + pc + 16 * (pc + pd + 16 * (pd + pe + 16 * pe)))) &&& 252645135 = pa + pb + 16 * (0 + 16 * (pc + pd + 16 * (0 + 16 * pe))) := e1
  rw [f1]
  omega
theorem pc_n5 {a b c d e : Nat} (ha : a < 16) (hb : b < 16) (hc : c < 16) (hd : d < 16) (he : e < 16) : pcF 20 (n5 a b c d e) = p4 a + (p4 b + (p4 c + (p4 d + p4 e))) := by
  unfold n5
  have e0 : pcF 4 e = p4 e + pcF 0 0 := pc4 0 (x := e) (y := 0) he
  rw [pc4 16 ha, pc4 12 hb, pc4 8 hc, pc4 4 hd, e0]
  rfl
theorem bc_sum {pa pb pc pd pe : Nat} (ha : pa ≤ 4) (hb : pb ≤ 4) (hc : pc ≤ 4) (hd : pd ≤ 4) (he : pe ≤ 4) : n5 pa pb pc pd pe + n5 pa pb pc pd pe / 2 ^ 4 = n5 (pa + pb) (pb + pc) (pc + pd) (pd + pe) pe ∧ ((pa + pb) + 256 * ((pc + pd) + 256 * pe)) + ((pa + pb) + 256 * ((pc + pd) + 256 * pe)) / 2 ^ 8 = (pa + pb + pc + pd) + 256 * ((pc + pd + pe) + 256 * pe) ∧ ((pa + pb + pc + pd) + 256 * ((pc + pd + pe) + 256 * pe)) + ((pa + pb + pc + pd) + 256 * ((pc + pd + pe) + 256 * pe)) / 2 ^ 16 = (pa + pb + pc + pd + pe) + 256 * ((pc + pd + pe) + 256 * pe) := by
  refine ⟨by unfold n5; omega, by omega, by omega⟩
theorem bc_n5 {a b c d e a1 b1 c1 d1 e1 pa pb pc pd pe : Nat} (ha : a < 16) (hb : b < 16) (hc : c < 16) (hd : d < 16) (he : e < 16) (i1 : n5 a b c d e / 2 ^ 1 &&& 1431655765 ≤ n5 a b c d e) (j1 : n5 a b c d e - (n5 a b c d e / 2 ^ 1 &&& 1431655765) = n5 a1 b1 c1 d1 e1) (l1 : n5 a1 b1 c1 d1 e1 < 1048576) (j2 : (n5 a1 b1 c1 d1 e1 &&& 858993459) + (n5 a1 b1 c1 d1 e1 / 2 ^ 2 &&& 858993459) = n5 pa pb pc pd pe) (ka : pa ≤ 4) (kb : pb ≤ 4) (kc : pc ≤ 4) (kd : pd ≤ 4) (ke : pe ≤ 4) : f_Integer_bitCount (nI (n5 a b c d e)) = nI (pa + pb + pc + pd + pe) := by
  obtain ⟨s1, s2, s3⟩ := bc_sum ka kb kc kd ke
  have k3 := k3_eq ka kb kc kd ke
  have l0 : n5 a b c d e < 1048576 := by unfold n5; omega
  have l2 : n5 pa pb pc pd pe < 1048576 := by unfold n5; omega
  have l3 : n5 (pa + pb) (pb + pc) (pc + pd) (pd + pe) pe < 1048576 := by unfold n5; omega
  generalize n5 a b c d e = n at i1 j1 l0 ⊢
  generalize n5 a1 b1 c1 d1 e1 = m at j1 l1 j2
  generalize n5 (pa + pb) (pb + pc) (pc + pd) (pd + pe) pe = u at s1 k3 l3
  generalize n5 pa pb pc pd pe = t at s1 j2 l2
  unfold f_Integer_bitCount
  rw [show (1431655765 : Int32) = nI 1431655765 from rfl, show (858993459 : Int32) = nI 858993459 from rfl, show (252645135 : Int32) = nI 252645135 from rfl]
  rw [pk_ushrN (by omega) 1 1 (by decide), nI_and (by omega) (by omega), nI_sub i1, j1]
  rw [pk_ushrN (by omega) 2 2 (by decide), nI_and (by omega) (by omega), nI_and (by omega) (by omega), nI_add, j2]
  rw [pk_ushrN (by omega) 4 4 (by decide), nI_add, s1, nI_and (by omega) (by omega), k3]
  rw [pk_ushrN (by omega) 8 8 (by decide), nI_add, s2]
  rw [pk_ushrN (by omega) 16 16 (by decide), nI_add, s3]
  rw [pk_andN (by omega) (m := 63) 6 (by decide)]
  congr 1
  omega
theorem bc_eq {n : Nat} (hn : n < 2 ^ 20) : f_Integer_bitCount (nI n) = nI (pcF 20 n) := by
  obtain ⟨a, b, c, d, e, ha, hb, hc, hd, he, hn'⟩ : ∃ a b c d e, a < 16 ∧ b < 16 ∧ c < 16 ∧ d < 16 ∧ e < 16 ∧ n = n5 a b c d e := ⟨n % 16, n / 16 % 16, n / 256 % 16, n / 4096 % 16, n / 65536, by omega, by omega, by omega, by omega, by omega, by unfold n5; omega⟩
  rw [hn', pc_n5 ha hb hc hd he]
  clear hn' hn
  have la := (t1 a ha 0 (by omega)).2
  have lb := (t1 b hb 0 (by omega)).2
  have lc := (t1 c hc 0 (by omega)).2
  have ld := (t1 d hd 0 (by omega)).2
  have le := (t1 e he 0 (by omega)).2
  have i1 := i1_eq ha hb hc hd he
  have ra := (t2 a ha 0 (by omega)).2
  have rb := (t2 b hb 0 (by omega)).2
  have rc := (t2 c hc 0 (by omega)).2
  have rd := (t2 d hd 0 (by omega)).2
  have re := (t2 e he 0 (by omega)).2
  have x1 := k1_eq (a := a - h1 a) (b := b - h1 b) (c := c - h1 c) (d := d - h1 d) (e := e - h1 e) (by omega) (by omega) (by omega) (by omega) (by omega)
  have x2 := k2_eq (a := a - h1 a) (b := b - h1 b) (c := c - h1 c) (d := d - h1 d) (e := e - h1 e) (by omega) (by omega) (by omega) (by omega) (by omega) (fun y hy => (t2 a ha y hy).1) (fun y hy => (t2 b hb y hy).1) (fun y hy => (t2 c hc y hy).1) (fun y hy => (t2 d hd y hy).1) (fun y hy => (t2 e he y hy).1)
  have := bc_n5 (a1 := a - h1 a) (b1 := b - h1 b) (c1 := c - h1 c) (d1 := d - h1 d) (e1 := e - h1 e) (pa := p4 a) (pb := p4 b) (pc := p4 c) (pd := p4 d) (pe := p4 e) ha hb hc hd he (by rw [i1]; unfold n5; omega) (by rw [i1]; unfold n5; omega) (by unfold n5; omega) (by rw [x1, x2]; unfold n5; omega) ra.2 rb.2 rc.2 rd.2 re.2
  rw [this]
  congr 1
  omega
theorem set_lt {ws : List Int32} (h : ∀ w ∈ ws, isw w) : ∃ n, n < 2 ^ 20 ∧ setOf ws = nI n := by
  have one : ∀ j, j < 20 → (1 : Int32) <<< (nI j &&& 31) = nI (2 ^ j) ∧ 2 ^ j < 2 ^ 20 := by decide +kernel
  have key : ∀ (ws : List Int32) (n : Nat), (∀ w ∈ ws, isw w) → n < 2 ^ 20 → ∃ m, m < 2 ^ 20 ∧ ws.foldl (fun (a w : Int32) => a ||| ((1 : Int32) <<< (w &&& 31))) (nI n) = nI m := by
    intro ws
    induction ws with
    | nil => intro n _ hn; exact ⟨n, hn, rfl⟩
    | cons w r ih =>
      intro n hw hn
      obtain ⟨j, hj, e⟩ := isw_nI (hw w (by simp))
      obtain ⟨o1, o2⟩ := one j hj
      rw [List.foldl_cons, e, o1, nI_or (by omega) (by omega)]
      exact ih _ (fun x hx => hw x (by simp [hx])) (Nat.or_lt_two_pow hn o2)
  exact key ws 0 h (by omega)
/-! ears -/
def eared (f : AF) (i ear : Nat) : AF := spu f i ((spa f i).1, nI ear, (spa f i).2.2)
theorem WA.eared {f : AF} {i ear : Nat} (h : WA f) (hi8 : i < f.1.length) (h1 : 1 ≤ ear) (h9 : ear ≤ 9) : WA (eared f i ear) := by
  have wp := h.at hi8
  exact h.spu ⟨wp.1, ⟨ear, rfl, h1, h9⟩, wp.2.2⟩
def setN (f : AF) (i : Nat) : Nat := (setOf (spa f i).2.2.2.2).toNatClampNeg
theorem setN_eq {f : AF} {i : Nat} (h : WA f) (hi8 : i < f.1.length) : setOf (spa f i).2.2.2.2 = nI (setN f i) ∧ setN f i < 2 ^ 20 := by
  obtain ⟨n, hn, e⟩ := set_lt (h.at hi8).2.2.2
  unfold setN
  rw [e, nI_clamp (by omega)]
  exact ⟨rfl, hn⟩
/-- the most, and by which ear: the first of the most -/
def earN (v : Nat → Nat) : Nat → Nat × Nat
  | 0 => (1, v 1)
  | k + 1 => if v (k + 2) ≤ (earN v k).2 then earN v k else (k + 2, v (k + 2))
theorem earN_le {v : Nat → Nat} (hv : ∀ k, v k ≤ 20) : ∀ k, (earN v k).1 ≤ k + 1 ∧ (earN v k).2 ≤ 20
  | 0 => ⟨Nat.le_refl _, hv 1⟩
  | k + 1 => by
    have := earN_le hv k
    unfold earN
    split
    · omega
    · exact ⟨Nat.le_refl _, hv _⟩
def earV (f : AF) (i n : Nat) (ear : Nat) : Nat := pcF 20 (setN (adays n (eared f i ear)) i)
def o_ears (s : St) (a n w : Int32) : St × Int32 := match ixo a s.1.1.length with
  | none => (s, -1000000001)
  | some i => match ixd n 60 with
    | none => (s, -1000000001)
    | some k => match ixo w 2 with
      | none => (s, -1000000001)
      | some _ => (s, if w = 0 then nI (earN (earV s.1 i k) 8).1 else nI (earN (earV s.1 i k) 8).2)
theorem CF.ear {hi : pm_B} {F i : Nat} {f : AF} (h : CF hi F f) (h8 : f.1.length ≤ 8) (hi8 : i < f.1.length) (ear : Nat) : CF (pm_u hi (F + 2 + 2 * i) 1 (nI ear)) F (eared f i ear) :=
  h.sp h8 hi8 ((h.at hi8).u1 (nI ear)) (fun q j a b c d => pm_u_ne (Or.inl c))
theorem unlike_c {L d n i ear : Nat} {s : St} {hi : pm_B} {Q : pm_Q} (hW : WI s) (hC : CI hi s) (hi8 : i < s.1.1.length) (hn : n ≤ 100) (h1 : 1 ≤ ear) (h9 : ear ≤ 9) (h : ∀ hi', Fr PG hi hi' → Q (some (.inl (nI (earV s.1 i n ear)))) hi') : pm_C pm_g (SH L) HR (d + 9) m_E_unlikeWithEar [.inr 16, .inl (nI i), .inl (nI ear), .inl (nI n)] hi Q := by
  have h8 := hW.1.1
  refine v_E_unlikeWithEar (d := d + 7) ?_
  refine become_c (d := d + 6) fo88 fo50 (by omega) hW.1.wf hC.1 (fun hi0 f0 c0 => ⟨rfl, i, by omega, rfl, ?_⟩)
  have c1 := c0.ear h8 hi8 ear
  have g1 : Fr PG hi (pm_u hi0 (88 + 2 + 2 * i) 1 (nI ear)) := (beco f0).tr (Fr.u (by unfold PG; omega))
  have we := hW.1.eared hi8 h1 h9
  have hl : (eared s.1 i ear).1.length = s.1.1.length := List.length_set
  have hX : CX hi (txo (eared s.1 i ear)) := hC.2.2.1
  unfold earV at h
  generalize pm_u hi0 (88 + 2 + 2 * i) 1 (nI ear) = hi1 at c1 g1 ⊢
  generalize eared s.1 i ear = f at c1 we hl hX h
  have key : ∀ m k hi', k + m = n → Fr PG hi hi' → CF hi' 88 (adays k f) → pm_W pm_g (SH L) HR (d + 7 + 1) pm_t133 27 [some (.inr 16), some (.inl (nI i)), some (.inl (nI ear)), some (.inl (nI n)), some (.inl (nI k))] [] hi' Q := by
    intro m
    induction m with
    | zero =>
      intro k hi' hk hf hc
      rw [Nat.add_zero] at hk
      subst hk
      obtain ⟨wa, wt, wl⟩ := days_all (n := k) we
      refine v_E_unlikeWithEar_27 (d := d + 7) ⟨fun _ => ⟨i, by omega, rfl, ?_⟩, fun c => absurd (nI_le (Nat.le_refl _) (by omega)) c⟩
      have ci := hc.at (i := i) (by omega)
      have wi := (wa.at (i := i) (by omega)).2.2.1
      obtain ⟨e1, e2⟩ := setN_eq (i := i) wa (by omega)
      refine wordSet_c (d := d + 7) (sk_of fo88 (by omega)) ci.2.2.2.2.1 ci.2.2.2.2.2 (by omega) ⟨_, rfl, ?_⟩
      rw [e1, bc_eq e2]
      exact h hi' hf
    | succ m ih =>
      intro k hi' hk hf hc
      refine v_E_unlikeWithEar_27 (d := d + 7) ⟨fun c => absurd c (nI_ge (by omega) (by omega)), fun _ => ?_⟩
      refine trialDay_c (d := d + 1) we hX hf hc (fun hi2 f2 c2 => ⟨rfl, ?_⟩)
      rw [nI_1]
      exact ih (k + 1) hi2 (by omega) f2 c2
  exact key n 0 hi1 (by omega) g1 c1
theorem E_ears {L d : Nat} {s : St} {a n w : Int32} {hi : pm_B} {Q : pm_Q} (hW : WI s) (hC : CI hi s) (h : EP hi (o_ears s a n w) Q) : pm_C pm_g (SH L) HR (d + 20) m_E_ears [.inr 16, .inl a, .inl n, .inl w] hi Q := by
  have h8 := hW.1.1
  unfold o_ears at h
  refine v_E_ears (d := d + 18) (gE hC.1.n hW.1.1 (fun x => ?_) (fun i hi8 hx x => gD 60 rfl (by omega) (fun y => ?_) (fun n hn1 hn2 hy y => ?_)))
  · rw [x] at h; exact h.same hC
  · rw [x] at h; dsimp only at h; rw [y] at h; exact h.same hC
  · rw [x] at h; dsimp only at h; rw [y] at h; dsimp only at h
    subst hy hx
    have hv : ∀ k, earV s.1 i n k ≤ 20 := fun k => pc_le _ _
    have go : (∃ j, ixo w 2 = some j) → pm_W pm_g (SH L) HR (d + 18 + 1) pm_t96 40 [some (.inr 16), some (.inl (nI i)), some (.inl (nI n)), some (.inl w), some (.inl 1), some (.inl (-1)), some (.inl 1), none] [] hi Q := by
      intro hw
      obtain ⟨_, z⟩ := hw
      rw [z] at h; dsimp only at h
      have key : ∀ m k hi' o, k + m = 8 → Fr PG hi hi' → pm_W pm_g (SH L) HR (d + 18 + 1) pm_t96 40 [some (.inr 16), some (.inl (nI i)), some (.inl (nI n)), some (.inl w), some (.inl (nI (earN (earV s.1 i n) k).1)), some (.inl (nI (earN (earV s.1 i n) k).2)), some (.inl (nI (k + 2))), o] [] hi' Q := by
        intro m
        induction m with
        | zero =>
          intro k hi' o hk hf
          rw [Nat.add_zero] at hk
          subst hk
          refine v_E_ears_40 (d := d + 18) ⟨fun _ => ⟨fun c => ?_, fun c => ?_⟩, fun c => absurd (nI_lt (a := 9) (b := 10) (by omega) (by omega)) c⟩
          · rw [if_neg c] at h; exact h.sameF hC hW hf
          · rw [if_pos (Decidable.not_not.mp c)] at h; exact h.sameF hC hW hf
        | succ m ih =>
          intro k hi' o hk hf
          have hC' : CI hi' s := hC.same hW (fun q j _ hn => hf q j hn)
          have hle := (earN_le hv k).2
          have hvk := hv (k + 2)
          refine v_E_ears_40 (d := d + 18) ⟨fun c => absurd c (nI_nlt (a := 9) (by omega) (by omega)), fun _ => ?_⟩
          refine unlike_c (d := d + 10) hW hC' hi8 (by omega) (by omega) (by omega) (fun hi2 f2 => ⟨_, rfl, ?_⟩)
          have nx := fun o => ih (k + 1) hi2 o (by omega) (hf.tr f2)
          rw [nI_1]
          rw [earN] at nx
          refine ⟨fun c => ?_, fun c => ?_⟩
          · rw [if_pos ((nI_leI (by omega) (by omega)).mp c)] at nx; exact nx _
          · rw [if_neg (fun hh => c (nI_le hh (by omega)))] at nx; exact nx _
      have hvk := hv 1
      refine v_E_ears_40 (d := d + 18) ⟨fun c => absurd c (by decide), fun _ => ?_⟩
      refine unlike_c (ear := 1) (d := d + 10) hW hC hi8 (by omega) (by omega) (by omega) (fun hi2 f2 => ⟨_, rfl, fun c => ?_, fun _ => ?_⟩)
      · exact absurd (Int32.lt_of_lt_of_le (by decide) (nI_pos' (n := earV s.1 i n 1) (by omega))) (Int32.not_lt.mpr c)
      · exact key 8 0 hi2 _ rfl f2
    refine g01 (fun z => ?_) (fun hw z => go ⟨_, z⟩) (fun hw z => go ⟨_, z⟩)
    rw [z] at h; exact h.same hC
theorem M_ears {L d : Nat} {s : St} {a n w : Int32} {hi : pm_B} {Q : pm_Q} (hW : WI s) (hM : MI hi s) (h : MP hi (o_ears s a n w) Q) : pm_C pm_g (SH L) HR (d + 20) m_M_ears [.inr 141, .inl a, .inl n, .inl w] hi Q := by
  have h8 := hW.1.1
  unfold o_ears at h
  refine v_M_ears (d := d + 17) (gM hM.1.n (by omega) (fun x => ?_) (fun i hi8 hx x => gD 60 rfl (by omega) (fun y => ?_) (fun n hn1 hn2 hy y => gT 1 rfl (by omega) (fun z => ?_) (fun iw hi2 hz z => ?_))))
  · rw [x] at h; exact h.same hM
  · rw [x] at h; dsimp only at h; rw [y] at h; exact h.same hM
  · rw [x] at h; dsimp only at h; rw [y] at h; dsimp only at h; rw [z] at h; exact h.same hM
  · rw [x] at h; dsimp only at h; rw [y] at h; dsimp only at h; rw [z] at h; dsimp only at h
    subst hy hx
    have hv : ∀ k, earV s.1 i n k ≤ 20 := fun k => pc_le _ _
    refine mthinks_c (d := d + 18) (fun hi5 f5 e5 => ⟨rfl, ?_⟩)
    have one : ∀ (ear : Nat) (hi' : pm_B) (G : Int32 → pm_B → Prop), 1 ≤ ear → ear ≤ 9 → Fr PH' hi hi' → (∀ j, j < 239 → hi' 148 j = hi 142 j) → (∀ hi12, Fr PH' hi hi12 → (∀ j, j < 239 → hi12 148 j = hi 142 j) → G (nI (earV s.1 i n ear)) hi12) → ∃ k3 : Nat, k3 < 1611 ∧ ((7 + (29 * nI i)) + 1) = nI k3 ∧ (∀ hi4 : pm_B, hi4 = pm_u hi' 142 k3 (nI ear) → (pm_C pm_g (SH L) HR (d + 17 + 2) m_M_goesOn [.inr 141, .inl (nI n)] hi4 (fun v hi5 => v = none ∧ (pm_C pm_g (SH L) HR (d + 17 + 2) m_M_wordsOf [.inr 141, .inl (nI i)] hi5 (fun v hi6 => ∃ x7 : Int32, v = some (.inl x7) ∧ (pm_C pm_g (SH L) HR (d + 17 + 2) m_M_manyOf [.inl x7] hi6 (fun v hi8 => ∃ x9 : Int32, v = some (.inl x9) ∧ (pm_C pm_g (SH L) HR (d + 17 + 2) m_M_putsBack [.inr 141] hi8 (fun v hi10 => v = none ∧ G x9 hi10))))))))) := by
      intro ear hi' G h1 h9 hf he hg
      refine ⟨7 + 29 * i + 1, by omega, ix i 1, fun hi2 e2 => ?_⟩
      have m0 := hM.1.beside hW.1 hf
      have m2 : MF (hi2 142) (eared s.1 i ear) := by
        rw [e2]
        exact m0.sp hW.1.l24 h8 hi8 ((m0.at hi8).u1 (nI ear)) (fun j' a b => pm_u_ne (Or.inr (by omega)))
      have f2 : Fr PX hi' hi2 := by
        rw [e2]
        exact Fr.u (Or.inl ⟨rfl, by omega⟩)
      have x2 : MX (hi2 142) (txo (eared s.1 i ear)) := hM.2.2.1.kept (fun j hj => by rw [f2 142 j (by unfold PX; omega)]; exact hf 142 j (by unfold PH'; omega))
      have we := hW.1.eared hi8 h1 h9
      have hl : (eared s.1 i ear).1.length = s.1.1.length := List.length_set
      unfold earV at hg
      generalize eared s.1 i ear = f at m2 x2 we hl hg
      obtain ⟨wa, wt, wl⟩ := days_all (n := n) we
      have wi := (wa.at (i := i) (by omega)).2.2.1
      obtain ⟨es1, es2⟩ := setN_eq (i := i) wa (by omega)
      refine mgoesOn_c (d := d + 8) (by omega) we m2 x2 (fun hi6 f6 m6 => ⟨rfl, ?_⟩)
      refine mwordsOf_c (d := d + 17) (by omega) (m6.at (by omega)) (by omega) ⟨_, rfl, ?_⟩
      rw [es1]
      refine mmanyOf_c (d := d + 18) es2 ⟨_, rfl, ?_⟩
      refine mputsBack_c (d := d + 18) (fun hi12 f12 e12 => ⟨rfl, ?_⟩)
      obtain ⟨t1, t2⟩ := thought2 hf he (f2.tr (PT.px f6)) f12 e12
      exact hg hi12 t1 t2
    have key : ∀ m k hi' o, k + m = 8 → Fr PH' hi hi' → (∀ j, j < 239 → hi' 148 j = hi 142 j) → pm_W pm_g (SH L) HR (d + 17 + 2) pm_t193 43 [some (.inr 141), some (.inl (nI i)), some (.inl (nI n)), some (.inl w), some (.inl (nI (earN (earV s.1 i n) k).1)), some (.inl (nI (earN (earV s.1 i n) k).2)), some (.inl (nI (k + 2))), o] [] hi' Q := by
      intro m
      induction m with
      | zero =>
        intro k hi' o hk hf he
        rw [Nat.add_zero] at hk
        subst hk
        refine v_M_ears_43 (d := d + 17) ⟨fun _ => ⟨fun c => ?_, fun c => ?_⟩, fun c => absurd (nI_le (a := 10) (b := 10) (by omega) (by omega)) c⟩
        · rw [if_neg c] at h; exact h.sameF hM hW hf
        · rw [if_pos (Decidable.not_not.mp c)] at h; exact h.sameF hM hW hf
      | succ m ih =>
        intro k hi' o hk hf he
        have hle := (earN_le hv k).2
        have hvk := hv (k + 2)
        refine v_M_ears_43 (d := d + 17) ⟨fun c => absurd c (nI_ge (b := 10) (by omega) (by omega)), fun _ => ?_⟩
        refine one (k + 2) hi' _ (by omega) (by omega) hf he (fun hi12 t1 t2 => ?_)
        have nx := fun o => ih (k + 1) hi12 o (by omega) t1 t2
        rw [nI_1]
        rw [earN] at nx
        refine ⟨fun c => ⟨fun _ => ?_, fun c' => absurd c c'⟩, fun c => ⟨fun c' => absurd c' c, fun _ => ?_⟩⟩
        · rw [if_pos ((nI_leI (by omega) (by omega)).mp c)] at nx; exact nx _
        · rw [if_neg (fun hh => c (nI_le hh (by omega)))] at nx; exact nx _
    have hvk := hv 1
    refine v_M_ears_43 (d := d + 17) ⟨fun c => absurd c (by decide), fun _ => ?_⟩
    refine one 1 hi5 _ (by omega) (by omega) (f5.mono (fun q j hq => by unfold PH'; omega)) e5 (fun hi12 t1 t2 => ?_)
    have ngt : ¬ nI (earV s.1 i n 1) ≤ -1 := fun c => absurd (Int32.lt_of_lt_of_le (by decide) (nI_pos' (n := earV s.1 i n 1) (by omega))) (Int32.not_lt.mpr c)
    exact ⟨fun c => absurd c ngt, fun _ => ⟨fun c => absurd c ngt, fun _ => key 8 0 hi12 _ rfl t1 t2⟩⟩
theorem W_ears {s : St} {a n w : Int32} (hW : WI s) : WI (o_ears s a n w).1 := by
  unfold o_ears
  cases ixo a s.1.1.length
  · exact hW
  · dsimp only
    cases ixd n 60
    · exact hW
    · dsimp only
      cases ixo w 2 <;> exact hW
