/-! ===== the layout: objects and rows by families (printed by program) ===== -/
theorem SH_at {L q : Nat} (h : q ≠ 1) : (SH L)[q]? = (SH 0)[q]? := by
  rw [pm_SH_2 L, pm_SH_2 0]
  match q, h with
  | 0, _ => rfl
  | n + 2, _ => rfl
theorem SH_of {L q : Nat} {k : pm_K} (h : decide (q ≠ 1 ∧ (SH 0)[q]? = some k) = true) : (SH L)[q]? = some k := by
  have h := of_decide_eq_true h
  rw [SH_at h.1]
  exact h.2
theorem sh_script {L : Nat} : (SH L)[1]? = some (2, 0, L) := by rw [pm_SH_2]; rfl
theorem sh_l2 {L : Nat} : (SH L)[2]? = some (2, 0, 6) := SH_of (by decide +kernel)
theorem sh_l3 {L : Nat} : (SH L)[3]? = some (0, 11, 0) := SH_of (by decide +kernel)
theorem sh_l4 {L : Nat} : (SH L)[4]? = some (0, 11, 0) := SH_of (by decide +kernel)
theorem sh_l5 {L : Nat} : (SH L)[5]? = some (0, 11, 0) := SH_of (by decide +kernel)
theorem sh_l6 {L : Nat} : (SH L)[6]? = some (0, 11, 0) := SH_of (by decide +kernel)
theorem sh_l7 {L : Nat} : (SH L)[7]? = some (0, 11, 0) := SH_of (by decide +kernel)
theorem sh_l8 {L : Nat} : (SH L)[8]? = some (0, 11, 0) := SH_of (by decide +kernel)
theorem sh_l9 {L : Nat} : (SH L)[9]? = some (2, 1, 4) := SH_of (by decide +kernel)
theorem sh_l10 {L : Nat} : (SH L)[10]? = some (2, 1, 3) := SH_of (by decide +kernel)
theorem sh_l11 {L : Nat} : (SH L)[11]? = some (2, 1, 4) := SH_of (by decide +kernel)
theorem sh_l12 {L : Nat} : (SH L)[12]? = some (2, 1, 3) := SH_of (by decide +kernel)
theorem sh_l13 {L : Nat} : (SH L)[13]? = some (2, 1, 2) := SH_of (by decide +kernel)
theorem sh_l14 {L : Nat} : (SH L)[14]? = some (2, 1, 2) := SH_of (by decide +kernel)
theorem sh_l16 {L : Nat} : (SH L)[16]? = some (0, 9, 0) := SH_of (by decide +kernel)
theorem sh_l17 {L : Nat} : (SH L)[17]? = some (0, 1, 0) := SH_of (by decide +kernel)
theorem sh_l18 {L : Nat} : (SH L)[18]? = some (1, 7, 15) := SH_of (by decide +kernel)
theorem sh_l49 {L : Nat} : (SH L)[49]? = some (1, 0, 96) := SH_of (by decide +kernel)
theorem sh_l50 {L : Nat} : (SH L)[50]? = some (0, 0, 0) := SH_of (by decide +kernel)
theorem sh_l51 {L : Nat} : (SH L)[51]? = some (1, 4, 8) := SH_of (by decide +kernel)
theorem sh_l68 {L : Nat} : (SH L)[68]? = some (1, 0, 3) := SH_of (by decide +kernel)
theorem sh_l69 {L : Nat} : (SH L)[69]? = some (0, 0, 0) := SH_of (by decide +kernel)
theorem sh_l88 {L : Nat} : (SH L)[88]? = some (0, 0, 0) := SH_of (by decide +kernel)
theorem sh_l107 {L : Nat} : (SH L)[107]? = some (0, 7, 0) := SH_of (by decide +kernel)
theorem sh_l108 {L : Nat} : (SH L)[108]? = some (1, 0, 96) := SH_of (by decide +kernel)
theorem sh_l109 {L : Nat} : (SH L)[109]? = some (0, 2, 0) := SH_of (by decide +kernel)
theorem sh_l112 {L : Nat} : (SH L)[112]? = some (1, 5, 4) := SH_of (by decide +kernel)
theorem sh_l121 {L : Nat} : (SH L)[121]? = some (1, 6, 5) := SH_of (by decide +kernel)
theorem sh_l137 {L : Nat} : (SH L)[137]? = some (0, 3, 0) := SH_of (by decide +kernel)
theorem sh_l138 {L : Nat} : (SH L)[138]? = some (1, 0, 12) := SH_of (by decide +kernel)
theorem sh_l139 {L : Nat} : (SH L)[139]? = some (1, 0, 3) := SH_of (by decide +kernel)
theorem sh_l140 {L : Nat} : (SH L)[140]? = some (1, 0, 60) := SH_of (by decide +kernel)
theorem sh_l141 {L : Nat} : (SH L)[141]? = some (0, 10, 0) := SH_of (by decide +kernel)
theorem sh_l142 {L : Nat} : (SH L)[142]? = some (1, 0, 1611) := SH_of (by decide +kernel)
theorem sh_l143 {L : Nat} : (SH L)[143]? = some (1, 0, 1611) := SH_of (by decide +kernel)
theorem sh_l144 {L : Nat} : (SH L)[144]? = some (1, 0, 1611) := SH_of (by decide +kernel)
theorem sh_l145 {L : Nat} : (SH L)[145]? = some (1, 0, 12) := SH_of (by decide +kernel)
theorem sh_l146 {L : Nat} : (SH L)[146]? = some (1, 0, 12) := SH_of (by decide +kernel)
theorem sh_l147 {L : Nat} : (SH L)[147]? = some (1, 0, 13) := SH_of (by decide +kernel)
theorem sh_l148 {L : Nat} : (SH L)[148]? = some (1, 0, 239) := SH_of (by decide +kernel)
theorem sh_l149 {L : Nat} : (SH L)[149]? = some (1, 0, 96) := SH_of (by decide +kernel)
theorem sh_l150 {L : Nat} : (SH L)[150]? = some (1, 2, 11) := SH_of (by decide +kernel)
theorem sh_l151 {L : Nat} : (SH L)[151]? = some (1, 0, 4) := SH_of (by decide +kernel)
theorem sh_l152 {L : Nat} : (SH L)[152]? = some (1, 0, 96) := SH_of (by decide +kernel)
theorem sh_l153 {L : Nat} : (SH L)[153]? = some (1, 0, 96) := SH_of (by decide +kernel)
theorem sh_l154 {L : Nat} : (SH L)[154]? = some (1, 3, 10) := SH_of (by decide +kernel)
theorem sh_l155 {L : Nat} : (SH L)[155]? = some (1, 0, 96) := SH_of (by decide +kernel)
theorem sh_l156 {L : Nat} : (SH L)[156]? = some (1, 0, 4) := SH_of (by decide +kernel)
theorem sh_l157 {L : Nat} : (SH L)[157]? = some (1, 0, 4) := SH_of (by decide +kernel)
theorem sh_l158 {L : Nat} : (SH L)[158]? = some (1, 0, 4) := SH_of (by decide +kernel)
theorem sh_l159 {L : Nat} : (SH L)[159]? = some (1, 0, 96) := SH_of (by decide +kernel)
theorem sh_l160 {L : Nat} : (SH L)[160]? = some (1, 0, 5) := SH_of (by decide +kernel)
theorem sh_l161 {L : Nat} : (SH L)[161]? = some (1, 0, 5) := SH_of (by decide +kernel)
theorem sh_l162 {L : Nat} : (SH L)[162]? = some (1, 0, 5) := SH_of (by decide +kernel)
theorem sh_l163 {L : Nat} : (SH L)[163]? = some (1, 0, 120) := SH_of (by decide +kernel)
theorem sh_l164 {L : Nat} : (SH L)[164]? = some (1, 0, 24) := SH_of (by decide +kernel)
theorem sh_l165 {L : Nat} : (SH L)[165]? = some (1, 0, 60) := SH_of (by decide +kernel)
theorem hr_3_0 : HR 3 0 = 9 := by decide +kernel
theorem hr_4_0 : HR 4 0 = 10 := by decide +kernel
theorem hr_5_0 : HR 5 0 = 11 := by decide +kernel
theorem hr_6_0 : HR 6 0 = 12 := by decide +kernel
theorem hr_7_0 : HR 7 0 = 13 := by decide +kernel
theorem hr_8_0 : HR 8 0 = 14 := by decide +kernel
theorem hr_16_0 : HR 16 0 = 17 := by decide +kernel
theorem hr_16_1 : HR 16 1 = 50 := by decide +kernel
theorem hr_16_2 : HR 16 2 = 69 := by decide +kernel
theorem hr_16_3 : HR 16 3 = 88 := by decide +kernel
theorem hr_16_5 : HR 16 5 = 107 := by decide +kernel
theorem hr_16_6 : HR 16 6 = 109 := by decide +kernel
theorem hr_16_7 : HR 16 7 = 112 := by decide +kernel
theorem hr_16_8 : HR 16 8 = 121 := by decide +kernel
theorem hr_16_9 : HR 16 9 = 137 := by decide +kernel
theorem hr_16_10 : HR 16 10 = 139 := by decide +kernel
theorem hr_16_11 : HR 16 11 = 140 := by decide +kernel
theorem hr_17_0 : HR 17 0 = 18 := by decide +kernel
theorem hr_17_1 : HR 17 1 = 49 := by decide +kernel
theorem hr_50_0 : HR 50 0 = 17 := by decide +kernel
theorem hr_50_1 : HR 50 1 = 51 := by decide +kernel
theorem hr_50_9 : HR 50 9 = 68 := by decide +kernel
theorem hr_69_0 : HR 69 0 = 17 := by decide +kernel
theorem hr_69_1 : HR 69 1 = 70 := by decide +kernel
theorem hr_69_9 : HR 69 9 = 87 := by decide +kernel
theorem hr_88_0 : HR 88 0 = 17 := by decide +kernel
theorem hr_88_1 : HR 88 1 = 89 := by decide +kernel
theorem hr_88_9 : HR 88 9 = 106 := by decide +kernel
theorem hr_107_0 : HR 107 0 = 108 := by decide +kernel
theorem hr_109_0 : HR 109 0 = 107 := by decide +kernel
theorem hr_137_0 : HR 137 0 = 138 := by decide +kernel
theorem hr_141_0 : HR 141 0 = 142 := by decide +kernel
theorem hr_141_1 : HR 141 1 = 143 := by decide +kernel
theorem hr_141_2 : HR 141 2 = 144 := by decide +kernel
theorem hr_141_4 : HR 141 4 = 145 := by decide +kernel
theorem hr_141_6 : HR 141 6 = 146 := by decide +kernel
theorem hr_141_8 : HR 141 8 = 147 := by decide +kernel
theorem hr_141_9 : HR 141 9 = 148 := by decide +kernel
theorem hr_141_10 : HR 141 10 = 149 := by decide +kernel
theorem hr_141_18 : HR 141 18 = 150 := by decide +kernel
theorem hr_141_19 : HR 141 19 = 151 := by decide +kernel
theorem hr_141_20 : HR 141 20 = 152 := by decide +kernel
theorem hr_141_23 : HR 141 23 = 153 := by decide +kernel
theorem hr_141_25 : HR 141 25 = 154 := by decide +kernel
theorem hr_141_26 : HR 141 26 = 155 := by decide +kernel
theorem hr_141_27 : HR 141 27 = 156 := by decide +kernel
theorem hr_141_28 : HR 141 28 = 157 := by decide +kernel
theorem hr_141_29 : HR 141 29 = 158 := by decide +kernel
theorem hr_141_30 : HR 141 30 = 159 := by decide +kernel
theorem hr_141_31 : HR 141 31 = 160 := by decide +kernel
theorem hr_141_32 : HR 141 32 = 161 := by decide +kernel
theorem hr_141_33 : HR 141 33 = 162 := by decide +kernel
theorem hr_141_34 : HR 141 34 = 163 := by decide +kernel
theorem hr_141_35 : HR 141 35 = 164 := by decide +kernel
theorem hr_141_36 : HR 141 36 = 165 := by decide +kernel
abbrev pm_fo (F : Nat) : Prop := F = 50 ∨ F = 69 ∨ F = 88
theorem fo_lit (F : Nat) (h : pm_fo F) : pm_fo F := h
theorem sh_fo {L F : Nat} (h : pm_fo F) : (SH L)[F]? = some (0, 0, 0) := by rcases h with rfl | rfl | rfl <;> exact SH_of (by decide +kernel)
theorem sh_fo1 {L F : Nat} (h : pm_fo F) : (SH L)[F + 1]? = some (1, 4, 8) := by rcases h with rfl | rfl | rfl <;> exact SH_of (by decide +kernel)
theorem sh_fo18 {L F : Nat} (h : pm_fo F) : (SH L)[F + 18]? = some (1, 0, 3) := by rcases h with rfl | rfl | rfl <;> exact SH_of (by decide +kernel)
theorem hr_fo0 {F : Nat} (h : pm_fo F) : HR F 0 = 17 := by rcases h with rfl | rfl | rfl <;> decide +kernel
theorem hr_fo1 {F : Nat} (h : pm_fo F) : HR F 1 = F + 1 := by rcases h with rfl | rfl | rfl <;> decide +kernel
theorem hr_fo9 {F : Nat} (h : pm_fo F) : HR F 9 = F + 18 := by rcases h with rfl | rfl | rfl <;> decide +kernel
theorem hr_sp0 : ∀ i, i < 8 → HR 51 i = 52 + 2 * i ∧ HR 70 i = 71 + 2 * i ∧ HR 89 i = 90 + 2 * i ∧ HR (52 + 2 * i) 5 = 53 + 2 * i ∧ HR (71 + 2 * i) 5 = 72 + 2 * i ∧ HR (90 + 2 * i) 5 = 91 + 2 * i := by decide +kernel
theorem hr_sp {F i : Nat} (h : pm_fo F) (hi : i < 8) : HR (F + 1) i = F + 2 + 2 * i := by
  rcases h with rfl | rfl | rfl
  · exact (hr_sp0 i hi).1
  · exact (hr_sp0 i hi).2.1
  · exact (hr_sp0 i hi).2.2.1
def pm_sk (S : Nat) : Prop := ∃ F i, pm_fo F ∧ i < 8 ∧ S = F + 2 + 2 * i
theorem sk_of {F i : Nat} (h : pm_fo F) (hi : i < 8) : pm_sk (F + 2 + 2 * i) := ⟨F, i, h, hi, rfl⟩
theorem sh_sp0 : ∀ i, i < 8 → ((52 + 2 * i ≠ 1 ∧ (SH 0)[52 + 2 * i]? = some (0, 6, 0)) ∧ (71 + 2 * i ≠ 1 ∧ (SH 0)[71 + 2 * i]? = some (0, 6, 0)) ∧ (90 + 2 * i ≠ 1 ∧ (SH 0)[90 + 2 * i]? = some (0, 6, 0))) ∧ ((53 + 2 * i ≠ 1 ∧ (SH 0)[53 + 2 * i]? = some (1, 0, 24)) ∧ (72 + 2 * i ≠ 1 ∧ (SH 0)[72 + 2 * i]? = some (1, 0, 24)) ∧ (91 + 2 * i ≠ 1 ∧ (SH 0)[91 + 2 * i]? = some (1, 0, 24))) := by decide +kernel
theorem SH_of' {L q : Nat} {k : pm_K} (h : q ≠ 1 ∧ (SH 0)[q]? = some k) : (SH L)[q]? = some k := by rw [SH_at h.1]; exact h.2
theorem sh_sk {L S : Nat} (h : pm_sk S) : (SH L)[S]? = some (0, 6, 0) := by
  obtain ⟨F, i, rfl | rfl | rfl, hi, rfl⟩ := h
  · exact SH_of' (sh_sp0 i hi).1.1
  · exact SH_of' (sh_sp0 i hi).1.2.1
  · exact SH_of' (sh_sp0 i hi).1.2.2
theorem sh_sk1 {L S : Nat} (h : pm_sk S) : (SH L)[S + 1]? = some (1, 0, 24) := by
  obtain ⟨F, i, rfl | rfl | rfl, hi, rfl⟩ := h
  · rw [show 50 + 2 + 2 * i + 1 = 53 + 2 * i by omega]; exact SH_of' (sh_sp0 i hi).2.1
  · rw [show 69 + 2 + 2 * i + 1 = 72 + 2 * i by omega]; exact SH_of' (sh_sp0 i hi).2.2.1
  · rw [show 88 + 2 + 2 * i + 1 = 91 + 2 * i by omega]; exact SH_of' (sh_sp0 i hi).2.2.2
theorem hr_sk {S : Nat} (h : pm_sk S) : HR S 5 = S + 1 := by
  obtain ⟨F, i, rfl | rfl | rfl, hi, rfl⟩ := h
  · rw [show 50 + 2 + 2 * i + 1 = 53 + 2 * i by omega]; exact (hr_sp0 i hi).2.2.2.1
  · rw [show 69 + 2 + 2 * i + 1 = 72 + 2 * i by omega]; exact (hr_sp0 i hi).2.2.2.2.1
  · rw [show 88 + 2 + 2 * i + 1 = 91 + 2 * i by omega]; exact (hr_sp0 i hi).2.2.2.2.2
def pm_st (T : Nat) : Prop := (∃ i, i < 4 ∧ T = 113 + 2 * i) ∨ ∃ i, i < 5 ∧ T = 122 + 3 * i + 1
theorem st_of {i : Nat} (h : i < 4) : pm_st (113 + 2 * i) := Or.inl ⟨i, h, rfl⟩
def pm_su (U : Nat) : Prop := ∃ i, i < 5 ∧ U = 122 + 3 * i
theorem su_of {i : Nat} (h : i < 5) : pm_su (122 + 3 * i) := ⟨i, h, rfl⟩
theorem st_su {U : Nat} (h : pm_su U) : pm_st (U + 1) := by obtain ⟨i, hi, rfl⟩ := h; exact Or.inr ⟨i, hi, rfl⟩
theorem sh_st0 : (∀ i, i < 4 → (113 + 2 * i ≠ 1 ∧ (SH 0)[113 + 2 * i]? = some (0, 4, 0)) ∧ (113 + 2 * i + 1 ≠ 1 ∧ (SH 0)[113 + 2 * i + 1]? = some (1, 0, 24)) ∧ HR (113 + 2 * i) 2 = 113 + 2 * i + 1 ∧ HR 112 i = 113 + 2 * i) ∧ ∀ i, i < 5 → (122 + 3 * i ≠ 1 ∧ (SH 0)[122 + 3 * i]? = some (0, 5, 0)) ∧ (122 + 3 * i + 1 ≠ 1 ∧ (SH 0)[122 + 3 * i + 1]? = some (0, 4, 0)) ∧ (122 + 3 * i + 1 + 1 ≠ 1 ∧ (SH 0)[122 + 3 * i + 1 + 1]? = some (1, 0, 24)) ∧ HR (122 + 3 * i) 4 = 122 + 3 * i + 1 ∧ HR (122 + 3 * i + 1) 2 = 122 + 3 * i + 1 + 1 ∧ HR 121 i = 122 + 3 * i := by decide +kernel
theorem sh_st {L T : Nat} (h : pm_st T) : (SH L)[T]? = some (0, 4, 0) := by
  rcases h with ⟨i, hi, rfl⟩ | ⟨i, hi, rfl⟩
  · exact SH_of' (sh_st0.1 i hi).1
  · exact SH_of' (sh_st0.2 i hi).2.1
theorem sh_st1 {L T : Nat} (h : pm_st T) : (SH L)[T + 1]? = some (1, 0, 24) := by
  rcases h with ⟨i, hi, rfl⟩ | ⟨i, hi, rfl⟩
  · exact SH_of' (sh_st0.1 i hi).2.1
  · exact SH_of' (sh_st0.2 i hi).2.2.1
theorem hr_st {T : Nat} (h : pm_st T) : HR T 2 = T + 1 := by
  rcases h with ⟨i, hi, rfl⟩ | ⟨i, hi, rfl⟩
  · exact (sh_st0.1 i hi).2.2.1
  · exact (sh_st0.2 i hi).2.2.2.2.1
theorem hr_sh {i : Nat} (h : i < 4) : HR 112 i = 113 + 2 * i := (sh_st0.1 i h).2.2.2
theorem hr_sl {i : Nat} (h : i < 5) : HR 121 i = 122 + 3 * i := (sh_st0.2 i h).2.2.2.2.2
theorem sh_su {L U : Nat} (h : pm_su U) : (SH L)[U]? = some (0, 5, 0) := by obtain ⟨i, hi, rfl⟩ := h; exact SH_of' (sh_st0.2 i hi).1
theorem hr_su {U : Nat} (h : pm_su U) : HR U 4 = U + 1 := by obtain ⟨i, hi, rfl⟩ := h; exact (sh_st0.2 i hi).2.2.2.1
def pm_tx (X : Nat) : Prop := (∃ i, i < 15 ∧ X = 19 + 2 * i) ∨ X = 110
theorem tx_of {i : Nat} (h : i < 15) : pm_tx (19 + 2 * i) := Or.inl ⟨i, h, rfl⟩
theorem tx_lt {X : Nat} (h : pm_tx X) : X < 2147483648 := by rcases h with ⟨i, hi, rfl⟩ | rfl <;> omega
theorem sh_tx0 : ∀ i, i < 15 → (19 + 2 * i ≠ 1 ∧ (SH 0)[19 + 2 * i]? = some (0, 8, 0)) ∧ (19 + 2 * i + 1 ≠ 1 ∧ (SH 0)[19 + 2 * i + 1]? = some (1, 0, 96)) ∧ HR (19 + 2 * i) 3 = 19 + 2 * i + 1 ∧ HR 18 i = 19 + 2 * i := by decide +kernel
theorem sh_tx {L X : Nat} (h : pm_tx X) : (SH L)[X]? = some (0, 8, 0) := by
  rcases h with ⟨i, hi, rfl⟩ | rfl
  · exact SH_of' (sh_tx0 i hi).1
  · exact SH_of (by decide +kernel)
theorem sh_tx1 {L X : Nat} (h : pm_tx X) : (SH L)[X + 1]? = some (1, 0, 96) := by
  rcases h with ⟨i, hi, rfl⟩ | rfl
  · exact SH_of' (sh_tx0 i hi).2.1
  · exact SH_of (by decide +kernel)
theorem hr_tx {X : Nat} (h : pm_tx X) : HR X 3 = X + 1 := by
  rcases h with ⟨i, hi, rfl⟩ | rfl
  · exact (sh_tx0 i hi).2.2.1
  · decide +kernel
theorem hr_te {i : Nat} (h : i < 15) : HR 18 i = 19 + 2 * i := (sh_tx0 i h).2.2.2
theorem pm_tn {e : Int32} {k n : Nat} (he : e = nI k) (hk : k < n) (hn : n ≤ 2147483648) : e.toNatClampNeg = k := by subst he; exact nI_clamp (by omega)
theorem pm_tn_le {e : Int32} {k : Nat} (he : e = nI k) (hk : k < 2147483648) : e.toNatClampNeg = k := by subst he; exact nI_clamp hk
theorem pm_tn_tx {e : Int32} {k : Nat} (he : e = nI k) (hk : pm_tx k) : e.toNatClampNeg = k := pm_tn_le he (tx_lt hk)
theorem pm_ao_of {sh : pm_S} {q a n t k : Nat} {e : Int32} (hs : sh[q]? = some (t + 1, a, n)) (hk : k < n) (he : e = nI k) (hn : n ≤ 2147483648) : pm_ao sh q a e := ⟨t, n, hs, by subst he; exact nI_pos (by omega), by rw [pm_tn he hk hn]; exact hk⟩
theorem pm_aw_of {sh : pm_S} {q a n k : Nat} {e : Int32} (hs : sh[q]? = some (1, a, n)) (hk : k < n) (he : e = nI k) (hn : n ≤ 2147483648) : pm_aw sh q a e := ⟨n, hs, by subst he; exact nI_pos (by omega), by rw [pm_tn he hk hn]; exact hk⟩
theorem pm_cpy_of {sh : pm_S} {q d m1 m2 k1 k2 k3 : Nat} {e1 e2 e3 : Int32} (hs : sh[q]? = some (1, 0, m1)) (hd : sh[d]? = some (1, 0, m2)) (h1 : e1 = nI k1) (h2 : e2 = nI k2) (h3 : e3 = nI k3) (l1 : k1 + k3 ≤ m1) (l2 : k2 + k3 ≤ m2) (b1 : m1 < 2147483648) (b2 : m2 < 2147483648) : pm_cpy sh q d e1 e2 e3 := by
  refine ⟨m1, m2, hs, hd, ?_, ?_, ?_, ?_, ?_⟩
  · subst h1; exact nI_pos (by omega)
  · subst h2; exact nI_pos (by omega)
  · subst h3; exact nI_pos (by omega)
  · rw [pm_tn_le h1 (by omega), pm_tn_le h3 (by omega)]; exact l1
  · rw [pm_tn_le h2 (by omega), pm_tn_le h3 (by omega)]; exact l2
theorem pm_sw_t {x k : Int32} {a t : Nat} {l : List (Int32 × Nat)} (h : x = k) : pm_sw x a ((k, t) :: l) = t := by unfold pm_sw; rw [if_pos h]
theorem pm_sw_f {x k : Int32} {a t : Nat} {l : List (Int32 × Nat)} (h : ¬ x = k) : pm_sw x a ((k, t) :: l) = pm_sw x a l := by
  show (if x = k then t else pm_sw x a l) = _
  rw [if_neg h]
