/-! ===== the layout: objects and rows by families (printed by program) ===== -/
theorem SH_at {L q : Nat} (h : q ≠ 1) : (SH L)[q]? = (SH 0)[q]? := by
  rw [pm_SH_2 L, pm_SH_2 0]
  match q, h with
  | 0, _ => rfl
  | n + 2, _ => rfl
theorem SH_of {L q : Nat} {k : pm_K} (h : decide (q ≠ 1 ∧ (SH 0)[q]? = some k) = true) : (SH L)[q]? = some k := by
  have h := of_decide_eq_true h
  rw [SH_at h.1]
  exact h.2
theorem sh_script {L : Nat} : (SH L)[1]? = some (2, 0, L) := by rw [pm_SH_2]; rfl
theorem sh_l2 {L : Nat} : (SH L)[2]? = some (2, 0, 6) := SH_of (by decide +kernel)
theorem sh_l3 {L : Nat} : (SH L)[3]? = some (0, 11, 0) := SH_of (by decide +kernel)
theorem sh_l4 {L : Nat} : (SH L)[4]? = some (0, 11, 0) := SH_of (by decide +kernel)
theorem sh_l5 {L : Nat} : (SH L)[5]? = some (0, 11, 0) := SH_of (by decide +kernel)
theorem sh_l6 {L : Nat} : (SH L)[6]? = some (0, 11, 0) := SH_of (by decide +kernel)
theorem sh_l7 {L : Nat} : (SH L)[7]? = some (0, 11, 0) := SH_of (by decide +kernel)
theorem sh_l8 {L : Nat} : (SH L)[8]? = some (0, 11, 0) := SH_of (by decide +kernel)
theorem sh_l9 {L : Nat} : (SH L)[9]? = some (2, 1, 4) := SH_of (by decide +kernel)
theorem sh_l10 {L : Nat} : (SH L)[10]? = some (2, 1, 3) := SH_of (by decide +kernel)
theorem sh_l11 {L : Nat} : (SH L)[11]? = some (2, 1, 4) := SH_of (by decide +kernel)
theorem sh_l12 {L : Nat} : (SH L)[12]? = some (2, 1, 3) := SH_of (by decide +kernel)
theorem sh_l13 {L : Nat} : (SH L)[13]? = some (2, 1, 2) := SH_of (by decide +kernel)
theorem sh_l14 {L : Nat} : (SH L)[14]? = some (2, 1, 2) := SH_of (by decide +kernel)
theorem sh_l15 {L : Nat} : (SH L)[15]? = some (0, 99, 0) := SH_of (by decide +kernel)
theorem sh_l16 {L : Nat} : (SH L)[16]? = some (0, 9, 0) := SH_of (by decide +kernel)
theorem sh_l17 {L : Nat} : (SH L)[17]? = some (0, 1, 0) := SH_of (by decide +kernel)
theorem sh_l18 {L : Nat} : (SH L)[18]? = some (1, 7, 15) := SH_of (by decide +kernel)
theorem sh_l49 {L : Nat} : (SH L)[49]? = some (1, 0, 96) := SH_of (by decide +kernel)
theorem sh_l50 {L : Nat} : (SH L)[50]? = some (0, 0, 0) := SH_of (by decide +kernel)
theorem sh_l51 {L : Nat} : (SH L)[51]? = some (1, 4, 8) := SH_of (by decide +kernel)
theorem sh_l68 {L : Nat} : (SH L)[68]? = some (1, 0, 3) := SH_of (by decide +kernel)
theorem sh_l69 {L : Nat} : (SH L)[69]? = some (0, 0, 0) := SH_of (by decide +kernel)
theorem sh_l70 {L : Nat} : (SH L)[70]? = some (1, 4, 8) := SH_of (by decide +kernel)
theorem sh_l87 {L : Nat} : (SH L)[87]? = some (1, 0, 3) := SH_of (by decide +kernel)
theorem sh_l88 {L : Nat} : (SH L)[88]? = some (0, 0, 0) := SH_of (by decide +kernel)
theorem sh_l89 {L : Nat} : (SH L)[89]? = some (1, 4, 8) := SH_of (by decide +kernel)
theorem sh_l106 {L : Nat} : (SH L)[106]? = some (1, 0, 3) := SH_of (by decide +kernel)
theorem sh_l107 {L : Nat} : (SH L)[107]? = some (0, 7, 0) := SH_of (by decide +kernel)
theorem sh_l108 {L : Nat} : (SH L)[108]? = some (1, 0, 96) := SH_of (by decide +kernel)
theorem sh_l109 {L : Nat} : (SH L)[109]? = some (0, 2, 0) := SH_of (by decide +kernel)
theorem sh_l112 {L : Nat} : (SH L)[112]? = some (1, 5, 4) := SH_of (by decide +kernel)
theorem sh_l121 {L : Nat} : (SH L)[121]? = some (1, 6, 5) := SH_of (by decide +kernel)
theorem sh_l137 {L : Nat} : (SH L)[137]? = some (0, 3, 0) := SH_of (by decide +kernel)
theorem sh_l138 {L : Nat} : (SH L)[138]? = some (1, 0, 12) := SH_of (by decide +kernel)
theorem sh_l139 {L : Nat} : (SH L)[139]? = some (1, 0, 3) := SH_of (by decide +kernel)
theorem sh_l140 {L : Nat} : (SH L)[140]? = some (1, 0, 60) := SH_of (by decide +kernel)
theorem sh_l141 {L : Nat} : (SH L)[141]? = some (0, 10, 0) := SH_of (by decide +kernel)
theorem sh_l142 {L : Nat} : (SH L)[142]? = some (1, 0, 1611) := SH_of (by decide +kernel)
theorem sh_l143 {L : Nat} : (SH L)[143]? = some (1, 0, 1611) := SH_of (by decide +kernel)
theorem sh_l144 {L : Nat} : (SH L)[144]? = some (1, 0, 1611) := SH_of (by decide +kernel)
theorem sh_l145 {L : Nat} : (SH L)[145]? = some (1, 0, 12) := SH_of (by decide +kernel)
theorem sh_l146 {L : Nat} : (SH L)[146]? = some (1, 0, 12) := SH_of (by decide +kernel)
theorem sh_l147 {L : Nat} : (SH L)[147]? = some (1, 0, 13) := SH_of (by decide +kernel)
theorem sh_l148 {L : Nat} : (SH L)[148]? = some (1, 0, 239) := SH_of (by decide +kernel)
theorem sh_l149 {L : Nat} : (SH L)[149]? = some (1, 0, 96) := SH_of (by decide +kernel)
theorem sh_l150 {L : Nat} : (SH L)[150]? = some (1, 2, 11) := SH_of (by decide +kernel)
theorem sh_l151 {L : Nat} : (SH L)[151]? = some (1, 0, 4) := SH_of (by decide +kernel)
theorem sh_l152 {L : Nat} : (SH L)[152]? = some (1, 0, 96) := SH_of (by decide +kernel)
theorem sh_l153 {L : Nat} : (SH L)[153]? = some (1, 0, 96) := SH_of (by decide +kernel)
theorem sh_l154 {L : Nat} : (SH L)[154]? = some (1, 3, 10) := SH_of (by decide +kernel)
theorem sh_l155 {L : Nat} : (SH L)[155]? = some (1, 0, 96) := SH_of (by decide +kernel)
theorem sh_l156 {L : Nat} : (SH L)[156]? = some (1, 0, 4) := SH_of (by decide +kernel)
theorem sh_l157 {L : Nat} : (SH L)[157]? = some (1, 0, 4) := SH_of (by decide +kernel)
theorem sh_l158 {L : Nat} : (SH L)[158]? = some (1, 0, 4) := SH_of (by decide +kernel)
theorem sh_l159 {L : Nat} : (SH L)[159]? = some (1, 0, 96) := SH_of (by decide +kernel)
theorem sh_l160 {L : Nat} : (SH L)[160]? = some (1, 0, 5) := SH_of (by decide +kernel)
theorem sh_l161 {L : Nat} : (SH L)[161]? = some (1, 0, 5) := SH_of (by decide +kernel)
theorem sh_l162 {L : Nat} : (SH L)[162]? = some (1, 0, 5) := SH_of (by decide +kernel)
theorem sh_l163 {L : Nat} : (SH L)[163]? = some (1, 0, 120) := SH_of (by decide +kernel)
theorem sh_l164 {L : Nat} : (SH L)[164]? = some (1, 0, 24) := SH_of (by decide +kernel)
theorem sh_l165 {L : Nat} : (SH L)[165]? = some (1, 0, 60) := SH_of (by decide +kernel)
def hrT : List (Nat × Nat × Nat) := [(3, 0, 9), (4, 0, 10), (5, 0, 11), (6, 0, 12), (7, 0, 13), (8, 0, 14), (16, 0, 17), (16, 1, 50), (16, 2, 69), (16, 3, 88), (16, 5, 107), (16, 6, 109), (16, 7, 112), (16, 8, 121), (16, 9, 137), (16, 10, 139), (16, 11, 140), (17, 0, 18), (17, 1, 49), (18, 0, 19), (18, 1, 21), (18, 2, 23), (18, 3, 25), (18, 4, 27), (18, 5, 29), (18, 6, 31), (18, 7, 33), (18, 8, 35), (18, 9, 37), (18, 10, 39), (18, 11, 41), (18, 12, 43), (18, 13, 45), (18, 14, 47), (19, 3, 20), (21, 3, 22), (23, 3, 24), (25, 3, 26), (27, 3, 28), (29, 3, 30), (31, 3, 32), (33, 3, 34), (35, 3, 36), (37, 3, 38), (39, 3, 40), (41, 3, 42), (43, 3, 44), (45, 3, 46), (47, 3, 48), (50, 0, 17), (50, 1, 51), (50, 9, 68), (51, 0, 52), (51, 1, 54), (51, 2, 56), (51, 3, 58), (51, 4, 60), (51, 5, 62), (51, 6, 64), (51, 7, 66), (52, 5, 53), (54, 5, 55), (56, 5, 57), (58, 5, 59), (60, 5, 61), (62, 5, 63), (64, 5, 65), (66, 5, 67), (69, 0, 17), (69, 1, 70), (69, 9, 87), (70, 0, 71), (70, 1, 73), (70, 2, 75), (70, 3, 77), (70, 4, 79), (70, 5, 81), (70, 6, 83), (70, 7, 85), (71, 5, 72), (73, 5, 74), (75, 5, 76), (77, 5, 78), (79, 5, 80), (81, 5, 82), (83, 5, 84), (85, 5, 86), (88, 0, 17), (88, 1, 89), (88, 9, 106), (89, 0, 90), (89, 1, 92), (89, 2, 94), (89, 3, 96), (89, 4, 98), (89, 5, 100), (89, 6, 102), (89, 7, 104), (90, 5, 91), (92, 5, 93), (94, 5, 95), (96, 5, 97), (98, 5, 99), (100, 5, 101), (102, 5, 103), (104, 5, 105), (107, 0, 108), (109, 0, 107), (110, 3, 111), (112, 0, 113), (112, 1, 115), (112, 2, 117), (112, 3, 119), (113, 2, 114), (115, 2, 116), (117, 2, 118), (119, 2, 120), (121, 0, 122), (121, 1, 125), (121, 2, 128), (121, 3, 131), (121, 4, 134), (122, 4, 123), (123, 2, 124), (125, 4, 126), (126, 2, 127), (128, 4, 129), (129, 2, 130), (131, 4, 132), (132, 2, 133), (134, 4, 135), (135, 2, 136), (137, 0, 138), (141, 0, 142), (141, 1, 143), (141, 2, 144), (141, 4, 145), (141, 6, 146), (141, 8, 147), (141, 9, 148), (141, 10, 149), (141, 18, 150), (141, 19, 151), (141, 20, 152), (141, 23, 153), (141, 25, 154), (141, 26, 155), (141, 27, 156), (141, 28, 157), (141, 29, 158), (141, 30, 159), (141, 31, 160), (141, 32, 161), (141, 33, 162), (141, 34, 163), (141, 35, 164), (141, 36, 165)]
set_option maxRecDepth 100000 in
theorem hr_all : hrT.all (fun t => HR t.1 t.2.1 == t.2.2) = true := by decide +kernel
theorem hr_in {q b v : Nat} (h : hrT.contains (q, b, v) = true) : HR q b = v := by
  have h1 := List.all_eq_true.mp hr_all (q, b, v) (List.contains_iff_mem.mp h)
  simpa using h1
theorem hr_3_0 : HR 3 0 = 9 := hr_in (by decide +kernel)
theorem hr_4_0 : HR 4 0 = 10 := hr_in (by decide +kernel)
theorem hr_5_0 : HR 5 0 = 11 := hr_in (by decide +kernel)
theorem hr_6_0 : HR 6 0 = 12 := hr_in (by decide +kernel)
theorem hr_7_0 : HR 7 0 = 13 := hr_in (by decide +kernel)
theorem hr_8_0 : HR 8 0 = 14 := hr_in (by decide +kernel)
theorem hr_16_0 : HR 16 0 = 17 := hr_in (by decide +kernel)
theorem hr_16_1 : HR 16 1 = 50 := hr_in (by decide +kernel)
theorem hr_16_2 : HR 16 2 = 69 := hr_in (by decide +kernel)
theorem hr_16_3 : HR 16 3 = 88 := hr_in (by decide +kernel)
theorem hr_16_5 : HR 16 5 = 107 := hr_in (by decide +kernel)
theorem hr_16_6 : HR 16 6 = 109 := hr_in (by decide +kernel)
theorem hr_16_7 : HR 16 7 = 112 := hr_in (by decide +kernel)
theorem hr_16_8 : HR 16 8 = 121 := hr_in (by decide +kernel)
theorem hr_16_9 : HR 16 9 = 137 := hr_in (by decide +kernel)
theorem hr_16_10 : HR 16 10 = 139 := hr_in (by decide +kernel)
theorem hr_16_11 : HR 16 11 = 140 := hr_in (by decide +kernel)
theorem hr_17_0 : HR 17 0 = 18 := hr_in (by decide +kernel)
theorem hr_17_1 : HR 17 1 = 49 := hr_in (by decide +kernel)
theorem hr_50_0 : HR 50 0 = 17 := hr_in (by decide +kernel)
theorem hr_50_1 : HR 50 1 = 51 := hr_in (by decide +kernel)
theorem hr_50_9 : HR 50 9 = 68 := hr_in (by decide +kernel)
theorem hr_69_0 : HR 69 0 = 17 := hr_in (by decide +kernel)
theorem hr_69_1 : HR 69 1 = 70 := hr_in (by decide +kernel)
theorem hr_69_9 : HR 69 9 = 87 := hr_in (by decide +kernel)
theorem hr_88_0 : HR 88 0 = 17 := hr_in (by decide +kernel)
theorem hr_88_1 : HR 88 1 = 89 := hr_in (by decide +kernel)
theorem hr_88_9 : HR 88 9 = 106 := hr_in (by decide +kernel)
theorem hr_107_0 : HR 107 0 = 108 := hr_in (by decide +kernel)
theorem hr_109_0 : HR 109 0 = 107 := hr_in (by decide +kernel)
theorem hr_137_0 : HR 137 0 = 138 := hr_in (by decide +kernel)
theorem hr_141_0 : HR 141 0 = 142 := hr_in (by decide +kernel)
theorem hr_141_1 : HR 141 1 = 143 := hr_in (by decide +kernel)
theorem hr_141_2 : HR 141 2 = 144 := hr_in (by decide +kernel)
theorem hr_141_4 : HR 141 4 = 145 := hr_in (by decide +kernel)
theorem hr_141_6 : HR 141 6 = 146 := hr_in (by decide +kernel)
theorem hr_141_8 : HR 141 8 = 147 := hr_in (by decide +kernel)
theorem hr_141_9 : HR 141 9 = 148 := hr_in (by decide +kernel)
theorem hr_141_10 : HR 141 10 = 149 := hr_in (by decide +kernel)
theorem hr_141_18 : HR 141 18 = 150 := hr_in (by decide +kernel)
theorem hr_141_19 : HR 141 19 = 151 := hr_in (by decide +kernel)
theorem hr_141_20 : HR 141 20 = 152 := hr_in (by decide +kernel)
theorem hr_141_23 : HR 141 23 = 153 := hr_in (by decide +kernel)
theorem hr_141_25 : HR 141 25 = 154 := hr_in (by decide +kernel)
theorem hr_141_26 : HR 141 26 = 155 := hr_in (by decide +kernel)
theorem hr_141_27 : HR 141 27 = 156 := hr_in (by decide +kernel)
theorem hr_141_28 : HR 141 28 = 157 := hr_in (by decide +kernel)
theorem hr_141_29 : HR 141 29 = 158 := hr_in (by decide +kernel)
theorem hr_141_30 : HR 141 30 = 159 := hr_in (by decide +kernel)
theorem hr_141_31 : HR 141 31 = 160 := hr_in (by decide +kernel)
theorem hr_141_32 : HR 141 32 = 161 := hr_in (by decide +kernel)
theorem hr_141_33 : HR 141 33 = 162 := hr_in (by decide +kernel)
theorem hr_141_34 : HR 141 34 = 163 := hr_in (by decide +kernel)
theorem hr_141_35 : HR 141 35 = 164 := hr_in (by decide +kernel)
theorem hr_141_36 : HR 141 36 = 165 := hr_in (by decide +kernel)
abbrev pm_fo (F : Nat) : Prop := F = 50 ∨ F = 69 ∨ F = 88
theorem fo_lit (F : Nat) (h : pm_fo F) : pm_fo F := h
theorem sh_fo {L F : Nat} (h : pm_fo F) : (SH L)[F]? = some (0, 0, 0) := by rcases h with rfl | rfl | rfl <;> exact SH_of (by decide +kernel)
theorem sh_fo1 {L F : Nat} (h : pm_fo F) : (SH L)[F + 1]? = some (1, 4, 8) := by rcases h with rfl | rfl | rfl <;> exact SH_of (by decide +kernel)
theorem sh_fo18 {L F : Nat} (h : pm_fo F) : (SH L)[F + 18]? = some (1, 0, 3) := by rcases h with rfl | rfl | rfl <;> exact SH_of (by decide +kernel)
theorem hr_fo0 {F : Nat} (h : pm_fo F) : HR F 0 = 17 := by rcases h with rfl | rfl | rfl <;> exact hr_in (by decide +kernel)
theorem hr_fo1 {F : Nat} (h : pm_fo F) : HR F 1 = F + 1 := by rcases h with rfl | rfl | rfl <;> exact hr_in (by decide +kernel)
theorem hr_fo9 {F : Nat} (h : pm_fo F) : HR F 9 = F + 18 := by rcases h with rfl | rfl | rfl <;> exact hr_in (by decide +kernel)
def ck (q b v : Nat) : Bool := hrT.contains (q, b, v)
def cs (q : Nat) (k : pm_K) : Bool := decide (q ≠ 1 ∧ (SH 0)[q]? = some k)
theorem cs_of {L q : Nat} {k : pm_K} (h : cs q k = true) : (SH L)[q]? = some k := SH_of h
theorem all_lt {n : Nat} {p : Nat → Bool} (h : (List.range n).all p = true) {i : Nat} (hi : i < n) : p i = true := List.all_eq_true.mp h i (List.mem_range.mpr hi)
set_option maxRecDepth 100000 in
theorem hr_sp1 : (List.range 8).all (fun i => ck 51 i (50 + 2 + 2 * i) && ck 70 i (69 + 2 + 2 * i) && ck 89 i (88 + 2 + 2 * i)) = true := by decide +kernel
set_option maxRecDepth 100000 in
theorem hr_sp2 : (List.range 8).all (fun i => ck (50 + 2 + 2 * i) 5 (50 + 2 + 2 * i + 1) && ck (69 + 2 + 2 * i) 5 (69 + 2 + 2 * i + 1) && ck (88 + 2 + 2 * i) 5 (88 + 2 + 2 * i + 1)) = true := by decide +kernel
set_option maxRecDepth 100000 in
theorem sh_sp1 : (List.range 8).all (fun i => cs (50 + 2 + 2 * i) (0, 6, 0) && cs (69 + 2 + 2 * i) (0, 6, 0) && cs (88 + 2 + 2 * i) (0, 6, 0)) = true := by decide +kernel
set_option maxRecDepth 100000 in
theorem sh_sp2 : (List.range 8).all (fun i => cs (50 + 2 + 2 * i + 1) (1, 0, 24) && cs (69 + 2 + 2 * i + 1) (1, 0, 24) && cs (88 + 2 + 2 * i + 1) (1, 0, 24)) = true := by decide +kernel
theorem and3 {a b c : Bool} (h : (a && b && c) = true) : a = true ∧ b = true ∧ c = true := by rw [Bool.and_eq_true, Bool.and_eq_true] at h; exact ⟨h.1.1, h.1.2, h.2⟩
theorem hr_sp {F i : Nat} (h : pm_fo F) (hi : i < 8) : HR (F + 1) i = F + 2 + 2 * i := by
  have h1 := and3 (all_lt hr_sp1 hi)
  rcases h with rfl | rfl | rfl
  · exact hr_in h1.1
  · exact hr_in h1.2.1
  · exact hr_in h1.2.2
def pm_sk (S : Nat) : Prop := ∃ F i, pm_fo F ∧ i < 8 ∧ S = F + 2 + 2 * i
theorem sk_of {F i : Nat} (h : pm_fo F) (hi : i < 8) : pm_sk (F + 2 + 2 * i) := ⟨F, i, h, hi, rfl⟩
theorem sh_sk {L S : Nat} (h : pm_sk S) : (SH L)[S]? = some (0, 6, 0) := by
  obtain ⟨F, i, hF, hi, rfl⟩ := h
  have h1 := and3 (all_lt sh_sp1 hi)
  rcases hF with rfl | rfl | rfl
  · exact cs_of h1.1
  · exact cs_of h1.2.1
  · exact cs_of h1.2.2
theorem sh_sk1 {L S : Nat} (h : pm_sk S) : (SH L)[S + 1]? = some (1, 0, 24) := by
  obtain ⟨F, i, hF, hi, rfl⟩ := h
  have h1 := and3 (all_lt sh_sp2 hi)
  rcases hF with rfl | rfl | rfl
  · exact cs_of h1.1
  · exact cs_of h1.2.1
  · exact cs_of h1.2.2
theorem hr_sk {S : Nat} (h : pm_sk S) : HR S 5 = S + 1 := by
  obtain ⟨F, i, hF, hi, rfl⟩ := h
  have h1 := and3 (all_lt hr_sp2 hi)
  rcases hF with rfl | rfl | rfl
  · exact hr_in h1.1
  · exact hr_in h1.2.1
  · exact hr_in h1.2.2
def pm_st (T : Nat) : Prop := (∃ i, i < 4 ∧ T = 113 + 2 * i) ∨ ∃ i, i < 5 ∧ T = 122 + 3 * i + 1
theorem st_of {i : Nat} (h : i < 4) : pm_st (113 + 2 * i) := Or.inl ⟨i, h, rfl⟩
def pm_su (U : Nat) : Prop := ∃ i, i < 5 ∧ U = 122 + 3 * i
theorem su_of {i : Nat} (h : i < 5) : pm_su (122 + 3 * i) := ⟨i, h, rfl⟩
theorem st_su {U : Nat} (h : pm_su U) : pm_st (U + 1) := by obtain ⟨i, hi, rfl⟩ := h; exact Or.inr ⟨i, hi, rfl⟩
set_option maxRecDepth 100000 in
theorem st_1 : (List.range 4).all (fun i => cs (113 + 2 * i) (0, 4, 0)) = true := by decide +kernel
set_option maxRecDepth 100000 in
theorem st_2 : (List.range 4).all (fun i => cs (113 + 2 * i + 1) (1, 0, 24)) = true := by decide +kernel
set_option maxRecDepth 100000 in
theorem st_3 : (List.range 4).all (fun i => ck (113 + 2 * i) 2 (113 + 2 * i + 1)) = true := by decide +kernel
set_option maxRecDepth 100000 in
theorem st_4 : (List.range 4).all (fun i => ck 112 i (113 + 2 * i)) = true := by decide +kernel
set_option maxRecDepth 100000 in
theorem su_1 : (List.range 5).all (fun i => cs (122 + 3 * i) (0, 5, 0)) = true := by decide +kernel
set_option maxRecDepth 100000 in
theorem su_2 : (List.range 5).all (fun i => cs (122 + 3 * i + 1) (0, 4, 0)) = true := by decide +kernel
set_option maxRecDepth 100000 in
theorem su_3 : (List.range 5).all (fun i => cs (122 + 3 * i + 1 + 1) (1, 0, 24)) = true := by decide +kernel
set_option maxRecDepth 100000 in
theorem su_4 : (List.range 5).all (fun i => ck (122 + 3 * i) 4 (122 + 3 * i + 1)) = true := by decide +kernel
set_option maxRecDepth 100000 in
theorem su_5 : (List.range 5).all (fun i => ck (122 + 3 * i + 1) 2 (122 + 3 * i + 1 + 1)) = true := by decide +kernel
set_option maxRecDepth 100000 in
theorem su_6 : (List.range 5).all (fun i => ck 121 i (122 + 3 * i)) = true := by decide +kernel
theorem sh_st {L T : Nat} (h : pm_st T) : (SH L)[T]? = some (0, 4, 0) := by
  rcases h with ⟨i, hi, rfl⟩ | ⟨i, hi, rfl⟩
  · exact cs_of (all_lt st_1 hi)
  · exact cs_of (all_lt su_2 hi)
theorem sh_st1 {L T : Nat} (h : pm_st T) : (SH L)[T + 1]? = some (1, 0, 24) := by
  rcases h with ⟨i, hi, rfl⟩ | ⟨i, hi, rfl⟩
  · exact cs_of (all_lt st_2 hi)
  · exact cs_of (all_lt su_3 hi)
theorem hr_st {T : Nat} (h : pm_st T) : HR T 2 = T + 1 := by
  rcases h with ⟨i, hi, rfl⟩ | ⟨i, hi, rfl⟩
  · exact hr_in (all_lt st_3 hi)
  · exact hr_in (all_lt su_5 hi)
theorem hr_sh {i : Nat} (h : i < 4) : HR 112 i = 113 + 2 * i := hr_in (all_lt st_4 h)
theorem hr_sl {i : Nat} (h : i < 5) : HR 121 i = 122 + 3 * i := hr_in (all_lt su_6 h)
theorem sh_su {L U : Nat} (h : pm_su U) : (SH L)[U]? = some (0, 5, 0) := by obtain ⟨i, hi, rfl⟩ := h; exact cs_of (all_lt su_1 hi)
theorem hr_su {U : Nat} (h : pm_su U) : HR U 4 = U + 1 := by obtain ⟨i, hi, rfl⟩ := h; exact hr_in (all_lt su_4 hi)
def pm_tx (X : Nat) : Prop := (∃ i, i < 15 ∧ X = 19 + 2 * i) ∨ X = 110
theorem tx_of {i : Nat} (h : i < 15) : pm_tx (19 + 2 * i) := Or.inl ⟨i, h, rfl⟩
theorem tx_lt {X : Nat} (h : pm_tx X) : X < 2147483648 := by rcases h with ⟨i, hi, rfl⟩ | rfl <;> omega
set_option maxRecDepth 100000 in
theorem tx_1 : (List.range 15).all (fun i => cs (19 + 2 * i) (0, 8, 0)) = true := by decide +kernel
set_option maxRecDepth 100000 in
theorem tx_2 : (List.range 15).all (fun i => cs (19 + 2 * i + 1) (1, 0, 96)) = true := by decide +kernel
set_option maxRecDepth 100000 in
theorem tx_3 : (List.range 15).all (fun i => ck (19 + 2 * i) 3 (19 + 2 * i + 1)) = true := by decide +kernel
set_option maxRecDepth 100000 in
theorem tx_4 : (List.range 15).all (fun i => ck 18 i (19 + 2 * i)) = true := by decide +kernel
theorem sh_tx {L X : Nat} (h : pm_tx X) : (SH L)[X]? = some (0, 8, 0) := by
  rcases h with ⟨i, hi, rfl⟩ | rfl
  · exact cs_of (all_lt tx_1 hi)
  · exact SH_of (by decide +kernel)
theorem sh_tx1 {L X : Nat} (h : pm_tx X) : (SH L)[X + 1]? = some (1, 0, 96) := by
  rcases h with ⟨i, hi, rfl⟩ | rfl
  · exact cs_of (all_lt tx_2 hi)
  · exact SH_of (by decide +kernel)
theorem hr_tx {X : Nat} (h : pm_tx X) : HR X 3 = X + 1 := by
  rcases h with ⟨i, hi, rfl⟩ | rfl
  · exact hr_in (all_lt tx_3 hi)
  · exact hr_in (by decide +kernel)
theorem hr_te {i : Nat} (h : i < 15) : HR 18 i = 19 + 2 * i := hr_in (all_lt tx_4 h)
def pm_sr (S : Nat) : Prop := S = 3 ∨ S = 4 ∨ S = 5 ∨ S = 6 ∨ S = 7 ∨ S = 8
theorem sr_lit (S : Nat) (h : S = 3 ∨ S = 4 ∨ S = 5 ∨ S = 6 ∨ S = 7 ∨ S = 8) : pm_sr S := h
def slen (S : Nat) : Nat := [4, 3, 4, 3, 2, 2].getD (S - 3) 0
theorem slen_lt {S : Nat} (h : pm_sr S) : slen S ≤ 2147483648 := by rcases h with rfl | rfl | rfl | rfl | rfl | rfl <;> decide
theorem sh_sr {L S : Nat} (h : pm_sr S) : (SH L)[S]? = some (0, 11, 0) := by rcases h with rfl | rfl | rfl | rfl | rfl | rfl <;> exact SH_of (by decide +kernel)
theorem sh_sr6 {L S : Nat} (h : pm_sr S) : (SH L)[S + 6]? = some (2, 1, slen S) := by rcases h with rfl | rfl | rfl | rfl | rfl | rfl <;> exact SH_of (by decide +kernel)
theorem hr_sr {S : Nat} (h : pm_sr S) : HR S 0 = S + 6 := by rcases h with rfl | rfl | rfl | rfl | rfl | rfl <;> exact hr_in (by decide +kernel)
theorem pm_tn {e : Int32} {k n : Nat} (he : e = nI k) (hk : k < n) (hn : n ≤ 2147483648) : e.toNatClampNeg = k := by subst he; exact nI_clamp (by omega)
theorem pm_tn_le {e : Int32} {k : Nat} (he : e = nI k) (hk : k < 2147483648) : e.toNatClampNeg = k := by subst he; exact nI_clamp hk
theorem pm_tn_tx {e : Int32} {k : Nat} (he : e = nI k) (hk : pm_tx k) : e.toNatClampNeg = k := pm_tn_le he (tx_lt hk)
theorem pm_ao_of {sh : pm_S} {q a n t k : Nat} {e : Int32} (hs : sh[q]? = some (t + 1, a, n)) (hk : k < n) (he : e = nI k) (hn : n ≤ 2147483648) : pm_ao sh q a e := ⟨t, n, hs, by subst he; exact nI_pos (by omega), by rw [pm_tn he hk hn]; exact hk⟩
theorem pm_aw_of {sh : pm_S} {q a n k : Nat} {e : Int32} (hs : sh[q]? = some (1, a, n)) (hk : k < n) (he : e = nI k) (hn : n ≤ 2147483648) : pm_aw sh q a e := ⟨n, hs, by subst he; exact nI_pos (by omega), by rw [pm_tn he hk hn]; exact hk⟩
theorem pm_cpy_of {sh : pm_S} {q d m1 m2 k1 k2 k3 : Nat} {e1 e2 e3 : Int32} (hs : sh[q]? = some (1, 0, m1)) (hd : sh[d]? = some (1, 0, m2)) (h1 : e1 = nI k1) (h2 : e2 = nI k2) (h3 : e3 = nI k3) (l1 : k1 + k3 ≤ m1) (l2 : k2 + k3 ≤ m2) (b1 : m1 < 2147483648) (b2 : m2 < 2147483648) : pm_cpy sh q d e1 e2 e3 := by
  refine ⟨m1, m2, hs, hd, ?_, ?_, ?_, ?_, ?_⟩
  · subst h1; exact nI_pos (by omega)
  · subst h2; exact nI_pos (by omega)
  · subst h3; exact nI_pos (by omega)
  · rw [pm_tn_le h1 (by omega), pm_tn_le h3 (by omega)]; exact l1
  · rw [pm_tn_le h2 (by omega), pm_tn_le h3 (by omega)]; exact l2
theorem pm_cd_t {cd : ClassFile.Cond} {x y : Int32} (h : pm_cb cd x y = true) : pm_cd cd x y := (pm_cb_iff _ _ _).mp h
theorem pm_cd_f {cd : ClassFile.Cond} {x y : Int32} (h : pm_cb cd x y = false) : ¬ pm_cd cd x y := fun z => by rw [(pm_cb_iff _ _ _).mpr z] at h; cases h
theorem pm_sw_t {x k : Int32} {a t : Nat} {l : List (Int32 × Nat)} (h : x = k) : pm_sw x a ((k, t) :: l) = t := by unfold pm_sw; rw [if_pos h]
theorem pm_sw_f {x k : Int32} {a t : Nat} {l : List (Int32 × Nat)} (h : ¬ x = k) : pm_sw x a ((k, t) :: l) = pm_sw x a l := by
  show (if x = k then t else pm_sw x a l) = _
  rw [if_neg h]
