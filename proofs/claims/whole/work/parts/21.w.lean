/-! printed by program (wip/whole/vcg.py): what the law needs, at the head of its loop -/
set_option maxHeartbeats 4000000 in
set_option maxRecDepth 20000 in
theorem v_Law_law_18 {L d : Nat} (hL : L ≤ 3072)  {y3 : Int32} {hi : pm_B} {Q : pm_Q} (h : ((((nI L) - 6) < y3) → Q (some (.inl 1)) hi) ∧ ((¬ (((nI L) - 6) < y3)) → ∃ k2 : Nat, k2 < L ∧ y3 = nI k2 ∧ (((((hi 1 k2) &&& 63) = 0) → ∃ k4 : Nat, k4 < L ∧ (y3 + 1) = nI k4 ∧ (∃ k5 : Nat, k5 < L ∧ (y3 + 2) = nI k5 ∧ (∃ k6 : Nat, k6 < L ∧ (y3 + 3) = nI k6 ∧ (pm_C pm_g (SH L) HR (d) m_E_speaker [.inr 16, .inl (hi 1 k4), .inl (hi 1 k5), .inl (hi 1 k6)] hi (fun v hi7 => ∃ x8 : Int32, v = some (.inl x8) ∧ (∃ k9 : Nat, k9 < L ∧ (y3 + 1) = nI k9 ∧ (∃ k10 : Nat, k10 < L ∧ (y3 + 2) = nI k10 ∧ (∃ k11 : Nat, k11 < L ∧ (y3 + 3) = nI k11 ∧ (pm_C pm_g (SH L) HR (d) m_M_speaker [.inr 141, .inl (hi7 1 k9), .inl (hi7 1 k10), .inl (hi7 1 k11)] hi7 (fun v hi12 => ∃ x13 : Int32, v = some (.inl x13) ∧ (((x8 = x13) → pm_W pm_g (SH L) HR (d) pm_t246 18 [some (.inr 1), some (.inr 16), some (.inr 141), some (.inl (y3 + 6))] [] hi12 Q) ∧ ((¬ (x8 = x13)) → Q (some (.inl 0)) hi12)))))))))))) ∧ ((¬ ((hi 1 k2) &&& 63) = 0) → ((((hi 1 k2) &&& 63) = 1) → ∃ k16 : Nat, k16 < L ∧ (y3 + 1) = nI k16 ∧ (∃ k17 : Nat, k17 < L ∧ (y3 + 2) = nI k17 ∧ (pm_C pm_g (SH L) HR (d) m_E_told [.inr 16, .inl (hi 1 k16), .inl (hi 1 k17)] hi (fun v hi18 => ∃ x19 : Int32, v = some (.inl x19) ∧ (∃ k20 : Nat, k20 < L ∧ (y3 + 1) = nI k20 ∧ (∃ k21 : Nat, k21 < L ∧ (y3 + 2) = nI k21 ∧ (pm_C pm_g (SH L) HR (d) m_M_told [.inr 141, .inl (hi18 1 k20), .inl (hi18 1 k21)] hi18 (fun v hi22 => ∃ x23 : Int32, v = some (.inl x23) ∧ (((x19 = x23) → pm_W pm_g (SH L) HR (d) pm_t246 18 [some (.inr 1), some (.inr 16), some (.inr 141), some (.inl (y3 + 6))] [] hi22 Q) ∧ ((¬ (x19 = x23)) → Q (some (.inl 0)) hi22)))))))))) ∧ ((¬ ((hi 1 k2) &&& 63) = 1) → ((((hi 1 k2) &&& 63) = 2) → ∃ k26 : Nat, k26 < L ∧ (y3 + 1) = nI k26 ∧ (∃ k27 : Nat, k27 < L ∧ (y3 + 2) = nI k27 ∧ (pm_C pm_g (SH L) HR (d) m_E_heard [.inr 16, .inl (hi 1 k26), .inl (hi 1 k27)] hi (fun v hi28 => ∃ x29 : Int32, v = some (.inl x29) ∧ (∃ k30 : Nat, k30 < L ∧ (y3 + 1) = nI k30 ∧ (∃ k31 : Nat, k31 < L ∧ (y3 + 2) = nI k31 ∧ (pm_C pm_g (SH L) HR (d) m_M_heard [.inr 141, .inl (hi28 1 k30), .inl (hi28 1 k31)] hi28 (fun v hi32 => ∃ x33 : Int32, v = some (.inl x33) ∧ (((x29 = x33) → pm_W pm_g (SH L) HR (d) pm_t246 18 [some (.inr 1), some (.inr 16), some (.inr 141), some (.inl (y3 + 6))] [] hi32 Q) ∧ ((¬ (x29 = x33)) → Q (some (.inl 0)) hi32)))))))))) ∧ ((¬ ((hi 1 k2) &&& 63) = 2) → ((((hi 1 k2) &&& 63) = 3) → ∃ k36 : Nat, k36 < L ∧ (y3 + 1) = nI k36 ∧ (∃ k37 : Nat, k37 < L ∧ (y3 + 2) = nI k37 ∧ (pm_C pm_g (SH L) HR (d) m_E_as [.inr 16, .inl (hi 1 k36), .inl (hi 1 k37)] hi (fun v hi38 => ∃ x39 : Int32, v = some (.inl x39) ∧ (∃ k40 : Nat, k40 < L ∧ (y3 + 1) = nI k40 ∧ (∃ k41 : Nat, k41 < L ∧ (y3 + 2) = nI k41 ∧ (pm_C pm_g (SH L) HR (d) m_M_as [.inr 141, .inl (hi38 1 k40), .inl (hi38 1 k41)] hi38 (fun v hi42 => ∃ x43 : Int32, v = some (.inl x43) ∧ (((x39 = x43) → pm_W pm_g (SH L) HR (d) pm_t246 18 [some (.inr 1), some (.inr 16), some (.inr 141), some (.inl (y3 + 6))] [] hi42 Q) ∧ ((¬ (x39 = x43)) → Q (some (.inl 0)) hi42)))))))))) ∧ ((¬ ((hi 1 k2) &&& 63) = 3) → ((((hi 1 k2) &&& 63) = 4) → ∃ k46 : Nat, k46 < L ∧ (y3 + 1) = nI k46 ∧ (∃ k47 : Nat, k47 < L ∧ (y3 + 2) = nI k47 ∧ (pm_C pm_g (SH L) HR (d) m_E_turns [.inr 16, .inl (hi 1 k46), .inl (hi 1 k47)] hi (fun v hi48 => ∃ x49 : Int32, v = some (.inl x49) ∧ (∃ k50 : Nat, k50 < L ∧ (y3 + 1) = nI k50 ∧ (∃ k51 : Nat, k51 < L ∧ (y3 + 2) = nI k51 ∧ (pm_C pm_g (SH L) HR (d) m_M_turns [.inr 141, .inl (hi48 1 k50), .inl (hi48 1 k51)] hi48 (fun v hi52 => ∃ x53 : Int32, v = some (.inl x53) ∧ (((x49 = x53) → pm_W pm_g (SH L) HR (d) pm_t246 18 [some (.inr 1), some (.inr 16), some (.inr 141), some (.inl (y3 + 6))] [] hi52 Q) ∧ ((¬ (x49 = x53)) → Q (some (.inl 0)) hi52)))))))))) ∧ ((¬ ((hi 1 k2) &&& 63) = 4) → ((((hi 1 k2) &&& 63) = 5) → ∃ k56 : Nat, k56 < L ∧ (y3 + 1) = nI k56 ∧ (∃ k57 : Nat, k57 < L ∧ (y3 + 2) = nI k57 ∧ (∃ k58 : Nat, k58 < L ∧ (y3 + 3) = nI k58 ∧ (pm_C pm_g (SH L) HR (d) m_E_set [.inr 16, .inl (hi 1 k56), .inl (hi 1 k57), .inl (hi 1 k58)] hi (fun v hi59 => ∃ x60 : Int32, v = some (.inl x60) ∧ (∃ k61 : Nat, k61 < L ∧ (y3 + 1) = nI k61 ∧ (∃ k62 : Nat, k62 < L ∧ (y3 + 2) = nI k62 ∧ (∃ k63 : Nat, k63 < L ∧ (y3 + 3) = nI k63 ∧ (pm_C pm_g (SH L) HR (d) m_M_set [.inr 141, .inl (hi59 1 k61), .inl (hi59 1 k62), .inl (hi59 1 k63)] hi59 (fun v hi64 => ∃ x65 : Int32, v = some (.inl x65) ∧ (((x60 = x65) → pm_W pm_g (SH L) HR (d) pm_t246 18 [some (.inr 1), some (.inr 16), some (.inr 141), some (.inl (y3 + 6))] [] hi64 Q) ∧ ((¬ (x60 = x65)) → Q (some (.inl 0)) hi64)))))))))))) ∧ ((¬ ((hi 1 k2) &&& 63) = 5) → ((((hi 1 k2) &&& 63) = 6) → ∃ k68 : Nat, k68 < L ∧ (y3 + 1) = nI k68 ∧ (∃ k69 : Nat, k69 < L ∧ (y3 + 2) = nI k69 ∧ (∃ k70 : Nat, k70 < L ∧ (y3 + 3) = nI k70 ∧ (∃ k71 : Nat, k71 < L ∧ (y3 + 4) = nI k71 ∧ (pm_C pm_g (SH L) HR (d) m_E_speaks [.inr 16, .inl (hi 1 k68), .inl (hi 1 k69), .inl (hi 1 k70), .inl (hi 1 k71)] hi (fun v hi72 => ∃ x73 : Int32, v = some (.inl x73) ∧ (∃ k74 : Nat, k74 < L ∧ (y3 + 1) = nI k74 ∧ (∃ k75 : Nat, k75 < L ∧ (y3 + 2) = nI k75 ∧ (∃ k76 : Nat, k76 < L ∧ (y3 + 3) = nI k76 ∧ (∃ k77 : Nat, k77 < L ∧ (y3 + 4) = nI k77 ∧ (pm_C pm_g (SH L) HR (d) m_M_speaks [.inr 141, .inl (hi72 1 k74), .inl (hi72 1 k75), .inl (hi72 1 k76), .inl (hi72 1 k77)] hi72 (fun v hi78 => ∃ x79 : Int32, v = some (.inl x79) ∧ (((x73 = x79) → pm_W pm_g (SH L) HR (d) pm_t246 18 [some (.inr 1), some (.inr 16), some (.inr 141), some (.inl (y3 + 6))] [] hi78 Q) ∧ ((¬ (x73 = x79)) → Q (some (.inl 0)) hi78)))))))))))))) ∧ ((¬ ((hi 1 k2) &&& 63) = 6) → ((((hi 1 k2) &&& 63) = 7) → ∃ k82 : Nat, k82 < L ∧ (y3 + 1) = nI k82 ∧ (∃ k83 : Nat, k83 < L ∧ (y3 + 2) = nI k83 ∧ (∃ k84 : Nat, k84 < L ∧ (y3 + 3) = nI k84 ∧ (pm_C pm_g (SH L) HR (d) m_E_says [.inr 16, .inl (hi 1 k82), .inl (hi 1 k83), .inl (hi 1 k84)] hi (fun v hi85 => ∃ x86 : Int32, v = some (.inl x86) ∧ (∃ k87 : Nat, k87 < L ∧ (y3 + 1) = nI k87 ∧ (∃ k88 : Nat, k88 < L ∧ (y3 + 2) = nI k88 ∧ (∃ k89 : Nat, k89 < L ∧ (y3 + 3) = nI k89 ∧ (pm_C pm_g (SH L) HR (d) m_M_says [.inr 141, .inl (hi85 1 k87), .inl (hi85 1 k88), .inl (hi85 1 k89)] hi85 (fun v hi90 => ∃ x91 : Int32, v = some (.inl x91) ∧ (((x86 = x91) → pm_W pm_g (SH L) HR (d) pm_t246 18 [some (.inr 1), some (.inr 16), some (.inr 141), some (.inl (y3 + 6))] [] hi90 Q) ∧ ((¬ (x86 = x91)) → Q (some (.inl 0)) hi90)))))))))))) ∧ ((¬ ((hi 1 k2) &&& 63) = 7) → ((((hi 1 k2) &&& 63) = 8) → ∃ k94 : Nat, k94 < L ∧ (y3 + 1) = nI k94 ∧ (pm_C pm_g (SH L) HR (d) m_E_forgets [.inr 16, .inl (hi 1 k94)] hi (fun v hi95 => ∃ x96 : Int32, v = some (.inl x96) ∧ (∃ k97 : Nat, k97 < L ∧ (y3 + 1) = nI k97 ∧ (pm_C pm_g (SH L) HR (d) m_M_forgets [.inr 141, .inl (hi95 1 k97)] hi95 (fun v hi98 => ∃ x99 : Int32, v = some (.inl x99) ∧ (((x96 = x99) → pm_W pm_g (SH L) HR (d) pm_t246 18 [some (.inr 1), some (.inr 16), some (.inr 141), some (.inl (y3 + 6))] [] hi98 Q) ∧ ((¬ (x96 = x99)) → Q (some (.inl 0)) hi98)))))))) ∧ ((¬ ((hi 1 k2) &&& 63) = 8) → ((((hi 1 k2) &&& 63) = 9) → ∃ k102 : Nat, k102 < L ∧ (y3 + 1) = nI k102 ∧ (pm_C pm_g (SH L) HR (d) m_E_talk [.inr 16, .inl (hi 1 k102)] hi (fun v hi103 => ∃ x104 : Int32, v = some (.inl x104) ∧ (∃ k105 : Nat, k105 < L ∧ (y3 + 1) = nI k105 ∧ (pm_C pm_g (SH L) HR (d) m_M_talk [.inr 141, .inl (hi103 1 k105)] hi103 (fun v hi106 => ∃ x107 : Int32, v = some (.inl x107) ∧ (((x104 = x107) → pm_W pm_g (SH L) HR (d) pm_t246 18 [some (.inr 1), some (.inr 16), some (.inr 141), some (.inl (y3 + 6))] [] hi106 Q) ∧ ((¬ (x104 = x107)) → Q (some (.inl 0)) hi106)))))))) ∧ ((¬ ((hi 1 k2) &&& 63) = 9) → ((((hi 1 k2) &&& 63) = 10) → ∃ k110 : Nat, k110 < L ∧ (y3 + 1) = nI k110 ∧ (pm_C pm_g (SH L) HR (d) m_E_deal [.inr 16, .inl (hi 1 k110)] hi (fun v hi111 => ∃ x112 : Int32, v = some (.inl x112) ∧ (∃ k113 : Nat, k113 < L ∧ (y3 + 1) = nI k113 ∧ (pm_C pm_g (SH L) HR (d) m_M_deal [.inr 141, .inl (hi111 1 k113)] hi111 (fun v hi114 => ∃ x115 : Int32, v = some (.inl x115) ∧ (((x112 = x115) → pm_W pm_g (SH L) HR (d) pm_t246 18 [some (.inr 1), some (.inr 16), some (.inr 141), some (.inl (y3 + 6))] [] hi114 Q) ∧ ((¬ (x112 = x115)) → Q (some (.inl 0)) hi114)))))))) ∧ ((¬ ((hi 1 k2) &&& 63) = 10) → ((((hi 1 k2) &&& 63) = 11) → ∃ k118 : Nat, k118 < L ∧ (y3 + 1) = nI k118 ∧ (pm_C pm_g (SH L) HR (d) m_E_seed [.inr 16, .inl (hi 1 k118)] hi (fun v hi119 => ∃ x120 : Int32, v = some (.inl x120) ∧ (∃ k121 : Nat, k121 < L ∧ (y3 + 1) = nI k121 ∧ (pm_C pm_g (SH L) HR (d) m_M_seed [.inr 141, .inl (hi119 1 k121)] hi119 (fun v hi122 => ∃ x123 : Int32, v = some (.inl x123) ∧ (((x120 = x123) → pm_W pm_g (SH L) HR (d) pm_t246 18 [some (.inr 1), some (.inr 16), some (.inr 141), some (.inl (y3 + 6))] [] hi122 Q) ∧ ((¬ (x120 = x123)) → Q (some (.inl 0)) hi122)))))))) ∧ ((¬ ((hi 1 k2) &&& 63) = 11) → ((((hi 1 k2) &&& 63) = 12) → ∃ k126 : Nat, k126 < L ∧ (y3 + 1) = nI k126 ∧ (pm_C pm_g (SH L) HR (d) m_E_days [.inr 16, .inl (hi 1 k126)] hi (fun v hi127 => ∃ x128 : Int32, v = some (.inl x128) ∧ (∃ k129 : Nat, k129 < L ∧ (y3 + 1) = nI k129 ∧ (pm_C pm_g (SH L) HR (d) m_M_days [.inr 141, .inl (hi127 1 k129)] hi127 (fun v hi130 => ∃ x131 : Int32, v = some (.inl x131) ∧ (((x128 = x131) → pm_W pm_g (SH L) HR (d) pm_t246 18 [some (.inr 1), some (.inr 16), some (.inr 141), some (.inl (y3 + 6))] [] hi130 Q) ∧ ((¬ (x128 = x131)) → Q (some (.inl 0)) hi130)))))))) ∧ ((¬ ((hi 1 k2) &&& 63) = 12) → ((((hi 1 k2) &&& 63) = 13) → ∃ k134 : Nat, k134 < L ∧ (y3 + 1) = nI k134 ∧ (pm_C pm_g (SH L) HR (d) m_E_folk [.inr 16, .inl (hi 1 k134)] hi (fun v hi135 => ∃ x136 : Int32, v = some (.inl x136) ∧ (∃ k137 : Nat, k137 < L ∧ (y3 + 1) = nI k137 ∧ (pm_C pm_g (SH L) HR (d) m_M_folk [.inr 141, .inl (hi135 1 k137)] hi135 (fun v hi138 => ∃ x139 : Int32, v = some (.inl x139) ∧ (((x136 = x139) → pm_W pm_g (SH L) HR (d) pm_t246 18 [some (.inr 1), some (.inr 16), some (.inr 141), some (.inl (y3 + 6))] [] hi138 Q) ∧ ((¬ (x136 = x139)) → Q (some (.inl 0)) hi138)))))))) ∧ ((¬ ((hi 1 k2) &&& 63) = 13) → ((((hi 1 k2) &&& 63) = 14) → ∃ k142 : Nat, k142 < L ∧ (y3 + 1) = nI k142 ∧ (∃ k143 : Nat, k143 < L ∧ (y3 + 2) = nI k143 ∧ (pm_C pm_g (SH L) HR (d) m_E_breaths [.inr 16, .inl (hi 1 k142), .inl (hi 1 k143)] hi (fun v hi144 => ∃ x145 : Int32, v = some (.inl x145) ∧ (∃ k146 : Nat, k146 < L ∧ (y3 + 1) = nI k146 ∧ (∃ k147 : Nat, k147 < L ∧ (y3 + 2) = nI k147 ∧ (pm_C pm_g (SH L) HR (d) m_M_breaths [.inr 141, .inl (hi144 1 k146), .inl (hi144 1 k147)] hi144 (fun v hi148 => ∃ x149 : Int32, v = some (.inl x149) ∧ (((x145 = x149) → pm_W pm_g (SH L) HR (d) pm_t246 18 [some (.inr 1), some (.inr 16), some (.inr 141), some (.inl (y3 + 6))] [] hi148 Q) ∧ ((¬ (x145 = x149)) → Q (some (.inl 0)) hi148)))))))))) ∧ ((¬ ((hi 1 k2) &&& 63) = 14) → ((((hi 1 k2) &&& 63) = 15) → ∃ k152 : Nat, k152 < L ∧ (y3 + 1) = nI k152 ∧ (pm_C pm_g (SH L) HR (d) m_E_wanting [.inr 16, .inl (hi 1 k152)] hi (fun v hi153 => ∃ x154 : Int32, v = some (.inl x154) ∧ (∃ k155 : Nat, k155 < L ∧ (y3 + 1) = nI k155 ∧ (pm_C pm_g (SH L) HR (d) m_M_wanting [.inr 141, .inl (hi153 1 k155)] hi153 (fun v hi156 => ∃ x157 : Int32, v = some (.inl x157) ∧ (((x154 = x157) → pm_W pm_g (SH L) HR (d) pm_t246 18 [some (.inr 1), some (.inr 16), some (.inr 141), some (.inl (y3 + 6))] [] hi156 Q) ∧ ((¬ (x154 = x157)) → Q (some (.inl 0)) hi156)))))))) ∧ ((¬ ((hi 1 k2) &&& 63) = 15) → ((((hi 1 k2) &&& 63) = 16) → ∃ k160 : Nat, k160 < L ∧ (y3 + 1) = nI k160 ∧ (pm_C pm_g (SH L) HR (d) m_E_who [.inr 16, .inl (hi 1 k160)] hi (fun v hi161 => ∃ x162 : Int32, v = some (.inl x162) ∧ (∃ k163 : Nat, k163 < L ∧ (y3 + 1) = nI k163 ∧ (pm_C pm_g (SH L) HR (d) m_M_who [.inr 141, .inl (hi161 1 k163)] hi161 (fun v hi164 => ∃ x165 : Int32, v = some (.inl x165) ∧ (((x162 = x165) → pm_W pm_g (SH L) HR (d) pm_t246 18 [some (.inr 1), some (.inr 16), some (.inr 141), some (.inl (y3 + 6))] [] hi164 Q) ∧ ((¬ (x162 = x165)) → Q (some (.inl 0)) hi164)))))))) ∧ ((¬ ((hi 1 k2) &&& 63) = 16) → ((((hi 1 k2) &&& 63) = 17) → ∃ k168 : Nat, k168 < L ∧ (y3 + 1) = nI k168 ∧ (∃ k169 : Nat, k169 < L ∧ (y3 + 2) = nI k169 ∧ (∃ k170 : Nat, k170 < L ∧ (y3 + 3) = nI k170 ∧ (pm_C pm_g (SH L) HR (d) m_E_teacher [.inr 16, .inl (hi 1 k168), .inl (hi 1 k169), .inl (hi 1 k170)] hi (fun v hi171 => ∃ x172 : Int32, v = some (.inl x172) ∧ (∃ k173 : Nat, k173 < L ∧ (y3 + 1) = nI k173 ∧ (∃ k174 : Nat, k174 < L ∧ (y3 + 2) = nI k174 ∧ (∃ k175 : Nat, k175 < L ∧ (y3 + 3) = nI k175 ∧ (pm_C pm_g (SH L) HR (d) m_M_teacher [.inr 141, .inl (hi171 1 k173), .inl (hi171 1 k174), .inl (hi171 1 k175)] hi171 (fun v hi176 => ∃ x177 : Int32, v = some (.inl x177) ∧ (((x172 = x177) → pm_W pm_g (SH L) HR (d) pm_t246 18 [some (.inr 1), some (.inr 16), some (.inr 141), some (.inl (y3 + 6))] [] hi176 Q) ∧ ((¬ (x172 = x177)) → Q (some (.inl 0)) hi176)))))))))))) ∧ ((¬ ((hi 1 k2) &&& 63) = 17) → ((((hi 1 k2) &&& 63) = 18) → ∃ k180 : Nat, k180 < L ∧ (y3 + 1) = nI k180 ∧ (∃ k181 : Nat, k181 < L ∧ (y3 + 2) = nI k181 ∧ (pm_C pm_g (SH L) HR (d) m_E_behind [.inr 16, .inl (hi 1 k180), .inl (hi 1 k181)] hi (fun v hi182 => ∃ x183 : Int32, v = some (.inl x183) ∧ (∃ k184 : Nat, k184 < L ∧ (y3 + 1) = nI k184 ∧ (∃ k185 : Nat, k185 < L ∧ (y3 + 2) = nI k185 ∧ (pm_C pm_g (SH L) HR (d) m_M_behind [.inr 141, .inl (hi182 1 k184), .inl (hi182 1 k185)] hi182 (fun v hi186 => ∃ x187 : Int32, v = some (.inl x187) ∧ (((x183 = x187) → pm_W pm_g (SH L) HR (d) pm_t246 18 [some (.inr 1), some (.inr 16), some (.inr 141), some (.inl (y3 + 6))] [] hi186 Q) ∧ ((¬ (x183 = x187)) → Q (some (.inl 0)) hi186)))))))))) ∧ ((¬ ((hi 1 k2) &&& 63) = 18) → ((((hi 1 k2) &&& 63) = 19) → ∃ k190 : Nat, k190 < L ∧ (y3 + 1) = nI k190 ∧ (pm_C pm_g (SH L) HR (d) m_E_spreads [.inr 16, .inl (hi 1 k190)] hi (fun v hi191 => ∃ x192 : Int32, v = some (.inl x192) ∧ (∃ k193 : Nat, k193 < L ∧ (y3 + 1) = nI k193 ∧ (pm_C pm_g (SH L) HR (d) m_M_spreads [.inr 141, .inl (hi191 1 k193)] hi191 (fun v hi194 => ∃ x195 : Int32, v = some (.inl x195) ∧ (((x192 = x195) → pm_W pm_g (SH L) HR (d) pm_t246 18 [some (.inr 1), some (.inr 16), some (.inr 141), some (.inl (y3 + 6))] [] hi194 Q) ∧ ((¬ (x192 = x195)) → Q (some (.inl 0)) hi194)))))))) ∧ ((¬ ((hi 1 k2) &&& 63) = 19) → ((((hi 1 k2) &&& 63) = 20) → ∃ k198 : Nat, k198 < L ∧ (y3 + 1) = nI k198 ∧ (∃ k199 : Nat, k199 < L ∧ (y3 + 2) = nI k199 ∧ (pm_C pm_g (SH L) HR (d) m_E_learns [.inr 16, .inl (hi 1 k198), .inl (hi 1 k199)] hi (fun v hi200 => ∃ x201 : Int32, v = some (.inl x201) ∧ (∃ k202 : Nat, k202 < L ∧ (y3 + 1) = nI k202 ∧ (∃ k203 : Nat, k203 < L ∧ (y3 + 2) = nI k203 ∧ (pm_C pm_g (SH L) HR (d) m_M_learns [.inr 141, .inl (hi200 1 k202), .inl (hi200 1 k203)] hi200 (fun v hi204 => ∃ x205 : Int32, v = some (.inl x205) ∧ (((x201 = x205) → pm_W pm_g (SH L) HR (d) pm_t246 18 [some (.inr 1), some (.inr 16), some (.inr 141), some (.inl (y3 + 6))] [] hi204 Q) ∧ ((¬ (x201 = x205)) → Q (some (.inl 0)) hi204)))))))))) ∧ ((¬ ((hi 1 k2) &&& 63) = 20) → ((((hi 1 k2) &&& 63) = 21) → ∃ k208 : Nat, k208 < L ∧ (y3 + 1) = nI k208 ∧ (∃ k209 : Nat, k209 < L ∧ (y3 + 2) = nI k209 ∧ (pm_C pm_g (SH L) HR (d) m_E_quiet [.inr 16, .inl (hi 1 k208), .inl (hi 1 k209)] hi (fun v hi210 => ∃ x211 : Int32, v = some (.inl x211) ∧ (∃ k212 : Nat, k212 < L ∧ (y3 + 1) = nI k212 ∧ (∃ k213 : Nat, k213 < L ∧ (y3 + 2) = nI k213 ∧ (pm_C pm_g (SH L) HR (d) m_M_quiet [.inr 141, .inl (hi210 1 k212), .inl (hi210 1 k213)] hi210 (fun v hi214 => ∃ x215 : Int32, v = some (.inl x215) ∧ (((x211 = x215) → pm_W pm_g (SH L) HR (d) pm_t246 18 [some (.inr 1), some (.inr 16), some (.inr 141), some (.inl (y3 + 6))] [] hi214 Q) ∧ ((¬ (x211 = x215)) → Q (some (.inl 0)) hi214)))))))))) ∧ ((¬ ((hi 1 k2) &&& 63) = 21) → ((((hi 1 k2) &&& 63) = 22) → ∃ k218 : Nat, k218 < L ∧ (y3 + 1) = nI k218 ∧ (∃ k219 : Nat, k219 < L ∧ (y3 + 2) = nI k219 ∧ (∃ k220 : Nat, k220 < L ∧ (y3 + 3) = nI k220 ∧ (pm_C pm_g (SH L) HR (d) m_E_ears [.inr 16, .inl (hi 1 k218), .inl (hi 1 k219), .inl (hi 1 k220)] hi (fun v hi221 => ∃ x222 : Int32, v = some (.inl x222) ∧ (∃ k223 : Nat, k223 < L ∧ (y3 + 1) = nI k223 ∧ (∃ k224 : Nat, k224 < L ∧ (y3 + 2) = nI k224 ∧ (∃ k225 : Nat, k225 < L ∧ (y3 + 3) = nI k225 ∧ (pm_C pm_g (SH L) HR (d) m_M_ears [.inr 141, .inl (hi221 1 k223), .inl (hi221 1 k224), .inl (hi221 1 k225)] hi221 (fun v hi226 => ∃ x227 : Int32, v = some (.inl x227) ∧ (((x222 = x227) → pm_W pm_g (SH L) HR (d) pm_t246 18 [some (.inr 1), some (.inr 16), some (.inr 141), some (.inl (y3 + 6))] [] hi226 Q) ∧ ((¬ (x222 = x227)) → Q (some (.inl 0)) hi226)))))))))))) ∧ ((¬ ((hi 1 k2) &&& 63) = 22) → ((((hi 1 k2) &&& 63) = 23) → pm_C pm_g (SH L) HR (d) m_E_fee [.inr 16] hi (fun v hi230 => ∃ x231 : Int32, v = some (.inl x231) ∧ (pm_C pm_g (SH L) HR (d) m_M_fee [.inr 141] hi230 (fun v hi232 => ∃ x233 : Int32, v = some (.inl x233) ∧ (((x231 = x233) → pm_W pm_g (SH L) HR (d) pm_t246 18 [some (.inr 1), some (.inr 16), some (.inr 141), some (.inl (y3 + 6))] [] hi232 Q) ∧ ((¬ (x231 = x233)) → Q (some (.inl 0)) hi232)))))) ∧ ((¬ ((hi 1 k2) &&& 63) = 23) → ((((hi 1 k2) &&& 63) = 24) → ∃ k236 : Nat, k236 < L ∧ (y3 + 1) = nI k236 ∧ (pm_C pm_g (SH L) HR (d) m_E_fine [.inr 16, .inl (hi 1 k236)] hi (fun v hi237 => ∃ x238 : Int32, v = some (.inl x238) ∧ (∃ k239 : Nat, k239 < L ∧ (y3 + 1) = nI k239 ∧ (pm_C pm_g (SH L) HR (d) m_M_fine [.inr 141, .inl (hi237 1 k239)] hi237 (fun v hi240 => ∃ x241 : Int32, v = some (.inl x241) ∧ (((x238 = x241) → pm_W pm_g (SH L) HR (d) pm_t246 18 [some (.inr 1), some (.inr 16), some (.inr 141), some (.inl (y3 + 6))] [] hi240 Q) ∧ ((¬ (x238 = x241)) → Q (some (.inl 0)) hi240)))))))) ∧ ((¬ ((hi 1 k2) &&& 63) = 24) → ((((hi 1 k2) &&& 63) = 25) → ∃ k244 : Nat, k244 < L ∧ (y3 + 1) = nI k244 ∧ (∃ k245 : Nat, k245 < L ∧ (y3 + 2) = nI k245 ∧ (∃ k246 : Nat, k246 < L ∧ (y3 + 3) = nI k246 ∧ (pm_C pm_g (SH L) HR (d) m_E_feed [.inr 16, .inl (hi 1 k244), .inl (hi 1 k245), .inl (hi 1 k246)] hi (fun v hi247 => ∃ x248 : Int32, v = some (.inl x248) ∧ (∃ k249 : Nat, k249 < L ∧ (y3 + 1) = nI k249 ∧ (∃ k250 : Nat, k250 < L ∧ (y3 + 2) = nI k250 ∧ (∃ k251 : Nat, k251 < L ∧ (y3 + 3) = nI k251 ∧ (pm_C pm_g (SH L) HR (d) m_M_feed [.inr 141, .inl (hi247 1 k249), .inl (hi247 1 k250), .inl (hi247 1 k251)] hi247 (fun v hi252 => ∃ x253 : Int32, v = some (.inl x253) ∧ (((x248 = x253) → pm_W pm_g (SH L) HR (d) pm_t246 18 [some (.inr 1), some (.inr 16), some (.inr 141), some (.inl (y3 + 6))] [] hi252 Q) ∧ ((¬ (x248 = x253)) → Q (some (.inl 0)) hi252)))))))))))) ∧ ((¬ ((hi 1 k2) &&& 63) = 25) → ((((hi 1 k2) &&& 63) = 26) → ∃ k256 : Nat, k256 < L ∧ (y3 + 1) = nI k256 ∧ (pm_C pm_g (SH L) HR (d) m_E_trim [.inr 16, .inl (hi 1 k256)] hi (fun v hi257 => ∃ x258 : Int32, v = some (.inl x258) ∧ (∃ k259 : Nat, k259 < L ∧ (y3 + 1) = nI k259 ∧ (pm_C pm_g (SH L) HR (d) m_M_trim [.inr 141, .inl (hi257 1 k259)] hi257 (fun v hi260 => ∃ x261 : Int32, v = some (.inl x261) ∧ (((x258 = x261) → pm_W pm_g (SH L) HR (d) pm_t246 18 [some (.inr 1), some (.inr 16), some (.inr 141), some (.inl (y3 + 6))] [] hi260 Q) ∧ ((¬ (x258 = x261)) → Q (some (.inl 0)) hi260)))))))) ∧ ((¬ ((hi 1 k2) &&& 63) = 26) → ((((hi 1 k2) &&& 63) = 27) → pm_C pm_g (SH L) HR (d) m_E_text [.inr 16] hi (fun v hi264 => ∃ x265 : Int32, v = some (.inl x265) ∧ (pm_C pm_g (SH L) HR (d) m_M_text [.inr 141] hi264 (fun v hi266 => ∃ x267 : Int32, v = some (.inl x267) ∧ (((x265 = x267) → pm_W pm_g (SH L) HR (d) pm_t246 18 [some (.inr 1), some (.inr 16), some (.inr 141), some (.inl (y3 + 6))] [] hi266 Q) ∧ ((¬ (x265 = x267)) → Q (some (.inl 0)) hi266)))))) ∧ ((¬ ((hi 1 k2) &&& 63) = 27) → ((((hi 1 k2) &&& 63) = 28) → ∃ k270 : Nat, k270 < L ∧ (y3 + 1) = nI k270 ∧ (∃ k271 : Nat, k271 < L ∧ (y3 + 2) = nI k271 ∧ (pm_C pm_g (SH L) HR (d) m_E_textTold [.inr 16, .inl (hi 1 k270), .inl (hi 1 k271)] hi (fun v hi272 => ∃ x273 : Int32, v = some (.inl x273) ∧ (∃ k274 : Nat, k274 < L ∧ (y3 + 1) = nI k274 ∧ (∃ k275 : Nat, k275 < L ∧ (y3 + 2) = nI k275 ∧ (pm_C pm_g (SH L) HR (d) m_M_textTold [.inr 141, .inl (hi272 1 k274), .inl (hi272 1 k275)] hi272 (fun v hi276 => ∃ x277 : Int32, v = some (.inl x277) ∧ (((x273 = x277) → pm_W pm_g (SH L) HR (d) pm_t246 18 [some (.inr 1), some (.inr 16), some (.inr 141), some (.inl (y3 + 6))] [] hi276 Q) ∧ ((¬ (x273 = x277)) → Q (some (.inl 0)) hi276)))))))))) ∧ ((¬ ((hi 1 k2) &&& 63) = 28) → ((((hi 1 k2) &&& 63) = 29) → ∃ k280 : Nat, k280 < L ∧ (y3 + 1) = nI k280 ∧ (pm_C pm_g (SH L) HR (d) m_E_why [.inr 16, .inl (hi 1 k280)] hi (fun v hi281 => ∃ x282 : Int32, v = some (.inl x282) ∧ (∃ k283 : Nat, k283 < L ∧ (y3 + 1) = nI k283 ∧ (pm_C pm_g (SH L) HR (d) m_M_why [.inr 141, .inl (hi281 1 k283)] hi281 (fun v hi284 => ∃ x285 : Int32, v = some (.inl x285) ∧ (((x282 = x285) → pm_W pm_g (SH L) HR (d) pm_t246 18 [some (.inr 1), some (.inr 16), some (.inr 141), some (.inl (y3 + 6))] [] hi284 Q) ∧ ((¬ (x282 = x285)) → Q (some (.inl 0)) hi284)))))))) ∧ ((¬ ((hi 1 k2) &&& 63) = 29) → ((((hi 1 k2) &&& 63) = 30) → ∃ k288 : Nat, k288 < L ∧ (y3 + 1) = nI k288 ∧ (∃ k289 : Nat, k289 < L ∧ (y3 + 2) = nI k289 ∧ (∃ k290 : Nat, k290 < L ∧ (y3 + 3) = nI k290 ∧ (pm_C pm_g (SH L) HR (d) m_E_sheet [.inr 16, .inl (hi 1 k288), .inl (hi 1 k289), .inl (hi 1 k290)] hi (fun v hi291 => ∃ x292 : Int32, v = some (.inl x292) ∧ (∃ k293 : Nat, k293 < L ∧ (y3 + 1) = nI k293 ∧ (∃ k294 : Nat, k294 < L ∧ (y3 + 2) = nI k294 ∧ (∃ k295 : Nat, k295 < L ∧ (y3 + 3) = nI k295 ∧ (pm_C pm_g (SH L) HR (d) m_M_sheet [.inr 141, .inl (hi291 1 k293), .inl (hi291 1 k294), .inl (hi291 1 k295)] hi291 (fun v hi296 => ∃ x297 : Int32, v = some (.inl x297) ∧ (((x292 = x297) → pm_W pm_g (SH L) HR (d) pm_t246 18 [some (.inr 1), some (.inr 16), some (.inr 141), some (.inl (y3 + 6))] [] hi296 Q) ∧ ((¬ (x292 = x297)) → Q (some (.inl 0)) hi296)))))))))))) ∧ ((¬ ((hi 1 k2) &&& 63) = 30) → ((((hi 1 k2) &&& 63) = 31) → ∃ k300 : Nat, k300 < L ∧ (y3 + 1) = nI k300 ∧ (∃ k301 : Nat, k301 < L ∧ (y3 + 2) = nI k301 ∧ (∃ k302 : Nat, k302 < L ∧ (y3 + 3) = nI k302 ∧ (pm_C pm_g (SH L) HR (d) m_E_mark [.inr 16, .inl (hi 1 k300), .inl (hi 1 k301), .inl (hi 1 k302)] hi (fun v hi303 => ∃ x304 : Int32, v = some (.inl x304) ∧ (∃ k305 : Nat, k305 < L ∧ (y3 + 1) = nI k305 ∧ (∃ k306 : Nat, k306 < L ∧ (y3 + 2) = nI k306 ∧ (∃ k307 : Nat, k307 < L ∧ (y3 + 3) = nI k307 ∧ (pm_C pm_g (SH L) HR (d) m_M_mark [.inr 141, .inl (hi303 1 k305), .inl (hi303 1 k306), .inl (hi303 1 k307)] hi303 (fun v hi308 => ∃ x309 : Int32, v = some (.inl x309) ∧ (((x304 = x309) → pm_W pm_g (SH L) HR (d) pm_t246 18 [some (.inr 1), some (.inr 16), some (.inr 141), some (.inl (y3 + 6))] [] hi308 Q) ∧ ((¬ (x304 = x309)) → Q (some (.inl 0)) hi308)))))))))))) ∧ ((¬ ((hi 1 k2) &&& 63) = 31) → ((((hi 1 k2) &&& 63) = 32) → ∃ k312 : Nat, k312 < L ∧ (y3 + 1) = nI k312 ∧ (pm_C pm_g (SH L) HR (d) m_E_pour [.inr 16, .inl (hi 1 k312)] hi (fun v hi313 => ∃ x314 : Int32, v = some (.inl x314) ∧ (∃ k315 : Nat, k315 < L ∧ (y3 + 1) = nI k315 ∧ (pm_C pm_g (SH L) HR (d) m_M_pour [.inr 141, .inl (hi313 1 k315)] hi313 (fun v hi316 => ∃ x317 : Int32, v = some (.inl x317) ∧ (((x314 = x317) → pm_W pm_g (SH L) HR (d) pm_t246 18 [some (.inr 1), some (.inr 16), some (.inr 141), some (.inl (y3 + 6))] [] hi316 Q) ∧ ((¬ (x314 = x317)) → Q (some (.inl 0)) hi316)))))))) ∧ ((¬ ((hi 1 k2) &&& 63) = 32) → ((((hi 1 k2) &&& 63) = 33) → ∃ k320 : Nat, k320 < L ∧ (y3 + 1) = nI k320 ∧ (pm_C pm_g (SH L) HR (d) m_E_reads [.inr 16, .inl (hi 1 k320)] hi (fun v hi321 => ∃ x322 : Int32, v = some (.inl x322) ∧ (∃ k323 : Nat, k323 < L ∧ (y3 + 1) = nI k323 ∧ (pm_C pm_g (SH L) HR (d) m_M_reads [.inr 141, .inl (hi321 1 k323)] hi321 (fun v hi324 => ∃ x325 : Int32, v = some (.inl x325) ∧ (((x322 = x325) → pm_W pm_g (SH L) HR (d) pm_t246 18 [some (.inr 1), some (.inr 16), some (.inr 141), some (.inl (y3 + 6))] [] hi324 Q) ∧ ((¬ (x322 = x325)) → Q (some (.inl 0)) hi324)))))))) ∧ ((¬ ((hi 1 k2) &&& 63) = 33) → ((((hi 1 k2) &&& 63) = 34) → ∃ k328 : Nat, k328 < L ∧ (y3 + 1) = nI k328 ∧ (∃ k329 : Nat, k329 < L ∧ (y3 + 2) = nI k329 ∧ (∃ k330 : Nat, k330 < L ∧ (y3 + 3) = nI k330 ∧ (∃ k331 : Nat, k331 < L ∧ (y3 + 4) = nI k331 ∧ (∃ k332 : Nat, k332 < L ∧ (y3 + 5) = nI k332 ∧ (pm_C pm_g (SH L) HR (d) m_E_copy [.inr 16, .inl (hi 1 k328), .inl (hi 1 k329), .inl (hi 1 k330), .inl (hi 1 k331), .inl (hi 1 k332)] hi (fun v hi333 => ∃ x334 : Int32, v = some (.inl x334) ∧ (∃ k335 : Nat, k335 < L ∧ (y3 + 1) = nI k335 ∧ (∃ k336 : Nat, k336 < L ∧ (y3 + 2) = nI k336 ∧ (∃ k337 : Nat, k337 < L ∧ (y3 + 3) = nI k337 ∧ (∃ k338 : Nat, k338 < L ∧ (y3 + 4) = nI k338 ∧ (∃ k339 : Nat, k339 < L ∧ (y3 + 5) = nI k339 ∧ (pm_C pm_g (SH L) HR (d) m_M_copy [.inr 141, .inl (hi333 1 k335), .inl (hi333 1 k336), .inl (hi333 1 k337), .inl (hi333 1 k338), .inl (hi333 1 k339)] hi333 (fun v hi340 => ∃ x341 : Int32, v = some (.inl x341) ∧ (((x334 = x341) → pm_W pm_g (SH L) HR (d) pm_t246 18 [some (.inr 1), some (.inr 16), some (.inr 141), some (.inl (y3 + 6))] [] hi340 Q) ∧ ((¬ (x334 = x341)) → Q (some (.inl 0)) hi340)))))))))))))))) ∧ ((¬ ((hi 1 k2) &&& 63) = 34) → ((((hi 1 k2) &&& 63) = 35) → ∃ k344 : Nat, k344 < L ∧ (y3 + 1) = nI k344 ∧ (∃ k345 : Nat, k345 < L ∧ (y3 + 2) = nI k345 ∧ (∃ k346 : Nat, k346 < L ∧ (y3 + 3) = nI k346 ∧ (pm_C pm_g (SH L) HR (d) m_E_lay [.inr 16, .inl (hi 1 k344), .inl (hi 1 k345), .inl (hi 1 k346)] hi (fun v hi347 => ∃ x348 : Int32, v = some (.inl x348) ∧ (∃ k349 : Nat, k349 < L ∧ (y3 + 1) = nI k349 ∧ (∃ k350 : Nat, k350 < L ∧ (y3 + 2) = nI k350 ∧ (∃ k351 : Nat, k351 < L ∧ (y3 + 3) = nI k351 ∧ (pm_C pm_g (SH L) HR (d) m_M_lay [.inr 141, .inl (hi347 1 k349), .inl (hi347 1 k350), .inl (hi347 1 k351)] hi347 (fun v hi352 => ∃ x353 : Int32, v = some (.inl x353) ∧ (((x348 = x353) → pm_W pm_g (SH L) HR (d) pm_t246 18 [some (.inr 1), some (.inr 16), some (.inr 141), some (.inl (y3 + 6))] [] hi352 Q) ∧ ((¬ (x348 = x353)) → Q (some (.inl 0)) hi352)))))))))))) ∧ ((¬ ((hi 1 k2) &&& 63) = 35) → ((((hi 1 k2) &&& 63) = 36) → ∃ k356 : Nat, k356 < L ∧ (y3 + 1) = nI k356 ∧ (∃ k357 : Nat, k357 < L ∧ (y3 + 2) = nI k357 ∧ (pm_C pm_g (SH L) HR (d) m_E_ask [.inr 16, .inl (hi 1 k356), .inl (hi 1 k357)] hi (fun v hi358 => ∃ x359 : Int32, v = some (.inl x359) ∧ (∃ k360 : Nat, k360 < L ∧ (y3 + 1) = nI k360 ∧ (∃ k361 : Nat, k361 < L ∧ (y3 + 2) = nI k361 ∧ (pm_C pm_g (SH L) HR (d) m_M_ask [.inr 141, .inl (hi358 1 k360), .inl (hi358 1 k361)] hi358 (fun v hi362 => ∃ x363 : Int32, v = some (.inl x363) ∧ (((x359 = x363) → pm_W pm_g (SH L) HR (d) pm_t246 18 [some (.inr 1), some (.inr 16), some (.inr 141), some (.inl (y3 + 6))] [] hi362 Q) ∧ ((¬ (x359 = x363)) → Q (some (.inl 0)) hi362)))))))))) ∧ ((¬ ((hi 1 k2) &&& 63) = 36) → ((((hi 1 k2) &&& 63) = 37) → ∃ k366 : Nat, k366 < L ∧ (y3 + 1) = nI k366 ∧ (∃ k367 : Nat, k367 < L ∧ (y3 + 2) = nI k367 ∧ (pm_C pm_g (SH L) HR (d) m_E_item [.inr 16, .inl (hi 1 k366), .inl (hi 1 k367)] hi (fun v hi368 => ∃ x369 : Int32, v = some (.inl x369) ∧ (∃ k370 : Nat, k370 < L ∧ (y3 + 1) = nI k370 ∧ (∃ k371 : Nat, k371 < L ∧ (y3 + 2) = nI k371 ∧ (pm_C pm_g (SH L) HR (d) m_M_item [.inr 141, .inl (hi368 1 k370), .inl (hi368 1 k371)] hi368 (fun v hi372 => ∃ x373 : Int32, v = some (.inl x373) ∧ (((x369 = x373) → pm_W pm_g (SH L) HR (d) pm_t246 18 [some (.inr 1), some (.inr 16), some (.inr 141), some (.inl (y3 + 6))] [] hi372 Q) ∧ ((¬ (x369 = x373)) → Q (some (.inl 0)) hi372)))))))))) ∧ ((¬ ((hi 1 k2) &&& 63) = 37) → ((((hi 1 k2) &&& 63) = 38) → ∃ k376 : Nat, k376 < L ∧ (y3 + 1) = nI k376 ∧ (∃ k377 : Nat, k377 < L ∧ (y3 + 2) = nI k377 ∧ (pm_C pm_g (SH L) HR (d) m_E_rest [.inr 16, .inl (hi 1 k376), .inl (hi 1 k377)] hi (fun v hi378 => ∃ x379 : Int32, v = some (.inl x379) ∧ (∃ k380 : Nat, k380 < L ∧ (y3 + 1) = nI k380 ∧ (∃ k381 : Nat, k381 < L ∧ (y3 + 2) = nI k381 ∧ (pm_C pm_g (SH L) HR (d) m_M_rest [.inr 141, .inl (hi378 1 k380), .inl (hi378 1 k381)] hi378 (fun v hi382 => ∃ x383 : Int32, v = some (.inl x383) ∧ (((x379 = x383) → pm_W pm_g (SH L) HR (d) pm_t246 18 [some (.inr 1), some (.inr 16), some (.inr 141), some (.inl (y3 + 6))] [] hi382 Q) ∧ ((¬ (x379 = x383)) → Q (some (.inl 0)) hi382)))))))))) ∧ ((¬ ((hi 1 k2) &&& 63) = 38) → ((((hi 1 k2) &&& 63) = 39) → ∃ k386 : Nat, k386 < L ∧ (y3 + 1) = nI k386 ∧ (pm_C pm_g (SH L) HR (d) m_E_tell [.inr 16, .inl (hi 1 k386)] hi (fun v hi387 => ∃ x388 : Int32, v = some (.inl x388) ∧ (∃ k389 : Nat, k389 < L ∧ (y3 + 1) = nI k389 ∧ (pm_C pm_g (SH L) HR (d) m_M_tell [.inr 141, .inl (hi387 1 k389)] hi387 (fun v hi390 => ∃ x391 : Int32, v = some (.inl x391) ∧ (((x388 = x391) → pm_W pm_g (SH L) HR (d) pm_t246 18 [some (.inr 1), some (.inr 16), some (.inr 141), some (.inl (y3 + 6))] [] hi390 Q) ∧ ((¬ (x388 = x391)) → Q (some (.inl 0)) hi390)))))))) ∧ ((¬ ((hi 1 k2) &&& 63) = 39) → ((((hi 1 k2) &&& 63) = 40) → ∃ k394 : Nat, k394 < L ∧ (y3 + 1) = nI k394 ∧ (pm_C pm_g (SH L) HR (d) m_E_check [.inr 16, .inl (hi 1 k394)] hi (fun v hi395 => ∃ x396 : Int32, v = some (.inl x396) ∧ (∃ k397 : Nat, k397 < L ∧ (y3 + 1) = nI k397 ∧ (pm_C pm_g (SH L) HR (d) m_M_check [.inr 141, .inl (hi395 1 k397)] hi395 (fun v hi398 => ∃ x399 : Int32, v = some (.inl x399) ∧ (((x396 = x399) → pm_W pm_g (SH L) HR (d) pm_t246 18 [some (.inr 1), some (.inr 16), some (.inr 141), some (.inl (y3 + 6))] [] hi398 Q) ∧ ((¬ (x396 = x399)) → Q (some (.inl 0)) hi398)))))))) ∧ ((¬ ((hi 1 k2) &&& 63) = 40) → ((((hi 1 k2) &&& 63) = 41) → pm_C pm_g (SH L) HR (d) m_E_keep [.inr 16] hi (fun v hi402 => ∃ x403 : Int32, v = some (.inl x403) ∧ (pm_C pm_g (SH L) HR (d) m_M_keep [.inr 141] hi402 (fun v hi404 => ∃ x405 : Int32, v = some (.inl x405) ∧ (((x403 = x405) → pm_W pm_g (SH L) HR (d) pm_t246 18 [some (.inr 1), some (.inr 16), some (.inr 141), some (.inl (y3 + 6))] [] hi404 Q) ∧ ((¬ (x403 = x405)) → Q (some (.inl 0)) hi404)))))) ∧ ((¬ ((hi 1 k2) &&& 63) = 41) → ((((hi 1 k2) &&& 63) = 42) → pm_C pm_g (SH L) HR (d) m_E_back [.inr 16] hi (fun v hi408 => ∃ x409 : Int32, v = some (.inl x409) ∧ (pm_C pm_g (SH L) HR (d) m_M_back [.inr 141] hi408 (fun v hi410 => ∃ x411 : Int32, v = some (.inl x411) ∧ (((x409 = x411) → pm_W pm_g (SH L) HR (d) pm_t246 18 [some (.inr 1), some (.inr 16), some (.inr 141), some (.inl (y3 + 6))] [] hi410 Q) ∧ ((¬ (x409 = x411)) → Q (some (.inl 0)) hi410)))))) ∧ ((¬ ((hi 1 k2) &&& 63) = 42) → ((((hi 1 k2) &&& 63) = 43) → ∃ k414 : Nat, k414 < L ∧ (y3 + 1) = nI k414 ∧ (pm_C pm_g (SH L) HR (d) m_E_count [.inr 16, .inl (hi 1 k414)] hi (fun v hi415 => ∃ x416 : Int32, v = some (.inl x416) ∧ (∃ k417 : Nat, k417 < L ∧ (y3 + 1) = nI k417 ∧ (pm_C pm_g (SH L) HR (d) m_M_count [.inr 141, .inl (hi415 1 k417)] hi415 (fun v hi418 => ∃ x419 : Int32, v = some (.inl x419) ∧ (((x416 = x419) → pm_W pm_g (SH L) HR (d) pm_t246 18 [some (.inr 1), some (.inr 16), some (.inr 141), some (.inl (y3 + 6))] [] hi418 Q) ∧ ((¬ (x416 = x419)) → Q (some (.inl 0)) hi418)))))))) ∧ ((¬ ((hi 1 k2) &&& 63) = 43) → pm_W pm_g (SH L) HR (d) pm_t246 18 [some (.inr 1), some (.inr 16), some (.inr 141), some (.inl (y3 + 6))] [] hi Q))))))))))))))))))))))))))))))))))))))))))))))) : pm_W pm_g (SH L) HR (d) pm_t246 18 [some (.inr 1), some (.inr 16), some (.inr 141), some (.inl y3)] [] hi Q := by
  refine pm_W_of 71 [18] rfl ?_
  refine ⟨L, ⟨1, _, sh_script⟩, ?_⟩
  refine And.intro (fun c1 => ?_) (fun c1 => ?_)
  · replace h := h.1 c1
    refine And.intro (Or.inr rfl) ?_
    exact h
  · replace h := h.2 c1
    obtain ⟨k2, hkk2, hek2, h⟩ := h
    refine And.intro (pm_ao_of (t := 1) sh_script hkk2 hek2 (by omega)) ?_
    rw [pm_tn hek2 hkk2 (by omega)]
    intro pc1 hsw
    by_cases c3 : ((hi 1 k2) &&& 63) = 0
    · rw [pm_sw_t c3] at hsw
      subst hsw
      replace h := h.1 c3
      obtain ⟨k4, hkk4, hek4, h⟩ := h
      refine And.intro (pm_ao_of (t := 1) sh_script hkk4 hek4 (by omega)) ?_
      rw [pm_tn hek4 hkk4 (by omega)]
      obtain ⟨k5, hkk5, hek5, h⟩ := h
      refine And.intro (pm_ao_of (t := 1) sh_script hkk5 hek5 (by omega)) ?_
      rw [pm_tn hek5 hkk5 (by omega)]
      obtain ⟨k6, hkk6, hek6, h⟩ := h
      refine And.intro (pm_ao_of (t := 1) sh_script hkk6 hek6 (by omega)) ?_
      rw [pm_tn hek6 hkk6 (by omega)]
      refine And.intro sh_l16 ?_
      refine pm_C_imp h (fun v hi7 h => ?_)
      obtain ⟨x8, rfl, h⟩ := h
      refine ⟨_, rfl, ?_⟩
      obtain ⟨k9, hkk9, hek9, h⟩ := h
      refine And.intro (pm_ao_of (t := 1) sh_script hkk9 hek9 (by omega)) ?_
      rw [pm_tn hek9 hkk9 (by omega)]
      obtain ⟨k10, hkk10, hek10, h⟩ := h
      refine And.intro (pm_ao_of (t := 1) sh_script hkk10 hek10 (by omega)) ?_
      rw [pm_tn hek10 hkk10 (by omega)]
      obtain ⟨k11, hkk11, hek11, h⟩ := h
      refine And.intro (pm_ao_of (t := 1) sh_script hkk11 hek11 (by omega)) ?_
      rw [pm_tn hek11 hkk11 (by omega)]
      refine And.intro sh_l141 ?_
      refine pm_C_imp h (fun v hi12 h => ?_)
      obtain ⟨x13, rfl, h⟩ := h
      refine ⟨_, rfl, ?_⟩
      refine And.intro (fun c14 => ?_) (fun c14 => ?_)
      · replace h := h.1 c14
        exact h
      · replace h := h.2 c14
        refine And.intro (Or.inl rfl) ?_
        exact h
    · rw [pm_sw_f c3] at hsw
      replace h := h.2 c3
      by_cases c15 : ((hi 1 k2) &&& 63) = 1
      · rw [pm_sw_t c15] at hsw
        subst hsw
        replace h := h.1 c15
        obtain ⟨k16, hkk16, hek16, h⟩ := h
        refine And.intro (pm_ao_of (t := 1) sh_script hkk16 hek16 (by omega)) ?_
        rw [pm_tn hek16 hkk16 (by omega)]
        obtain ⟨k17, hkk17, hek17, h⟩ := h
        refine And.intro (pm_ao_of (t := 1) sh_script hkk17 hek17 (by omega)) ?_
        rw [pm_tn hek17 hkk17 (by omega)]
        refine And.intro sh_l16 ?_
        refine pm_C_imp h (fun v hi18 h => ?_)
        obtain ⟨x19, rfl, h⟩ := h
        refine ⟨_, rfl, ?_⟩
        obtain ⟨k20, hkk20, hek20, h⟩ := h
        refine And.intro (pm_ao_of (t := 1) sh_script hkk20 hek20 (by omega)) ?_
        rw [pm_tn hek20 hkk20 (by omega)]
        obtain ⟨k21, hkk21, hek21, h⟩ := h
        refine And.intro (pm_ao_of (t := 1) sh_script hkk21 hek21 (by omega)) ?_
        rw [pm_tn hek21 hkk21 (by omega)]
        refine And.intro sh_l141 ?_
        refine pm_C_imp h (fun v hi22 h => ?_)
        obtain ⟨x23, rfl, h⟩ := h
        refine ⟨_, rfl, ?_⟩
        refine And.intro (fun c24 => ?_) (fun c24 => ?_)
        · replace h := h.1 c24
          exact h
        · replace h := h.2 c24
          refine And.intro (Or.inl rfl) ?_
          exact h
      · rw [pm_sw_f c15] at hsw
        replace h := h.2 c15
        by_cases c25 : ((hi 1 k2) &&& 63) = 2
        · rw [pm_sw_t c25] at hsw
          subst hsw
          replace h := h.1 c25
          obtain ⟨k26, hkk26, hek26, h⟩ := h
          refine And.intro (pm_ao_of (t := 1) sh_script hkk26 hek26 (by omega)) ?_
          rw [pm_tn hek26 hkk26 (by omega)]
          obtain ⟨k27, hkk27, hek27, h⟩ := h
          refine And.intro (pm_ao_of (t := 1) sh_script hkk27 hek27 (by omega)) ?_
          rw [pm_tn hek27 hkk27 (by omega)]
          refine And.intro sh_l16 ?_
          refine pm_C_imp h (fun v hi28 h => ?_)
          obtain ⟨x29, rfl, h⟩ := h
          refine ⟨_, rfl, ?_⟩
          obtain ⟨k30, hkk30, hek30, h⟩ := h
          refine And.intro (pm_ao_of (t := 1) sh_script hkk30 hek30 (by omega)) ?_
          rw [pm_tn hek30 hkk30 (by omega)]
          obtain ⟨k31, hkk31, hek31, h⟩ := h
          refine And.intro (pm_ao_of (t := 1) sh_script hkk31 hek31 (by omega)) ?_
          rw [pm_tn hek31 hkk31 (by omega)]
          refine And.intro sh_l141 ?_
          refine pm_C_imp h (fun v hi32 h => ?_)
          obtain ⟨x33, rfl, h⟩ := h
          refine ⟨_, rfl, ?_⟩
          refine And.intro (fun c34 => ?_) (fun c34 => ?_)
          · replace h := h.1 c34
            exact h
          · replace h := h.2 c34
            refine And.intro (Or.inl rfl) ?_
            exact h
        · rw [pm_sw_f c25] at hsw
          replace h := h.2 c25
          by_cases c35 : ((hi 1 k2) &&& 63) = 3
          · rw [pm_sw_t c35] at hsw
            subst hsw
            replace h := h.1 c35
            obtain ⟨k36, hkk36, hek36, h⟩ := h
            refine And.intro (pm_ao_of (t := 1) sh_script hkk36 hek36 (by omega)) ?_
            rw [pm_tn hek36 hkk36 (by omega)]
            obtain ⟨k37, hkk37, hek37, h⟩ := h
            refine And.intro (pm_ao_of (t := 1) sh_script hkk37 hek37 (by omega)) ?_
            rw [pm_tn hek37 hkk37 (by omega)]
            refine And.intro sh_l16 ?_
            refine pm_C_imp h (fun v hi38 h => ?_)
            obtain ⟨x39, rfl, h⟩ := h
            refine ⟨_, rfl, ?_⟩
            obtain ⟨k40, hkk40, hek40, h⟩ := h
            refine And.intro (pm_ao_of (t := 1) sh_script hkk40 hek40 (by omega)) ?_
            rw [pm_tn hek40 hkk40 (by omega)]
            obtain ⟨k41, hkk41, hek41, h⟩ := h
            refine And.intro (pm_ao_of (t := 1) sh_script hkk41 hek41 (by omega)) ?_
            rw [pm_tn hek41 hkk41 (by omega)]
            refine And.intro sh_l141 ?_
            refine pm_C_imp h (fun v hi42 h => ?_)
            obtain ⟨x43, rfl, h⟩ := h
            refine ⟨_, rfl, ?_⟩
            refine And.intro (fun c44 => ?_) (fun c44 => ?_)
            · replace h := h.1 c44
              exact h
            · replace h := h.2 c44
              refine And.intro (Or.inl rfl) ?_
              exact h
          · rw [pm_sw_f c35] at hsw
            replace h := h.2 c35
            by_cases c45 : ((hi 1 k2) &&& 63) = 4
            · rw [pm_sw_t c45] at hsw
              subst hsw
              replace h := h.1 c45
              obtain ⟨k46, hkk46, hek46, h⟩ := h
              refine And.intro (pm_ao_of (t := 1) sh_script hkk46 hek46 (by omega)) ?_
              rw [pm_tn hek46 hkk46 (by omega)]
              obtain ⟨k47, hkk47, hek47, h⟩ := h
              refine And.intro (pm_ao_of (t := 1) sh_script hkk47 hek47 (by omega)) ?_
              rw [pm_tn hek47 hkk47 (by omega)]
              refine And.intro sh_l16 ?_
              refine pm_C_imp h (fun v hi48 h => ?_)
              obtain ⟨x49, rfl, h⟩ := h
              refine ⟨_, rfl, ?_⟩
              obtain ⟨k50, hkk50, hek50, h⟩ := h
              refine And.intro (pm_ao_of (t := 1) sh_script hkk50 hek50 (by omega)) ?_
              rw [pm_tn hek50 hkk50 (by omega)]
              obtain ⟨k51, hkk51, hek51, h⟩ := h
              refine And.intro (pm_ao_of (t := 1) sh_script hkk51 hek51 (by omega)) ?_
              rw [pm_tn hek51 hkk51 (by omega)]
              refine And.intro sh_l141 ?_
              refine pm_C_imp h (fun v hi52 h => ?_)
              obtain ⟨x53, rfl, h⟩ := h
              refine ⟨_, rfl, ?_⟩
              refine And.intro (fun c54 => ?_) (fun c54 => ?_)
              · replace h := h.1 c54
                exact h
              · replace h := h.2 c54
                refine And.intro (Or.inl rfl) ?_
                exact h
            · rw [pm_sw_f c45] at hsw
              replace h := h.2 c45
              by_cases c55 : ((hi 1 k2) &&& 63) = 5
              · rw [pm_sw_t c55] at hsw
                subst hsw
                replace h := h.1 c55
                obtain ⟨k56, hkk56, hek56, h⟩ := h
                refine And.intro (pm_ao_of (t := 1) sh_script hkk56 hek56 (by omega)) ?_
                rw [pm_tn hek56 hkk56 (by omega)]
                obtain ⟨k57, hkk57, hek57, h⟩ := h
                refine And.intro (pm_ao_of (t := 1) sh_script hkk57 hek57 (by omega)) ?_
                rw [pm_tn hek57 hkk57 (by omega)]
                obtain ⟨k58, hkk58, hek58, h⟩ := h
                refine And.intro (pm_ao_of (t := 1) sh_script hkk58 hek58 (by omega)) ?_
                rw [pm_tn hek58 hkk58 (by omega)]
                refine And.intro sh_l16 ?_
                refine pm_C_imp h (fun v hi59 h => ?_)
                obtain ⟨x60, rfl, h⟩ := h
                refine ⟨_, rfl, ?_⟩
                obtain ⟨k61, hkk61, hek61, h⟩ := h
                refine And.intro (pm_ao_of (t := 1) sh_script hkk61 hek61 (by omega)) ?_
                rw [pm_tn hek61 hkk61 (by omega)]
                obtain ⟨k62, hkk62, hek62, h⟩ := h
                refine And.intro (pm_ao_of (t := 1) sh_script hkk62 hek62 (by omega)) ?_
                rw [pm_tn hek62 hkk62 (by omega)]
                obtain ⟨k63, hkk63, hek63, h⟩ := h
                refine And.intro (pm_ao_of (t := 1) sh_script hkk63 hek63 (by omega)) ?_
                rw [pm_tn hek63 hkk63 (by omega)]
                refine And.intro sh_l141 ?_
                refine pm_C_imp h (fun v hi64 h => ?_)
                obtain ⟨x65, rfl, h⟩ := h
                refine ⟨_, rfl, ?_⟩
                refine And.intro (fun c66 => ?_) (fun c66 => ?_)
                · replace h := h.1 c66
                  exact h
                · replace h := h.2 c66
                  refine And.intro (Or.inl rfl) ?_
                  exact h
              · rw [pm_sw_f c55] at hsw
                replace h := h.2 c55
                by_cases c67 : ((hi 1 k2) &&& 63) = 6
                · rw [pm_sw_t c67] at hsw
                  subst hsw
                  replace h := h.1 c67
                  obtain ⟨k68, hkk68, hek68, h⟩ := h
                  refine And.intro (pm_ao_of (t := 1) sh_script hkk68 hek68 (by omega)) ?_
                  rw [pm_tn hek68 hkk68 (by omega)]
                  obtain ⟨k69, hkk69, hek69, h⟩ := h
                  refine And.intro (pm_ao_of (t := 1) sh_script hkk69 hek69 (by omega)) ?_
                  rw [pm_tn hek69 hkk69 (by omega)]
                  obtain ⟨k70, hkk70, hek70, h⟩ := h
                  refine And.intro (pm_ao_of (t := 1) sh_script hkk70 hek70 (by omega)) ?_
                  rw [pm_tn hek70 hkk70 (by omega)]
                  obtain ⟨k71, hkk71, hek71, h⟩ := h
                  refine And.intro (pm_ao_of (t := 1) sh_script hkk71 hek71 (by omega)) ?_
                  rw [pm_tn hek71 hkk71 (by omega)]
                  refine And.intro sh_l16 ?_
                  refine pm_C_imp h (fun v hi72 h => ?_)
                  obtain ⟨x73, rfl, h⟩ := h
                  refine ⟨_, rfl, ?_⟩
                  obtain ⟨k74, hkk74, hek74, h⟩ := h
                  refine And.intro (pm_ao_of (t := 1) sh_script hkk74 hek74 (by omega)) ?_
                  rw [pm_tn hek74 hkk74 (by omega)]
                  obtain ⟨k75, hkk75, hek75, h⟩ := h
                  refine And.intro (pm_ao_of (t := 1) sh_script hkk75 hek75 (by omega)) ?_
                  rw [pm_tn hek75 hkk75 (by omega)]
                  obtain ⟨k76, hkk76, hek76, h⟩ := h
                  refine And.intro (pm_ao_of (t := 1) sh_script hkk76 hek76 (by omega)) ?_
                  rw [pm_tn hek76 hkk76 (by omega)]
                  obtain ⟨k77, hkk77, hek77, h⟩ := h
                  refine And.intro (pm_ao_of (t := 1) sh_script hkk77 hek77 (by omega)) ?_
                  rw [pm_tn hek77 hkk77 (by omega)]
                  refine And.intro sh_l141 ?_
                  refine pm_C_imp h (fun v hi78 h => ?_)
                  obtain ⟨x79, rfl, h⟩ := h
                  refine ⟨_, rfl, ?_⟩
                  refine And.intro (fun c80 => ?_) (fun c80 => ?_)
                  · replace h := h.1 c80
                    exact h
                  · replace h := h.2 c80
                    refine And.intro (Or.inl rfl) ?_
                    exact h
                · rw [pm_sw_f c67] at hsw
                  replace h := h.2 c67
                  by_cases c81 : ((hi 1 k2) &&& 63) = 7
                  · rw [pm_sw_t c81] at hsw
                    subst hsw
                    replace h := h.1 c81
                    obtain ⟨k82, hkk82, hek82, h⟩ := h
                    refine And.intro (pm_ao_of (t := 1) sh_script hkk82 hek82 (by omega)) ?_
                    rw [pm_tn hek82 hkk82 (by omega)]
                    obtain ⟨k83, hkk83, hek83, h⟩ := h
                    refine And.intro (pm_ao_of (t := 1) sh_script hkk83 hek83 (by omega)) ?_
                    rw [pm_tn hek83 hkk83 (by omega)]
                    obtain ⟨k84, hkk84, hek84, h⟩ := h
                    refine And.intro (pm_ao_of (t := 1) sh_script hkk84 hek84 (by omega)) ?_
                    rw [pm_tn hek84 hkk84 (by omega)]
                    refine And.intro sh_l16 ?_
                    refine pm_C_imp h (fun v hi85 h => ?_)
                    obtain ⟨x86, rfl, h⟩ := h
                    refine ⟨_, rfl, ?_⟩
                    obtain ⟨k87, hkk87, hek87, h⟩ := h
                    refine And.intro (pm_ao_of (t := 1) sh_script hkk87 hek87 (by omega)) ?_
                    rw [pm_tn hek87 hkk87 (by omega)]
                    obtain ⟨k88, hkk88, hek88, h⟩ := h
                    refine And.intro (pm_ao_of (t := 1) sh_script hkk88 hek88 (by omega)) ?_
                    rw [pm_tn hek88 hkk88 (by omega)]
                    obtain ⟨k89, hkk89, hek89, h⟩ := h
                    refine And.intro (pm_ao_of (t := 1) sh_script hkk89 hek89 (by omega)) ?_
                    rw [pm_tn hek89 hkk89 (by omega)]
                    refine And.intro sh_l141 ?_
                    refine pm_C_imp h (fun v hi90 h => ?_)
                    obtain ⟨x91, rfl, h⟩ := h
                    refine ⟨_, rfl, ?_⟩
                    refine And.intro (fun c92 => ?_) (fun c92 => ?_)
                    · replace h := h.1 c92
                      exact h
                    · replace h := h.2 c92
                      refine And.intro (Or.inl rfl) ?_
                      exact h
                  · rw [pm_sw_f c81] at hsw
                    replace h := h.2 c81
                    by_cases c93 : ((hi 1 k2) &&& 63) = 8
                    · rw [pm_sw_t c93] at hsw
                      subst hsw
                      replace h := h.1 c93
                      obtain ⟨k94, hkk94, hek94, h⟩ := h
                      refine And.intro (pm_ao_of (t := 1) sh_script hkk94 hek94 (by omega)) ?_
                      rw [pm_tn hek94 hkk94 (by omega)]
                      refine And.intro sh_l16 ?_
                      refine pm_C_imp h (fun v hi95 h => ?_)
                      obtain ⟨x96, rfl, h⟩ := h
                      refine ⟨_, rfl, ?_⟩
                      obtain ⟨k97, hkk97, hek97, h⟩ := h
                      refine And.intro (pm_ao_of (t := 1) sh_script hkk97 hek97 (by omega)) ?_
                      rw [pm_tn hek97 hkk97 (by omega)]
                      refine And.intro sh_l141 ?_
                      refine pm_C_imp h (fun v hi98 h => ?_)
                      obtain ⟨x99, rfl, h⟩ := h
                      refine ⟨_, rfl, ?_⟩
                      refine And.intro (fun c100 => ?_) (fun c100 => ?_)
                      · replace h := h.1 c100
                        exact h
                      · replace h := h.2 c100
                        refine And.intro (Or.inl rfl) ?_
                        exact h
                    · rw [pm_sw_f c93] at hsw
                      replace h := h.2 c93
                      by_cases c101 : ((hi 1 k2) &&& 63) = 9
                      · rw [pm_sw_t c101] at hsw
                        subst hsw
                        replace h := h.1 c101
                        obtain ⟨k102, hkk102, hek102, h⟩ := h
                        refine And.intro (pm_ao_of (t := 1) sh_script hkk102 hek102 (by omega)) ?_
                        rw [pm_tn hek102 hkk102 (by omega)]
                        refine And.intro sh_l16 ?_
                        refine pm_C_imp h (fun v hi103 h => ?_)
                        obtain ⟨x104, rfl, h⟩ := h
                        refine ⟨_, rfl, ?_⟩
                        obtain ⟨k105, hkk105, hek105, h⟩ := h
                        refine And.intro (pm_ao_of (t := 1) sh_script hkk105 hek105 (by omega)) ?_
                        rw [pm_tn hek105 hkk105 (by omega)]
                        refine And.intro sh_l141 ?_
                        refine pm_C_imp h (fun v hi106 h => ?_)
                        obtain ⟨x107, rfl, h⟩ := h
                        refine ⟨_, rfl, ?_⟩
                        refine And.intro (fun c108 => ?_) (fun c108 => ?_)
                        · replace h := h.1 c108
                          exact h
                        · replace h := h.2 c108
                          refine And.intro (Or.inl rfl) ?_
                          exact h
                      · rw [pm_sw_f c101] at hsw
                        replace h := h.2 c101
                        by_cases c109 : ((hi 1 k2) &&& 63) = 10
                        · rw [pm_sw_t c109] at hsw
                          subst hsw
                          replace h := h.1 c109
                          obtain ⟨k110, hkk110, hek110, h⟩ := h
                          refine And.intro (pm_ao_of (t := 1) sh_script hkk110 hek110 (by omega)) ?_
                          rw [pm_tn hek110 hkk110 (by omega)]
                          refine And.intro sh_l16 ?_
                          refine pm_C_imp h (fun v hi111 h => ?_)
                          obtain ⟨x112, rfl, h⟩ := h
                          refine ⟨_, rfl, ?_⟩
                          obtain ⟨k113, hkk113, hek113, h⟩ := h
                          refine And.intro (pm_ao_of (t := 1) sh_script hkk113 hek113 (by omega)) ?_
                          rw [pm_tn hek113 hkk113 (by omega)]
                          refine And.intro sh_l141 ?_
                          refine pm_C_imp h (fun v hi114 h => ?_)
                          obtain ⟨x115, rfl, h⟩ := h
                          refine ⟨_, rfl, ?_⟩
                          refine And.intro (fun c116 => ?_) (fun c116 => ?_)
                          · replace h := h.1 c116
                            exact h
                          · replace h := h.2 c116
                            refine And.intro (Or.inl rfl) ?_
                            exact h
                        · rw [pm_sw_f c109] at hsw
                          replace h := h.2 c109
                          by_cases c117 : ((hi 1 k2) &&& 63) = 11
                          · rw [pm_sw_t c117] at hsw
                            subst hsw
                            replace h := h.1 c117
                            obtain ⟨k118, hkk118, hek118, h⟩ := h
                            refine And.intro (pm_ao_of (t := 1) sh_script hkk118 hek118 (by omega)) ?_
                            rw [pm_tn hek118 hkk118 (by omega)]
                            refine And.intro sh_l16 ?_
                            refine pm_C_imp h (fun v hi119 h => ?_)
                            obtain ⟨x120, rfl, h⟩ := h
                            refine ⟨_, rfl, ?_⟩
                            obtain ⟨k121, hkk121, hek121, h⟩ := h
                            refine And.intro (pm_ao_of (t := 1) sh_script hkk121 hek121 (by omega)) ?_
                            rw [pm_tn hek121 hkk121 (by omega)]
                            refine And.intro sh_l141 ?_
                            refine pm_C_imp h (fun v hi122 h => ?_)
                            obtain ⟨x123, rfl, h⟩ := h
                            refine ⟨_, rfl, ?_⟩
                            refine And.intro (fun c124 => ?_) (fun c124 => ?_)
                            · replace h := h.1 c124
                              exact h
                            · replace h := h.2 c124
                              refine And.intro (Or.inl rfl) ?_
                              exact h
                          · rw [pm_sw_f c117] at hsw
                            replace h := h.2 c117
                            by_cases c125 : ((hi 1 k2) &&& 63) = 12
                            · rw [pm_sw_t c125] at hsw
                              subst hsw
                              replace h := h.1 c125
                              obtain ⟨k126, hkk126, hek126, h⟩ := h
                              refine And.intro (pm_ao_of (t := 1) sh_script hkk126 hek126 (by omega)) ?_
                              rw [pm_tn hek126 hkk126 (by omega)]
                              refine And.intro sh_l16 ?_
                              refine pm_C_imp h (fun v hi127 h => ?_)
                              obtain ⟨x128, rfl, h⟩ := h
                              refine ⟨_, rfl, ?_⟩
                              obtain ⟨k129, hkk129, hek129, h⟩ := h
                              refine And.intro (pm_ao_of (t := 1) sh_script hkk129 hek129 (by omega)) ?_
                              rw [pm_tn hek129 hkk129 (by omega)]
                              refine And.intro sh_l141 ?_
                              refine pm_C_imp h (fun v hi130 h => ?_)
                              obtain ⟨x131, rfl, h⟩ := h
                              refine ⟨_, rfl, ?_⟩
                              refine And.intro (fun c132 => ?_) (fun c132 => ?_)
                              · replace h := h.1 c132
                                exact h
                              · replace h := h.2 c132
                                refine And.intro (Or.inl rfl) ?_
                                exact h
                            · rw [pm_sw_f c125] at hsw
                              replace h := h.2 c125
                              by_cases c133 : ((hi 1 k2) &&& 63) = 13
                              · rw [pm_sw_t c133] at hsw
                                subst hsw
                                replace h := h.1 c133
                                obtain ⟨k134, hkk134, hek134, h⟩ := h
                                refine And.intro (pm_ao_of (t := 1) sh_script hkk134 hek134 (by omega)) ?_
                                rw [pm_tn hek134 hkk134 (by omega)]
                                refine And.intro sh_l16 ?_
                                refine pm_C_imp h (fun v hi135 h => ?_)
                                obtain ⟨x136, rfl, h⟩ := h
                                refine ⟨_, rfl, ?_⟩
                                obtain ⟨k137, hkk137, hek137, h⟩ := h
                                refine And.intro (pm_ao_of (t := 1) sh_script hkk137 hek137 (by omega)) ?_
                                rw [pm_tn hek137 hkk137 (by omega)]
                                refine And.intro sh_l141 ?_
                                refine pm_C_imp h (fun v hi138 h => ?_)
                                obtain ⟨x139, rfl, h⟩ := h
                                refine ⟨_, rfl, ?_⟩
                                refine And.intro (fun c140 => ?_) (fun c140 => ?_)
                                · replace h := h.1 c140
                                  exact h
                                · replace h := h.2 c140
                                  refine And.intro (Or.inl rfl) ?_
                                  exact h
                              · rw [pm_sw_f c133] at hsw
                                replace h := h.2 c133
                                by_cases c141 : ((hi 1 k2) &&& 63) = 14
                                · rw [pm_sw_t c141] at hsw
                                  subst hsw
                                  replace h := h.1 c141
                                  obtain ⟨k142, hkk142, hek142, h⟩ := h
                                  refine And.intro (pm_ao_of (t := 1) sh_script hkk142 hek142 (by omega)) ?_
                                  rw [pm_tn hek142 hkk142 (by omega)]
                                  obtain ⟨k143, hkk143, hek143, h⟩ := h
                                  refine And.intro (pm_ao_of (t := 1) sh_script hkk143 hek143 (by omega)) ?_
                                  rw [pm_tn hek143 hkk143 (by omega)]
                                  refine And.intro sh_l16 ?_
                                  refine pm_C_imp h (fun v hi144 h => ?_)
                                  obtain ⟨x145, rfl, h⟩ := h
                                  refine ⟨_, rfl, ?_⟩
                                  obtain ⟨k146, hkk146, hek146, h⟩ := h
                                  refine And.intro (pm_ao_of (t := 1) sh_script hkk146 hek146 (by omega)) ?_
                                  rw [pm_tn hek146 hkk146 (by omega)]
                                  obtain ⟨k147, hkk147, hek147, h⟩ := h
                                  refine And.intro (pm_ao_of (t := 1) sh_script hkk147 hek147 (by omega)) ?_
                                  rw [pm_tn hek147 hkk147 (by omega)]
                                  refine And.intro sh_l141 ?_
                                  refine pm_C_imp h (fun v hi148 h => ?_)
                                  obtain ⟨x149, rfl, h⟩ := h
                                  refine ⟨_, rfl, ?_⟩
                                  refine And.intro (fun c150 => ?_) (fun c150 => ?_)
                                  · replace h := h.1 c150
                                    exact h
                                  · replace h := h.2 c150
                                    refine And.intro (Or.inl rfl) ?_
                                    exact h
                                · rw [pm_sw_f c141] at hsw
                                  replace h := h.2 c141
                                  by_cases c151 : ((hi 1 k2) &&& 63) = 15
                                  · rw [pm_sw_t c151] at hsw
                                    subst hsw
                                    replace h := h.1 c151
                                    obtain ⟨k152, hkk152, hek152, h⟩ := h
                                    refine And.intro (pm_ao_of (t := 1) sh_script hkk152 hek152 (by omega)) ?_
                                    rw [pm_tn hek152 hkk152 (by omega)]
                                    refine And.intro sh_l16 ?_
                                    refine pm_C_imp h (fun v hi153 h => ?_)
                                    obtain ⟨x154, rfl, h⟩ := h
                                    refine ⟨_, rfl, ?_⟩
                                    obtain ⟨k155, hkk155, hek155, h⟩ := h
                                    refine And.intro (pm_ao_of (t := 1) sh_script hkk155 hek155 (by omega)) ?_
                                    rw [pm_tn hek155 hkk155 (by omega)]
                                    refine And.intro sh_l141 ?_
                                    refine pm_C_imp h (fun v hi156 h => ?_)
                                    obtain ⟨x157, rfl, h⟩ := h
                                    refine ⟨_, rfl, ?_⟩
                                    refine And.intro (fun c158 => ?_) (fun c158 => ?_)
                                    · replace h := h.1 c158
                                      exact h
                                    · replace h := h.2 c158
                                      refine And.intro (Or.inl rfl) ?_
                                      exact h
                                  · rw [pm_sw_f c151] at hsw
                                    replace h := h.2 c151
                                    by_cases c159 : ((hi 1 k2) &&& 63) = 16
                                    · rw [pm_sw_t c159] at hsw
                                      subst hsw
                                      replace h := h.1 c159
                                      obtain ⟨k160, hkk160, hek160, h⟩ := h
                                      refine And.intro (pm_ao_of (t := 1) sh_script hkk160 hek160 (by omega)) ?_
                                      rw [pm_tn hek160 hkk160 (by omega)]
                                      refine And.intro sh_l16 ?_
                                      refine pm_C_imp h (fun v hi161 h => ?_)
                                      obtain ⟨x162, rfl, h⟩ := h
                                      refine ⟨_, rfl, ?_⟩
                                      obtain ⟨k163, hkk163, hek163, h⟩ := h
                                      refine And.intro (pm_ao_of (t := 1) sh_script hkk163 hek163 (by omega)) ?_
                                      rw [pm_tn hek163 hkk163 (by omega)]
                                      refine And.intro sh_l141 ?_
                                      refine pm_C_imp h (fun v hi164 h => ?_)
                                      obtain ⟨x165, rfl, h⟩ := h
                                      refine ⟨_, rfl, ?_⟩
                                      refine And.intro (fun c166 => ?_) (fun c166 => ?_)
                                      · replace h := h.1 c166
                                        exact h
                                      · replace h := h.2 c166
                                        refine And.intro (Or.inl rfl) ?_
                                        exact h
                                    · rw [pm_sw_f c159] at hsw
                                      replace h := h.2 c159
                                      by_cases c167 : ((hi 1 k2) &&& 63) = 17
                                      · rw [pm_sw_t c167] at hsw
                                        subst hsw
                                        replace h := h.1 c167
                                        obtain ⟨k168, hkk168, hek168, h⟩ := h
                                        refine And.intro (pm_ao_of (t := 1) sh_script hkk168 hek168 (by omega)) ?_
                                        rw [pm_tn hek168 hkk168 (by omega)]
                                        obtain ⟨k169, hkk169, hek169, h⟩ := h
                                        refine And.intro (pm_ao_of (t := 1) sh_script hkk169 hek169 (by omega)) ?_
                                        rw [pm_tn hek169 hkk169 (by omega)]
                                        obtain ⟨k170, hkk170, hek170, h⟩ := h
                                        refine And.intro (pm_ao_of (t := 1) sh_script hkk170 hek170 (by omega)) ?_
                                        rw [pm_tn hek170 hkk170 (by omega)]
                                        refine And.intro sh_l16 ?_
                                        refine pm_C_imp h (fun v hi171 h => ?_)
                                        obtain ⟨x172, rfl, h⟩ := h
                                        refine ⟨_, rfl, ?_⟩
                                        obtain ⟨k173, hkk173, hek173, h⟩ := h
                                        refine And.intro (pm_ao_of (t := 1) sh_script hkk173 hek173 (by omega)) ?_
                                        rw [pm_tn hek173 hkk173 (by omega)]
                                        obtain ⟨k174, hkk174, hek174, h⟩ := h
                                        refine And.intro (pm_ao_of (t := 1) sh_script hkk174 hek174 (by omega)) ?_
                                        rw [pm_tn hek174 hkk174 (by omega)]
                                        obtain ⟨k175, hkk175, hek175, h⟩ := h
                                        refine And.intro (pm_ao_of (t := 1) sh_script hkk175 hek175 (by omega)) ?_
                                        rw [pm_tn hek175 hkk175 (by omega)]
                                        refine And.intro sh_l141 ?_
                                        refine pm_C_imp h (fun v hi176 h => ?_)
                                        obtain ⟨x177, rfl, h⟩ := h
                                        refine ⟨_, rfl, ?_⟩
                                        refine And.intro (fun c178 => ?_) (fun c178 => ?_)
                                        · replace h := h.1 c178
                                          exact h
                                        · replace h := h.2 c178
                                          refine And.intro (Or.inl rfl) ?_
                                          exact h
                                      · rw [pm_sw_f c167] at hsw
                                        replace h := h.2 c167
                                        by_cases c179 : ((hi 1 k2) &&& 63) = 18
                                        · rw [pm_sw_t c179] at hsw
                                          subst hsw
                                          replace h := h.1 c179
                                          obtain ⟨k180, hkk180, hek180, h⟩ := h
                                          refine And.intro (pm_ao_of (t := 1) sh_script hkk180 hek180 (by omega)) ?_
                                          rw [pm_tn hek180 hkk180 (by omega)]
                                          obtain ⟨k181, hkk181, hek181, h⟩ := h
                                          refine And.intro (pm_ao_of (t := 1) sh_script hkk181 hek181 (by omega)) ?_
                                          rw [pm_tn hek181 hkk181 (by omega)]
                                          refine And.intro sh_l16 ?_
                                          refine pm_C_imp h (fun v hi182 h => ?_)
                                          obtain ⟨x183, rfl, h⟩ := h
                                          refine ⟨_, rfl, ?_⟩
                                          obtain ⟨k184, hkk184, hek184, h⟩ := h
                                          refine And.intro (pm_ao_of (t := 1) sh_script hkk184 hek184 (by omega)) ?_
                                          rw [pm_tn hek184 hkk184 (by omega)]
                                          obtain ⟨k185, hkk185, hek185, h⟩ := h
                                          refine And.intro (pm_ao_of (t := 1) sh_script hkk185 hek185 (by omega)) ?_
                                          rw [pm_tn hek185 hkk185 (by omega)]
                                          refine And.intro sh_l141 ?_
                                          refine pm_C_imp h (fun v hi186 h => ?_)
                                          obtain ⟨x187, rfl, h⟩ := h
                                          refine ⟨_, rfl, ?_⟩
                                          refine And.intro (fun c188 => ?_) (fun c188 => ?_)
                                          · replace h := h.1 c188
                                            exact h
                                          · replace h := h.2 c188
                                            refine And.intro (Or.inl rfl) ?_
                                            exact h
                                        · rw [pm_sw_f c179] at hsw
                                          replace h := h.2 c179
                                          by_cases c189 : ((hi 1 k2) &&& 63) = 19
                                          · rw [pm_sw_t c189] at hsw
                                            subst hsw
                                            replace h := h.1 c189
                                            obtain ⟨k190, hkk190, hek190, h⟩ := h
                                            refine And.intro (pm_ao_of (t := 1) sh_script hkk190 hek190 (by omega)) ?_
                                            rw [pm_tn hek190 hkk190 (by omega)]
                                            refine And.intro sh_l16 ?_
                                            refine pm_C_imp h (fun v hi191 h => ?_)
                                            obtain ⟨x192, rfl, h⟩ := h
                                            refine ⟨_, rfl, ?_⟩
                                            obtain ⟨k193, hkk193, hek193, h⟩ := h
                                            refine And.intro (pm_ao_of (t := 1) sh_script hkk193 hek193 (by omega)) ?_
                                            rw [pm_tn hek193 hkk193 (by omega)]
                                            refine And.intro sh_l141 ?_
                                            refine pm_C_imp h (fun v hi194 h => ?_)
                                            obtain ⟨x195, rfl, h⟩ := h
                                            refine ⟨_, rfl, ?_⟩
                                            refine And.intro (fun c196 => ?_) (fun c196 => ?_)
                                            · replace h := h.1 c196
                                              exact h
                                            · replace h := h.2 c196
                                              refine And.intro (Or.inl rfl) ?_
                                              exact h
                                          · rw [pm_sw_f c189] at hsw
                                            replace h := h.2 c189
                                            by_cases c197 : ((hi 1 k2) &&& 63) = 20
                                            · rw [pm_sw_t c197] at hsw
                                              subst hsw
                                              replace h := h.1 c197
                                              obtain ⟨k198, hkk198, hek198, h⟩ := h
                                              refine And.intro (pm_ao_of (t := 1) sh_script hkk198 hek198 (by omega)) ?_
                                              rw [pm_tn hek198 hkk198 (by omega)]
                                              obtain ⟨k199, hkk199, hek199, h⟩ := h
                                              refine And.intro (pm_ao_of (t := 1) sh_script hkk199 hek199 (by omega)) ?_
                                              rw [pm_tn hek199 hkk199 (by omega)]
                                              refine And.intro sh_l16 ?_
                                              refine pm_C_imp h (fun v hi200 h => ?_)
                                              obtain ⟨x201, rfl, h⟩ := h
                                              refine ⟨_, rfl, ?_⟩
                                              obtain ⟨k202, hkk202, hek202, h⟩ := h
                                              refine And.intro (pm_ao_of (t := 1) sh_script hkk202 hek202 (by omega)) ?_
                                              rw [pm_tn hek202 hkk202 (by omega)]
                                              obtain ⟨k203, hkk203, hek203, h⟩ := h
                                              refine And.intro (pm_ao_of (t := 1) sh_script hkk203 hek203 (by omega)) ?_
                                              rw [pm_tn hek203 hkk203 (by omega)]
                                              refine And.intro sh_l141 ?_
                                              refine pm_C_imp h (fun v hi204 h => ?_)
                                              obtain ⟨x205, rfl, h⟩ := h
                                              refine ⟨_, rfl, ?_⟩
                                              refine And.intro (fun c206 => ?_) (fun c206 => ?_)
                                              · replace h := h.1 c206
                                                exact h
                                              · replace h := h.2 c206
                                                refine And.intro (Or.inl rfl) ?_
                                                exact h
                                            · rw [pm_sw_f c197] at hsw
                                              replace h := h.2 c197
                                              by_cases c207 : ((hi 1 k2) &&& 63) = 21
                                              · rw [pm_sw_t c207] at hsw
                                                subst hsw
                                                replace h := h.1 c207
                                                obtain ⟨k208, hkk208, hek208, h⟩ := h
                                                refine And.intro (pm_ao_of (t := 1) sh_script hkk208 hek208 (by omega)) ?_
                                                rw [pm_tn hek208 hkk208 (by omega)]
                                                obtain ⟨k209, hkk209, hek209, h⟩ := h
                                                refine And.intro (pm_ao_of (t := 1) sh_script hkk209 hek209 (by omega)) ?_
                                                rw [pm_tn hek209 hkk209 (by omega)]
                                                refine And.intro sh_l16 ?_
                                                refine pm_C_imp h (fun v hi210 h => ?_)
                                                obtain ⟨x211, rfl, h⟩ := h
                                                refine ⟨_, rfl, ?_⟩
                                                obtain ⟨k212, hkk212, hek212, h⟩ := h
                                                refine And.intro (pm_ao_of (t := 1) sh_script hkk212 hek212 (by omega)) ?_
                                                rw [pm_tn hek212 hkk212 (by omega)]
                                                obtain ⟨k213, hkk213, hek213, h⟩ := h
                                                refine And.intro (pm_ao_of (t := 1) sh_script hkk213 hek213 (by omega)) ?_
                                                rw [pm_tn hek213 hkk213 (by omega)]
                                                refine And.intro sh_l141 ?_
                                                refine pm_C_imp h (fun v hi214 h => ?_)
                                                obtain ⟨x215, rfl, h⟩ := h
                                                refine ⟨_, rfl, ?_⟩
                                                refine And.intro (fun c216 => ?_) (fun c216 => ?_)
                                                · replace h := h.1 c216
                                                  exact h
                                                · replace h := h.2 c216
                                                  refine And.intro (Or.inl rfl) ?_
                                                  exact h
                                              · rw [pm_sw_f c207] at hsw
                                                replace h := h.2 c207
                                                by_cases c217 : ((hi 1 k2) &&& 63) = 22
                                                · rw [pm_sw_t c217] at hsw
                                                  subst hsw
                                                  replace h := h.1 c217
                                                  obtain ⟨k218, hkk218, hek218, h⟩ := h
                                                  refine And.intro (pm_ao_of (t := 1) sh_script hkk218 hek218 (by omega)) ?_
                                                  rw [pm_tn hek218 hkk218 (by omega)]
                                                  obtain ⟨k219, hkk219, hek219, h⟩ := h
                                                  refine And.intro (pm_ao_of (t := 1) sh_script hkk219 hek219 (by omega)) ?_
                                                  rw [pm_tn hek219 hkk219 (by omega)]
                                                  obtain ⟨k220, hkk220, hek220, h⟩ := h
                                                  refine And.intro (pm_ao_of (t := 1) sh_script hkk220 hek220 (by omega)) ?_
                                                  rw [pm_tn hek220 hkk220 (by omega)]
                                                  refine And.intro sh_l16 ?_
                                                  refine pm_C_imp h (fun v hi221 h => ?_)
                                                  obtain ⟨x222, rfl, h⟩ := h
                                                  refine ⟨_, rfl, ?_⟩
                                                  obtain ⟨k223, hkk223, hek223, h⟩ := h
                                                  refine And.intro (pm_ao_of (t := 1) sh_script hkk223 hek223 (by omega)) ?_
                                                  rw [pm_tn hek223 hkk223 (by omega)]
                                                  obtain ⟨k224, hkk224, hek224, h⟩ := h
                                                  refine And.intro (pm_ao_of (t := 1) sh_script hkk224 hek224 (by omega)) ?_
                                                  rw [pm_tn hek224 hkk224 (by omega)]
                                                  obtain ⟨k225, hkk225, hek225, h⟩ := h
                                                  refine And.intro (pm_ao_of (t := 1) sh_script hkk225 hek225 (by omega)) ?_
                                                  rw [pm_tn hek225 hkk225 (by omega)]
                                                  refine And.intro sh_l141 ?_
                                                  refine pm_C_imp h (fun v hi226 h => ?_)
                                                  obtain ⟨x227, rfl, h⟩ := h
                                                  refine ⟨_, rfl, ?_⟩
                                                  refine And.intro (fun c228 => ?_) (fun c228 => ?_)
                                                  · replace h := h.1 c228
                                                    exact h
                                                  · replace h := h.2 c228
                                                    refine And.intro (Or.inl rfl) ?_
                                                    exact h
                                                · rw [pm_sw_f c217] at hsw
                                                  replace h := h.2 c217
                                                  by_cases c229 : ((hi 1 k2) &&& 63) = 23
                                                  · rw [pm_sw_t c229] at hsw
                                                    subst hsw
                                                    replace h := h.1 c229
                                                    refine And.intro sh_l16 ?_
                                                    refine pm_C_imp h (fun v hi230 h => ?_)
                                                    obtain ⟨x231, rfl, h⟩ := h
                                                    refine ⟨_, rfl, ?_⟩
                                                    refine And.intro sh_l141 ?_
                                                    refine pm_C_imp h (fun v hi232 h => ?_)
                                                    obtain ⟨x233, rfl, h⟩ := h
                                                    refine ⟨_, rfl, ?_⟩
                                                    refine And.intro (fun c234 => ?_) (fun c234 => ?_)
                                                    · replace h := h.1 c234
                                                      exact h
                                                    · replace h := h.2 c234
                                                      refine And.intro (Or.inl rfl) ?_
                                                      exact h
                                                  · rw [pm_sw_f c229] at hsw
                                                    replace h := h.2 c229
                                                    by_cases c235 : ((hi 1 k2) &&& 63) = 24
                                                    · rw [pm_sw_t c235] at hsw
                                                      subst hsw
                                                      replace h := h.1 c235
                                                      obtain ⟨k236, hkk236, hek236, h⟩ := h
                                                      refine And.intro (pm_ao_of (t := 1) sh_script hkk236 hek236 (by omega)) ?_
                                                      rw [pm_tn hek236 hkk236 (by omega)]
                                                      refine And.intro sh_l16 ?_
                                                      refine pm_C_imp h (fun v hi237 h => ?_)
                                                      obtain ⟨x238, rfl, h⟩ := h
                                                      refine ⟨_, rfl, ?_⟩
                                                      obtain ⟨k239, hkk239, hek239, h⟩ := h
                                                      refine And.intro (pm_ao_of (t := 1) sh_script hkk239 hek239 (by omega)) ?_
                                                      rw [pm_tn hek239 hkk239 (by omega)]
                                                      refine And.intro sh_l141 ?_
                                                      refine pm_C_imp h (fun v hi240 h => ?_)
                                                      obtain ⟨x241, rfl, h⟩ := h
                                                      refine ⟨_, rfl, ?_⟩
                                                      refine And.intro (fun c242 => ?_) (fun c242 => ?_)
                                                      · replace h := h.1 c242
                                                        exact h
                                                      · replace h := h.2 c242
                                                        refine And.intro (Or.inl rfl) ?_
                                                        exact h
                                                    · rw [pm_sw_f c235] at hsw
                                                      replace h := h.2 c235
                                                      by_cases c243 : ((hi 1 k2) &&& 63) = 25
                                                      · rw [pm_sw_t c243] at hsw
                                                        subst hsw
                                                        replace h := h.1 c243
                                                        obtain ⟨k244, hkk244, hek244, h⟩ := h
                                                        refine And.intro (pm_ao_of (t := 1) sh_script hkk244 hek244 (by omega)) ?_
                                                        rw [pm_tn hek244 hkk244 (by omega)]
                                                        obtain ⟨k245, hkk245, hek245, h⟩ := h
                                                        refine And.intro (pm_ao_of (t := 1) sh_script hkk245 hek245 (by omega)) ?_
                                                        rw [pm_tn hek245 hkk245 (by omega)]
                                                        obtain ⟨k246, hkk246, hek246, h⟩ := h
                                                        refine And.intro (pm_ao_of (t := 1) sh_script hkk246 hek246 (by omega)) ?_
                                                        rw [pm_tn hek246 hkk246 (by omega)]
                                                        refine And.intro sh_l16 ?_
                                                        refine pm_C_imp h (fun v hi247 h => ?_)
                                                        obtain ⟨x248, rfl, h⟩ := h
                                                        refine ⟨_, rfl, ?_⟩
                                                        obtain ⟨k249, hkk249, hek249, h⟩ := h
                                                        refine And.intro (pm_ao_of (t := 1) sh_script hkk249 hek249 (by omega)) ?_
                                                        rw [pm_tn hek249 hkk249 (by omega)]
                                                        obtain ⟨k250, hkk250, hek250, h⟩ := h
                                                        refine And.intro (pm_ao_of (t := 1) sh_script hkk250 hek250 (by omega)) ?_
                                                        rw [pm_tn hek250 hkk250 (by omega)]
                                                        obtain ⟨k251, hkk251, hek251, h⟩ := h
                                                        refine And.intro (pm_ao_of (t := 1) sh_script hkk251 hek251 (by omega)) ?_
                                                        rw [pm_tn hek251 hkk251 (by omega)]
                                                        refine And.intro sh_l141 ?_
                                                        refine pm_C_imp h (fun v hi252 h => ?_)
                                                        obtain ⟨x253, rfl, h⟩ := h
                                                        refine ⟨_, rfl, ?_⟩
                                                        refine And.intro (fun c254 => ?_) (fun c254 => ?_)
                                                        · replace h := h.1 c254
                                                          exact h
                                                        · replace h := h.2 c254
                                                          refine And.intro (Or.inl rfl) ?_
                                                          exact h
                                                      · rw [pm_sw_f c243] at hsw
                                                        replace h := h.2 c243
                                                        by_cases c255 : ((hi 1 k2) &&& 63) = 26
                                                        · rw [pm_sw_t c255] at hsw
                                                          subst hsw
                                                          replace h := h.1 c255
                                                          obtain ⟨k256, hkk256, hek256, h⟩ := h
                                                          refine And.intro (pm_ao_of (t := 1) sh_script hkk256 hek256 (by omega)) ?_
                                                          rw [pm_tn hek256 hkk256 (by omega)]
                                                          refine And.intro sh_l16 ?_
                                                          refine pm_C_imp h (fun v hi257 h => ?_)
                                                          obtain ⟨x258, rfl, h⟩ := h
                                                          refine ⟨_, rfl, ?_⟩
                                                          obtain ⟨k259, hkk259, hek259, h⟩ := h
                                                          refine And.intro (pm_ao_of (t := 1) sh_script hkk259 hek259 (by omega)) ?_
                                                          rw [pm_tn hek259 hkk259 (by omega)]
                                                          refine And.intro sh_l141 ?_
                                                          refine pm_C_imp h (fun v hi260 h => ?_)
                                                          obtain ⟨x261, rfl, h⟩ := h
                                                          refine ⟨_, rfl, ?_⟩
                                                          refine And.intro (fun c262 => ?_) (fun c262 => ?_)
                                                          · replace h := h.1 c262
                                                            exact h
                                                          · replace h := h.2 c262
                                                            refine And.intro (Or.inl rfl) ?_
                                                            exact h
                                                        · rw [pm_sw_f c255] at hsw
                                                          replace h := h.2 c255
                                                          by_cases c263 : ((hi 1 k2) &&& 63) = 27
                                                          · rw [pm_sw_t c263] at hsw
                                                            subst hsw
                                                            replace h := h.1 c263
                                                            refine And.intro sh_l16 ?_
                                                            refine pm_C_imp h (fun v hi264 h => ?_)
                                                            obtain ⟨x265, rfl, h⟩ := h
                                                            refine ⟨_, rfl, ?_⟩
                                                            refine And.intro sh_l141 ?_
                                                            refine pm_C_imp h (fun v hi266 h => ?_)
                                                            obtain ⟨x267, rfl, h⟩ := h
                                                            refine ⟨_, rfl, ?_⟩
                                                            refine And.intro (fun c268 => ?_) (fun c268 => ?_)
                                                            · replace h := h.1 c268
                                                              exact h
                                                            · replace h := h.2 c268
                                                              refine And.intro (Or.inl rfl) ?_
                                                              exact h
                                                          · rw [pm_sw_f c263] at hsw
                                                            replace h := h.2 c263
                                                            by_cases c269 : ((hi 1 k2) &&& 63) = 28
                                                            · rw [pm_sw_t c269] at hsw
                                                              subst hsw
                                                              replace h := h.1 c269
                                                              obtain ⟨k270, hkk270, hek270, h⟩ := h
                                                              refine And.intro (pm_ao_of (t := 1) sh_script hkk270 hek270 (by omega)) ?_
                                                              rw [pm_tn hek270 hkk270 (by omega)]
                                                              obtain ⟨k271, hkk271, hek271, h⟩ := h
                                                              refine And.intro (pm_ao_of (t := 1) sh_script hkk271 hek271 (by omega)) ?_
                                                              rw [pm_tn hek271 hkk271 (by omega)]
                                                              refine And.intro sh_l16 ?_
                                                              refine pm_C_imp h (fun v hi272 h => ?_)
                                                              obtain ⟨x273, rfl, h⟩ := h
                                                              refine ⟨_, rfl, ?_⟩
                                                              obtain ⟨k274, hkk274, hek274, h⟩ := h
                                                              refine And.intro (pm_ao_of (t := 1) sh_script hkk274 hek274 (by omega)) ?_
                                                              rw [pm_tn hek274 hkk274 (by omega)]
                                                              obtain ⟨k275, hkk275, hek275, h⟩ := h
                                                              refine And.intro (pm_ao_of (t := 1) sh_script hkk275 hek275 (by omega)) ?_
                                                              rw [pm_tn hek275 hkk275 (by omega)]
                                                              refine And.intro sh_l141 ?_
                                                              refine pm_C_imp h (fun v hi276 h => ?_)
                                                              obtain ⟨x277, rfl, h⟩ := h
                                                              refine ⟨_, rfl, ?_⟩
                                                              refine And.intro (fun c278 => ?_) (fun c278 => ?_)
                                                              · replace h := h.1 c278
                                                                exact h
                                                              · replace h := h.2 c278
                                                                refine And.intro (Or.inl rfl) ?_
                                                                exact h
                                                            · rw [pm_sw_f c269] at hsw
                                                              replace h := h.2 c269
                                                              by_cases c279 : ((hi 1 k2) &&& 63) = 29
                                                              · rw [pm_sw_t c279] at hsw
                                                                subst hsw
                                                                replace h := h.1 c279
                                                                obtain ⟨k280, hkk280, hek280, h⟩ := h
                                                                refine And.intro (pm_ao_of (t := 1) sh_script hkk280 hek280 (by omega)) ?_
                                                                rw [pm_tn hek280 hkk280 (by omega)]
                                                                refine And.intro sh_l16 ?_
                                                                refine pm_C_imp h (fun v hi281 h => ?_)
                                                                obtain ⟨x282, rfl, h⟩ := h
                                                                refine ⟨_, rfl, ?_⟩
                                                                obtain ⟨k283, hkk283, hek283, h⟩ := h
                                                                refine And.intro (pm_ao_of (t := 1) sh_script hkk283 hek283 (by omega)) ?_
                                                                rw [pm_tn hek283 hkk283 (by omega)]
                                                                refine And.intro sh_l141 ?_
                                                                refine pm_C_imp h (fun v hi284 h => ?_)
                                                                obtain ⟨x285, rfl, h⟩ := h
                                                                refine ⟨_, rfl, ?_⟩
                                                                refine And.intro (fun c286 => ?_) (fun c286 => ?_)
                                                                · replace h := h.1 c286
                                                                  exact h
                                                                · replace h := h.2 c286
                                                                  refine And.intro (Or.inl rfl) ?_
                                                                  exact h
                                                              · rw [pm_sw_f c279] at hsw
                                                                replace h := h.2 c279
                                                                by_cases c287 : ((hi 1 k2) &&& 63) = 30
                                                                · rw [pm_sw_t c287] at hsw
                                                                  subst hsw
                                                                  replace h := h.1 c287
                                                                  obtain ⟨k288, hkk288, hek288, h⟩ := h
                                                                  refine And.intro (pm_ao_of (t := 1) sh_script hkk288 hek288 (by omega)) ?_
                                                                  rw [pm_tn hek288 hkk288 (by omega)]
                                                                  obtain ⟨k289, hkk289, hek289, h⟩ := h
                                                                  refine And.intro (pm_ao_of (t := 1) sh_script hkk289 hek289 (by omega)) ?_
                                                                  rw [pm_tn hek289 hkk289 (by omega)]
                                                                  obtain ⟨k290, hkk290, hek290, h⟩ := h
                                                                  refine And.intro (pm_ao_of (t := 1) sh_script hkk290 hek290 (by omega)) ?_
                                                                  rw [pm_tn hek290 hkk290 (by omega)]
                                                                  refine And.intro sh_l16 ?_
                                                                  refine pm_C_imp h (fun v hi291 h => ?_)
                                                                  obtain ⟨x292, rfl, h⟩ := h
                                                                  refine ⟨_, rfl, ?_⟩
                                                                  obtain ⟨k293, hkk293, hek293, h⟩ := h
                                                                  refine And.intro (pm_ao_of (t := 1) sh_script hkk293 hek293 (by omega)) ?_
                                                                  rw [pm_tn hek293 hkk293 (by omega)]
                                                                  obtain ⟨k294, hkk294, hek294, h⟩ := h
                                                                  refine And.intro (pm_ao_of (t := 1) sh_script hkk294 hek294 (by omega)) ?_
                                                                  rw [pm_tn hek294 hkk294 (by omega)]
                                                                  obtain ⟨k295, hkk295, hek295, h⟩ := h
                                                                  refine And.intro (pm_ao_of (t := 1) sh_script hkk295 hek295 (by omega)) ?_
                                                                  rw [pm_tn hek295 hkk295 (by omega)]
                                                                  refine And.intro sh_l141 ?_
                                                                  refine pm_C_imp h (fun v hi296 h => ?_)
                                                                  obtain ⟨x297, rfl, h⟩ := h
                                                                  refine ⟨_, rfl, ?_⟩
                                                                  refine And.intro (fun c298 => ?_) (fun c298 => ?_)
                                                                  · replace h := h.1 c298
                                                                    exact h
                                                                  · replace h := h.2 c298
                                                                    refine And.intro (Or.inl rfl) ?_
                                                                    exact h
                                                                · rw [pm_sw_f c287] at hsw
                                                                  replace h := h.2 c287
                                                                  by_cases c299 : ((hi 1 k2) &&& 63) = 31
                                                                  · rw [pm_sw_t c299] at hsw
                                                                    subst hsw
                                                                    replace h := h.1 c299
                                                                    obtain ⟨k300, hkk300, hek300, h⟩ := h
                                                                    refine And.intro (pm_ao_of (t := 1) sh_script hkk300 hek300 (by omega)) ?_
                                                                    rw [pm_tn hek300 hkk300 (by omega)]
                                                                    obtain ⟨k301, hkk301, hek301, h⟩ := h
                                                                    refine And.intro (pm_ao_of (t := 1) sh_script hkk301 hek301 (by omega)) ?_
                                                                    rw [pm_tn hek301 hkk301 (by omega)]
                                                                    obtain ⟨k302, hkk302, hek302, h⟩ := h
                                                                    refine And.intro (pm_ao_of (t := 1) sh_script hkk302 hek302 (by omega)) ?_
                                                                    rw [pm_tn hek302 hkk302 (by omega)]
                                                                    refine And.intro sh_l16 ?_
                                                                    refine pm_C_imp h (fun v hi303 h => ?_)
                                                                    obtain ⟨x304, rfl, h⟩ := h
                                                                    refine ⟨_, rfl, ?_⟩
                                                                    obtain ⟨k305, hkk305, hek305, h⟩ := h
                                                                    refine And.intro (pm_ao_of (t := 1) sh_script hkk305 hek305 (by omega)) ?_
                                                                    rw [pm_tn hek305 hkk305 (by omega)]
                                                                    obtain ⟨k306, hkk306, hek306, h⟩ := h
                                                                    refine And.intro (pm_ao_of (t := 1) sh_script hkk306 hek306 (by omega)) ?_
                                                                    rw [pm_tn hek306 hkk306 (by omega)]
                                                                    obtain ⟨k307, hkk307, hek307, h⟩ := h
                                                                    refine And.intro (pm_ao_of (t := 1) sh_script hkk307 hek307 (by omega)) ?_
                                                                    rw [pm_tn hek307 hkk307 (by omega)]
                                                                    refine And.intro sh_l141 ?_
                                                                    refine pm_C_imp h (fun v hi308 h => ?_)
                                                                    obtain ⟨x309, rfl, h⟩ := h
                                                                    refine ⟨_, rfl, ?_⟩
                                                                    refine And.intro (fun c310 => ?_) (fun c310 => ?_)
                                                                    · replace h := h.1 c310
                                                                      exact h
                                                                    · replace h := h.2 c310
                                                                      refine And.intro (Or.inl rfl) ?_
                                                                      exact h
                                                                  · rw [pm_sw_f c299] at hsw
                                                                    replace h := h.2 c299
                                                                    by_cases c311 : ((hi 1 k2) &&& 63) = 32
                                                                    · rw [pm_sw_t c311] at hsw
                                                                      subst hsw
                                                                      replace h := h.1 c311
                                                                      obtain ⟨k312, hkk312, hek312, h⟩ := h
                                                                      refine And.intro (pm_ao_of (t := 1) sh_script hkk312 hek312 (by omega)) ?_
                                                                      rw [pm_tn hek312 hkk312 (by omega)]
                                                                      refine And.intro sh_l16 ?_
                                                                      refine pm_C_imp h (fun v hi313 h => ?_)
                                                                      obtain ⟨x314, rfl, h⟩ := h
                                                                      refine ⟨_, rfl, ?_⟩
                                                                      obtain ⟨k315, hkk315, hek315, h⟩ := h
                                                                      refine And.intro (pm_ao_of (t := 1) sh_script hkk315 hek315 (by omega)) ?_
                                                                      rw [pm_tn hek315 hkk315 (by omega)]
                                                                      refine And.intro sh_l141 ?_
                                                                      refine pm_C_imp h (fun v hi316 h => ?_)
                                                                      obtain ⟨x317, rfl, h⟩ := h
                                                                      refine ⟨_, rfl, ?_⟩
                                                                      refine And.intro (fun c318 => ?_) (fun c318 => ?_)
                                                                      · replace h := h.1 c318
                                                                        exact h
                                                                      · replace h := h.2 c318
                                                                        refine And.intro (Or.inl rfl) ?_
                                                                        exact h
                                                                    · rw [pm_sw_f c311] at hsw
                                                                      replace h := h.2 c311
                                                                      by_cases c319 : ((hi 1 k2) &&& 63) = 33
                                                                      · rw [pm_sw_t c319] at hsw
                                                                        subst hsw
                                                                        replace h := h.1 c319
                                                                        obtain ⟨k320, hkk320, hek320, h⟩ := h
                                                                        refine And.intro (pm_ao_of (t := 1) sh_script hkk320 hek320 (by omega)) ?_
                                                                        rw [pm_tn hek320 hkk320 (by omega)]
                                                                        refine And.intro sh_l16 ?_
                                                                        refine pm_C_imp h (fun v hi321 h => ?_)
                                                                        obtain ⟨x322, rfl, h⟩ := h
                                                                        refine ⟨_, rfl, ?_⟩
                                                                        obtain ⟨k323, hkk323, hek323, h⟩ := h
                                                                        refine And.intro (pm_ao_of (t := 1) sh_script hkk323 hek323 (by omega)) ?_
                                                                        rw [pm_tn hek323 hkk323 (by omega)]
                                                                        refine And.intro sh_l141 ?_
                                                                        refine pm_C_imp h (fun v hi324 h => ?_)
                                                                        obtain ⟨x325, rfl, h⟩ := h
                                                                        refine ⟨_, rfl, ?_⟩
                                                                        refine And.intro (fun c326 => ?_) (fun c326 => ?_)
                                                                        · replace h := h.1 c326
                                                                          exact h
                                                                        · replace h := h.2 c326
                                                                          refine And.intro (Or.inl rfl) ?_
                                                                          exact h
                                                                      · rw [pm_sw_f c319] at hsw
                                                                        replace h := h.2 c319
                                                                        by_cases c327 : ((hi 1 k2) &&& 63) = 34
                                                                        · rw [pm_sw_t c327] at hsw
                                                                          subst hsw
                                                                          replace h := h.1 c327
                                                                          obtain ⟨k328, hkk328, hek328, h⟩ := h
                                                                          refine And.intro (pm_ao_of (t := 1) sh_script hkk328 hek328 (by omega)) ?_
                                                                          rw [pm_tn hek328 hkk328 (by omega)]
                                                                          obtain ⟨k329, hkk329, hek329, h⟩ := h
                                                                          refine And.intro (pm_ao_of (t := 1) sh_script hkk329 hek329 (by omega)) ?_
                                                                          rw [pm_tn hek329 hkk329 (by omega)]
                                                                          obtain ⟨k330, hkk330, hek330, h⟩ := h
                                                                          refine And.intro (pm_ao_of (t := 1) sh_script hkk330 hek330 (by omega)) ?_
                                                                          rw [pm_tn hek330 hkk330 (by omega)]
                                                                          obtain ⟨k331, hkk331, hek331, h⟩ := h
                                                                          refine And.intro (pm_ao_of (t := 1) sh_script hkk331 hek331 (by omega)) ?_
                                                                          rw [pm_tn hek331 hkk331 (by omega)]
                                                                          obtain ⟨k332, hkk332, hek332, h⟩ := h
                                                                          refine And.intro (pm_ao_of (t := 1) sh_script hkk332 hek332 (by omega)) ?_
                                                                          rw [pm_tn hek332 hkk332 (by omega)]
                                                                          refine And.intro sh_l16 ?_
                                                                          refine pm_C_imp h (fun v hi333 h => ?_)
                                                                          obtain ⟨x334, rfl, h⟩ := h
                                                                          refine ⟨_, rfl, ?_⟩
                                                                          obtain ⟨k335, hkk335, hek335, h⟩ := h
                                                                          refine And.intro (pm_ao_of (t := 1) sh_script hkk335 hek335 (by omega)) ?_
                                                                          rw [pm_tn hek335 hkk335 (by omega)]
                                                                          obtain ⟨k336, hkk336, hek336, h⟩ := h
                                                                          refine And.intro (pm_ao_of (t := 1) sh_script hkk336 hek336 (by omega)) ?_
                                                                          rw [pm_tn hek336 hkk336 (by omega)]
                                                                          obtain ⟨k337, hkk337, hek337, h⟩ := h
                                                                          refine And.intro (pm_ao_of (t := 1) sh_script hkk337 hek337 (by omega)) ?_
                                                                          rw [pm_tn hek337 hkk337 (by omega)]
                                                                          obtain ⟨k338, hkk338, hek338, h⟩ := h
                                                                          refine And.intro (pm_ao_of (t := 1) sh_script hkk338 hek338 (by omega)) ?_
                                                                          rw [pm_tn hek338 hkk338 (by omega)]
                                                                          obtain ⟨k339, hkk339, hek339, h⟩ := h
                                                                          refine And.intro (pm_ao_of (t := 1) sh_script hkk339 hek339 (by omega)) ?_
                                                                          rw [pm_tn hek339 hkk339 (by omega)]
                                                                          refine And.intro sh_l141 ?_
                                                                          refine pm_C_imp h (fun v hi340 h => ?_)
                                                                          obtain ⟨x341, rfl, h⟩ := h
                                                                          refine ⟨_, rfl, ?_⟩
                                                                          refine And.intro (fun c342 => ?_) (fun c342 => ?_)
                                                                          · replace h := h.1 c342
                                                                            exact h
                                                                          · replace h := h.2 c342
                                                                            refine And.intro (Or.inl rfl) ?_
                                                                            exact h
                                                                        · rw [pm_sw_f c327] at hsw
                                                                          replace h := h.2 c327
                                                                          by_cases c343 : ((hi 1 k2) &&& 63) = 35
                                                                          · rw [pm_sw_t c343] at hsw
                                                                            subst hsw
                                                                            replace h := h.1 c343
                                                                            obtain ⟨k344, hkk344, hek344, h⟩ := h
                                                                            refine And.intro (pm_ao_of (t := 1) sh_script hkk344 hek344 (by omega)) ?_
                                                                            rw [pm_tn hek344 hkk344 (by omega)]
                                                                            obtain ⟨k345, hkk345, hek345, h⟩ := h
                                                                            refine And.intro (pm_ao_of (t := 1) sh_script hkk345 hek345 (by omega)) ?_
                                                                            rw [pm_tn hek345 hkk345 (by omega)]
                                                                            obtain ⟨k346, hkk346, hek346, h⟩ := h
                                                                            refine And.intro (pm_ao_of (t := 1) sh_script hkk346 hek346 (by omega)) ?_
                                                                            rw [pm_tn hek346 hkk346 (by omega)]
                                                                            refine And.intro sh_l16 ?_
                                                                            refine pm_C_imp h (fun v hi347 h => ?_)
                                                                            obtain ⟨x348, rfl, h⟩ := h
                                                                            refine ⟨_, rfl, ?_⟩
                                                                            obtain ⟨k349, hkk349, hek349, h⟩ := h
                                                                            refine And.intro (pm_ao_of (t := 1) sh_script hkk349 hek349 (by omega)) ?_
                                                                            rw [pm_tn hek349 hkk349 (by omega)]
                                                                            obtain ⟨k350, hkk350, hek350, h⟩ := h
                                                                            refine And.intro (pm_ao_of (t := 1) sh_script hkk350 hek350 (by omega)) ?_
                                                                            rw [pm_tn hek350 hkk350 (by omega)]
                                                                            obtain ⟨k351, hkk351, hek351, h⟩ := h
                                                                            refine And.intro (pm_ao_of (t := 1) sh_script hkk351 hek351 (by omega)) ?_
                                                                            rw [pm_tn hek351 hkk351 (by omega)]
                                                                            refine And.intro sh_l141 ?_
                                                                            refine pm_C_imp h (fun v hi352 h => ?_)
                                                                            obtain ⟨x353, rfl, h⟩ := h
                                                                            refine ⟨_, rfl, ?_⟩
                                                                            refine And.intro (fun c354 => ?_) (fun c354 => ?_)
                                                                            · replace h := h.1 c354
                                                                              exact h
                                                                            · replace h := h.2 c354
                                                                              refine And.intro (Or.inl rfl) ?_
                                                                              exact h
                                                                          · rw [pm_sw_f c343] at hsw
                                                                            replace h := h.2 c343
                                                                            by_cases c355 : ((hi 1 k2) &&& 63) = 36
                                                                            · rw [pm_sw_t c355] at hsw
                                                                              subst hsw
                                                                              replace h := h.1 c355
                                                                              obtain ⟨k356, hkk356, hek356, h⟩ := h
                                                                              refine And.intro (pm_ao_of (t := 1) sh_script hkk356 hek356 (by omega)) ?_
                                                                              rw [pm_tn hek356 hkk356 (by omega)]
                                                                              obtain ⟨k357, hkk357, hek357, h⟩ := h
                                                                              refine And.intro (pm_ao_of (t := 1) sh_script hkk357 hek357 (by omega)) ?_
                                                                              rw [pm_tn hek357 hkk357 (by omega)]
                                                                              refine And.intro sh_l16 ?_
                                                                              refine pm_C_imp h (fun v hi358 h => ?_)
                                                                              obtain ⟨x359, rfl, h⟩ := h
                                                                              refine ⟨_, rfl, ?_⟩
                                                                              obtain ⟨k360, hkk360, hek360, h⟩ := h
                                                                              refine And.intro (pm_ao_of (t := 1) sh_script hkk360 hek360 (by omega)) ?_
                                                                              rw [pm_tn hek360 hkk360 (by omega)]
                                                                              obtain ⟨k361, hkk361, hek361, h⟩ := h
                                                                              refine And.intro (pm_ao_of (t := 1) sh_script hkk361 hek361 (by omega)) ?_
                                                                              rw [pm_tn hek361 hkk361 (by omega)]
                                                                              refine And.intro sh_l141 ?_
                                                                              refine pm_C_imp h (fun v hi362 h => ?_)
                                                                              obtain ⟨x363, rfl, h⟩ := h
                                                                              refine ⟨_, rfl, ?_⟩
                                                                              refine And.intro (fun c364 => ?_) (fun c364 => ?_)
                                                                              · replace h := h.1 c364
                                                                                exact h
                                                                              · replace h := h.2 c364
                                                                                refine And.intro (Or.inl rfl) ?_
                                                                                exact h
                                                                            · rw [pm_sw_f c355] at hsw
                                                                              replace h := h.2 c355
                                                                              by_cases c365 : ((hi 1 k2) &&& 63) = 37
                                                                              · rw [pm_sw_t c365] at hsw
                                                                                subst hsw
                                                                                replace h := h.1 c365
                                                                                obtain ⟨k366, hkk366, hek366, h⟩ := h
                                                                                refine And.intro (pm_ao_of (t := 1) sh_script hkk366 hek366 (by omega)) ?_
                                                                                rw [pm_tn hek366 hkk366 (by omega)]
                                                                                obtain ⟨k367, hkk367, hek367, h⟩ := h
                                                                                refine And.intro (pm_ao_of (t := 1) sh_script hkk367 hek367 (by omega)) ?_
                                                                                rw [pm_tn hek367 hkk367 (by omega)]
                                                                                refine And.intro sh_l16 ?_
                                                                                refine pm_C_imp h (fun v hi368 h => ?_)
                                                                                obtain ⟨x369, rfl, h⟩ := h
                                                                                refine ⟨_, rfl, ?_⟩
                                                                                obtain ⟨k370, hkk370, hek370, h⟩ := h
                                                                                refine And.intro (pm_ao_of (t := 1) sh_script hkk370 hek370 (by omega)) ?_
                                                                                rw [pm_tn hek370 hkk370 (by omega)]
                                                                                obtain ⟨k371, hkk371, hek371, h⟩ := h
                                                                                refine And.intro (pm_ao_of (t := 1) sh_script hkk371 hek371 (by omega)) ?_
                                                                                rw [pm_tn hek371 hkk371 (by omega)]
                                                                                refine And.intro sh_l141 ?_
                                                                                refine pm_C_imp h (fun v hi372 h => ?_)
                                                                                obtain ⟨x373, rfl, h⟩ := h
                                                                                refine ⟨_, rfl, ?_⟩
                                                                                refine And.intro (fun c374 => ?_) (fun c374 => ?_)
                                                                                · replace h := h.1 c374
                                                                                  exact h
                                                                                · replace h := h.2 c374
                                                                                  refine And.intro (Or.inl rfl) ?_
                                                                                  exact h
                                                                              · rw [pm_sw_f c365] at hsw
                                                                                replace h := h.2 c365
                                                                                by_cases c375 : ((hi 1 k2) &&& 63) = 38
                                                                                · rw [pm_sw_t c375] at hsw
                                                                                  subst hsw
                                                                                  replace h := h.1 c375
                                                                                  obtain ⟨k376, hkk376, hek376, h⟩ := h
                                                                                  refine And.intro (pm_ao_of (t := 1) sh_script hkk376 hek376 (by omega)) ?_
                                                                                  rw [pm_tn hek376 hkk376 (by omega)]
                                                                                  obtain ⟨k377, hkk377, hek377, h⟩ := h
                                                                                  refine And.intro (pm_ao_of (t := 1) sh_script hkk377 hek377 (by omega)) ?_
                                                                                  rw [pm_tn hek377 hkk377 (by omega)]
                                                                                  refine And.intro sh_l16 ?_
                                                                                  refine pm_C_imp h (fun v hi378 h => ?_)
                                                                                  obtain ⟨x379, rfl, h⟩ := h
                                                                                  refine ⟨_, rfl, ?_⟩
                                                                                  obtain ⟨k380, hkk380, hek380, h⟩ := h
                                                                                  refine And.intro (pm_ao_of (t := 1) sh_script hkk380 hek380 (by omega)) ?_
                                                                                  rw [pm_tn hek380 hkk380 (by omega)]
                                                                                  obtain ⟨k381, hkk381, hek381, h⟩ := h
                                                                                  refine And.intro (pm_ao_of (t := 1) sh_script hkk381 hek381 (by omega)) ?_
                                                                                  rw [pm_tn hek381 hkk381 (by omega)]
                                                                                  refine And.intro sh_l141 ?_
                                                                                  refine pm_C_imp h (fun v hi382 h => ?_)
                                                                                  obtain ⟨x383, rfl, h⟩ := h
                                                                                  refine ⟨_, rfl, ?_⟩
                                                                                  refine And.intro (fun c384 => ?_) (fun c384 => ?_)
                                                                                  · replace h := h.1 c384
                                                                                    exact h
                                                                                  · replace h := h.2 c384
                                                                                    refine And.intro (Or.inl rfl) ?_
                                                                                    exact h
                                                                                · rw [pm_sw_f c375] at hsw
                                                                                  replace h := h.2 c375
                                                                                  by_cases c385 : ((hi 1 k2) &&& 63) = 39
                                                                                  · rw [pm_sw_t c385] at hsw
                                                                                    subst hsw
                                                                                    replace h := h.1 c385
                                                                                    obtain ⟨k386, hkk386, hek386, h⟩ := h
                                                                                    refine And.intro (pm_ao_of (t := 1) sh_script hkk386 hek386 (by omega)) ?_
                                                                                    rw [pm_tn hek386 hkk386 (by omega)]
                                                                                    refine And.intro sh_l16 ?_
                                                                                    refine pm_C_imp h (fun v hi387 h => ?_)
                                                                                    obtain ⟨x388, rfl, h⟩ := h
                                                                                    refine ⟨_, rfl, ?_⟩
                                                                                    obtain ⟨k389, hkk389, hek389, h⟩ := h
                                                                                    refine And.intro (pm_ao_of (t := 1) sh_script hkk389 hek389 (by omega)) ?_
                                                                                    rw [pm_tn hek389 hkk389 (by omega)]
                                                                                    refine And.intro sh_l141 ?_
                                                                                    refine pm_C_imp h (fun v hi390 h => ?_)
                                                                                    obtain ⟨x391, rfl, h⟩ := h
                                                                                    refine ⟨_, rfl, ?_⟩
                                                                                    refine And.intro (fun c392 => ?_) (fun c392 => ?_)
                                                                                    · replace h := h.1 c392
                                                                                      exact h
                                                                                    · replace h := h.2 c392
                                                                                      refine And.intro (Or.inl rfl) ?_
                                                                                      exact h
                                                                                  · rw [pm_sw_f c385] at hsw
                                                                                    replace h := h.2 c385
                                                                                    by_cases c393 : ((hi 1 k2) &&& 63) = 40
                                                                                    · rw [pm_sw_t c393] at hsw
                                                                                      subst hsw
                                                                                      replace h := h.1 c393
                                                                                      obtain ⟨k394, hkk394, hek394, h⟩ := h
                                                                                      refine And.intro (pm_ao_of (t := 1) sh_script hkk394 hek394 (by omega)) ?_
                                                                                      rw [pm_tn hek394 hkk394 (by omega)]
                                                                                      refine And.intro sh_l16 ?_
                                                                                      refine pm_C_imp h (fun v hi395 h => ?_)
                                                                                      obtain ⟨x396, rfl, h⟩ := h
                                                                                      refine ⟨_, rfl, ?_⟩
                                                                                      obtain ⟨k397, hkk397, hek397, h⟩ := h
                                                                                      refine And.intro (pm_ao_of (t := 1) sh_script hkk397 hek397 (by omega)) ?_
                                                                                      rw [pm_tn hek397 hkk397 (by omega)]
                                                                                      refine And.intro sh_l141 ?_
                                                                                      refine pm_C_imp h (fun v hi398 h => ?_)
                                                                                      obtain ⟨x399, rfl, h⟩ := h
                                                                                      refine ⟨_, rfl, ?_⟩
                                                                                      refine And.intro (fun c400 => ?_) (fun c400 => ?_)
                                                                                      · replace h := h.1 c400
                                                                                        exact h
                                                                                      · replace h := h.2 c400
                                                                                        refine And.intro (Or.inl rfl) ?_
                                                                                        exact h
                                                                                    · rw [pm_sw_f c393] at hsw
                                                                                      replace h := h.2 c393
                                                                                      by_cases c401 : ((hi 1 k2) &&& 63) = 41
                                                                                      · rw [pm_sw_t c401] at hsw
                                                                                        subst hsw
                                                                                        replace h := h.1 c401
                                                                                        refine And.intro sh_l16 ?_
                                                                                        refine pm_C_imp h (fun v hi402 h => ?_)
                                                                                        obtain ⟨x403, rfl, h⟩ := h
                                                                                        refine ⟨_, rfl, ?_⟩
                                                                                        refine And.intro sh_l141 ?_
                                                                                        refine pm_C_imp h (fun v hi404 h => ?_)
                                                                                        obtain ⟨x405, rfl, h⟩ := h
                                                                                        refine ⟨_, rfl, ?_⟩
                                                                                        refine And.intro (fun c406 => ?_) (fun c406 => ?_)
                                                                                        · replace h := h.1 c406
                                                                                          exact h
                                                                                        · replace h := h.2 c406
                                                                                          refine And.intro (Or.inl rfl) ?_
                                                                                          exact h
                                                                                      · rw [pm_sw_f c401] at hsw
                                                                                        replace h := h.2 c401
                                                                                        by_cases c407 : ((hi 1 k2) &&& 63) = 42
                                                                                        · rw [pm_sw_t c407] at hsw
                                                                                          subst hsw
                                                                                          replace h := h.1 c407
                                                                                          refine And.intro sh_l16 ?_
                                                                                          refine pm_C_imp h (fun v hi408 h => ?_)
                                                                                          obtain ⟨x409, rfl, h⟩ := h
                                                                                          refine ⟨_, rfl, ?_⟩
                                                                                          refine And.intro sh_l141 ?_
                                                                                          refine pm_C_imp h (fun v hi410 h => ?_)
                                                                                          obtain ⟨x411, rfl, h⟩ := h
                                                                                          refine ⟨_, rfl, ?_⟩
                                                                                          refine And.intro (fun c412 => ?_) (fun c412 => ?_)
                                                                                          · replace h := h.1 c412
                                                                                            exact h
                                                                                          · replace h := h.2 c412
                                                                                            refine And.intro (Or.inl rfl) ?_
                                                                                            exact h
                                                                                        · rw [pm_sw_f c407] at hsw
                                                                                          replace h := h.2 c407
                                                                                          by_cases c413 : ((hi 1 k2) &&& 63) = 43
                                                                                          · rw [pm_sw_t c413] at hsw
                                                                                            subst hsw
                                                                                            replace h := h.1 c413
                                                                                            obtain ⟨k414, hkk414, hek414, h⟩ := h
                                                                                            refine And.intro (pm_ao_of (t := 1) sh_script hkk414 hek414 (by omega)) ?_
                                                                                            rw [pm_tn hek414 hkk414 (by omega)]
                                                                                            refine And.intro sh_l16 ?_
                                                                                            refine pm_C_imp h (fun v hi415 h => ?_)
                                                                                            obtain ⟨x416, rfl, h⟩ := h
                                                                                            refine ⟨_, rfl, ?_⟩
                                                                                            obtain ⟨k417, hkk417, hek417, h⟩ := h
                                                                                            refine And.intro (pm_ao_of (t := 1) sh_script hkk417 hek417 (by omega)) ?_
                                                                                            rw [pm_tn hek417 hkk417 (by omega)]
                                                                                            refine And.intro sh_l141 ?_
                                                                                            refine pm_C_imp h (fun v hi418 h => ?_)
                                                                                            obtain ⟨x419, rfl, h⟩ := h
                                                                                            refine ⟨_, rfl, ?_⟩
                                                                                            refine And.intro (fun c420 => ?_) (fun c420 => ?_)
                                                                                            · replace h := h.1 c420
                                                                                              exact h
                                                                                            · replace h := h.2 c420
                                                                                              refine And.intro (Or.inl rfl) ?_
                                                                                              exact h
                                                                                          · rw [pm_sw_f c413] at hsw
                                                                                            replace h := h.2 c413
                                                                                            replace hsw : 1566 = pc1 := hsw
                                                                                            subst hsw
                                                                                            exact h
