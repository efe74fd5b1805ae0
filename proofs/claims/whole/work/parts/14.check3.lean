/-! printed by program: the methods checked against their bytes and words (part 3) -/
set_option maxRecDepth 100000 in
theorem pm_k144 : pm_chk 144 = true := by decide +kernel
set_option maxRecDepth 100000 in
theorem pm_k145 : pm_chk 145 = true := by decide +kernel
set_option maxRecDepth 100000 in
theorem pm_k146 : pm_chk 146 = true := by decide +kernel
set_option maxRecDepth 100000 in
theorem pm_k147 : pm_chk 147 = true := by decide +kernel
set_option maxRecDepth 100000 in
theorem pm_k148 : pm_chk 148 = true := by decide +kernel
set_option maxRecDepth 100000 in
theorem pm_k149 : pm_chk 149 = true := by decide +kernel
set_option maxRecDepth 100000 in
theorem pm_k150 : pm_chk 150 = true := by decide +kernel
set_option maxRecDepth 100000 in
theorem pm_k151 : pm_chk 151 = true := by decide +kernel
set_option maxRecDepth 100000 in
theorem pm_k152 : pm_chk 152 = true := by decide +kernel
set_option maxRecDepth 100000 in
theorem pm_k153 : pm_chk 153 = true := by decide +kernel
set_option maxRecDepth 100000 in
theorem pm_k154 : pm_chk 154 = true := by decide +kernel
set_option maxRecDepth 100000 in
theorem pm_k155 : pm_chk 155 = true := by decide +kernel
set_option maxRecDepth 100000 in
theorem pm_k156 : pm_chk 156 = true := by decide +kernel
set_option maxRecDepth 100000 in
theorem pm_k157 : pm_chk 157 = true := by decide +kernel
set_option maxRecDepth 100000 in
theorem pm_k158 : pm_chk 158 = true := by decide +kernel
set_option maxRecDepth 100000 in
theorem pm_k159 : pm_chk 159 = true := by decide +kernel
set_option maxRecDepth 100000 in
theorem pm_k160 : pm_chk 160 = true := by decide +kernel
set_option maxRecDepth 100000 in
theorem pm_k161 : pm_chk 161 = true := by decide +kernel
set_option maxRecDepth 100000 in
theorem pm_k162 : pm_chk 162 = true := by decide +kernel
set_option maxRecDepth 100000 in
theorem pm_k163 : pm_chk 163 = true := by decide +kernel
set_option maxRecDepth 100000 in
theorem pm_k164 : pm_chk 164 = true := by decide +kernel
set_option maxRecDepth 100000 in
theorem pm_k165 : pm_chk 165 = true := by decide +kernel
set_option maxRecDepth 100000 in
theorem pm_k166 : pm_chk 166 = true := by decide +kernel
set_option maxRecDepth 100000 in
theorem pm_k167 : pm_chk 167 = true := by decide +kernel
set_option maxRecDepth 100000 in
theorem pm_k168 : pm_chk 168 = true := by decide +kernel
set_option maxRecDepth 100000 in
theorem pm_k169 : pm_chk 169 = true := by decide +kernel
set_option maxRecDepth 100000 in
theorem pm_k170 : pm_chk 170 = true := by decide +kernel
set_option maxRecDepth 100000 in
theorem pm_k171 : pm_chk 171 = true := by decide +kernel
set_option maxRecDepth 100000 in
theorem pm_k172 : pm_chk 172 = true := by decide +kernel
set_option maxRecDepth 100000 in
theorem pm_k173 : pm_chk 173 = true := by decide +kernel
set_option maxRecDepth 100000 in
theorem pm_k174 : pm_chk 174 = true := by decide +kernel
set_option maxRecDepth 100000 in
theorem pm_k175 : pm_chk 175 = true := by decide +kernel
set_option maxRecDepth 100000 in
theorem pm_k176 : pm_chk 176 = true := by decide +kernel
set_option maxRecDepth 100000 in
theorem pm_k177 : pm_chk 177 = true := by decide +kernel
set_option maxRecDepth 100000 in
theorem pm_k178 : pm_chk 178 = true := by decide +kernel
set_option maxRecDepth 100000 in
theorem pm_k179 : pm_chk 179 = true := by decide +kernel
set_option maxRecDepth 100000 in
theorem pm_k180 : pm_chk 180 = true := by decide +kernel
set_option maxRecDepth 100000 in
theorem pm_k181 : pm_chk 181 = true := by decide +kernel
set_option maxRecDepth 100000 in
theorem pm_k182 : pm_chk 182 = true := by decide +kernel
set_option maxRecDepth 100000 in
theorem pm_k183 : pm_chk 183 = true := by decide +kernel
set_option maxRecDepth 100000 in
theorem pm_k184 : pm_chk 184 = true := by decide +kernel
set_option maxRecDepth 100000 in
theorem pm_k185 : pm_chk 185 = true := by decide +kernel
set_option maxRecDepth 100000 in
theorem pm_k186 : pm_chk 186 = true := by decide +kernel
set_option maxRecDepth 100000 in
theorem pm_k187 : pm_chk 187 = true := by decide +kernel
set_option maxRecDepth 100000 in
theorem pm_k188 : pm_chk 188 = true := by decide +kernel
set_option maxRecDepth 100000 in
theorem pm_k189 : pm_chk 189 = true := by decide +kernel
set_option maxRecDepth 100000 in
theorem pm_k190 : pm_chk 190 = true := by decide +kernel
set_option maxRecDepth 100000 in
theorem pm_k191 : pm_chk 191 = true := by decide +kernel
