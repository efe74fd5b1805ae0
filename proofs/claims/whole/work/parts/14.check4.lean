/-! printed by program: the methods checked against their bytes and words (part 4) -/
set_option maxRecDepth 100000 in
theorem pm_k192 : pm_chk 192 = true := by decide +kernel
set_option maxRecDepth 100000 in
theorem pm_k193 : pm_chk 193 = true := by decide +kernel
set_option maxRecDepth 100000 in
theorem pm_k194 : pm_chk 194 = true := by decide +kernel
set_option maxRecDepth 100000 in
theorem pm_k195 : pm_chk 195 = true := by decide +kernel
set_option maxRecDepth 100000 in
theorem pm_k196 : pm_chk 196 = true := by decide +kernel
set_option maxRecDepth 100000 in
theorem pm_k197 : pm_chk 197 = true := by decide +kernel
set_option maxRecDepth 100000 in
theorem pm_k198 : pm_chk 198 = true := by decide +kernel
set_option maxRecDepth 100000 in
theorem pm_k199 : pm_chk 199 = true := by decide +kernel
set_option maxRecDepth 100000 in
theorem pm_k200 : pm_chk 200 = true := by decide +kernel
set_option maxRecDepth 100000 in
theorem pm_k201 : pm_chk 201 = true := by decide +kernel
set_option maxRecDepth 100000 in
theorem pm_k202 : pm_chk 202 = true := by decide +kernel
set_option maxRecDepth 100000 in
theorem pm_k203 : pm_chk 203 = true := by decide +kernel
set_option maxRecDepth 100000 in
theorem pm_k204 : pm_chk 204 = true := by decide +kernel
set_option maxRecDepth 100000 in
theorem pm_k205 : pm_chk 205 = true := by decide +kernel
set_option maxRecDepth 100000 in
theorem pm_k206 : pm_chk 206 = true := by decide +kernel
set_option maxRecDepth 100000 in
theorem pm_k207 : pm_chk 207 = true := by decide +kernel
set_option maxRecDepth 100000 in
theorem pm_k208 : pm_chk 208 = true := by decide +kernel
set_option maxRecDepth 100000 in
theorem pm_k209 : pm_chk 209 = true := by decide +kernel
set_option maxRecDepth 100000 in
theorem pm_k210 : pm_chk 210 = true := by decide +kernel
set_option maxRecDepth 100000 in
theorem pm_k211 : pm_chk 211 = true := by decide +kernel
set_option maxRecDepth 100000 in
theorem pm_k212 : pm_chk 212 = true := by decide +kernel
set_option maxRecDepth 100000 in
theorem pm_k213 : pm_chk 213 = true := by decide +kernel
set_option maxRecDepth 100000 in
theorem pm_k214 : pm_chk 214 = true := by decide +kernel
set_option maxRecDepth 100000 in
theorem pm_k215 : pm_chk 215 = true := by decide +kernel
set_option maxRecDepth 100000 in
theorem pm_k216 : pm_chk 216 = true := by decide +kernel
set_option maxRecDepth 100000 in
theorem pm_k217 : pm_chk 217 = true := by decide +kernel
set_option maxRecDepth 100000 in
theorem pm_k218 : pm_chk 218 = true := by decide +kernel
set_option maxRecDepth 100000 in
theorem pm_k219 : pm_chk 219 = true := by decide +kernel
set_option maxRecDepth 100000 in
theorem pm_k220 : pm_chk 220 = true := by decide +kernel
set_option maxRecDepth 100000 in
theorem pm_k221 : pm_chk 221 = true := by decide +kernel
set_option maxRecDepth 100000 in
theorem pm_k222 : pm_chk 222 = true := by decide +kernel
set_option maxRecDepth 100000 in
theorem pm_k223 : pm_chk 223 = true := by decide +kernel
set_option maxRecDepth 100000 in
theorem pm_k224 : pm_chk 224 = true := by decide +kernel
set_option maxRecDepth 100000 in
theorem pm_k225 : pm_chk 225 = true := by decide +kernel
set_option maxRecDepth 100000 in
theorem pm_k226 : pm_chk 226 = true := by decide +kernel
set_option maxRecDepth 100000 in
theorem pm_k227 : pm_chk 227 = true := by decide +kernel
set_option maxRecDepth 100000 in
theorem pm_k228 : pm_chk 228 = true := by decide +kernel
set_option maxRecDepth 100000 in
theorem pm_k229 : pm_chk 229 = true := by decide +kernel
set_option maxRecDepth 100000 in
theorem pm_k230 : pm_chk 230 = true := by decide +kernel
set_option maxRecDepth 100000 in
theorem pm_k231 : pm_chk 231 = true := by decide +kernel
set_option maxRecDepth 100000 in
theorem pm_k232 : pm_chk 232 = true := by decide +kernel
set_option maxRecDepth 100000 in
theorem pm_k233 : pm_chk 233 = true := by decide +kernel
set_option maxRecDepth 100000 in
theorem pm_k234 : pm_chk 234 = true := by decide +kernel
set_option maxRecDepth 100000 in
theorem pm_k235 : pm_chk 235 = true := by decide +kernel
set_option maxRecDepth 100000 in
theorem pm_k236 : pm_chk 236 = true := by decide +kernel
set_option maxRecDepth 100000 in
theorem pm_k237 : pm_chk 237 = true := by decide +kernel
set_option maxRecDepth 100000 in
theorem pm_k238 : pm_chk 238 = true := by decide +kernel
set_option maxRecDepth 100000 in
theorem pm_k239 : pm_chk 239 = true := by decide +kernel
