/-! printed by program: the methods checked against their bytes and words (part 1) -/
set_option maxRecDepth 100000 in
theorem pm_k48 : pm_chk 48 = true := by decide +kernel
set_option maxRecDepth 100000 in
theorem pm_k49 : pm_chk 49 = true := by decide +kernel
set_option maxRecDepth 100000 in
theorem pm_k50 : pm_chk 50 = true := by decide +kernel
set_option maxRecDepth 100000 in
theorem pm_k51 : pm_chk 51 = true := by decide +kernel
set_option maxRecDepth 100000 in
theorem pm_k52 : pm_chk 52 = true := by decide +kernel
set_option maxRecDepth 100000 in
theorem pm_k53 : pm_chk 53 = true := by decide +kernel
set_option maxRecDepth 100000 in
theorem pm_k54 : pm_chk 54 = true := by decide +kernel
set_option maxRecDepth 100000 in
theorem pm_k55 : pm_chk 55 = true := by decide +kernel
set_option maxRecDepth 100000 in
theorem pm_k56 : pm_chk 56 = true := by decide +kernel
set_option maxRecDepth 100000 in
theorem pm_k57 : pm_chk 57 = true := by decide +kernel
set_option maxRecDepth 100000 in
theorem pm_k58 : pm_chk 58 = true := by decide +kernel
set_option maxRecDepth 100000 in
theorem pm_k59 : pm_chk 59 = true := by decide +kernel
set_option maxRecDepth 100000 in
theorem pm_k60 : pm_chk 60 = true := by decide +kernel
set_option maxRecDepth 100000 in
theorem pm_k61 : pm_chk 61 = true := by decide +kernel
set_option maxRecDepth 100000 in
theorem pm_k62 : pm_chk 62 = true := by decide +kernel
set_option maxRecDepth 100000 in
theorem pm_k63 : pm_chk 63 = true := by decide +kernel
set_option maxRecDepth 100000 in
theorem pm_k64 : pm_chk 64 = true := by decide +kernel
set_option maxRecDepth 100000 in
theorem pm_k65 : pm_chk 65 = true := by decide +kernel
set_option maxRecDepth 100000 in
theorem pm_k66 : pm_chk 66 = true := by decide +kernel
set_option maxRecDepth 100000 in
theorem pm_k67 : pm_chk 67 = true := by decide +kernel
set_option maxRecDepth 100000 in
theorem pm_k68 : pm_chk 68 = true := by decide +kernel
set_option maxRecDepth 100000 in
theorem pm_k69 : pm_chk 69 = true := by decide +kernel
set_option maxRecDepth 100000 in
theorem pm_k70 : pm_chk 70 = true := by decide +kernel
set_option maxRecDepth 100000 in
theorem pm_k71 : pm_chk 71 = true := by decide +kernel
set_option maxRecDepth 100000 in
theorem pm_k72 : pm_chk 72 = true := by decide +kernel
set_option maxRecDepth 100000 in
theorem pm_k73 : pm_chk 73 = true := by decide +kernel
set_option maxRecDepth 100000 in
theorem pm_k74 : pm_chk 74 = true := by decide +kernel
set_option maxRecDepth 100000 in
theorem pm_k75 : pm_chk 75 = true := by decide +kernel
set_option maxRecDepth 100000 in
theorem pm_k76 : pm_chk 76 = true := by decide +kernel
set_option maxRecDepth 100000 in
theorem pm_k77 : pm_chk 77 = true := by decide +kernel
set_option maxRecDepth 100000 in
theorem pm_k78 : pm_chk 78 = true := by decide +kernel
set_option maxRecDepth 100000 in
theorem pm_k79 : pm_chk 79 = true := by decide +kernel
set_option maxRecDepth 100000 in
theorem pm_k80 : pm_chk 80 = true := by decide +kernel
set_option maxRecDepth 100000 in
theorem pm_k81 : pm_chk 81 = true := by decide +kernel
set_option maxRecDepth 100000 in
theorem pm_k82 : pm_chk 82 = true := by decide +kernel
set_option maxRecDepth 100000 in
theorem pm_k83 : pm_chk 83 = true := by decide +kernel
set_option maxRecDepth 100000 in
theorem pm_k84 : pm_chk 84 = true := by decide +kernel
set_option maxRecDepth 100000 in
theorem pm_k85 : pm_chk 85 = true := by decide +kernel
set_option maxRecDepth 100000 in
theorem pm_k86 : pm_chk 86 = true := by decide +kernel
set_option maxRecDepth 100000 in
theorem pm_k87 : pm_chk 87 = true := by decide +kernel
set_option maxRecDepth 100000 in
theorem pm_k88 : pm_chk 88 = true := by decide +kernel
set_option maxRecDepth 100000 in
theorem pm_k89 : pm_chk 89 = true := by decide +kernel
set_option maxRecDepth 100000 in
theorem pm_k90 : pm_chk 90 = true := by decide +kernel
set_option maxRecDepth 100000 in
theorem pm_k91 : pm_chk 91 = true := by decide +kernel
set_option maxRecDepth 100000 in
theorem pm_k92 : pm_chk 92 = true := by decide +kernel
set_option maxRecDepth 100000 in
theorem pm_k93 : pm_chk 93 = true := by decide +kernel
set_option maxRecDepth 100000 in
theorem pm_k94 : pm_chk 94 = true := by decide +kernel
set_option maxRecDepth 100000 in
theorem pm_k95 : pm_chk 95 = true := by decide +kernel
