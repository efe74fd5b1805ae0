/-! printed by program: the methods checked against their bytes and words (part 0) -/
set_option maxRecDepth 100000 in
theorem pm_k0 : pm_chk 0 = true := by decide +kernel
set_option maxRecDepth 100000 in
theorem pm_k1 : pm_chk 1 = true := by decide +kernel
set_option maxRecDepth 100000 in
theorem pm_k2 : pm_chk 2 = true := by decide +kernel
set_option maxRecDepth 100000 in
theorem pm_k3 : pm_chk 3 = true := by decide +kernel
set_option maxRecDepth 100000 in
theorem pm_k4 : pm_chk 4 = true := by decide +kernel
set_option maxRecDepth 100000 in
theorem pm_k5 : pm_chk 5 = true := by decide +kernel
set_option maxRecDepth 100000 in
theorem pm_k6 : pm_chk 6 = true := by decide +kernel
set_option maxRecDepth 100000 in
theorem pm_k7 : pm_chk 7 = true := by decide +kernel
set_option maxRecDepth 100000 in
theorem pm_k8 : pm_chk 8 = true := by decide +kernel
set_option maxRecDepth 100000 in
theorem pm_k9 : pm_chk 9 = true := by decide +kernel
set_option maxRecDepth 100000 in
theorem pm_k10 : pm_chk 10 = true := by decide +kernel
set_option maxRecDepth 100000 in
theorem pm_k11 : pm_chk 11 = true := by decide +kernel
set_option maxRecDepth 100000 in
theorem pm_k12 : pm_chk 12 = true := by decide +kernel
set_option maxRecDepth 100000 in
theorem pm_k13 : pm_chk 13 = true := by decide +kernel
set_option maxRecDepth 100000 in
theorem pm_k14 : pm_chk 14 = true := by decide +kernel
set_option maxRecDepth 100000 in
theorem pm_k15 : pm_chk 15 = true := by decide +kernel
set_option maxRecDepth 100000 in
theorem pm_k16 : pm_chk 16 = true := by decide +kernel
set_option maxRecDepth 100000 in
theorem pm_k17 : pm_chk 17 = true := by decide +kernel
set_option maxRecDepth 100000 in
theorem pm_k18 : pm_chk 18 = true := by decide +kernel
set_option maxRecDepth 100000 in
theorem pm_k19 : pm_chk 19 = true := by decide +kernel
set_option maxRecDepth 100000 in
theorem pm_k20 : pm_chk 20 = true := by decide +kernel
set_option maxRecDepth 100000 in
theorem pm_k21 : pm_chk 21 = true := by decide +kernel
set_option maxRecDepth 100000 in
theorem pm_k22 : pm_chk 22 = true := by decide +kernel
set_option maxRecDepth 100000 in
theorem pm_k23 : pm_chk 23 = true := by decide +kernel
set_option maxRecDepth 100000 in
theorem pm_k24 : pm_chk 24 = true := by decide +kernel
set_option maxRecDepth 100000 in
theorem pm_k25 : pm_chk 25 = true := by decide +kernel
set_option maxRecDepth 100000 in
theorem pm_k26 : pm_chk 26 = true := by decide +kernel
set_option maxRecDepth 100000 in
theorem pm_k27 : pm_chk 27 = true := by decide +kernel
set_option maxRecDepth 100000 in
theorem pm_k28 : pm_chk 28 = true := by decide +kernel
set_option maxRecDepth 100000 in
theorem pm_k29 : pm_chk 29 = true := by decide +kernel
set_option maxRecDepth 100000 in
theorem pm_k30 : pm_chk 30 = true := by decide +kernel
set_option maxRecDepth 100000 in
theorem pm_k31 : pm_chk 31 = true := by decide +kernel
set_option maxRecDepth 100000 in
theorem pm_k32 : pm_chk 32 = true := by decide +kernel
set_option maxRecDepth 100000 in
theorem pm_k33 : pm_chk 33 = true := by decide +kernel
set_option maxRecDepth 100000 in
theorem pm_k34 : pm_chk 34 = true := by decide +kernel
set_option maxRecDepth 100000 in
theorem pm_k35 : pm_chk 35 = true := by decide +kernel
set_option maxRecDepth 100000 in
theorem pm_k36 : pm_chk 36 = true := by decide +kernel
set_option maxRecDepth 100000 in
theorem pm_k37 : pm_chk 37 = true := by decide +kernel
set_option maxRecDepth 100000 in
theorem pm_k38 : pm_chk 38 = true := by decide +kernel
set_option maxRecDepth 100000 in
theorem pm_k39 : pm_chk 39 = true := by decide +kernel
set_option maxRecDepth 100000 in
theorem pm_k40 : pm_chk 40 = true := by decide +kernel
set_option maxRecDepth 100000 in
theorem pm_k41 : pm_chk 41 = true := by decide +kernel
set_option maxRecDepth 100000 in
theorem pm_k42 : pm_chk 42 = true := by decide +kernel
set_option maxRecDepth 100000 in
theorem pm_k43 : pm_chk 43 = true := by decide +kernel
set_option maxRecDepth 100000 in
theorem pm_k44 : pm_chk 44 = true := by decide +kernel
set_option maxRecDepth 100000 in
theorem pm_k45 : pm_chk 45 = true := by decide +kernel
set_option maxRecDepth 100000 in
theorem pm_k46 : pm_chk 46 = true := by decide +kernel
set_option maxRecDepth 100000 in
theorem pm_k47 : pm_chk 47 = true := by decide +kernel
