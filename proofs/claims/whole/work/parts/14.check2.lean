/-! printed by program: the methods checked against their bytes and words (part 2) -/
set_option maxRecDepth 100000 in
theorem pm_k96 : pm_chk 96 = true := by decide +kernel
set_option maxRecDepth 100000 in
theorem pm_k97 : pm_chk 97 = true := by decide +kernel
set_option maxRecDepth 100000 in
theorem pm_k98 : pm_chk 98 = true := by decide +kernel
set_option maxRecDepth 100000 in
theorem pm_k99 : pm_chk 99 = true := by decide +kernel
set_option maxRecDepth 100000 in
theorem pm_k100 : pm_chk 100 = true := by decide +kernel
set_option maxRecDepth 100000 in
theorem pm_k101 : pm_chk 101 = true := by decide +kernel
set_option maxRecDepth 100000 in
theorem pm_k102 : pm_chk 102 = true := by decide +kernel
set_option maxRecDepth 100000 in
theorem pm_k103 : pm_chk 103 = true := by decide +kernel
set_option maxRecDepth 100000 in
theorem pm_k104 : pm_chk 104 = true := by decide +kernel
set_option maxRecDepth 100000 in
theorem pm_k105 : pm_chk 105 = true := by decide +kernel
set_option maxRecDepth 100000 in
theorem pm_k106 : pm_chk 106 = true := by decide +kernel
set_option maxRecDepth 100000 in
theorem pm_k107 : pm_chk 107 = true := by decide +kernel
set_option maxRecDepth 100000 in
theorem pm_k108 : pm_chk 108 = true := by decide +kernel
set_option maxRecDepth 100000 in
theorem pm_k109 : pm_chk 109 = true := by decide +kernel
set_option maxRecDepth 100000 in
theorem pm_k110 : pm_chk 110 = true := by decide +kernel
set_option maxRecDepth 100000 in
theorem pm_k111 : pm_chk 111 = true := by decide +kernel
set_option maxRecDepth 100000 in
theorem pm_k112 : pm_chk 112 = true := by decide +kernel
set_option maxRecDepth 100000 in
theorem pm_k113 : pm_chk 113 = true := by decide +kernel
set_option maxRecDepth 100000 in
theorem pm_k114 : pm_chk 114 = true := by decide +kernel
set_option maxRecDepth 100000 in
theorem pm_k115 : pm_chk 115 = true := by decide +kernel
set_option maxRecDepth 100000 in
theorem pm_k116 : pm_chk 116 = true := by decide +kernel
set_option maxRecDepth 100000 in
theorem pm_k117 : pm_chk 117 = true := by decide +kernel
set_option maxRecDepth 100000 in
theorem pm_k118 : pm_chk 118 = true := by decide +kernel
set_option maxRecDepth 100000 in
theorem pm_k119 : pm_chk 119 = true := by decide +kernel
set_option maxRecDepth 100000 in
theorem pm_k120 : pm_chk 120 = true := by decide +kernel
set_option maxRecDepth 100000 in
theorem pm_k121 : pm_chk 121 = true := by decide +kernel
set_option maxRecDepth 100000 in
theorem pm_k122 : pm_chk 122 = true := by decide +kernel
set_option maxRecDepth 100000 in
theorem pm_k123 : pm_chk 123 = true := by decide +kernel
set_option maxRecDepth 100000 in
theorem pm_k124 : pm_chk 124 = true := by decide +kernel
set_option maxRecDepth 100000 in
theorem pm_k125 : pm_chk 125 = true := by decide +kernel
set_option maxRecDepth 100000 in
theorem pm_k126 : pm_chk 126 = true := by decide +kernel
set_option maxRecDepth 100000 in
theorem pm_k127 : pm_chk 127 = true := by decide +kernel
set_option maxRecDepth 100000 in
theorem pm_k128 : pm_chk 128 = true := by decide +kernel
set_option maxRecDepth 100000 in
theorem pm_k129 : pm_chk 129 = true := by decide +kernel
set_option maxRecDepth 100000 in
theorem pm_k130 : pm_chk 130 = true := by decide +kernel
set_option maxRecDepth 100000 in
theorem pm_k131 : pm_chk 131 = true := by decide +kernel
set_option maxRecDepth 100000 in
theorem pm_k132 : pm_chk 132 = true := by decide +kernel
set_option maxRecDepth 100000 in
theorem pm_k133 : pm_chk 133 = true := by decide +kernel
set_option maxRecDepth 100000 in
theorem pm_k134 : pm_chk 134 = true := by decide +kernel
set_option maxRecDepth 100000 in
theorem pm_k135 : pm_chk 135 = true := by decide +kernel
set_option maxRecDepth 100000 in
theorem pm_k136 : pm_chk 136 = true := by decide +kernel
set_option maxRecDepth 100000 in
theorem pm_k137 : pm_chk 137 = true := by decide +kernel
set_option maxRecDepth 100000 in
theorem pm_k138 : pm_chk 138 = true := by decide +kernel
set_option maxRecDepth 100000 in
theorem pm_k139 : pm_chk 139 = true := by decide +kernel
set_option maxRecDepth 100000 in
theorem pm_k140 : pm_chk 140 = true := by decide +kernel
set_option maxRecDepth 100000 in
theorem pm_k141 : pm_chk 141 = true := by decide +kernel
set_option maxRecDepth 100000 in
theorem pm_k142 : pm_chk 142 = true := by decide +kernel
set_option maxRecDepth 100000 in
theorem pm_k143 : pm_chk 143 = true := by decide +kernel
