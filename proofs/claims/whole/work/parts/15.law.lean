/-! printed by program: the law checked against its bytes and words -/
def pm_lok (q : Nat × pm_I) : Bool := pm_okb pm_mi "EchoFolkLaw" "law" (some .boolean) code q.1 q.2
set_option maxRecDepth 100000 in
theorem pm_kl0 : (List.range 4).all (fun k => (pm_t246.getD (0 + k) []).all pm_lok) = true := by decide +kernel
set_option maxRecDepth 100000 in
theorem pm_kl1 : (List.range 4).all (fun k => (pm_t246.getD (4 + k) []).all pm_lok) = true := by decide +kernel
set_option maxRecDepth 100000 in
theorem pm_kl2 : (List.range 4).all (fun k => (pm_t246.getD (8 + k) []).all pm_lok) = true := by decide +kernel
set_option maxRecDepth 100000 in
theorem pm_kl3 : (List.range 4).all (fun k => (pm_t246.getD (12 + k) []).all pm_lok) = true := by decide +kernel
set_option maxRecDepth 100000 in
theorem pm_kl4 : (List.range 4).all (fun k => (pm_t246.getD (16 + k) []).all pm_lok) = true := by decide +kernel
set_option maxRecDepth 100000 in
theorem pm_kl5 : (List.range 4).all (fun k => (pm_t246.getD (20 + k) []).all pm_lok) = true := by decide +kernel
set_option maxRecDepth 100000 in
theorem pm_kl6 : (List.range 4).all (fun k => (pm_t246.getD (24 + k) []).all pm_lok) = true := by decide +kernel
set_option maxRecDepth 100000 in
theorem pm_kl7 : (List.range 4).all (fun k => (pm_t246.getD (28 + k) []).all pm_lok) = true := by decide +kernel
set_option maxRecDepth 100000 in
theorem pm_kl8 : (List.range 4).all (fun k => (pm_t246.getD (32 + k) []).all pm_lok) = true := by decide +kernel
set_option maxRecDepth 100000 in
theorem pm_kl9 : (List.range 4).all (fun k => (pm_t246.getD (36 + k) []).all pm_lok) = true := by decide +kernel
set_option maxRecDepth 100000 in
theorem pm_kl10 : (List.range 4).all (fun k => (pm_t246.getD (40 + k) []).all pm_lok) = true := by decide +kernel
set_option maxRecDepth 100000 in
theorem pm_kl11 : (List.range 4).all (fun k => (pm_t246.getD (44 + k) []).all pm_lok) = true := by decide +kernel
set_option maxRecDepth 100000 in
theorem pm_kl12 : (List.range 4).all (fun k => (pm_t246.getD (48 + k) []).all pm_lok) = true := by decide +kernel
theorem pm_lg {j b : Nat} {t : pm_T} {r : pm_I} {pc : Nat} (h : (List.range 4).all (fun k => (t.getD (b + k) []).all pm_lok) = true) (h1 : b ≤ pc / 32) (h2 : pc / 32 < b + 4) (hr : pm_at t pc = some r) : pm_lok (pc, r) = true := by
  have h3 := List.all_eq_true.mp h (pc / 32 - b) (List.mem_range.mpr (by omega))
  rw [show b + (pc / 32 - b) = pc / 32 by omega] at h3
  exact List.all_eq_true.mp h3 (pc, r) (pm_lookup_mem hr)
theorem pm_law_rows : ∀ pc r, pm_at pm_t246 pc = some r → pm_okb pm_mi "EchoFolkLaw" "law" (some .boolean) code pc r = true := by
  intro pc r hr
  by_cases h0 : pc / 32 < 4
  · exact pm_lg (j := 0) (b := 0) pm_kl0 (by omega) (by omega) hr
  by_cases h1 : pc / 32 < 8
  · exact pm_lg (j := 0) (b := 4) pm_kl1 (by omega) (by omega) hr
  by_cases h2 : pc / 32 < 12
  · exact pm_lg (j := 0) (b := 8) pm_kl2 (by omega) (by omega) hr
  by_cases h3 : pc / 32 < 16
  · exact pm_lg (j := 0) (b := 12) pm_kl3 (by omega) (by omega) hr
  by_cases h4 : pc / 32 < 20
  · exact pm_lg (j := 0) (b := 16) pm_kl4 (by omega) (by omega) hr
  by_cases h5 : pc / 32 < 24
  · exact pm_lg (j := 0) (b := 20) pm_kl5 (by omega) (by omega) hr
  by_cases h6 : pc / 32 < 28
  · exact pm_lg (j := 0) (b := 24) pm_kl6 (by omega) (by omega) hr
  by_cases h7 : pc / 32 < 32
  · exact pm_lg (j := 0) (b := 28) pm_kl7 (by omega) (by omega) hr
  by_cases h8 : pc / 32 < 36
  · exact pm_lg (j := 0) (b := 32) pm_kl8 (by omega) (by omega) hr
  by_cases h9 : pc / 32 < 40
  · exact pm_lg (j := 0) (b := 36) pm_kl9 (by omega) (by omega) hr
  by_cases h10 : pc / 32 < 44
  · exact pm_lg (j := 0) (b := 40) pm_kl10 (by omega) (by omega) hr
  by_cases h11 : pc / 32 < 48
  · exact pm_lg (j := 0) (b := 44) pm_kl11 (by omega) (by omega) hr
  by_cases h12 : pc / 32 < 52
  · exact pm_lg (j := 0) (b := 48) pm_kl12 (by omega) (by omega) hr
  exfalso
  unfold pm_at at hr
  rw [List.getD_eq_getElem?_getD, List.getElem?_eq_none (by show 50 ≤ _; omega)] at hr
  cases hr
