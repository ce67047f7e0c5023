set_option maxRecDepth 100000 in
theorem g_ok101 : g_k101.all (g_okI 101) = true := by decide +kernel
theorem g_om101 : g_okM 101 = true := by decide +kernel
set_option maxRecDepth 100000 in
theorem g_ok100 : g_k100.all (g_okI 100) = true := by decide +kernel
theorem g_om100 : g_okM 100 = true := by decide +kernel
set_option maxRecDepth 100000 in
theorem g_ok99 : g_k99.all (g_okI 99) = true := by decide +kernel
theorem g_om99 : g_okM 99 = true := by decide +kernel
set_option maxRecDepth 100000 in
theorem g_ok98 : g_k98.all (g_okI 98) = true := by decide +kernel
theorem g_om98 : g_okM 98 = true := by decide +kernel
set_option maxRecDepth 100000 in
theorem g_ok97 : g_k97.all (g_okI 97) = true := by decide +kernel
theorem g_om97 : g_okM 97 = true := by decide +kernel
set_option maxRecDepth 100000 in
theorem g_ok96 : g_k96.all (g_okI 96) = true := by decide +kernel
theorem g_om96 : g_okM 96 = true := by decide +kernel
set_option maxRecDepth 100000 in
theorem g_ok95 : g_k95.all (g_okI 95) = true := by decide +kernel
theorem g_om95 : g_okM 95 = true := by decide +kernel
set_option maxRecDepth 100000 in
theorem g_ok94 : g_k94.all (g_okI 94) = true := by decide +kernel
theorem g_om94 : g_okM 94 = true := by decide +kernel
set_option maxRecDepth 100000 in
theorem g_ok93 : g_k93.all (g_okI 93) = true := by decide +kernel
theorem g_om93 : g_okM 93 = true := by decide +kernel
set_option maxRecDepth 100000 in
theorem g_ok92 : g_k92.all (g_okI 92) = true := by decide +kernel
theorem g_om92 : g_okM 92 = true := by decide +kernel
set_option maxRecDepth 100000 in
theorem g_ok91 : g_k91.all (g_okI 91) = true := by decide +kernel
theorem g_om91 : g_okM 91 = true := by decide +kernel
set_option maxRecDepth 100000 in
theorem g_ok90 : g_k90.all (g_okI 90) = true := by decide +kernel
theorem g_om90 : g_okM 90 = true := by decide +kernel
set_option maxRecDepth 100000 in
theorem g_ok89 : g_k89.all (g_okI 89) = true := by decide +kernel
theorem g_om89 : g_okM 89 = true := by decide +kernel
set_option maxRecDepth 100000 in
theorem g_ok88 : g_k88.all (g_okI 88) = true := by decide +kernel
theorem g_om88 : g_okM 88 = true := by decide +kernel
