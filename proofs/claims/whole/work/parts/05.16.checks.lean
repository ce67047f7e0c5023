set_option maxRecDepth 100000 in
theorem g_ok17 : g_k17.all (g_okI 17) = true := by decide +kernel
theorem g_om17 : g_okM 17 = true := by decide +kernel
set_option maxRecDepth 100000 in
theorem g_ok16 : g_k16.all (g_okI 16) = true := by decide +kernel
theorem g_om16 : g_okM 16 = true := by decide +kernel
set_option maxRecDepth 100000 in
theorem g_ok15 : g_k15.all (g_okI 15) = true := by decide +kernel
theorem g_om15 : g_okM 15 = true := by decide +kernel
set_option maxRecDepth 100000 in
theorem g_ok14 : g_k14.all (g_okI 14) = true := by decide +kernel
theorem g_om14 : g_okM 14 = true := by decide +kernel
set_option maxRecDepth 100000 in
theorem g_ok13 : g_k13.all (g_okI 13) = true := by decide +kernel
theorem g_om13 : g_okM 13 = true := by decide +kernel
set_option maxRecDepth 100000 in
theorem g_ok12 : g_k12.all (g_okI 12) = true := by decide +kernel
theorem g_om12 : g_okM 12 = true := by decide +kernel
set_option maxRecDepth 100000 in
theorem g_ok11 : g_k11.all (g_okI 11) = true := by decide +kernel
theorem g_om11 : g_okM 11 = true := by decide +kernel
set_option maxRecDepth 100000 in
theorem g_ok10 : g_k10.all (g_okI 10) = true := by decide +kernel
theorem g_om10 : g_okM 10 = true := by decide +kernel
