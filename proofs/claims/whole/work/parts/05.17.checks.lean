set_option maxRecDepth 100000 in
theorem g_ok9 : g_k9.all (g_okI 9) = true := by decide +kernel
theorem g_om9 : g_okM 9 = true := by decide +kernel
set_option maxRecDepth 100000 in
theorem g_ok8 : g_k8.all (g_okI 8) = true := by decide +kernel
theorem g_om8 : g_okM 8 = true := by decide +kernel
set_option maxRecDepth 100000 in
theorem g_ok7 : g_k7.all (g_okI 7) = true := by decide +kernel
theorem g_om7 : g_okM 7 = true := by decide +kernel
set_option maxRecDepth 100000 in
theorem g_ok6 : g_k6.all (g_okI 6) = true := by decide +kernel
theorem g_om6 : g_okM 6 = true := by decide +kernel
set_option maxRecDepth 100000 in
theorem g_ok5_0 : (g_k5.take 60).all (g_okI 5) = true := by decide +kernel
set_option maxRecDepth 100000 in
theorem g_ok5_1 : (g_k5.drop 60).all (g_okI 5) = true := by decide +kernel
theorem g_ok5 : g_k5.all (g_okI 5) = true := (g_spl 60 g_ok5_0 (g_ok5_1))
theorem g_om5 : g_okM 5 = true := by decide +kernel
set_option maxRecDepth 100000 in
theorem g_ok4 : g_k4.all (g_okI 4) = true := by decide +kernel
theorem g_om4 : g_okM 4 = true := by decide +kernel
set_option maxRecDepth 100000 in
theorem g_ok3_0 : (g_k3.take 60).all (g_okI 3) = true := by decide +kernel
set_option maxRecDepth 100000 in
theorem g_ok3_1 : (g_k3.drop 60).all (g_okI 3) = true := by decide +kernel
theorem g_ok3 : g_k3.all (g_okI 3) = true := (g_spl 60 g_ok3_0 (g_ok3_1))
theorem g_om3 : g_okM 3 = true := by decide +kernel
set_option maxRecDepth 100000 in
theorem g_ok2 : g_k2.all (g_okI 2) = true := by decide +kernel
theorem g_om2 : g_okM 2 = true := by decide +kernel
set_option maxRecDepth 100000 in
theorem g_ok1 : g_k1.all (g_okI 1) = true := by decide +kernel
theorem g_om1 : g_okM 1 = true := by decide +kernel
