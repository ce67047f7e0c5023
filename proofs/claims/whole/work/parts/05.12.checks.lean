set_option maxRecDepth 100000 in
theorem g_ok67_0 : (g_k67.take 60).all (g_okI 67) = true := by decide +kernel
set_option maxRecDepth 100000 in
theorem g_ok67_1 : (g_k67.drop 60).all (g_okI 67) = true := by decide +kernel
theorem g_ok67 : g_k67.all (g_okI 67) = true := (g_spl 60 g_ok67_0 (g_ok67_1))
theorem g_om67 : g_okM 67 = true := by decide +kernel
set_option maxRecDepth 100000 in
theorem g_ok66 : g_k66.all (g_okI 66) = true := by decide +kernel
theorem g_om66 : g_okM 66 = true := by decide +kernel
set_option maxRecDepth 100000 in
theorem g_ok65 : g_k65.all (g_okI 65) = true := by decide +kernel
theorem g_om65 : g_okM 65 = true := by decide +kernel
set_option maxRecDepth 100000 in
theorem g_ok64_0 : (g_k64.take 60).all (g_okI 64) = true := by decide +kernel
set_option maxRecDepth 100000 in
theorem g_ok64_1 : (g_k64.drop 60).all (g_okI 64) = true := by decide +kernel
theorem g_ok64 : g_k64.all (g_okI 64) = true := (g_spl 60 g_ok64_0 (g_ok64_1))
theorem g_om64 : g_okM 64 = true := by decide +kernel
set_option maxRecDepth 100000 in
theorem g_ok63_0 : (g_k63.take 60).all (g_okI 63) = true := by decide +kernel
set_option maxRecDepth 100000 in
theorem g_ok63_1 : (g_k63.drop 60).all (g_okI 63) = true := by decide +kernel
theorem g_ok63 : g_k63.all (g_okI 63) = true := (g_spl 60 g_ok63_0 (g_ok63_1))
theorem g_om63 : g_okM 63 = true := by decide +kernel
set_option maxRecDepth 100000 in
theorem g_ok62_0 : (g_k62.take 60).all (g_okI 62) = true := by decide +kernel
set_option maxRecDepth 100000 in
theorem g_ok62_1 : (g_k62.drop 60).all (g_okI 62) = true := by decide +kernel
theorem g_ok62 : g_k62.all (g_okI 62) = true := (g_spl 60 g_ok62_0 (g_ok62_1))
theorem g_om62 : g_okM 62 = true := by decide +kernel
set_option maxRecDepth 100000 in
theorem g_ok61 : g_k61.all (g_okI 61) = true := by decide +kernel
theorem g_om61 : g_okM 61 = true := by decide +kernel
