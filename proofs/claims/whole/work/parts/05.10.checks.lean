set_option maxRecDepth 100000 in
theorem g_ok87 : g_k87.all (g_okI 87) = true := by decide +kernel
theorem g_om87 : g_okM 87 = true := by decide +kernel
set_option maxRecDepth 100000 in
theorem g_ok86_0 : (g_k86.take 60).all (g_okI 86) = true := by decide +kernel
set_option maxRecDepth 100000 in
theorem g_ok86_1 : (g_k86.drop 60).all (g_okI 86) = true := by decide +kernel
theorem g_ok86 : g_k86.all (g_okI 86) = true := (g_spl 60 g_ok86_0 (g_ok86_1))
theorem g_om86 : g_okM 86 = true := by decide +kernel
set_option maxRecDepth 100000 in
theorem g_ok85 : g_k85.all (g_okI 85) = true := by decide +kernel
theorem g_om85 : g_okM 85 = true := by decide +kernel
set_option maxRecDepth 100000 in
theorem g_ok84 : g_k84.all (g_okI 84) = true := by decide +kernel
theorem g_om84 : g_okM 84 = true := by decide +kernel
set_option maxRecDepth 100000 in
theorem g_ok83 : g_k83.all (g_okI 83) = true := by decide +kernel
theorem g_om83 : g_okM 83 = true := by decide +kernel
set_option maxRecDepth 100000 in
theorem g_ok82 : g_k82.all (g_okI 82) = true := by decide +kernel
theorem g_om82 : g_okM 82 = true := by decide +kernel
set_option maxRecDepth 100000 in
theorem g_ok81 : g_k81.all (g_okI 81) = true := by decide +kernel
theorem g_om81 : g_okM 81 = true := by decide +kernel
set_option maxRecDepth 100000 in
theorem g_ok80 : g_k80.all (g_okI 80) = true := by decide +kernel
theorem g_om80 : g_okM 80 = true := by decide +kernel
