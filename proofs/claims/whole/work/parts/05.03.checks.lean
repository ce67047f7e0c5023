set_option maxRecDepth 100000 in
theorem g_ok163_0 : (g_k163.take 60).all (g_okI 163) = true := by decide +kernel
set_option maxRecDepth 100000 in
theorem g_ok163_1 : (g_k163.drop 60).all (g_okI 163) = true := by decide +kernel
theorem g_ok163 : g_k163.all (g_okI 163) = true := (g_spl 60 g_ok163_0 (g_ok163_1))
theorem g_om163 : g_okM 163 = true := by decide +kernel
set_option maxRecDepth 100000 in
theorem g_ok162 : g_k162.all (g_okI 162) = true := by decide +kernel
theorem g_om162 : g_okM 162 = true := by decide +kernel
set_option maxRecDepth 100000 in
theorem g_ok161 : g_k161.all (g_okI 161) = true := by decide +kernel
theorem g_om161 : g_okM 161 = true := by decide +kernel
set_option maxRecDepth 100000 in
theorem g_ok160_0 : (g_k160.take 60).all (g_okI 160) = true := by decide +kernel
set_option maxRecDepth 100000 in
theorem g_ok160_1 : (g_k160.drop 60).all (g_okI 160) = true := by decide +kernel
theorem g_ok160 : g_k160.all (g_okI 160) = true := (g_spl 60 g_ok160_0 (g_ok160_1))
theorem g_om160 : g_okM 160 = true := by decide +kernel
set_option maxRecDepth 100000 in
theorem g_ok159_0 : (g_k159.take 60).all (g_okI 159) = true := by decide +kernel
set_option maxRecDepth 100000 in
theorem g_ok159_1 : (g_k159.drop 60).all (g_okI 159) = true := by decide +kernel
theorem g_ok159 : g_k159.all (g_okI 159) = true := (g_spl 60 g_ok159_0 (g_ok159_1))
theorem g_om159 : g_okM 159 = true := by decide +kernel
set_option maxRecDepth 100000 in
theorem g_ok158 : g_k158.all (g_okI 158) = true := by decide +kernel
theorem g_om158 : g_okM 158 = true := by decide +kernel
set_option maxRecDepth 100000 in
theorem g_ok157 : g_k157.all (g_okI 157) = true := by decide +kernel
theorem g_om157 : g_okM 157 = true := by decide +kernel
set_option maxRecDepth 100000 in
theorem g_ok156 : g_k156.all (g_okI 156) = true := by decide +kernel
theorem g_om156 : g_okM 156 = true := by decide +kernel
