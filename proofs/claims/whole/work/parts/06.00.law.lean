set_option maxRecDepth 100000 in
theorem g_ok0_0 : (g_k0.take 40).all (g_okI 0) = true := by decide +kernel
set_option maxRecDepth 100000 in
theorem g_ok0_1 : ((g_k0.drop 40).take 40).all (g_okI 0) = true := by decide +kernel
set_option maxRecDepth 100000 in
theorem g_ok0_2 : ((g_k0.drop 80).take 40).all (g_okI 0) = true := by decide +kernel
set_option maxRecDepth 100000 in
theorem g_ok0_3 : ((g_k0.drop 120).take 40).all (g_okI 0) = true := by decide +kernel
set_option maxRecDepth 100000 in
theorem g_ok0_4 : ((g_k0.drop 160).take 40).all (g_okI 0) = true := by decide +kernel
set_option maxRecDepth 100000 in
theorem g_ok0_5 : ((g_k0.drop 200).take 40).all (g_okI 0) = true := by decide +kernel
