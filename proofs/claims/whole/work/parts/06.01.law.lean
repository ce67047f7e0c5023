set_option maxRecDepth 100000 in
theorem g_ok0_6 : ((g_k0.drop 240).take 40).all (g_okI 0) = true := by decide +kernel
set_option maxRecDepth 100000 in
theorem g_ok0_7 : ((g_k0.drop 280).take 40).all (g_okI 0) = true := by decide +kernel
set_option maxRecDepth 100000 in
theorem g_ok0_8 : ((g_k0.drop 320).take 40).all (g_okI 0) = true := by decide +kernel
set_option maxRecDepth 100000 in
theorem g_ok0_9 : ((g_k0.drop 360).take 40).all (g_okI 0) = true := by decide +kernel
set_option maxRecDepth 100000 in
theorem g_ok0_10 : ((g_k0.drop 400).take 40).all (g_okI 0) = true := by decide +kernel
set_option maxRecDepth 100000 in
theorem g_ok0_11 : ((g_k0.drop 440).take 40).all (g_okI 0) = true := by decide +kernel
