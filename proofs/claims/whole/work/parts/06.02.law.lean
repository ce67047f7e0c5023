set_option maxRecDepth 100000 in
theorem g_ok0_12 : ((g_k0.drop 480).take 40).all (g_okI 0) = true := by decide +kernel
set_option maxRecDepth 100000 in
theorem g_ok0_13 : ((g_k0.drop 520).take 40).all (g_okI 0) = true := by decide +kernel
set_option maxRecDepth 100000 in
theorem g_ok0_14 : ((g_k0.drop 560).take 40).all (g_okI 0) = true := by decide +kernel
set_option maxRecDepth 100000 in
theorem g_ok0_15 : ((g_k0.drop 600).take 40).all (g_okI 0) = true := by decide +kernel
set_option maxRecDepth 100000 in
theorem g_ok0_16 : ((g_k0.drop 640).take 40).all (g_okI 0) = true := by decide +kernel
set_option maxRecDepth 100000 in
theorem g_ok0_17 : ((g_k0.drop 680).take 40).all (g_okI 0) = true := by decide +kernel
