set_option maxRecDepth 100000 in
theorem g_ok0_18 : ((g_k0.drop 720).take 40).all (g_okI 0) = true := by decide +kernel
set_option maxRecDepth 100000 in
theorem g_ok0_19 : ((g_k0.drop 760).take 40).all (g_okI 0) = true := by decide +kernel
set_option maxRecDepth 100000 in
theorem g_ok0_20 : (g_k0.drop 800).all (g_okI 0) = true := by decide +kernel
theorem g_ok0 : g_k0.all (g_okI 0) = true := (g_spl 40 g_ok0_0 ((g_spl2 40 40 g_ok0_1 ((g_spl2 80 40 g_ok0_2 ((g_spl2 120 40 g_ok0_3 ((g_spl2 160 40 g_ok0_4 ((g_spl2 200 40 g_ok0_5 ((g_spl2 240 40 g_ok0_6 ((g_spl2 280 40 g_ok0_7 ((g_spl2 320 40 g_ok0_8 ((g_spl2 360 40 g_ok0_9 ((g_spl2 400 40 g_ok0_10 ((g_spl2 440 40 g_ok0_11 ((g_spl2 480 40 g_ok0_12 ((g_spl2 520 40 g_ok0_13 ((g_spl2 560 40 g_ok0_14 ((g_spl2 600 40 g_ok0_15 ((g_spl2 640 40 g_ok0_16 ((g_spl2 680 40 g_ok0_17 ((g_spl2 720 40 g_ok0_18 ((g_spl2 760 40 g_ok0_19 (g_ok0_20))))))))))))))))))))))))))))))))))))))))
