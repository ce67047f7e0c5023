set_option maxRecDepth 100000 in
theorem g_ok168_0 : (g_k168.take 60).all (g_okI 168) = true := by decide +kernel
set_option maxRecDepth 100000 in
theorem g_ok168_1 : ((g_k168.drop 60).take 60).all (g_okI 168) = true := by decide +kernel
set_option maxRecDepth 100000 in
theorem g_ok168_2 : (g_k168.drop 120).all (g_okI 168) = true := by decide +kernel
theorem g_ok168 : g_k168.all (g_okI 168) = true := (g_spl 60 g_ok168_0 ((g_spl2 60 60 g_ok168_1 (g_ok168_2))))
theorem g_om168 : g_okM 168 = true := by decide +kernel
set_option maxRecDepth 100000 in
theorem g_ok167 : g_k167.all (g_okI 167) = true := by decide +kernel
theorem g_om167 : g_okM 167 = true := by decide +kernel
set_option maxRecDepth 100000 in
theorem g_ok166_0 : (g_k166.take 60).all (g_okI 166) = true := by decide +kernel
set_option maxRecDepth 100000 in
theorem g_ok166_1 : ((g_k166.drop 60).take 60).all (g_okI 166) = true := by decide +kernel
set_option maxRecDepth 100000 in
theorem g_ok166_2 : (g_k166.drop 120).all (g_okI 166) = true := by decide +kernel
theorem g_ok166 : g_k166.all (g_okI 166) = true := (g_spl 60 g_ok166_0 ((g_spl2 60 60 g_ok166_1 (g_ok166_2))))
theorem g_om166 : g_okM 166 = true := by decide +kernel
set_option maxRecDepth 100000 in
theorem g_ok165 : g_k165.all (g_okI 165) = true := by decide +kernel
theorem g_om165 : g_okM 165 = true := by decide +kernel
set_option maxRecDepth 100000 in
theorem g_ok164_0 : (g_k164.take 60).all (g_okI 164) = true := by decide +kernel
set_option maxRecDepth 100000 in
theorem g_ok164_1 : (g_k164.drop 60).all (g_okI 164) = true := by decide +kernel
theorem g_ok164 : g_k164.all (g_okI 164) = true := (g_spl 60 g_ok164_0 (g_ok164_1))
theorem g_om164 : g_okM 164 = true := by decide +kernel
