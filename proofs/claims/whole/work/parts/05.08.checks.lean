set_option maxRecDepth 100000 in
theorem g_ok112_0 : (g_k112.take 60).all (g_okI 112) = true := by decide +kernel
set_option maxRecDepth 100000 in
theorem g_ok112_1 : ((g_k112.drop 60).take 60).all (g_okI 112) = true := by decide +kernel
set_option maxRecDepth 100000 in
theorem g_ok112_2 : (g_k112.drop 120).all (g_okI 112) = true := by decide +kernel
theorem g_ok112 : g_k112.all (g_okI 112) = true := (g_spl 60 g_ok112_0 ((g_spl2 60 60 g_ok112_1 (g_ok112_2))))
theorem g_om112 : g_okM 112 = true := by decide +kernel
set_option maxRecDepth 100000 in
theorem g_ok111_0 : (g_k111.take 60).all (g_okI 111) = true := by decide +kernel
set_option maxRecDepth 100000 in
theorem g_ok111_1 : (g_k111.drop 60).all (g_okI 111) = true := by decide +kernel
theorem g_ok111 : g_k111.all (g_okI 111) = true := (g_spl 60 g_ok111_0 (g_ok111_1))
theorem g_om111 : g_okM 111 = true := by decide +kernel
set_option maxRecDepth 100000 in
theorem g_ok110 : g_k110.all (g_okI 110) = true := by decide +kernel
theorem g_om110 : g_okM 110 = true := by decide +kernel
set_option maxRecDepth 100000 in
theorem g_ok109 : g_k109.all (g_okI 109) = true := by decide +kernel
theorem g_om109 : g_okM 109 = true := by decide +kernel
set_option maxRecDepth 100000 in
theorem g_ok108 : g_k108.all (g_okI 108) = true := by decide +kernel
theorem g_om108 : g_okM 108 = true := by decide +kernel
set_option maxRecDepth 100000 in
theorem g_ok107 : g_k107.all (g_okI 107) = true := by decide +kernel
theorem g_om107 : g_okM 107 = true := by decide +kernel
set_option maxRecDepth 100000 in
theorem g_ok106 : g_k106.all (g_okI 106) = true := by decide +kernel
theorem g_om106 : g_okM 106 = true := by decide +kernel
set_option maxRecDepth 100000 in
theorem g_ok105 : g_k105.all (g_okI 105) = true := by decide +kernel
theorem g_om105 : g_okM 105 = true := by decide +kernel
set_option maxRecDepth 100000 in
theorem g_ok104 : g_k104.all (g_okI 104) = true := by decide +kernel
theorem g_om104 : g_okM 104 = true := by decide +kernel
set_option maxRecDepth 100000 in
theorem g_ok103 : g_k103.all (g_okI 103) = true := by decide +kernel
theorem g_om103 : g_okM 103 = true := by decide +kernel
set_option maxRecDepth 100000 in
theorem g_ok102 : g_k102.all (g_okI 102) = true := by decide +kernel
theorem g_om102 : g_okM 102 = true := by decide +kernel
