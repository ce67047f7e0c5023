set_option maxRecDepth 100000 in
theorem g_ok79 : g_k79.all (g_okI 79) = true := by decide +kernel
theorem g_om79 : g_okM 79 = true := by decide +kernel
set_option maxRecDepth 100000 in
theorem g_ok78 : g_k78.all (g_okI 78) = true := by decide +kernel
theorem g_om78 : g_okM 78 = true := by decide +kernel
set_option maxRecDepth 100000 in
theorem g_ok77 : g_k77.all (g_okI 77) = true := by decide +kernel
theorem g_om77 : g_okM 77 = true := by decide +kernel
set_option maxRecDepth 100000 in
theorem g_ok76 : g_k76.all (g_okI 76) = true := by decide +kernel
theorem g_om76 : g_okM 76 = true := by decide +kernel
set_option maxRecDepth 100000 in
theorem g_ok75 : g_k75.all (g_okI 75) = true := by decide +kernel
theorem g_om75 : g_okM 75 = true := by decide +kernel
set_option maxRecDepth 100000 in
theorem g_ok74 : g_k74.all (g_okI 74) = true := by decide +kernel
theorem g_om74 : g_okM 74 = true := by decide +kernel
set_option maxRecDepth 100000 in
theorem g_ok73 : g_k73.all (g_okI 73) = true := by decide +kernel
theorem g_om73 : g_okM 73 = true := by decide +kernel
set_option maxRecDepth 100000 in
theorem g_ok72 : g_k72.all (g_okI 72) = true := by decide +kernel
theorem g_om72 : g_okM 72 = true := by decide +kernel
set_option maxRecDepth 100000 in
theorem g_ok71_0 : (g_k71.take 60).all (g_okI 71) = true := by decide +kernel
set_option maxRecDepth 100000 in
theorem g_ok71_1 : (g_k71.drop 60).all (g_okI 71) = true := by decide +kernel
theorem g_ok71 : g_k71.all (g_okI 71) = true := (g_spl 60 g_ok71_0 (g_ok71_1))
theorem g_om71 : g_okM 71 = true := by decide +kernel
set_option maxRecDepth 100000 in
theorem g_ok70 : g_k70.all (g_okI 70) = true := by decide +kernel
theorem g_om70 : g_okM 70 = true := by decide +kernel
set_option maxRecDepth 100000 in
theorem g_ok69 : g_k69.all (g_okI 69) = true := by decide +kernel
theorem g_om69 : g_okM 69 = true := by decide +kernel
set_option maxRecDepth 100000 in
theorem g_ok68 : g_k68.all (g_okI 68) = true := by decide +kernel
theorem g_om68 : g_okM 68 = true := by decide +kernel
