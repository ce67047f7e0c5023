set_option maxRecDepth 100000 in
theorem g_ok155 : g_k155.all (g_okI 155) = true := by decide +kernel
theorem g_om155 : g_okM 155 = true := by decide +kernel
set_option maxRecDepth 100000 in
theorem g_ok154 : g_k154.all (g_okI 154) = true := by decide +kernel
theorem g_om154 : g_okM 154 = true := by decide +kernel
set_option maxRecDepth 100000 in
theorem g_ok153 : g_k153.all (g_okI 153) = true := by decide +kernel
theorem g_om153 : g_okM 153 = true := by decide +kernel
set_option maxRecDepth 100000 in
theorem g_ok152 : g_k152.all (g_okI 152) = true := by decide +kernel
theorem g_om152 : g_okM 152 = true := by decide +kernel
set_option maxRecDepth 100000 in
theorem g_ok151 : g_k151.all (g_okI 151) = true := by decide +kernel
theorem g_om151 : g_okM 151 = true := by decide +kernel
set_option maxRecDepth 100000 in
theorem g_ok150 : g_k150.all (g_okI 150) = true := by decide +kernel
theorem g_om150 : g_okM 150 = true := by decide +kernel
set_option maxRecDepth 100000 in
theorem g_ok149 : g_k149.all (g_okI 149) = true := by decide +kernel
theorem g_om149 : g_okM 149 = true := by decide +kernel
set_option maxRecDepth 100000 in
theorem g_ok148_0 : (g_k148.take 60).all (g_okI 148) = true := by decide +kernel
set_option maxRecDepth 100000 in
theorem g_ok148_1 : (g_k148.drop 60).all (g_okI 148) = true := by decide +kernel
theorem g_ok148 : g_k148.all (g_okI 148) = true := (g_spl 60 g_ok148_0 (g_ok148_1))
theorem g_om148 : g_okM 148 = true := by decide +kernel
set_option maxRecDepth 100000 in
theorem g_ok147 : g_k147.all (g_okI 147) = true := by decide +kernel
theorem g_om147 : g_okM 147 = true := by decide +kernel
set_option maxRecDepth 100000 in
theorem g_ok146 : g_k146.all (g_okI 146) = true := by decide +kernel
theorem g_om146 : g_okM 146 = true := by decide +kernel
set_option maxRecDepth 100000 in
theorem g_ok145_0 : (g_k145.take 60).all (g_okI 145) = true := by decide +kernel
set_option maxRecDepth 100000 in
theorem g_ok145_1 : (g_k145.drop 60).all (g_okI 145) = true := by decide +kernel
theorem g_ok145 : g_k145.all (g_okI 145) = true := (g_spl 60 g_ok145_0 (g_ok145_1))
theorem g_om145 : g_okM 145 = true := by decide +kernel
