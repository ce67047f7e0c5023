set_option maxRecDepth 100000 in
theorem g_ok179 : g_k179.all (g_okI 179) = true := by decide +kernel
theorem g_om179 : g_okM 179 = true := by decide +kernel
set_option maxRecDepth 100000 in
theorem g_ok178 : g_k178.all (g_okI 178) = true := by decide +kernel
theorem g_om178 : g_okM 178 = true := by decide +kernel
set_option maxRecDepth 100000 in
theorem g_ok177 : g_k177.all (g_okI 177) = true := by decide +kernel
theorem g_om177 : g_okM 177 = true := by decide +kernel
set_option maxRecDepth 100000 in
theorem g_ok176 : g_k176.all (g_okI 176) = true := by decide +kernel
theorem g_om176 : g_okM 176 = true := by decide +kernel
set_option maxRecDepth 100000 in
theorem g_ok175 : g_k175.all (g_okI 175) = true := by decide +kernel
theorem g_om175 : g_okM 175 = true := by decide +kernel
set_option maxRecDepth 100000 in
theorem g_ok174 : g_k174.all (g_okI 174) = true := by decide +kernel
theorem g_om174 : g_okM 174 = true := by decide +kernel
set_option maxRecDepth 100000 in
theorem g_ok173 : g_k173.all (g_okI 173) = true := by decide +kernel
theorem g_om173 : g_okM 173 = true := by decide +kernel
set_option maxRecDepth 100000 in
theorem g_ok172 : g_k172.all (g_okI 172) = true := by decide +kernel
theorem g_om172 : g_okM 172 = true := by decide +kernel
set_option maxRecDepth 100000 in
theorem g_ok171 : g_k171.all (g_okI 171) = true := by decide +kernel
theorem g_om171 : g_okM 171 = true := by decide +kernel
set_option maxRecDepth 100000 in
theorem g_ok170_0 : (g_k170.take 60).all (g_okI 170) = true := by decide +kernel
set_option maxRecDepth 100000 in
theorem g_ok170_1 : (g_k170.drop 60).all (g_okI 170) = true := by decide +kernel
theorem g_ok170 : g_k170.all (g_okI 170) = true := (g_spl 60 g_ok170_0 (g_ok170_1))
theorem g_om170 : g_okM 170 = true := by decide +kernel
set_option maxRecDepth 100000 in
theorem g_ok169_0 : (g_k169.take 60).all (g_okI 169) = true := by decide +kernel
set_option maxRecDepth 100000 in
theorem g_ok169_1 : (g_k169.drop 60).all (g_okI 169) = true := by decide +kernel
theorem g_ok169 : g_k169.all (g_okI 169) = true := (g_spl 60 g_ok169_0 (g_ok169_1))
theorem g_om169 : g_okM 169 = true := by decide +kernel
