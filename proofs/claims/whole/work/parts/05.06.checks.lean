set_option maxRecDepth 100000 in
theorem g_ok131_0 : (g_k131.take 60).all (g_okI 131) = true := by decide +kernel
set_option maxRecDepth 100000 in
theorem g_ok131_1 : (g_k131.drop 60).all (g_okI 131) = true := by decide +kernel
theorem g_ok131 : g_k131.all (g_okI 131) = true := (g_spl 60 g_ok131_0 (g_ok131_1))
theorem g_om131 : g_okM 131 = true := by decide +kernel
set_option maxRecDepth 100000 in
theorem g_ok130_0 : (g_k130.take 60).all (g_okI 130) = true := by decide +kernel
set_option maxRecDepth 100000 in
theorem g_ok130_1 : (g_k130.drop 60).all (g_okI 130) = true := by decide +kernel
theorem g_ok130 : g_k130.all (g_okI 130) = true := (g_spl 60 g_ok130_0 (g_ok130_1))
theorem g_om130 : g_okM 130 = true := by decide +kernel
set_option maxRecDepth 100000 in
theorem g_ok129 : g_k129.all (g_okI 129) = true := by decide +kernel
theorem g_om129 : g_okM 129 = true := by decide +kernel
set_option maxRecDepth 100000 in
theorem g_ok128 : g_k128.all (g_okI 128) = true := by decide +kernel
theorem g_om128 : g_okM 128 = true := by decide +kernel
set_option maxRecDepth 100000 in
theorem g_ok127 : g_k127.all (g_okI 127) = true := by decide +kernel
theorem g_om127 : g_okM 127 = true := by decide +kernel
set_option maxRecDepth 100000 in
theorem g_ok126 : g_k126.all (g_okI 126) = true := by decide +kernel
theorem g_om126 : g_okM 126 = true := by decide +kernel
set_option maxRecDepth 100000 in
theorem g_ok125 : g_k125.all (g_okI 125) = true := by decide +kernel
theorem g_om125 : g_okM 125 = true := by decide +kernel
set_option maxRecDepth 100000 in
theorem g_ok124 : g_k124.all (g_okI 124) = true := by decide +kernel
theorem g_om124 : g_okM 124 = true := by decide +kernel
