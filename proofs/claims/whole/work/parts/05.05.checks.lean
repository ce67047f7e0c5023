set_option maxRecDepth 100000 in
theorem g_ok144 : g_k144.all (g_okI 144) = true := by decide +kernel
theorem g_om144 : g_okM 144 = true := by decide +kernel
set_option maxRecDepth 100000 in
theorem g_ok143 : g_k143.all (g_okI 143) = true := by decide +kernel
theorem g_om143 : g_okM 143 = true := by decide +kernel
set_option maxRecDepth 100000 in
theorem g_ok142 : g_k142.all (g_okI 142) = true := by decide +kernel
theorem g_om142 : g_okM 142 = true := by decide +kernel
set_option maxRecDepth 100000 in
theorem g_ok141 : g_k141.all (g_okI 141) = true := by decide +kernel
theorem g_om141 : g_okM 141 = true := by decide +kernel
set_option maxRecDepth 100000 in
theorem g_ok140 : g_k140.all (g_okI 140) = true := by decide +kernel
theorem g_om140 : g_okM 140 = true := by decide +kernel
set_option maxRecDepth 100000 in
theorem g_ok139 : g_k139.all (g_okI 139) = true := by decide +kernel
theorem g_om139 : g_okM 139 = true := by decide +kernel
set_option maxRecDepth 100000 in
theorem g_ok138 : g_k138.all (g_okI 138) = true := by decide +kernel
theorem g_om138 : g_okM 138 = true := by decide +kernel
set_option maxRecDepth 100000 in
theorem g_ok137 : g_k137.all (g_okI 137) = true := by decide +kernel
theorem g_om137 : g_okM 137 = true := by decide +kernel
set_option maxRecDepth 100000 in
theorem g_ok136 : g_k136.all (g_okI 136) = true := by decide +kernel
theorem g_om136 : g_okM 136 = true := by decide +kernel
set_option maxRecDepth 100000 in
theorem g_ok135 : g_k135.all (g_okI 135) = true := by decide +kernel
theorem g_om135 : g_okM 135 = true := by decide +kernel
set_option maxRecDepth 100000 in
theorem g_ok134 : g_k134.all (g_okI 134) = true := by decide +kernel
theorem g_om134 : g_okM 134 = true := by decide +kernel
set_option maxRecDepth 100000 in
theorem g_ok133 : g_k133.all (g_okI 133) = true := by decide +kernel
theorem g_om133 : g_okM 133 = true := by decide +kernel
set_option maxRecDepth 100000 in
theorem g_ok132_0 : (g_k132.take 60).all (g_okI 132) = true := by decide +kernel
set_option maxRecDepth 100000 in
theorem g_ok132_1 : (g_k132.drop 60).all (g_okI 132) = true := by decide +kernel
theorem g_ok132 : g_k132.all (g_okI 132) = true := (g_spl 60 g_ok132_0 (g_ok132_1))
theorem g_om132 : g_okM 132 = true := by decide +kernel
