set_option maxRecDepth 100000 in
theorem g_ok43_0 : (g_k43.take 60).all (g_okI 43) = true := by decide +kernel
set_option maxRecDepth 100000 in
theorem g_ok43_1 : (g_k43.drop 60).all (g_okI 43) = true := by decide +kernel
theorem g_ok43 : g_k43.all (g_okI 43) = true := (g_spl 60 g_ok43_0 (g_ok43_1))
theorem g_om43 : g_okM 43 = true := by decide +kernel
set_option maxRecDepth 100000 in
theorem g_ok42 : g_k42.all (g_okI 42) = true := by decide +kernel
theorem g_om42 : g_okM 42 = true := by decide +kernel
set_option maxRecDepth 100000 in
theorem g_ok41 : g_k41.all (g_okI 41) = true := by decide +kernel
theorem g_om41 : g_okM 41 = true := by decide +kernel
set_option maxRecDepth 100000 in
theorem g_ok40 : g_k40.all (g_okI 40) = true := by decide +kernel
theorem g_om40 : g_okM 40 = true := by decide +kernel
set_option maxRecDepth 100000 in
theorem g_ok39 : g_k39.all (g_okI 39) = true := by decide +kernel
theorem g_om39 : g_okM 39 = true := by decide +kernel
set_option maxRecDepth 100000 in
theorem g_ok38 : g_k38.all (g_okI 38) = true := by decide +kernel
theorem g_om38 : g_okM 38 = true := by decide +kernel
set_option maxRecDepth 100000 in
theorem g_ok37 : g_k37.all (g_okI 37) = true := by decide +kernel
theorem g_om37 : g_okM 37 = true := by decide +kernel
set_option maxRecDepth 100000 in
theorem g_ok36 : g_k36.all (g_okI 36) = true := by decide +kernel
theorem g_om36 : g_okM 36 = true := by decide +kernel
set_option maxRecDepth 100000 in
theorem g_ok35 : g_k35.all (g_okI 35) = true := by decide +kernel
theorem g_om35 : g_okM 35 = true := by decide +kernel
set_option maxRecDepth 100000 in
theorem g_ok34 : g_k34.all (g_okI 34) = true := by decide +kernel
theorem g_om34 : g_okM 34 = true := by decide +kernel
set_option maxRecDepth 100000 in
theorem g_ok33 : g_k33.all (g_okI 33) = true := by decide +kernel
theorem g_om33 : g_okM 33 = true := by decide +kernel
set_option maxRecDepth 100000 in
theorem g_ok32 : g_k32.all (g_okI 32) = true := by decide +kernel
theorem g_om32 : g_okM 32 = true := by decide +kernel
