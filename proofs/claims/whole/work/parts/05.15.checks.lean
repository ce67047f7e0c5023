set_option maxRecDepth 100000 in
theorem g_ok31 : g_k31.all (g_okI 31) = true := by decide +kernel
theorem g_om31 : g_okM 31 = true := by decide +kernel
set_option maxRecDepth 100000 in
theorem g_ok30 : g_k30.all (g_okI 30) = true := by decide +kernel
theorem g_om30 : g_okM 30 = true := by decide +kernel
set_option maxRecDepth 100000 in
theorem g_ok29 : g_k29.all (g_okI 29) = true := by decide +kernel
theorem g_om29 : g_okM 29 = true := by decide +kernel
set_option maxRecDepth 100000 in
theorem g_ok28 : g_k28.all (g_okI 28) = true := by decide +kernel
theorem g_om28 : g_okM 28 = true := by decide +kernel
set_option maxRecDepth 100000 in
theorem g_ok27 : g_k27.all (g_okI 27) = true := by decide +kernel
theorem g_om27 : g_okM 27 = true := by decide +kernel
set_option maxRecDepth 100000 in
theorem g_ok26 : g_k26.all (g_okI 26) = true := by decide +kernel
theorem g_om26 : g_okM 26 = true := by decide +kernel
set_option maxRecDepth 100000 in
theorem g_ok25 : g_k25.all (g_okI 25) = true := by decide +kernel
theorem g_om25 : g_okM 25 = true := by decide +kernel
set_option maxRecDepth 100000 in
theorem g_ok24 : g_k24.all (g_okI 24) = true := by decide +kernel
theorem g_om24 : g_okM 24 = true := by decide +kernel
set_option maxRecDepth 100000 in
theorem g_ok23_0 : (g_k23.take 60).all (g_okI 23) = true := by decide +kernel
set_option maxRecDepth 100000 in
theorem g_ok23_1 : (g_k23.drop 60).all (g_okI 23) = true := by decide +kernel
theorem g_ok23 : g_k23.all (g_okI 23) = true := (g_spl 60 g_ok23_0 (g_ok23_1))
theorem g_om23 : g_okM 23 = true := by decide +kernel
set_option maxRecDepth 100000 in
theorem g_ok22 : g_k22.all (g_okI 22) = true := by decide +kernel
theorem g_om22 : g_okM 22 = true := by decide +kernel
set_option maxRecDepth 100000 in
theorem g_ok21 : g_k21.all (g_okI 21) = true := by decide +kernel
theorem g_om21 : g_okM 21 = true := by decide +kernel
set_option maxRecDepth 100000 in
theorem g_ok20 : g_k20.all (g_okI 20) = true := by decide +kernel
theorem g_om20 : g_okM 20 = true := by decide +kernel
set_option maxRecDepth 100000 in
theorem g_ok19 : g_k19.all (g_okI 19) = true := by decide +kernel
theorem g_om19 : g_okM 19 = true := by decide +kernel
set_option maxRecDepth 100000 in
theorem g_ok18 : g_k18.all (g_okI 18) = true := by decide +kernel
theorem g_om18 : g_okM 18 = true := by decide +kernel
