set_option maxRecDepth 100000 in
theorem g_ok60 : g_k60.all (g_okI 60) = true := by decide +kernel
theorem g_om60 : g_okM 60 = true := by decide +kernel
set_option maxRecDepth 100000 in
theorem g_ok59 : g_k59.all (g_okI 59) = true := by decide +kernel
theorem g_om59 : g_okM 59 = true := by decide +kernel
set_option maxRecDepth 100000 in
theorem g_ok58 : g_k58.all (g_okI 58) = true := by decide +kernel
theorem g_om58 : g_okM 58 = true := by decide +kernel
set_option maxRecDepth 100000 in
theorem g_ok57 : g_k57.all (g_okI 57) = true := by decide +kernel
theorem g_om57 : g_okM 57 = true := by decide +kernel
set_option maxRecDepth 100000 in
theorem g_ok56 : g_k56.all (g_okI 56) = true := by decide +kernel
theorem g_om56 : g_okM 56 = true := by decide +kernel
set_option maxRecDepth 100000 in
theorem g_ok55 : g_k55.all (g_okI 55) = true := by decide +kernel
theorem g_om55 : g_okM 55 = true := by decide +kernel
set_option maxRecDepth 100000 in
theorem g_ok54 : g_k54.all (g_okI 54) = true := by decide +kernel
theorem g_om54 : g_okM 54 = true := by decide +kernel
set_option maxRecDepth 100000 in
theorem g_ok53 : g_k53.all (g_okI 53) = true := by decide +kernel
theorem g_om53 : g_okM 53 = true := by decide +kernel
set_option maxRecDepth 100000 in
theorem g_ok52 : g_k52.all (g_okI 52) = true := by decide +kernel
theorem g_om52 : g_okM 52 = true := by decide +kernel
set_option maxRecDepth 100000 in
theorem g_ok51 : g_k51.all (g_okI 51) = true := by decide +kernel
theorem g_om51 : g_okM 51 = true := by decide +kernel
set_option maxRecDepth 100000 in
theorem g_ok50 : g_k50.all (g_okI 50) = true := by decide +kernel
theorem g_om50 : g_okM 50 = true := by decide +kernel
set_option maxRecDepth 100000 in
theorem g_ok49 : g_k49.all (g_okI 49) = true := by decide +kernel
theorem g_om49 : g_okM 49 = true := by decide +kernel
set_option maxRecDepth 100000 in
theorem g_ok48 : g_k48.all (g_okI 48) = true := by decide +kernel
theorem g_om48 : g_okM 48 = true := by decide +kernel
set_option maxRecDepth 100000 in
theorem g_ok47 : g_k47.all (g_okI 47) = true := by decide +kernel
theorem g_om47 : g_okM 47 = true := by decide +kernel
set_option maxRecDepth 100000 in
theorem g_ok46 : g_k46.all (g_okI 46) = true := by decide +kernel
theorem g_om46 : g_okM 46 = true := by decide +kernel
set_option maxRecDepth 100000 in
theorem g_ok45 : g_k45.all (g_okI 45) = true := by decide +kernel
theorem g_om45 : g_okM 45 = true := by decide +kernel
set_option maxRecDepth 100000 in
theorem g_ok44 : g_k44.all (g_okI 44) = true := by decide +kernel
theorem g_om44 : g_okM 44 = true := by decide +kernel
