set_option maxRecDepth 100000 in
theorem g_ok123 : g_k123.all (g_okI 123) = true := by decide +kernel
theorem g_om123 : g_okM 123 = true := by decide +kernel
set_option maxRecDepth 100000 in
theorem g_ok122 : g_k122.all (g_okI 122) = true := by decide +kernel
theorem g_om122 : g_okM 122 = true := by decide +kernel
set_option maxRecDepth 100000 in
theorem g_ok121 : g_k121.all (g_okI 121) = true := by decide +kernel
theorem g_om121 : g_okM 121 = true := by decide +kernel
set_option maxRecDepth 100000 in
theorem g_ok120 : g_k120.all (g_okI 120) = true := by decide +kernel
theorem g_om120 : g_okM 120 = true := by decide +kernel
set_option maxRecDepth 100000 in
theorem g_ok119 : g_k119.all (g_okI 119) = true := by decide +kernel
theorem g_om119 : g_okM 119 = true := by decide +kernel
set_option maxRecDepth 100000 in
theorem g_ok118_0 : (g_k118.take 60).all (g_okI 118) = true := by decide +kernel
set_option maxRecDepth 100000 in
theorem g_ok118_1 : (g_k118.drop 60).all (g_okI 118) = true := by decide +kernel
theorem g_ok118 : g_k118.all (g_okI 118) = true := (g_spl 60 g_ok118_0 (g_ok118_1))
theorem g_om118 : g_okM 118 = true := by decide +kernel
set_option maxRecDepth 100000 in
theorem g_ok117 : g_k117.all (g_okI 117) = true := by decide +kernel
theorem g_om117 : g_okM 117 = true := by decide +kernel
set_option maxRecDepth 100000 in
theorem g_ok116 : g_k116.all (g_okI 116) = true := by decide +kernel
theorem g_om116 : g_okM 116 = true := by decide +kernel
set_option maxRecDepth 100000 in
theorem g_ok115 : g_k115.all (g_okI 115) = true := by decide +kernel
theorem g_om115 : g_okM 115 = true := by decide +kernel
set_option maxRecDepth 100000 in
theorem g_ok114 : g_k114.all (g_okI 114) = true := by decide +kernel
theorem g_om114 : g_okM 114 = true := by decide +kernel
set_option maxRecDepth 100000 in
theorem g_ok113 : g_k113.all (g_okI 113) = true := by decide +kernel
theorem g_om113 : g_okM 113 = true := by decide +kernel
