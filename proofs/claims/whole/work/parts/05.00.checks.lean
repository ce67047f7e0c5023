set_option maxRecDepth 100000 in
theorem g_ok193 : g_k193.all (g_okI 193) = true := by decide +kernel
theorem g_om193 : g_okM 193 = true := by decide +kernel
set_option maxRecDepth 100000 in
theorem g_ok192 : g_k192.all (g_okI 192) = true := by decide +kernel
theorem g_om192 : g_okM 192 = true := by decide +kernel
set_option maxRecDepth 100000 in
theorem g_ok191 : g_k191.all (g_okI 191) = true := by decide +kernel
theorem g_om191 : g_okM 191 = true := by decide +kernel
set_option maxRecDepth 100000 in
theorem g_ok190 : g_k190.all (g_okI 190) = true := by decide +kernel
theorem g_om190 : g_okM 190 = true := by decide +kernel
set_option maxRecDepth 100000 in
theorem g_ok189 : g_k189.all (g_okI 189) = true := by decide +kernel
theorem g_om189 : g_okM 189 = true := by decide +kernel
set_option maxRecDepth 100000 in
theorem g_ok188 : g_k188.all (g_okI 188) = true := by decide +kernel
theorem g_om188 : g_okM 188 = true := by decide +kernel
set_option maxRecDepth 100000 in
theorem g_ok187 : g_k187.all (g_okI 187) = true := by decide +kernel
theorem g_om187 : g_okM 187 = true := by decide +kernel
set_option maxRecDepth 100000 in
theorem g_ok186 : g_k186.all (g_okI 186) = true := by decide +kernel
theorem g_om186 : g_okM 186 = true := by decide +kernel
set_option maxRecDepth 100000 in
theorem g_ok185 : g_k185.all (g_okI 185) = true := by decide +kernel
theorem g_om185 : g_okM 185 = true := by decide +kernel
set_option maxRecDepth 100000 in
theorem g_ok184_0 : (g_k184.take 60).all (g_okI 184) = true := by decide +kernel
set_option maxRecDepth 100000 in
theorem g_ok184_1 : (g_k184.drop 60).all (g_okI 184) = true := by decide +kernel
theorem g_ok184 : g_k184.all (g_okI 184) = true := (g_spl 60 g_ok184_0 (g_ok184_1))
theorem g_om184 : g_okM 184 = true := by decide +kernel
set_option maxRecDepth 100000 in
theorem g_ok183 : g_k183.all (g_okI 183) = true := by decide +kernel
theorem g_om183 : g_okM 183 = true := by decide +kernel
set_option maxRecDepth 100000 in
theorem g_ok182 : g_k182.all (g_okI 182) = true := by decide +kernel
theorem g_om182 : g_okM 182 = true := by decide +kernel
set_option maxRecDepth 100000 in
theorem g_ok181 : g_k181.all (g_okI 181) = true := by decide +kernel
theorem g_om181 : g_okM 181 = true := by decide +kernel
set_option maxRecDepth 100000 in
theorem g_ok180 : g_k180.all (g_okI 180) = true := by decide +kernel
theorem g_om180 : g_okM 180 = true := by decide +kernel
