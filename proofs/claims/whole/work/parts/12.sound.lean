section GV
variable {p : Program} {l : Launch} {e : Env} {Rm : Room} {s : State} {m : MethodId} {args : Array Value} {below : List Frame} {meth : Method} {c : Code} {Q : State → Prop}
variable {ad : Nat → Nat} {rv : Nat → Value} {D : va_G} {Y : g_Y} {A : Nat → Prop} {E : g_E} {M d : Nat}
theorem g_wI {cells slots : Nat} {σ : g_S} {H : Heap} {locs : List Loc} {a pc : Nat} {v j : Int32} {ls : Array Slot} {rest : List Value} (F : g_Fr p l Rm s m args c ad rv D Y A E M d cells slots) (hk : g_kd a = 100) (hj : vp_in j (g_ln a)) (hdg : decode (g_by M) pc = .ok (.iastore, 1))
    (hP : va_P D vwCl (g_w ad Y σ) H) (hD : va_D A (g_w ad Y σ)) (hS : va_S A s.heap H locs)
    (kk : ∀ (H1 : Heap) (locs1 : List Loc), va_P D vwCl (g_w ad Y (g_up σ a j.toNatClampNeg v)) H1 → va_D A (g_w ad Y (g_up σ a j.toNatClampNeg v)) → va_S A s.heap H1 locs1 → W p l e Rm s m args below meth c H1 locs1 cells slots Q (F0 m (pc + 1) ls rest)) : W p l e Rm s m args below meth c H locs cells slots Q (F0 m pc ls (.int v :: .int j :: .ref (ad a) :: rest)) := by
  obtain ⟨hx, hb, hml, hown, hts, hK, hZ, hA, hroom, hc1, hc2⟩ := F
  have ha : a < g_N := g_kd_lt (by omega)
  have hw := g_w_at (ad := ad) (Y := Y) (σ := σ) ha
  rw [g_mkI hk] at hw
  refine va_iast hx hb hK hP hD hS a 0 hw rfl hj hdg (fun H1 locs1 h1 h2 h3 => ?_)
  rw [g_w_set (σ' := g_up σ a j.toNatClampNeg v) ha (by rw [g_mkI hk, g_up_eq]) (fun b hb => g_up_ne hb)] at h1 h2
  exact kk H1 locs1 h1 h2 h3
theorem g_wZ {cells slots : Nat} {σ : g_S} {H : Heap} {locs : List Loc} {a pc : Nat} {v j : Int32} {ls : Array Slot} {rest : List Value} (F : g_Fr p l Rm s m args c ad rv D Y A E M d cells slots) (hk : g_kd a = 101) (hj : vp_in j (g_ln a)) (hn : narrow .boolean (.int v) = .int v) (hdg : decode (g_by M) pc = .ok (.bastore, 1))
    (hP : va_P D vwCl (g_w ad Y σ) H) (hD : va_D A (g_w ad Y σ)) (hS : va_S A s.heap H locs)
    (kk : ∀ (H1 : Heap) (locs1 : List Loc), va_P D vwCl (g_w ad Y (g_up σ a j.toNatClampNeg v)) H1 → va_D A (g_w ad Y (g_up σ a j.toNatClampNeg v)) → va_S A s.heap H1 locs1 → W p l e Rm s m args below meth c H1 locs1 cells slots Q (F0 m (pc + 1) ls rest)) : W p l e Rm s m args below meth c H locs cells slots Q (F0 m pc ls (.int v :: .int j :: .ref (ad a) :: rest)) := by
  obtain ⟨hx, hb, hml, hown, hts, hK, hZ, hA, hroom, hc1, hc2⟩ := F
  have ha : a < g_N := g_kd_lt (by omega)
  have hw := g_w_at (ad := ad) (Y := Y) (σ := σ) ha
  rw [g_mkZ hk] at hw
  have hv : vp_nar .boolean v = v := by
    have : v &&& 1 = v := Value.int.inj hn
    exact this
  refine va_zast hx hb hK hP hD hS a 1 hw rfl hj hdg (fun H1 locs1 h1 h2 h3 => ?_)
  rw [hv] at h1 h2
  rw [g_w_set (σ' := g_up σ a j.toNatClampNeg v) ha (by rw [g_mkZ hk, g_up_eq]) (fun b hb => g_up_ne hb)] at h1 h2
  exact kk H1 locs1 h1 h2 h3
theorem g_wC {cells slots : Nat} {σ : g_S} {H : Heap} {locs : List Loc} {a b pc idx : Nat} {sp dp n : Int32} {ls : Array Slot} {rest : List Value} (F : g_Fr p l Rm s m args c ad rv D Y A E M d cells slots) (hls : ls.size = g_ml M) (hka : g_kd a = 100) (hkb : g_kd b = 100) (hlk : g_in (.methodLink (g_y M).cls idx arraycopyName) = true) (hr : (rest.map fun v => v.category).sum ≤ 8)
    (h1 : ¬ sp < 0) (h2 : ¬ dp < 0) (h3 : ¬ n < 0) (h4 : sp.toNatClampNeg + n.toNatClampNeg ≤ g_ln a) (h5 : dp.toNatClampNeg + n.toNatClampNeg ≤ g_ln b) (hdg : decode (g_by M) pc = .ok (.invokestatic idx, 3))
    (hP : va_P D vwCl (g_w ad Y σ) H) (hD : va_D A (g_w ad Y σ)) (hS : va_S A s.heap H locs)
    (kk : ∀ (H1 : Heap) (locs1 : List Loc), va_P D vwCl (g_w ad Y (g_cp σ a b sp.toNatClampNeg dp.toNatClampNeg n.toNatClampNeg)) H1 → va_D A (g_w ad Y (g_cp σ a b sp.toNatClampNeg dp.toNatClampNeg n.toNatClampNeg)) → va_S A s.heap H1 locs1 → W p l e Rm s m args below meth c H1 locs1 cells slots Q (F0 m (pc + 3) ls rest)) : W p l e Rm s m args below meth c H locs cells slots Q (F0 m pc ls (.int n :: .int dp :: .ref (ad b) :: .int sp :: .ref (ad a) :: rest)) := by
  obtain ⟨hx, hb, hml, hown, hts, hK, hZ, hA, hroom, hc1, hc2⟩ := F
  have ha : a < g_N := g_kd_lt (by omega)
  have hbn : b < g_N := g_kd_lt (by omega)
  have hw := g_w_at (ad := ad) (Y := Y) (σ := σ) ha
  rw [g_mkI hka] at hw
  have hw2 := g_w_at (ad := ad) (Y := Y) (σ := σ) hbn
  rw [g_mkI hkb] at hw2
  obtain ⟨q1, q2, q3, -⟩ := g_libs
  refine va_copyi (ty := .int) hx hb (hml.trans hls.symm) hown (hts _ (g_in_mem hlk)) (hts _ (g_in_mem q2)) (hts _ (g_in_mem q1)) (hts _ (g_in_mem q3)) hK hP hD hS a b 0 0 hw hw2 rfl rfl rfl h1 h2 h3 h4 h5 (fun _ _ => rfl) (by omega) ?_ hdg (fun H1 locs1 k1 k2 k3 => ?_)
  · have : nativeFrameWords "java/lang/System" "arraycopy" 5 ≤ 40 := by decide +kernel
    omega
  · rw [g_w_set (σ' := g_cp σ a b sp.toNatClampNeg dp.toNatClampNeg n.toNatClampNeg) hbn (by rw [g_mkI hkb, g_cp_eq]) (fun b hb => g_cp_ne hb)] at k1 k2
    exact kk H1 locs1 k1 k2 k3
theorem g_wF {cells slots : Nat} {σ : g_S} {H : Heap} {locs : List Loc} {a ci k pc idx : Nat} {v : Int32} {ls : Array Slot} {rest : List Value} (F : g_Fr p l Rm s m args c ad rv D Y A E M d cells slots) (hk : g_kd a = ci) (hci : ci < 9) (hkn : k < (g_C ci).2.2) (hrf : g_rf ci k = false) (hfin : ((g_C ci).2.1 k).2.2.2 = false) (hty : ((g_C ci).2.1 k).2.2.1 = bif g_bz ci k then "Z" else "I")
    (hlk : g_in (.fieldLink (g_y M).cls idx ((g_C ci).2.1 k).1 ((g_C ci).2.1 k).2.1 ((g_C ci).2.1 k).2.2.1) = true ∨ g_inN (.fieldLinkNest (g_y M).cls idx ((g_C ci).2.1 k).1 ((g_C ci).2.1 k).2.1 ((g_C ci).2.1 k).2.2.1 "DialTown") = true)
    (hn : narrow (bif g_bz ci k then .boolean else .int) (.int v) = .int v) (hdg : decode (g_by M) pc = .ok (.putfield idx, 3))
    (hP : va_P D vwCl (g_w ad Y σ) H) (hD : va_D A (g_w ad Y σ)) (hS : va_S A s.heap H locs)
    (kk : ∀ (H1 : Heap) (locs1 : List Loc), va_P D vwCl (g_w ad Y (g_up σ a k v)) H1 → va_D A (g_w ad Y (g_up σ a k v)) → va_S A s.heap H1 locs1 → W p l e Rm s m args below meth c H1 locs1 cells slots Q (F0 m (pc + 3) ls rest)) : W p l e Rm s m args below meth c H locs cells slots Q (F0 m pc ls (.int v :: .ref (ad a) :: rest)) := by
  obtain ⟨hx, hb, hml, hown, hts, hK, hZ, hA, hroom, hc1, hc2⟩ := F
  have ha : a < g_N := g_kd_lt (by omega)
  have hw := g_w_at (ad := ad) (Y := Y) (σ := σ) ha
  rw [g_mkO hk hci] at hw
  obtain ⟨ty, hty0⟩ := g_C_ty hci
  have hd : parseFieldDescriptor ((g_C ci).2.1 k).2.2.1 = some (bif g_bz ci k then .boolean else .int) := by
    rw [hty]
    cases g_bz ci k
    · exact (by decide +kernel : parseFieldDescriptor "I" = some .int)
    · exact (by decide +kernel : parseFieldDescriptor "Z" = some .boolean)
  have hfit : fits (bif g_bz ci k then .boolean else .int) (.int v) = true := by
    revert hn
    cases g_bz ci k
    · intro _; rfl
    · intro hn; exact g_fitsZ hn
  have hset : ∀ H1 : Heap, (g_w ad Y σ).set a (ad a, .inr (ci, ((List.range (g_C ci).2.2).map (fun k => bif g_rf ci k then Value.ref (ad (g_tg ci k a)) else .int (σ a k))).set k (.int v))) = g_w ad Y (g_up σ a k v) := by
    intro _
    refine g_w_set ha ?_ (fun b hb => g_up_ne hb)
    rw [g_mkO hk hci, g_up_eq]
    congr 2
    apply List.ext_getElem?
    intro i
    by_cases hi : i < (g_C ci).2.2
    · by_cases hik : i = k
      · subst hik
        rw [List.getElem?_set_self (by rw [List.length_map, List.length_range]; exact hi), List.getElem?_map, List.getElem?_range hi, Option.map_some, hrf]
        unfold upd
        rw [if_pos rfl]; rfl
      · rw [List.getElem?_set_ne (fun q => hik q.symm), List.getElem?_map, List.getElem?_map, List.getElem?_range hi, Option.map_some, Option.map_some]
        unfold upd
        rw [if_neg hik]
    · rw [List.getElem?_eq_none (by rw [List.length_set, List.length_map, List.length_range]; omega), List.getElem?_eq_none (by rw [List.length_map, List.length_range]; omega)]
  rcases hlk with hlk | hlk
  · refine va_put (C := (g_C ci).1) (T := (g_C ci).2.1) (N := (g_C ci).2.2) hx hb hts (g_lays hci) ty hty0 (g_C_nm hci) hown hK hP hD hS a hw (g_C_at hci) k hkn (hts _ (g_in_mem hlk)) (fun _ h => h) hfin hd hn hfit (by rw [List.length_map, List.length_range]; exact hkn) hdg (fun H1 locs1 k1 k2 k3 => ?_)
    rw [hset H1] at k1 k2
    exact kk H1 locs1 k1 k2 k3
  · refine va_putN (C := (g_C ci).1) (T := (g_C ci).2.1) (N := (g_C ci).2.2) (host := "DialTown") hx hb hts (g_lays hci) ty hty0 (g_C_nm hci) hown hK hP hD hS a hw (g_C_at hci) k hkn ((hZ.1 _ (g_inN_mem hlk)).use rfl) (fun _ h => h) hfin hd hn hfit (by rw [List.length_map, List.length_range]; exact hkn) hdg (fun H1 locs1 k1 k2 k3 => ?_)
    rw [hset H1] at k1 k2
    exact kk H1 locs1 k1 k2 k3
theorem g_rF {cells slots : Nat} {σ : g_S} {H : Heap} {locs : List Loc} {a ci k pc idx : Nat} {ls : Array Slot} {rest : List Value} (F : g_Fr p l Rm s m args c ad rv D Y A E M d cells slots) (hk : g_kd a = ci) (hci : ci < 9) (hkn : k < (g_C ci).2.2)
    (hlk : g_in (.fieldLink (g_y M).cls idx ((g_C ci).2.1 k).1 ((g_C ci).2.1 k).2.1 ((g_C ci).2.1 k).2.2.1) = true ∨ g_inN (.fieldLinkNest (g_y M).cls idx ((g_C ci).2.1 k).1 ((g_C ci).2.1 k).2.1 ((g_C ci).2.1 k).2.2.1 "DialTown") = true)
    (hdg : decode (g_by M) pc = .ok (.getfield idx, 3)) (hP : va_P D vwCl (g_w ad Y σ) H)
    (kk : W p l e Rm s m args below meth c H locs cells slots Q (F0 m (pc + 3) ls (g_cv ad rv (bif g_rf ci k then .ref (g_tg ci k a) else .int (σ a k)) :: rest))) : W p l e Rm s m args below meth c H locs cells slots Q (F0 m pc ls (.ref (ad a) :: rest)) := by
  obtain ⟨hx, hb, hml, hown, hts, hK, hZ, hA, hroom, hc1, hc2⟩ := F
  have ha : a < g_N := g_kd_lt (by omega)
  have hw := g_w_at (ad := ad) (Y := Y) (σ := σ) ha
  rw [g_mkO hk hci] at hw
  have hv : ((List.range (g_C ci).2.2).map (fun k => bif g_rf ci k then Value.ref (ad (g_tg ci k a)) else .int (σ a k)))[k]? = some (g_cv ad rv (bif g_rf ci k then .ref (g_tg ci k a) else .int (σ a k))) := by
    rw [List.getElem?_map, List.getElem?_range hkn, Option.map_some]
    cases g_rf ci k <;> rfl
  rcases hlk with hlk | hlk
  · exact va_get (C := (g_C ci).1) (T := (g_C ci).2.1) (N := (g_C ci).2.2) hx hb hts (g_lays hci) hown hK hP a hw (g_C_at hci) k hkn (hts _ (g_in_mem hlk)) (fun _ h => h) hv hdg kk
  · exact va_getN (C := (g_C ci).1) (T := (g_C ci).2.1) (N := (g_C ci).2.2) (host := "DialTown") hx hb hts (g_lays hci) hown hK hP a hw (g_C_at hci) k hkn ((hZ.1 _ (g_inN_mem hlk)).use rfl) (fun _ h => h) hv hdg kk
theorem g_rR {cells slots : Nat} {σ : g_S} {H : Heap} {locs : List Loc} {a pc : Nat} {j : Int32} {ls : Array Slot} {rest : List Value} (F : g_Fr p l Rm s m args c ad rv D Y A E M d cells slots) (hk : g_kd a = 102 ∨ g_kd a = 103) (hj : vp_in j (g_ln a))
    (hdg : decode (g_by M) pc = .ok (.aaload, 1)) (hP : va_P D vwCl (g_w ad Y σ) H)
    (kk : W p l e Rm s m args below meth c H locs cells slots Q (F0 m (pc + 1) ls (.ref (ad (g_ta a j.toNatClampNeg)) :: rest))) : W p l e Rm s m args below meth c H locs cells slots Q (F0 m pc ls (.int j :: .ref (ad a) :: rest)) := by
  obtain ⟨hx, hb, hml, hown, hts, hK, hZ, hA, hroom, hc1, hc2⟩ := F
  have ha : a < g_N := g_kd_lt (by omega)
  have hw := g_w_at (ad := ad) (Y := Y) (σ := σ) ha
  rcases hk with hk | hk
  · rw [g_mkT hk] at hw
    exact va_aldq hx hb hK hP a 2 hw rfl hj hdg kk
  · rw [g_mkR hk] at hw
    have hlt : j.toNatClampNeg < g_ln a := Nat.not_le.mp fun q => hj (Or.inr q)
    refine W.aald (v := va_rf (some (ad (g_ta a j.toNatClampNeg)))) (ty := .array .int) hx hb (hP a _ hw) ((hK.2 3 _ rfl).1 (g_ln a) (fun j => va_rf (some (ad (g_ta a j))))) rfl (fun q => by cases q) ?_ ?_ rfl rfl hdg kk
    · show ¬ (j < 0 ∨ (arrV _ _ _).slots.size ≤ _)
      rw [arrV_size]; exact hj
    · show (arrV _ _ _).slots[_]? = _
      rw [arrV_read _ _ hlt]
end GV
