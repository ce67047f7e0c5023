theorem dX0_init_0 : decode cX0_init 0 = .ok (.aload_n 0, 1) := by decide +kernel
theorem dX0_init_1 : decode cX0_init 1 = .ok (.invokespecial 1, 3) := by decide +kernel
theorem dX0_init_4 : decode cX0_init 4 = .ok (.aload_n 0, 1) := by decide +kernel
theorem dX0_init_5 : decode cX0_init 5 = .ok (.bipush 16, 2) := by decide +kernel
theorem dX0_init_7 : decode cX0_init 7 = .ok (.newarray .int, 2) := by decide +kernel
theorem dX0_init_9 : decode cX0_init 9 = .ok (.putfield 9, 3) := by decide +kernel
theorem dX0_init_12 : decode cX0_init 12 = .ok (.aload_n 0, 1) := by decide +kernel
theorem dX0_init_13 : decode cX0_init 13 = .ok (.iconst 0, 1) := by decide +kernel
theorem dX0_init_14 : decode cX0_init 14 = .ok (.putfield 13, 3) := by decide +kernel
theorem dX0_init_17 : decode cX0_init 17 = .ok (.return_, 1) := by decide +kernel
set_option maxHeartbeats 8000000 in
set_option maxRecDepth 100000 in
theorem b_0_init (l : Launch) (dC : Nat → ClassId) (dI : Nat → Nat → Nat) (Y : g_Y) (h0 : Nat) (sz : Nat) : Met l yX0_init (.code yX0_init cX0_init 1 none :: g_W) ({ frames := 1, cells := 1, slots := 16, locals := 64 }) (va_Pc [.ref h0] (fun U => U.heap.size = sz ∧ va_P (dC, dI) vwCl [(h0, .inr (0, [.null, .int 0]))] U.heap ∧ va_K (dC, dI) vwCl (g_tys Y) U ∧ va_D (fun _ => True) [(h0, .inr (0, [.null, .int 0]))])) (va_Qv (fun _ : Unit => True) (fun _ t => ∃ (q1 : Nat), va_P (dC, dI) vwCl [(h0, .inr (0, [.ref q1, .int 0])), (q1, .inl (Y.1, 16, .inl (fun _ => 0)))] t.heap ∧ va_K (dC, dI) vwCl (g_tys Y) t ∧ va_D (va_A [(h0, .inr (0, [.null, .int 0]))] sz) [(h0, .inr (0, [.ref q1, .int 0])), (q1, .inl (Y.1, 16, .inl (fun _ => 0)))]) (va_A [(h0, .inr (0, [.null, .int 0]))] sz)) 1 16 (va_A [(h0, .inr (0, [.null, .int 0]))] sz) := by
  refine Met.ofW (cc := cX0_init) (maxL := 1) (ret := none) (by decide +kernel) rfl ?_
  intro p e s m args below meth c s₁ B hml hv
  obtain ⟨rfl, hsz, hP, hK, hD0⟩ := hv
  have hx := B.exec
  have hb := B.bytes
  have hr := B.returns
  have hts0 := atoms_spec (ws := .code yX0_init cX0_init 1 none :: g_W) B.pre
  have hW : ∀ w, g_in w = true → w.before [.ref h0].toArray s = true := fun w h => hts0 w (List.mem_cons_of_mem _ (g_in_mem h))
  have hts : ∀ w ∈ g_W, w.before [.ref h0].toArray s = true := fun w h => hts0 w (List.mem_cons_of_mem _ h)
  have hws := b_ws hts
  have hown : s.vm.findClass RX0 = some m.cls := findClass_of_methodNamed B.named
  have hlocks := B.notSynchronized
  have hin : meth.name = "<init>" := (name_of_methodNamed B.named B.method).1
  subst hsz
  have hD := hD0.self (sz := s.heap.size)
  generalize hAe : va_A [(h0, .inr (0, [.null, .int 0]))] s.heap.size = A at hD ⊢
  have hA : ∀ q : Nat, s.heap.size ≤ q → A q := fun q h => by rw [← hAe]; exact Or.inr h
  have hS : va_S A s.heap s.heap [] := va_S.rf
  have hl := lv_entry ([.ref h0]) (n := 1) (Nat.le_of_ble_eq_true rfl)
  rw [lg_entry_eq]
  generalize (lg_sl ([.ref h0]) ++ List.replicate (1 - (lg_sl ([.ref h0])).length) Slot.unset).toArray = ls at hl ⊢
  have hl : lv_has ls 1 [(0, .ref h0)] := hl
  refine lv_aload_n hx hb dX0_init_0 rfl (lv_at hl 0 rfl) ?_
  refine W.objInit hx hb hown (hW (.methodLink RX0 1 Lib.objectInit) (by decide +kernel)) (hW (.instanceMethod Lib.objectInit) (by decide +kernel)) (hW (.code Lib.objectInit ⟨#[0xb1]⟩ 1 none) (by decide +kernel)) rfl (by rw [hml]; exact hl.1) rfl dX0_init_1 (Nat.le_of_ble_eq_true rfl) (Nat.le_of_ble_eq_true rfl) ?_
  refine W.eq (g2 := F0 m 4 ls []) rfl ?_
  refine lv_aload_n hx hb dX0_init_4 rfl (lv_at hl 0 rfl) ?_
  refine lv_bipush (v := 16) hx hb dX0_init_5 (by decide) ?_
  refine b_newaI (N' := 16) hx hb (hW _ (by decide +kernel)) hK hP hD hS hA (by decide) (by decide +kernel) (Nat.le_of_ble_eq_true rfl) (Nat.le_of_ble_eq_true rfl) (Nat.le_of_ble_eq_true rfl) dX0_init_7 (fun q1 H hP hD hS => ?_)
  have hP : va_P (dC, dI) vwCl [(h0, .inr (0, [.null, .int 0])), (q1, .inl (Y.1, 16, .inl (fun _ => 0)))] H := hP
  have hD : va_D A [(h0, .inr (0, [.null, .int 0])), (q1, .inl (Y.1, 16, .inl (fun _ => 0)))] := hD
  refine va_putF (D := (dC, dI)) (ci := 0) (v := .ref q1) (ty := .array .int) (C := RX0) (T := TX0) (N := 2) hx hb hts (g_lays (ci := 0) (by decide)) tyX0 tyX0_ok nmX0 hown hK hP hD hS 0 rfl rfl 0 (by decide) (hW (.fieldLink RX0 9 "DialTown$Asker" "trail" "[I") (by decide +kernel)) (fun _ h9 => h9) rfl hin rfl (by decide +kernel) rfl rfl (Nat.le_of_ble_eq_true rfl) dX0_init_9 (fun H locs hP hD hS => ?_)
  have hP : va_P (dC, dI) vwCl [(h0, .inr (0, [.ref q1, .int 0])), (q1, .inl (Y.1, 16, .inl (fun _ => 0)))] H := hP
  have hD : va_D A [(h0, .inr (0, [.ref q1, .int 0])), (q1, .inl (Y.1, 16, .inl (fun _ => 0)))] := hD
  refine lv_aload_n hx hb dX0_init_12 rfl (lv_at hl 0 rfl) ?_
  refine lv_iconst (v := 0) hx hb dX0_init_13 (by decide) ?_
  refine va_put (D := (dC, dI)) (ci := 0) (v := .int 0) (ty := .int) (C := RX0) (T := TX0) (N := 2) hx hb hts (g_lays (ci := 0) (by decide)) tyX0 tyX0_ok nmX0 hown hK hP hD hS 0 rfl rfl 1 (by decide) (hW (.fieldLink RX0 13 "DialTown$Asker" "traced" "I") (by decide +kernel)) (fun _ h9 => h9) rfl (by decide +kernel) rfl rfl (Nat.le_of_ble_eq_true rfl) dX0_init_14 (fun H locs hP hD hS => ?_)
  have hP : va_P (dC, dI) vwCl [(h0, .inr (0, [.ref q1, .int 0])), (q1, .inl (Y.1, 16, .inl (fun _ => 0)))] H := hP
  have hD : va_D A [(h0, .inr (0, [.ref q1, .int 0])), (q1, .inl (Y.1, 16, .inl (fun _ => 0)))] := hD
  have hP9 := hP; have hD9 := hD
  exact W.vret hx hb hr (fun t ht hW9 => ⟨⟨(), rfl, trivial, q1, by rw [ht]; exact hP9, va_K.moved hW9.alike hK, hD9⟩, hS.F ht⟩) hS.2.2 dX0_init_17
theorem dX1_init_0 : decode cX1_init 0 = .ok (.aload_n 0, 1) := by decide +kernel
theorem dX1_init_1 : decode cX1_init 1 = .ok (.invokespecial 3, 3) := by decide +kernel
theorem dX1_init_4 : decode cX1_init 4 = .ok (.aload_n 0, 1) := by decide +kernel
theorem dX1_init_5 : decode cX1_init 5 = .ok (.bipush 9, 2) := by decide +kernel
theorem dX1_init_7 : decode cX1_init 7 = .ok (.newarray .int, 2) := by decide +kernel
theorem dX1_init_9 : decode cX1_init 9 = .ok (.putfield 9, 3) := by decide +kernel
theorem dX1_init_12 : decode cX1_init 12 = .ok (.aload_n 0, 1) := by decide +kernel
theorem dX1_init_13 : decode cX1_init 13 = .ok (.iconst 0, 1) := by decide +kernel
theorem dX1_init_14 : decode cX1_init 14 = .ok (.putfield 15, 3) := by decide +kernel
theorem dX1_init_17 : decode cX1_init 17 = .ok (.aload_n 0, 1) := by decide +kernel
theorem dX1_init_18 : decode cX1_init 18 = .ok (.bipush 73, 2) := by decide +kernel
theorem dX1_init_20 : decode cX1_init 20 = .ok (.newarray .int, 2) := by decide +kernel
theorem dX1_init_22 : decode cX1_init 22 = .ok (.putfield 19, 3) := by decide +kernel
theorem dX1_init_25 : decode cX1_init 25 = .ok (.aload_n 0, 1) := by decide +kernel
theorem dX1_init_26 : decode cX1_init 26 = .ok (.bipush 81, 2) := by decide +kernel
theorem dX1_init_28 : decode cX1_init 28 = .ok (.newarray .int, 2) := by decide +kernel
theorem dX1_init_30 : decode cX1_init 30 = .ok (.putfield 22, 3) := by decide +kernel
theorem dX1_init_33 : decode cX1_init 33 = .ok (.return_, 1) := by decide +kernel
set_option maxHeartbeats 8000000 in
set_option maxRecDepth 100000 in
theorem b_1_init (l : Launch) (dC : Nat → ClassId) (dI : Nat → Nat → Nat) (Y : g_Y) (h0 : Nat) (sz : Nat) : Met l yX1_init (.code yX1_init cX1_init 1 none :: g_W) ({ frames := 1, cells := 3, slots := 163, locals := 64 }) (va_Pc [.ref h0] (fun U => U.heap.size = sz ∧ va_P (dC, dI) vwCl [(h0, .inr (1, [.null, .int 0, .null, .null]))] U.heap ∧ va_K (dC, dI) vwCl (g_tys Y) U ∧ va_D (fun _ => True) [(h0, .inr (1, [.null, .int 0, .null, .null]))])) (va_Qv (fun _ : Unit => True) (fun _ t => ∃ (q1 : Nat) (q2 : Nat) (q3 : Nat), va_P (dC, dI) vwCl [(h0, .inr (1, [.ref q1, .int 0, .ref q2, .ref q3])), (q1, .inl (Y.1, 9, .inl (fun _ => 0))), (q2, .inl (Y.1, 73, .inl (fun _ => 0))), (q3, .inl (Y.1, 81, .inl (fun _ => 0)))] t.heap ∧ va_K (dC, dI) vwCl (g_tys Y) t ∧ va_D (va_A [(h0, .inr (1, [.null, .int 0, .null, .null]))] sz) [(h0, .inr (1, [.ref q1, .int 0, .ref q2, .ref q3])), (q1, .inl (Y.1, 9, .inl (fun _ => 0))), (q2, .inl (Y.1, 73, .inl (fun _ => 0))), (q3, .inl (Y.1, 81, .inl (fun _ => 0)))]) (va_A [(h0, .inr (1, [.null, .int 0, .null, .null]))] sz)) 3 163 (va_A [(h0, .inr (1, [.null, .int 0, .null, .null]))] sz) := by
  refine Met.ofW (cc := cX1_init) (maxL := 1) (ret := none) (by decide +kernel) rfl ?_
  intro p e s m args below meth c s₁ B hml hv
  obtain ⟨rfl, hsz, hP, hK, hD0⟩ := hv
  have hx := B.exec
  have hb := B.bytes
  have hr := B.returns
  have hts0 := atoms_spec (ws := .code yX1_init cX1_init 1 none :: g_W) B.pre
  have hW : ∀ w, g_in w = true → w.before [.ref h0].toArray s = true := fun w h => hts0 w (List.mem_cons_of_mem _ (g_in_mem h))
  have hts : ∀ w ∈ g_W, w.before [.ref h0].toArray s = true := fun w h => hts0 w (List.mem_cons_of_mem _ h)
  have hws := b_ws hts
  have hown : s.vm.findClass RX1 = some m.cls := findClass_of_methodNamed B.named
  have hlocks := B.notSynchronized
  have hin : meth.name = "<init>" := (name_of_methodNamed B.named B.method).1
  subst hsz
  have hD := hD0.self (sz := s.heap.size)
  generalize hAe : va_A [(h0, .inr (1, [.null, .int 0, .null, .null]))] s.heap.size = A at hD ⊢
  have hA : ∀ q : Nat, s.heap.size ≤ q → A q := fun q h => by rw [← hAe]; exact Or.inr h
  have hS : va_S A s.heap s.heap [] := va_S.rf
  have hl := lv_entry ([.ref h0]) (n := 1) (Nat.le_of_ble_eq_true rfl)
  rw [lg_entry_eq]
  generalize (lg_sl ([.ref h0]) ++ List.replicate (1 - (lg_sl ([.ref h0])).length) Slot.unset).toArray = ls at hl ⊢
  have hl : lv_has ls 1 [(0, .ref h0)] := hl
  refine lv_aload_n hx hb dX1_init_0 rfl (lv_at hl 0 rfl) ?_
  refine W.objInit hx hb hown (hW (.methodLink RX1 3 Lib.objectInit) (by decide +kernel)) (hW (.instanceMethod Lib.objectInit) (by decide +kernel)) (hW (.code Lib.objectInit ⟨#[0xb1]⟩ 1 none) (by decide +kernel)) rfl (by rw [hml]; exact hl.1) rfl dX1_init_1 (Nat.le_of_ble_eq_true rfl) (Nat.le_of_ble_eq_true rfl) ?_
  refine W.eq (g2 := F0 m 4 ls []) rfl ?_
  refine lv_aload_n hx hb dX1_init_4 rfl (lv_at hl 0 rfl) ?_
  refine lv_bipush (v := 9) hx hb dX1_init_5 (by decide) ?_
  refine b_newaI (N' := 9) hx hb (hW _ (by decide +kernel)) hK hP hD hS hA (by decide) (by decide +kernel) (Nat.le_of_ble_eq_true rfl) (Nat.le_of_ble_eq_true rfl) (Nat.le_of_ble_eq_true rfl) dX1_init_7 (fun q1 H hP hD hS => ?_)
  have hP : va_P (dC, dI) vwCl [(h0, .inr (1, [.null, .int 0, .null, .null])), (q1, .inl (Y.1, 9, .inl (fun _ => 0)))] H := hP
  have hD : va_D A [(h0, .inr (1, [.null, .int 0, .null, .null])), (q1, .inl (Y.1, 9, .inl (fun _ => 0)))] := hD
  refine va_putF (D := (dC, dI)) (ci := 1) (v := .ref q1) (ty := .array .int) (C := RX1) (T := TX1) (N := 4) hx hb hts (g_lays (ci := 1) (by decide)) tyX1 tyX1_ok nmX1 hown hK hP hD hS 0 rfl rfl 0 (by decide) (hW (.fieldLink RX1 9 "DialTown$Dial" "shaded" "[I") (by decide +kernel)) (fun _ h9 => h9) rfl hin rfl (by decide +kernel) rfl rfl (Nat.le_of_ble_eq_true rfl) dX1_init_9 (fun H locs hP hD hS => ?_)
  have hP : va_P (dC, dI) vwCl [(h0, .inr (1, [.ref q1, .int 0, .null, .null])), (q1, .inl (Y.1, 9, .inl (fun _ => 0)))] H := hP
  have hD : va_D A [(h0, .inr (1, [.ref q1, .int 0, .null, .null])), (q1, .inl (Y.1, 9, .inl (fun _ => 0)))] := hD
  refine lv_aload_n hx hb dX1_init_12 rfl (lv_at hl 0 rfl) ?_
  refine lv_iconst (v := 0) hx hb dX1_init_13 (by decide) ?_
  refine va_put (D := (dC, dI)) (ci := 1) (v := .int 0) (ty := .int) (C := RX1) (T := TX1) (N := 4) hx hb hts (g_lays (ci := 1) (by decide)) tyX1 tyX1_ok nmX1 hown hK hP hD hS 0 rfl rfl 1 (by decide) (hW (.fieldLink RX1 15 "DialTown$Dial" "length" "I") (by decide +kernel)) (fun _ h9 => h9) rfl (by decide +kernel) rfl rfl (Nat.le_of_ble_eq_true rfl) dX1_init_14 (fun H locs hP hD hS => ?_)
  have hP : va_P (dC, dI) vwCl [(h0, .inr (1, [.ref q1, .int 0, .null, .null])), (q1, .inl (Y.1, 9, .inl (fun _ => 0)))] H := hP
  have hD : va_D A [(h0, .inr (1, [.ref q1, .int 0, .null, .null])), (q1, .inl (Y.1, 9, .inl (fun _ => 0)))] := hD
  refine lv_aload_n hx hb dX1_init_17 rfl (lv_at hl 0 rfl) ?_
  refine lv_bipush (v := 73) hx hb dX1_init_18 (by decide) ?_
  refine b_newaI (N' := 73) hx hb (hW _ (by decide +kernel)) hK hP hD hS hA (by decide) (by decide +kernel) (Nat.le_of_ble_eq_true rfl) (Nat.le_of_ble_eq_true rfl) (Nat.le_of_ble_eq_true rfl) dX1_init_20 (fun q2 H hP hD hS => ?_)
  have hP : va_P (dC, dI) vwCl [(h0, .inr (1, [.ref q1, .int 0, .null, .null])), (q1, .inl (Y.1, 9, .inl (fun _ => 0))), (q2, .inl (Y.1, 73, .inl (fun _ => 0)))] H := hP
  have hD : va_D A [(h0, .inr (1, [.ref q1, .int 0, .null, .null])), (q1, .inl (Y.1, 9, .inl (fun _ => 0))), (q2, .inl (Y.1, 73, .inl (fun _ => 0)))] := hD
  refine va_putF (D := (dC, dI)) (ci := 1) (v := .ref q2) (ty := .array .int) (C := RX1) (T := TX1) (N := 4) hx hb hts (g_lays (ci := 1) (by decide)) tyX1 tyX1_ok nmX1 hown hK hP hD hS 0 rfl rfl 2 (by decide) (hW (.fieldLink RX1 19 "DialTown$Dial" "day" "[I") (by decide +kernel)) (fun _ h9 => h9) rfl hin rfl (by decide +kernel) rfl rfl (Nat.le_of_ble_eq_true rfl) dX1_init_22 (fun H locs hP hD hS => ?_)
  have hP : va_P (dC, dI) vwCl [(h0, .inr (1, [.ref q1, .int 0, .ref q2, .null])), (q1, .inl (Y.1, 9, .inl (fun _ => 0))), (q2, .inl (Y.1, 73, .inl (fun _ => 0)))] H := hP
  have hD : va_D A [(h0, .inr (1, [.ref q1, .int 0, .ref q2, .null])), (q1, .inl (Y.1, 9, .inl (fun _ => 0))), (q2, .inl (Y.1, 73, .inl (fun _ => 0)))] := hD
  refine lv_aload_n hx hb dX1_init_25 rfl (lv_at hl 0 rfl) ?_
  refine lv_bipush (v := 81) hx hb dX1_init_26 (by decide) ?_
  refine b_newaI (N' := 81) hx hb (hW _ (by decide +kernel)) hK hP hD hS hA (by decide) (by decide +kernel) (Nat.le_of_ble_eq_true rfl) (Nat.le_of_ble_eq_true rfl) (Nat.le_of_ble_eq_true rfl) dX1_init_28 (fun q3 H hP hD hS => ?_)
  have hP : va_P (dC, dI) vwCl [(h0, .inr (1, [.ref q1, .int 0, .ref q2, .null])), (q1, .inl (Y.1, 9, .inl (fun _ => 0))), (q2, .inl (Y.1, 73, .inl (fun _ => 0))), (q3, .inl (Y.1, 81, .inl (fun _ => 0)))] H := hP
  have hD : va_D A [(h0, .inr (1, [.ref q1, .int 0, .ref q2, .null])), (q1, .inl (Y.1, 9, .inl (fun _ => 0))), (q2, .inl (Y.1, 73, .inl (fun _ => 0))), (q3, .inl (Y.1, 81, .inl (fun _ => 0)))] := hD
  refine va_putF (D := (dC, dI)) (ci := 1) (v := .ref q3) (ty := .array .int) (C := RX1) (T := TX1) (N := 4) hx hb hts (g_lays (ci := 1) (by decide)) tyX1 tyX1_ok nmX1 hown hK hP hD hS 0 rfl rfl 3 (by decide) (hW (.fieldLink RX1 22 "DialTown$Dial" "hours" "[I") (by decide +kernel)) (fun _ h9 => h9) rfl hin rfl (by decide +kernel) rfl rfl (Nat.le_of_ble_eq_true rfl) dX1_init_30 (fun H locs hP hD hS => ?_)
  have hP : va_P (dC, dI) vwCl [(h0, .inr (1, [.ref q1, .int 0, .ref q2, .ref q3])), (q1, .inl (Y.1, 9, .inl (fun _ => 0))), (q2, .inl (Y.1, 73, .inl (fun _ => 0))), (q3, .inl (Y.1, 81, .inl (fun _ => 0)))] H := hP
  have hD : va_D A [(h0, .inr (1, [.ref q1, .int 0, .ref q2, .ref q3])), (q1, .inl (Y.1, 9, .inl (fun _ => 0))), (q2, .inl (Y.1, 73, .inl (fun _ => 0))), (q3, .inl (Y.1, 81, .inl (fun _ => 0)))] := hD
  have hP9 := hP; have hD9 := hD
  exact W.vret hx hb hr (fun t ht hW9 => ⟨⟨(), rfl, trivial, q1, q2, q3, by rw [ht]; exact hP9, va_K.moved hW9.alike hK, hD9⟩, hS.F ht⟩) hS.2.2 dX1_init_33
theorem dX2_init_0 : decode cX2_init 0 = .ok (.aload_n 0, 1) := by decide +kernel
theorem dX2_init_1 : decode cX2_init 1 = .ok (.invokespecial 3, 3) := by decide +kernel
theorem dX2_init_4 : decode cX2_init 4 = .ok (.aload_n 0, 1) := by decide +kernel
theorem dX2_init_5 : decode cX2_init 5 = .ok (.iconst 0, 1) := by decide +kernel
theorem dX2_init_6 : decode cX2_init 6 = .ok (.putfield 9, 3) := by decide +kernel
theorem dX2_init_9 : decode cX2_init 9 = .ok (.aload_n 0, 1) := by decide +kernel
theorem dX2_init_10 : decode cX2_init 10 = .ok (.iconst 0, 1) := by decide +kernel
theorem dX2_init_11 : decode cX2_init 11 = .ok (.putfield 15, 3) := by decide +kernel
theorem dX2_init_14 : decode cX2_init 14 = .ok (.aload_n 0, 1) := by decide +kernel
theorem dX2_init_15 : decode cX2_init 15 = .ok (.iconst 0, 1) := by decide +kernel
theorem dX2_init_16 : decode cX2_init 16 = .ok (.putfield 18, 3) := by decide +kernel
theorem dX2_init_19 : decode cX2_init 19 = .ok (.aload_n 0, 1) := by decide +kernel
theorem dX2_init_20 : decode cX2_init 20 = .ok (.iconst 0, 1) := by decide +kernel
theorem dX2_init_21 : decode cX2_init 21 = .ok (.putfield 21, 3) := by decide +kernel
theorem dX2_init_24 : decode cX2_init 24 = .ok (.aload_n 0, 1) := by decide +kernel
theorem dX2_init_25 : decode cX2_init 25 = .ok (.iconst 0, 1) := by decide +kernel
theorem dX2_init_26 : decode cX2_init 26 = .ok (.putfield 24, 3) := by decide +kernel
theorem dX2_init_29 : decode cX2_init 29 = .ok (.aload_n 0, 1) := by decide +kernel
theorem dX2_init_30 : decode cX2_init 30 = .ok (.iconst 0, 1) := by decide +kernel
theorem dX2_init_31 : decode cX2_init 31 = .ok (.putfield 27, 3) := by decide +kernel
theorem dX2_init_34 : decode cX2_init 34 = .ok (.aload_n 0, 1) := by decide +kernel
theorem dX2_init_35 : decode cX2_init 35 = .ok (.iconst 0, 1) := by decide +kernel
theorem dX2_init_36 : decode cX2_init 36 = .ok (.putfield 30, 3) := by decide +kernel
theorem dX2_init_39 : decode cX2_init 39 = .ok (.aload_n 0, 1) := by decide +kernel
theorem dX2_init_40 : decode cX2_init 40 = .ok (.aload_n 1, 1) := by decide +kernel
theorem dX2_init_41 : decode cX2_init 41 = .ok (.putfield 33, 3) := by decide +kernel
theorem dX2_init_44 : decode cX2_init 44 = .ok (.aload_n 0, 1) := by decide +kernel
theorem dX2_init_45 : decode cX2_init 45 = .ok (.aload_n 2, 1) := by decide +kernel
theorem dX2_init_46 : decode cX2_init 46 = .ok (.putfield 37, 3) := by decide +kernel
theorem dX2_init_49 : decode cX2_init 49 = .ok (.return_, 1) := by decide +kernel
set_option maxHeartbeats 8000000 in
set_option maxRecDepth 100000 in
theorem b_2_init (l : Launch) (dC : Nat → ClassId) (dI : Nat → Nat → Nat) (Y : g_Y) (h0 : Nat) (sz : Nat) (p1 : Nat) (p2 : Nat) : Met l yX2_init (.code yX2_init cX2_init 3 none :: g_W) ({ frames := 1, cells := 0, slots := 0, locals := 64 }) (va_Pc [.ref h0, .ref p1, .ref p2] (fun U => U.heap.size = sz ∧ va_P (dC, dI) vwCl [(h0, .inr (2, [.null, .null, .int 0, .int 0, .int 0, .int 0, .int 0, .int 0, .int 0]))] U.heap ∧ va_K (dC, dI) vwCl (g_tys Y) U ∧ va_D (fun _ => True) [(h0, .inr (2, [.null, .null, .int 0, .int 0, .int 0, .int 0, .int 0, .int 0, .int 0]))])) (va_Qv (fun _ : Unit => True) (fun _ t => va_P (dC, dI) vwCl [(h0, .inr (2, [.ref p1, .ref p2, .int 0, .int 0, .int 0, .int 0, .int 0, .int 0, .int 0]))] t.heap ∧ va_K (dC, dI) vwCl (g_tys Y) t ∧ va_D (va_A [(h0, .inr (2, [.null, .null, .int 0, .int 0, .int 0, .int 0, .int 0, .int 0, .int 0]))] sz) [(h0, .inr (2, [.ref p1, .ref p2, .int 0, .int 0, .int 0, .int 0, .int 0, .int 0, .int 0]))]) (va_A [(h0, .inr (2, [.null, .null, .int 0, .int 0, .int 0, .int 0, .int 0, .int 0, .int 0]))] sz)) 0 0 (va_A [(h0, .inr (2, [.null, .null, .int 0, .int 0, .int 0, .int 0, .int 0, .int 0, .int 0]))] sz) := by
  refine Met.ofW (cc := cX2_init) (maxL := 3) (ret := none) (by decide +kernel) rfl ?_
  intro p e s m args below meth c s₁ B hml hv
  obtain ⟨rfl, hsz, hP, hK, hD0⟩ := hv
  have hx := B.exec
  have hb := B.bytes
  have hr := B.returns
  have hts0 := atoms_spec (ws := .code yX2_init cX2_init 3 none :: g_W) B.pre
  have hW : ∀ w, g_in w = true → w.before [.ref h0, .ref p1, .ref p2].toArray s = true := fun w h => hts0 w (List.mem_cons_of_mem _ (g_in_mem h))
  have hts : ∀ w ∈ g_W, w.before [.ref h0, .ref p1, .ref p2].toArray s = true := fun w h => hts0 w (List.mem_cons_of_mem _ h)
  have hws := b_ws hts
  have hown : s.vm.findClass RX2 = some m.cls := findClass_of_methodNamed B.named
  have hlocks := B.notSynchronized
  have hin : meth.name = "<init>" := (name_of_methodNamed B.named B.method).1
  subst hsz
  have hD := hD0.self (sz := s.heap.size)
  generalize hAe : va_A [(h0, .inr (2, [.null, .null, .int 0, .int 0, .int 0, .int 0, .int 0, .int 0, .int 0]))] s.heap.size = A at hD ⊢
  have hA : ∀ q : Nat, s.heap.size ≤ q → A q := fun q h => by rw [← hAe]; exact Or.inr h
  have hS : va_S A s.heap s.heap [] := va_S.rf
  have hl := lv_entry ([.ref h0, .ref p1, .ref p2]) (n := 3) (Nat.le_of_ble_eq_true rfl)
  rw [lg_entry_eq]
  generalize (lg_sl ([.ref h0, .ref p1, .ref p2]) ++ List.replicate (3 - (lg_sl ([.ref h0, .ref p1, .ref p2])).length) Slot.unset).toArray = ls at hl ⊢
  have hl : lv_has ls 3 [(0, .ref h0), (1, .ref p1), (2, .ref p2)] := hl
  refine lv_aload_n hx hb dX2_init_0 rfl (lv_at hl 0 rfl) ?_
  refine W.objInit hx hb hown (hW (.methodLink RX2 3 Lib.objectInit) (by decide +kernel)) (hW (.instanceMethod Lib.objectInit) (by decide +kernel)) (hW (.code Lib.objectInit ⟨#[0xb1]⟩ 1 none) (by decide +kernel)) rfl (by rw [hml]; exact hl.1) rfl dX2_init_1 (Nat.le_of_ble_eq_true rfl) (Nat.le_of_ble_eq_true rfl) ?_
  refine W.eq (g2 := F0 m 4 ls []) rfl ?_
  refine lv_aload_n hx hb dX2_init_4 rfl (lv_at hl 0 rfl) ?_
  refine lv_iconst (v := 0) hx hb dX2_init_5 (by decide) ?_
  refine va_put (D := (dC, dI)) (ci := 2) (v := .int 0) (ty := .int) (C := RX2) (T := TX2) (N := 9) hx hb hts (g_lays (ci := 2) (by decide)) tyX2 tyX2_ok nmX2 hown hK hP hD hS 0 rfl rfl 2 (by decide) (hW (.fieldLink RX2 9 "DialTown$Reader" "next" "I") (by decide +kernel)) (fun _ h9 => h9) rfl (by decide +kernel) rfl rfl (Nat.le_of_ble_eq_true rfl) dX2_init_6 (fun H locs hP hD hS => ?_)
  have hP : va_P (dC, dI) vwCl [(h0, .inr (2, [.null, .null, .int 0, .int 0, .int 0, .int 0, .int 0, .int 0, .int 0]))] H := hP
  have hD : va_D A [(h0, .inr (2, [.null, .null, .int 0, .int 0, .int 0, .int 0, .int 0, .int 0, .int 0]))] := hD
  refine lv_aload_n hx hb dX2_init_9 rfl (lv_at hl 0 rfl) ?_
  refine lv_iconst (v := 0) hx hb dX2_init_10 (by decide) ?_
  refine va_put (D := (dC, dI)) (ci := 2) (v := .int 0) (ty := .int) (C := RX2) (T := TX2) (N := 9) hx hb hts (g_lays (ci := 2) (by decide)) tyX2 tyX2_ok nmX2 hown hK hP hD hS 0 rfl rfl 3 (by decide) (hW (.fieldLink RX2 15 "DialTown$Reader" "token" "I") (by decide +kernel)) (fun _ h9 => h9) rfl (by decide +kernel) rfl rfl (Nat.le_of_ble_eq_true rfl) dX2_init_11 (fun H locs hP hD hS => ?_)
  have hP : va_P (dC, dI) vwCl [(h0, .inr (2, [.null, .null, .int 0, .int 0, .int 0, .int 0, .int 0, .int 0, .int 0]))] H := hP
  have hD : va_D A [(h0, .inr (2, [.null, .null, .int 0, .int 0, .int 0, .int 0, .int 0, .int 0, .int 0]))] := hD
  refine lv_aload_n hx hb dX2_init_14 rfl (lv_at hl 0 rfl) ?_
  refine lv_iconst (v := 0) hx hb dX2_init_15 (by decide) ?_
  refine va_put (D := (dC, dI)) (ci := 2) (v := .int 0) (ty := .int) (C := RX2) (T := TX2) (N := 9) hx hb hts (g_lays (ci := 2) (by decide)) tyX2 tyX2_ok nmX2 hown hK hP hD hS 0 rfl rfl 4 (by decide) (hW (.fieldLink RX2 18 "DialTown$Reader" "from" "I") (by decide +kernel)) (fun _ h9 => h9) rfl (by decide +kernel) rfl rfl (Nat.le_of_ble_eq_true rfl) dX2_init_16 (fun H locs hP hD hS => ?_)
  have hP : va_P (dC, dI) vwCl [(h0, .inr (2, [.null, .null, .int 0, .int 0, .int 0, .int 0, .int 0, .int 0, .int 0]))] H := hP
  have hD : va_D A [(h0, .inr (2, [.null, .null, .int 0, .int 0, .int 0, .int 0, .int 0, .int 0, .int 0]))] := hD
  refine lv_aload_n hx hb dX2_init_19 rfl (lv_at hl 0 rfl) ?_
  refine lv_iconst (v := 0) hx hb dX2_init_20 (by decide) ?_
  refine va_put (D := (dC, dI)) (ci := 2) (v := .int 0) (ty := .int) (C := RX2) (T := TX2) (N := 9) hx hb hts (g_lays (ci := 2) (by decide)) tyX2 tyX2_ok nmX2 hown hK hP hD hS 0 rfl rfl 5 (by decide) (hW (.fieldLink RX2 21 "DialTown$Reader" "number" "I") (by decide +kernel)) (fun _ h9 => h9) rfl (by decide +kernel) rfl rfl (Nat.le_of_ble_eq_true rfl) dX2_init_21 (fun H locs hP hD hS => ?_)
  have hP : va_P (dC, dI) vwCl [(h0, .inr (2, [.null, .null, .int 0, .int 0, .int 0, .int 0, .int 0, .int 0, .int 0]))] H := hP
  have hD : va_D A [(h0, .inr (2, [.null, .null, .int 0, .int 0, .int 0, .int 0, .int 0, .int 0, .int 0]))] := hD
  refine lv_aload_n hx hb dX2_init_24 rfl (lv_at hl 0 rfl) ?_
  refine lv_iconst (v := 0) hx hb dX2_init_25 (by decide) ?_
  refine va_put (D := (dC, dI)) (ci := 2) (v := .int 0) (ty := .int) (C := RX2) (T := TX2) (N := 9) hx hb hts (g_lays (ci := 2) (by decide)) tyX2 tyX2_ok nmX2 hown hK hP hD hS 0 rfl rfl 6 (by decide) (hW (.fieldLink RX2 24 "DialTown$Reader" "wallsTold" "I") (by decide +kernel)) (fun _ h9 => h9) rfl (by decide +kernel) rfl rfl (Nat.le_of_ble_eq_true rfl) dX2_init_26 (fun H locs hP hD hS => ?_)
  have hP : va_P (dC, dI) vwCl [(h0, .inr (2, [.null, .null, .int 0, .int 0, .int 0, .int 0, .int 0, .int 0, .int 0]))] H := hP
  have hD : va_D A [(h0, .inr (2, [.null, .null, .int 0, .int 0, .int 0, .int 0, .int 0, .int 0, .int 0]))] := hD
  refine lv_aload_n hx hb dX2_init_29 rfl (lv_at hl 0 rfl) ?_
  refine lv_iconst (v := 0) hx hb dX2_init_30 (by decide) ?_
  refine va_put (D := (dC, dI)) (ci := 2) (v := .int 0) (ty := .int) (C := RX2) (T := TX2) (N := 9) hx hb hts (g_lays (ci := 2) (by decide)) tyX2 tyX2_ok nmX2 hown hK hP hD hS 0 rfl rfl 7 (by decide) (hW (.fieldLink RX2 27 "DialTown$Reader" "faultNumber" "I") (by decide +kernel)) (fun _ h9 => h9) rfl (by decide +kernel) rfl rfl (Nat.le_of_ble_eq_true rfl) dX2_init_31 (fun H locs hP hD hS => ?_)
  have hP : va_P (dC, dI) vwCl [(h0, .inr (2, [.null, .null, .int 0, .int 0, .int 0, .int 0, .int 0, .int 0, .int 0]))] H := hP
  have hD : va_D A [(h0, .inr (2, [.null, .null, .int 0, .int 0, .int 0, .int 0, .int 0, .int 0, .int 0]))] := hD
  refine lv_aload_n hx hb dX2_init_34 rfl (lv_at hl 0 rfl) ?_
  refine lv_iconst (v := 0) hx hb dX2_init_35 (by decide) ?_
  refine va_put (D := (dC, dI)) (ci := 2) (v := .int 0) (ty := .int) (C := RX2) (T := TX2) (N := 9) hx hb hts (g_lays (ci := 2) (by decide)) tyX2 tyX2_ok nmX2 hown hK hP hD hS 0 rfl rfl 8 (by decide) (hW (.fieldLink RX2 30 "DialTown$Reader" "faultPlace" "I") (by decide +kernel)) (fun _ h9 => h9) rfl (by decide +kernel) rfl rfl (Nat.le_of_ble_eq_true rfl) dX2_init_36 (fun H locs hP hD hS => ?_)
  have hP : va_P (dC, dI) vwCl [(h0, .inr (2, [.null, .null, .int 0, .int 0, .int 0, .int 0, .int 0, .int 0, .int 0]))] H := hP
  have hD : va_D A [(h0, .inr (2, [.null, .null, .int 0, .int 0, .int 0, .int 0, .int 0, .int 0, .int 0]))] := hD
  refine lv_aload_n hx hb dX2_init_39 rfl (lv_at hl 0 rfl) ?_
  refine lv_aload_n hx hb dX2_init_40 rfl (lv_at hl 1 rfl) ?_
  refine va_putF (D := (dC, dI)) (ci := 2) (v := .ref p1) (ty := .object "DialTown$Tape") (C := RX2) (T := TX2) (N := 9) hx hb hts (g_lays (ci := 2) (by decide)) tyX2 tyX2_ok nmX2 hown hK hP hD hS 0 rfl rfl 0 (by decide) (hW (.fieldLink RX2 33 "DialTown$Reader" "tape" "LDialTown$Tape;") (by decide +kernel)) (fun _ h9 => h9) rfl hin rfl (by decide +kernel) rfl rfl (Nat.le_of_ble_eq_true rfl) dX2_init_41 (fun H locs hP hD hS => ?_)
  have hP : va_P (dC, dI) vwCl [(h0, .inr (2, [.ref p1, .null, .int 0, .int 0, .int 0, .int 0, .int 0, .int 0, .int 0]))] H := hP
  have hD : va_D A [(h0, .inr (2, [.ref p1, .null, .int 0, .int 0, .int 0, .int 0, .int 0, .int 0, .int 0]))] := hD
  refine lv_aload_n hx hb dX2_init_44 rfl (lv_at hl 0 rfl) ?_
  refine lv_aload_n hx hb dX2_init_45 rfl (lv_at hl 2 rfl) ?_
  refine va_putF (D := (dC, dI)) (ci := 2) (v := .ref p2) (ty := .object "DialTown$Town") (C := RX2) (T := TX2) (N := 9) hx hb hts (g_lays (ci := 2) (by decide)) tyX2 tyX2_ok nmX2 hown hK hP hD hS 0 rfl rfl 1 (by decide) (hW (.fieldLink RX2 37 "DialTown$Reader" "town" "LDialTown$Town;") (by decide +kernel)) (fun _ h9 => h9) rfl hin rfl (by decide +kernel) rfl rfl (Nat.le_of_ble_eq_true rfl) dX2_init_46 (fun H locs hP hD hS => ?_)
  have hP : va_P (dC, dI) vwCl [(h0, .inr (2, [.ref p1, .ref p2, .int 0, .int 0, .int 0, .int 0, .int 0, .int 0, .int 0]))] H := hP
  have hD : va_D A [(h0, .inr (2, [.ref p1, .ref p2, .int 0, .int 0, .int 0, .int 0, .int 0, .int 0, .int 0]))] := hD
  have hP9 := hP; have hD9 := hD
  exact W.vret hx hb hr (fun t ht hW9 => ⟨⟨(), rfl, trivial, by rw [ht]; exact hP9, va_K.moved hW9.alike hK, hD9⟩, hS.F ht⟩) hS.2.2 dX2_init_49
theorem dX3_init_0 : decode cX3_init 0 = .ok (.aload_n 0, 1) := by decide +kernel
theorem dX3_init_1 : decode cX3_init 1 = .ok (.invokespecial 1, 3) := by decide +kernel
theorem dX3_init_4 : decode cX3_init 4 = .ok (.aload_n 0, 1) := by decide +kernel
theorem dX3_init_5 : decode cX3_init 5 = .ok (.bipush 8, 2) := by decide +kernel
theorem dX3_init_7 : decode cX3_init 7 = .ok (.newarray .int, 2) := by decide +kernel
theorem dX3_init_9 : decode cX3_init 9 = .ok (.dup, 1) := by decide +kernel
theorem dX3_init_10 : decode cX3_init 10 = .ok (.iconst 0, 1) := by decide +kernel
theorem dX3_init_11 : decode cX3_init 11 = .ok (.iconst (-1), 1) := by decide +kernel
theorem dX3_init_12 : decode cX3_init 12 = .ok (.iastore, 1) := by decide +kernel
theorem dX3_init_13 : decode cX3_init 13 = .ok (.dup, 1) := by decide +kernel
theorem dX3_init_14 : decode cX3_init 14 = .ok (.iconst 1, 1) := by decide +kernel
theorem dX3_init_15 : decode cX3_init 15 = .ok (.iconst (-1), 1) := by decide +kernel
theorem dX3_init_16 : decode cX3_init 16 = .ok (.iastore, 1) := by decide +kernel
theorem dX3_init_17 : decode cX3_init 17 = .ok (.dup, 1) := by decide +kernel
theorem dX3_init_18 : decode cX3_init 18 = .ok (.iconst 2, 1) := by decide +kernel
theorem dX3_init_19 : decode cX3_init 19 = .ok (.iconst (-1), 1) := by decide +kernel
theorem dX3_init_20 : decode cX3_init 20 = .ok (.iastore, 1) := by decide +kernel
theorem dX3_init_21 : decode cX3_init 21 = .ok (.dup, 1) := by decide +kernel
theorem dX3_init_22 : decode cX3_init 22 = .ok (.iconst 3, 1) := by decide +kernel
theorem dX3_init_23 : decode cX3_init 23 = .ok (.iconst (-1), 1) := by decide +kernel
theorem dX3_init_24 : decode cX3_init 24 = .ok (.iastore, 1) := by decide +kernel
theorem dX3_init_25 : decode cX3_init 25 = .ok (.dup, 1) := by decide +kernel
theorem dX3_init_26 : decode cX3_init 26 = .ok (.iconst 4, 1) := by decide +kernel
theorem dX3_init_27 : decode cX3_init 27 = .ok (.iconst (-1), 1) := by decide +kernel
theorem dX3_init_28 : decode cX3_init 28 = .ok (.iastore, 1) := by decide +kernel
theorem dX3_init_29 : decode cX3_init 29 = .ok (.dup, 1) := by decide +kernel
theorem dX3_init_30 : decode cX3_init 30 = .ok (.iconst 5, 1) := by decide +kernel
theorem dX3_init_31 : decode cX3_init 31 = .ok (.iconst (-1), 1) := by decide +kernel
theorem dX3_init_32 : decode cX3_init 32 = .ok (.iastore, 1) := by decide +kernel
theorem dX3_init_33 : decode cX3_init 33 = .ok (.dup, 1) := by decide +kernel
theorem dX3_init_34 : decode cX3_init 34 = .ok (.bipush 6, 2) := by decide +kernel
theorem dX3_init_36 : decode cX3_init 36 = .ok (.iconst (-1), 1) := by decide +kernel
theorem dX3_init_37 : decode cX3_init 37 = .ok (.iastore, 1) := by decide +kernel
theorem dX3_init_38 : decode cX3_init 38 = .ok (.dup, 1) := by decide +kernel
theorem dX3_init_39 : decode cX3_init 39 = .ok (.bipush 7, 2) := by decide +kernel
theorem dX3_init_41 : decode cX3_init 41 = .ok (.iconst (-1), 1) := by decide +kernel
theorem dX3_init_42 : decode cX3_init 42 = .ok (.iastore, 1) := by decide +kernel
theorem dX3_init_43 : decode cX3_init 43 = .ok (.putfield 9, 3) := by decide +kernel
theorem dX3_init_46 : decode cX3_init 46 = .ok (.aload_n 0, 1) := by decide +kernel
theorem dX3_init_47 : decode cX3_init 47 = .ok (.bipush 8, 2) := by decide +kernel
theorem dX3_init_49 : decode cX3_init 49 = .ok (.newarray .int, 2) := by decide +kernel
theorem dX3_init_51 : decode cX3_init 51 = .ok (.putfield 13, 3) := by decide +kernel
theorem dX3_init_54 : decode cX3_init 54 = .ok (.aload_n 0, 1) := by decide +kernel
theorem dX3_init_55 : decode cX3_init 55 = .ok (.bipush 8, 2) := by decide +kernel
theorem dX3_init_57 : decode cX3_init 57 = .ok (.bipush 40, 2) := by decide +kernel
theorem dX3_init_59 : decode cX3_init 59 = .ok (.multianewarray 16 2, 4) := by decide +kernel
theorem dX3_init_63 : decode cX3_init 63 = .ok (.putfield 18, 3) := by decide +kernel
theorem dX3_init_66 : decode cX3_init 66 = .ok (.return_, 1) := by decide +kernel
set_option maxHeartbeats 8000000 in
set_option maxRecDepth 100000 in
theorem b_3_init (l : Launch) (dC : Nat → ClassId) (dI : Nat → Nat → Nat) (Y : g_Y) (h0 : Nat) (sz : Nat) : Met l yX3_init (.code yX3_init cX3_init 1 none :: g_W) ({ frames := 1, cells := 11, slots := 344, locals := 64 }) (va_Pc [.ref h0] (fun U => U.heap.size = sz ∧ va_P (dC, dI) vwCl [(h0, .inr (3, [.null, .null, .null]))] U.heap ∧ va_K (dC, dI) vwCl (g_tys Y) U ∧ va_D (fun _ => True) [(h0, .inr (3, [.null, .null, .null]))] ∧ va_AOA .int U)) (va_Qv (fun _ : Unit => True) (fun _ t => ∃ (q1 : Nat) (q2 : Nat) (q3 : Nat) (r3 : Nat → Nat), va_P (dC, dI) vwCl [(h0, .inr (3, [.ref q1, .ref q2, .ref q3])), (q1, .inl (Y.1, 8, .inl (upd (upd (upd (upd (upd (upd (upd (upd (fun _ => 0) 0 (-1)) 1 (-1)) 2 (-1)) 3 (-1)) 4 (-1)) 5 (-1)) 6 (-1)) 7 (-1)))), (q2, .inl (Y.1, 8, .inl (fun _ => 0))), (q3, .inl (Y.2.2.2, 8, .inr (.inr (.inr (.inr (fun i => if i < 8 then some (r3 i) else none)))))), (r3 0, .inl (Y.1, 40, .inl (fun _ => 0))), (r3 1, .inl (Y.1, 40, .inl (fun _ => 0))), (r3 2, .inl (Y.1, 40, .inl (fun _ => 0))), (r3 3, .inl (Y.1, 40, .inl (fun _ => 0))), (r3 4, .inl (Y.1, 40, .inl (fun _ => 0))), (r3 5, .inl (Y.1, 40, .inl (fun _ => 0))), (r3 6, .inl (Y.1, 40, .inl (fun _ => 0))), (r3 7, .inl (Y.1, 40, .inl (fun _ => 0)))] t.heap ∧ va_K (dC, dI) vwCl (g_tys Y) t ∧ va_D (va_A [(h0, .inr (3, [.null, .null, .null]))] sz) [(h0, .inr (3, [.ref q1, .ref q2, .ref q3])), (q1, .inl (Y.1, 8, .inl (upd (upd (upd (upd (upd (upd (upd (upd (fun _ => 0) 0 (-1)) 1 (-1)) 2 (-1)) 3 (-1)) 4 (-1)) 5 (-1)) 6 (-1)) 7 (-1)))), (q2, .inl (Y.1, 8, .inl (fun _ => 0))), (q3, .inl (Y.2.2.2, 8, .inr (.inr (.inr (.inr (fun i => if i < 8 then some (r3 i) else none)))))), (r3 0, .inl (Y.1, 40, .inl (fun _ => 0))), (r3 1, .inl (Y.1, 40, .inl (fun _ => 0))), (r3 2, .inl (Y.1, 40, .inl (fun _ => 0))), (r3 3, .inl (Y.1, 40, .inl (fun _ => 0))), (r3 4, .inl (Y.1, 40, .inl (fun _ => 0))), (r3 5, .inl (Y.1, 40, .inl (fun _ => 0))), (r3 6, .inl (Y.1, 40, .inl (fun _ => 0))), (r3 7, .inl (Y.1, 40, .inl (fun _ => 0)))]) (va_A [(h0, .inr (3, [.null, .null, .null]))] sz)) 11 344 (va_A [(h0, .inr (3, [.null, .null, .null]))] sz) := by
  refine Met.ofW (cc := cX3_init) (maxL := 1) (ret := none) (by decide +kernel) rfl ?_
  intro p e s m args below meth c s₁ B hml hv
  obtain ⟨rfl, hsz, hP, hK, hD0, hAA⟩ := hv
  have hx := B.exec
  have hb := B.bytes
  have hr := B.returns
  have hts0 := atoms_spec (ws := .code yX3_init cX3_init 1 none :: g_W) B.pre
  have hW : ∀ w, g_in w = true → w.before [.ref h0].toArray s = true := fun w h => hts0 w (List.mem_cons_of_mem _ (g_in_mem h))
  have hts : ∀ w ∈ g_W, w.before [.ref h0].toArray s = true := fun w h => hts0 w (List.mem_cons_of_mem _ h)
  have hws := b_ws hts
  have hown : s.vm.findClass RX3 = some m.cls := findClass_of_methodNamed B.named
  have hlocks := B.notSynchronized
  have hin : meth.name = "<init>" := (name_of_methodNamed B.named B.method).1
  subst hsz
  have hD := hD0.self (sz := s.heap.size)
  generalize hAe : va_A [(h0, .inr (3, [.null, .null, .null]))] s.heap.size = A at hD ⊢
  have hA : ∀ q : Nat, s.heap.size ≤ q → A q := fun q h => by rw [← hAe]; exact Or.inr h
  have hS : va_S A s.heap s.heap [] := va_S.rf
  have hl := lv_entry ([.ref h0]) (n := 1) (Nat.le_of_ble_eq_true rfl)
  rw [lg_entry_eq]
  generalize (lg_sl ([.ref h0]) ++ List.replicate (1 - (lg_sl ([.ref h0])).length) Slot.unset).toArray = ls at hl ⊢
  have hl : lv_has ls 1 [(0, .ref h0)] := hl
  refine lv_aload_n hx hb dX3_init_0 rfl (lv_at hl 0 rfl) ?_
  refine W.objInit hx hb hown (hW (.methodLink RX3 1 Lib.objectInit) (by decide +kernel)) (hW (.instanceMethod Lib.objectInit) (by decide +kernel)) (hW (.code Lib.objectInit ⟨#[0xb1]⟩ 1 none) (by decide +kernel)) rfl (by rw [hml]; exact hl.1) rfl dX3_init_1 (Nat.le_of_ble_eq_true rfl) (Nat.le_of_ble_eq_true rfl) ?_
  refine W.eq (g2 := F0 m 4 ls []) rfl ?_
  refine lv_aload_n hx hb dX3_init_4 rfl (lv_at hl 0 rfl) ?_
  refine lv_bipush (v := 8) hx hb dX3_init_5 (by decide) ?_
  refine b_newaI (N' := 8) hx hb (hW _ (by decide +kernel)) hK hP hD hS hA (by decide) (by decide +kernel) (Nat.le_of_ble_eq_true rfl) (Nat.le_of_ble_eq_true rfl) (Nat.le_of_ble_eq_true rfl) dX3_init_7 (fun q1 H hP hD hS => ?_)
  have hP : va_P (dC, dI) vwCl [(h0, .inr (3, [.null, .null, .null])), (q1, .inl (Y.1, 8, .inl (fun _ => 0)))] H := hP
  have hD : va_D A [(h0, .inr (3, [.null, .null, .null])), (q1, .inl (Y.1, 8, .inl (fun _ => 0)))] := hD
  refine lv_dup hx hb dX3_init_9 rfl ?_
  refine lv_iconst (v := 0) hx hb dX3_init_10 (by decide) ?_
  refine lv_iconst (v := -1) hx hb dX3_init_11 (by decide) ?_
  refine va_iast hx hb hK hP hD hS 1 0 rfl rfl (vp_in_nI (n := 0) (N := 8) (Nat.le_of_ble_eq_true rfl) (Nat.le_of_ble_eq_true rfl)) dX3_init_12 (fun H locs hP hD hS => ?_)
  have hP : va_P (dC, dI) vwCl [(h0, .inr (3, [.null, .null, .null])), (q1, .inl (Y.1, 8, .inl (upd (fun _ => 0) 0 (-1))))] H := hP
  have hD : va_D A [(h0, .inr (3, [.null, .null, .null])), (q1, .inl (Y.1, 8, .inl (upd (fun _ => 0) 0 (-1))))] := hD
  refine lv_dup hx hb dX3_init_13 rfl ?_
  refine lv_iconst (v := 1) hx hb dX3_init_14 (by decide) ?_
  refine lv_iconst (v := -1) hx hb dX3_init_15 (by decide) ?_
  refine va_iast hx hb hK hP hD hS 1 0 rfl rfl (vp_in_nI (n := 1) (N := 8) (Nat.le_of_ble_eq_true rfl) (Nat.le_of_ble_eq_true rfl)) dX3_init_16 (fun H locs hP hD hS => ?_)
  have hP : va_P (dC, dI) vwCl [(h0, .inr (3, [.null, .null, .null])), (q1, .inl (Y.1, 8, .inl (upd (upd (fun _ => 0) 0 (-1)) 1 (-1))))] H := hP
  have hD : va_D A [(h0, .inr (3, [.null, .null, .null])), (q1, .inl (Y.1, 8, .inl (upd (upd (fun _ => 0) 0 (-1)) 1 (-1))))] := hD
  refine lv_dup hx hb dX3_init_17 rfl ?_
  refine lv_iconst (v := 2) hx hb dX3_init_18 (by decide) ?_
  refine lv_iconst (v := -1) hx hb dX3_init_19 (by decide) ?_
  refine va_iast hx hb hK hP hD hS 1 0 rfl rfl (vp_in_nI (n := 2) (N := 8) (Nat.le_of_ble_eq_true rfl) (Nat.le_of_ble_eq_true rfl)) dX3_init_20 (fun H locs hP hD hS => ?_)
  have hP : va_P (dC, dI) vwCl [(h0, .inr (3, [.null, .null, .null])), (q1, .inl (Y.1, 8, .inl (upd (upd (upd (fun _ => 0) 0 (-1)) 1 (-1)) 2 (-1))))] H := hP
  have hD : va_D A [(h0, .inr (3, [.null, .null, .null])), (q1, .inl (Y.1, 8, .inl (upd (upd (upd (fun _ => 0) 0 (-1)) 1 (-1)) 2 (-1))))] := hD
  refine lv_dup hx hb dX3_init_21 rfl ?_
  refine lv_iconst (v := 3) hx hb dX3_init_22 (by decide) ?_
  refine lv_iconst (v := -1) hx hb dX3_init_23 (by decide) ?_
  refine va_iast hx hb hK hP hD hS 1 0 rfl rfl (vp_in_nI (n := 3) (N := 8) (Nat.le_of_ble_eq_true rfl) (Nat.le_of_ble_eq_true rfl)) dX3_init_24 (fun H locs hP hD hS => ?_)
  have hP : va_P (dC, dI) vwCl [(h0, .inr (3, [.null, .null, .null])), (q1, .inl (Y.1, 8, .inl (upd (upd (upd (upd (fun _ => 0) 0 (-1)) 1 (-1)) 2 (-1)) 3 (-1))))] H := hP
  have hD : va_D A [(h0, .inr (3, [.null, .null, .null])), (q1, .inl (Y.1, 8, .inl (upd (upd (upd (upd (fun _ => 0) 0 (-1)) 1 (-1)) 2 (-1)) 3 (-1))))] := hD
  refine lv_dup hx hb dX3_init_25 rfl ?_
  refine lv_iconst (v := 4) hx hb dX3_init_26 (by decide) ?_
  refine lv_iconst (v := -1) hx hb dX3_init_27 (by decide) ?_
  refine va_iast hx hb hK hP hD hS 1 0 rfl rfl (vp_in_nI (n := 4) (N := 8) (Nat.le_of_ble_eq_true rfl) (Nat.le_of_ble_eq_true rfl)) dX3_init_28 (fun H locs hP hD hS => ?_)
  have hP : va_P (dC, dI) vwCl [(h0, .inr (3, [.null, .null, .null])), (q1, .inl (Y.1, 8, .inl (upd (upd (upd (upd (upd (fun _ => 0) 0 (-1)) 1 (-1)) 2 (-1)) 3 (-1)) 4 (-1))))] H := hP
  have hD : va_D A [(h0, .inr (3, [.null, .null, .null])), (q1, .inl (Y.1, 8, .inl (upd (upd (upd (upd (upd (fun _ => 0) 0 (-1)) 1 (-1)) 2 (-1)) 3 (-1)) 4 (-1))))] := hD
  refine lv_dup hx hb dX3_init_29 rfl ?_
  refine lv_iconst (v := 5) hx hb dX3_init_30 (by decide) ?_
  refine lv_iconst (v := -1) hx hb dX3_init_31 (by decide) ?_
  refine va_iast hx hb hK hP hD hS 1 0 rfl rfl (vp_in_nI (n := 5) (N := 8) (Nat.le_of_ble_eq_true rfl) (Nat.le_of_ble_eq_true rfl)) dX3_init_32 (fun H locs hP hD hS => ?_)
  have hP : va_P (dC, dI) vwCl [(h0, .inr (3, [.null, .null, .null])), (q1, .inl (Y.1, 8, .inl (upd (upd (upd (upd (upd (upd (fun _ => 0) 0 (-1)) 1 (-1)) 2 (-1)) 3 (-1)) 4 (-1)) 5 (-1))))] H := hP
  have hD : va_D A [(h0, .inr (3, [.null, .null, .null])), (q1, .inl (Y.1, 8, .inl (upd (upd (upd (upd (upd (upd (fun _ => 0) 0 (-1)) 1 (-1)) 2 (-1)) 3 (-1)) 4 (-1)) 5 (-1))))] := hD
  refine lv_dup hx hb dX3_init_33 rfl ?_
  refine lv_bipush (v := 6) hx hb dX3_init_34 (by decide) ?_
  refine lv_iconst (v := -1) hx hb dX3_init_36 (by decide) ?_
  refine va_iast hx hb hK hP hD hS 1 0 rfl rfl (vp_in_nI (n := 6) (N := 8) (Nat.le_of_ble_eq_true rfl) (Nat.le_of_ble_eq_true rfl)) dX3_init_37 (fun H locs hP hD hS => ?_)
  have hP : va_P (dC, dI) vwCl [(h0, .inr (3, [.null, .null, .null])), (q1, .inl (Y.1, 8, .inl (upd (upd (upd (upd (upd (upd (upd (fun _ => 0) 0 (-1)) 1 (-1)) 2 (-1)) 3 (-1)) 4 (-1)) 5 (-1)) 6 (-1))))] H := hP
  have hD : va_D A [(h0, .inr (3, [.null, .null, .null])), (q1, .inl (Y.1, 8, .inl (upd (upd (upd (upd (upd (upd (upd (fun _ => 0) 0 (-1)) 1 (-1)) 2 (-1)) 3 (-1)) 4 (-1)) 5 (-1)) 6 (-1))))] := hD
  refine lv_dup hx hb dX3_init_38 rfl ?_
  refine lv_bipush (v := 7) hx hb dX3_init_39 (by decide) ?_
  refine lv_iconst (v := -1) hx hb dX3_init_41 (by decide) ?_
  refine va_iast hx hb hK hP hD hS 1 0 rfl rfl (vp_in_nI (n := 7) (N := 8) (Nat.le_of_ble_eq_true rfl) (Nat.le_of_ble_eq_true rfl)) dX3_init_42 (fun H locs hP hD hS => ?_)
  have hP : va_P (dC, dI) vwCl [(h0, .inr (3, [.null, .null, .null])), (q1, .inl (Y.1, 8, .inl (upd (upd (upd (upd (upd (upd (upd (upd (fun _ => 0) 0 (-1)) 1 (-1)) 2 (-1)) 3 (-1)) 4 (-1)) 5 (-1)) 6 (-1)) 7 (-1))))] H := hP
  have hD : va_D A [(h0, .inr (3, [.null, .null, .null])), (q1, .inl (Y.1, 8, .inl (upd (upd (upd (upd (upd (upd (upd (upd (fun _ => 0) 0 (-1)) 1 (-1)) 2 (-1)) 3 (-1)) 4 (-1)) 5 (-1)) 6 (-1)) 7 (-1))))] := hD
  refine va_putF (D := (dC, dI)) (ci := 3) (v := .ref q1) (ty := .array .int) (C := RX3) (T := TX3) (N := 3) hx hb hts (g_lays (ci := 3) (by decide)) tyX3 tyX3_ok nmX3 hown hK hP hD hS 0 rfl rfl 0 (by decide) (hW (.fieldLink RX3 9 "DialTown$Rows" "lanes" "[I") (by decide +kernel)) (fun _ h9 => h9) rfl hin rfl (by decide +kernel) rfl rfl (Nat.le_of_ble_eq_true rfl) dX3_init_43 (fun H locs hP hD hS => ?_)
  have hP : va_P (dC, dI) vwCl [(h0, .inr (3, [.ref q1, .null, .null])), (q1, .inl (Y.1, 8, .inl (upd (upd (upd (upd (upd (upd (upd (upd (fun _ => 0) 0 (-1)) 1 (-1)) 2 (-1)) 3 (-1)) 4 (-1)) 5 (-1)) 6 (-1)) 7 (-1))))] H := hP
  have hD : va_D A [(h0, .inr (3, [.ref q1, .null, .null])), (q1, .inl (Y.1, 8, .inl (upd (upd (upd (upd (upd (upd (upd (upd (fun _ => 0) 0 (-1)) 1 (-1)) 2 (-1)) 3 (-1)) 4 (-1)) 5 (-1)) 6 (-1)) 7 (-1))))] := hD
  refine lv_aload_n hx hb dX3_init_46 rfl (lv_at hl 0 rfl) ?_
  refine lv_bipush (v := 8) hx hb dX3_init_47 (by decide) ?_
  refine b_newaI (N' := 8) hx hb (hW _ (by decide +kernel)) hK hP hD hS hA (by decide) (by decide +kernel) (Nat.le_of_ble_eq_true rfl) (Nat.le_of_ble_eq_true rfl) (Nat.le_of_ble_eq_true rfl) dX3_init_49 (fun q2 H hP hD hS => ?_)
  have hP : va_P (dC, dI) vwCl [(h0, .inr (3, [.ref q1, .null, .null])), (q1, .inl (Y.1, 8, .inl (upd (upd (upd (upd (upd (upd (upd (upd (fun _ => 0) 0 (-1)) 1 (-1)) 2 (-1)) 3 (-1)) 4 (-1)) 5 (-1)) 6 (-1)) 7 (-1)))), (q2, .inl (Y.1, 8, .inl (fun _ => 0)))] H := hP
  have hD : va_D A [(h0, .inr (3, [.ref q1, .null, .null])), (q1, .inl (Y.1, 8, .inl (upd (upd (upd (upd (upd (upd (upd (upd (fun _ => 0) 0 (-1)) 1 (-1)) 2 (-1)) 3 (-1)) 4 (-1)) 5 (-1)) 6 (-1)) 7 (-1)))), (q2, .inl (Y.1, 8, .inl (fun _ => 0)))] := hD
  refine va_putF (D := (dC, dI)) (ci := 3) (v := .ref q2) (ty := .array .int) (C := RX3) (T := TX3) (N := 3) hx hb hts (g_lays (ci := 3) (by decide)) tyX3 tyX3_ok nmX3 hown hK hP hD hS 0 rfl rfl 1 (by decide) (hW (.fieldLink RX3 13 "DialTown$Rows" "lengths" "[I") (by decide +kernel)) (fun _ h9 => h9) rfl hin rfl (by decide +kernel) rfl rfl (Nat.le_of_ble_eq_true rfl) dX3_init_51 (fun H locs hP hD hS => ?_)
  have hP : va_P (dC, dI) vwCl [(h0, .inr (3, [.ref q1, .ref q2, .null])), (q1, .inl (Y.1, 8, .inl (upd (upd (upd (upd (upd (upd (upd (upd (fun _ => 0) 0 (-1)) 1 (-1)) 2 (-1)) 3 (-1)) 4 (-1)) 5 (-1)) 6 (-1)) 7 (-1)))), (q2, .inl (Y.1, 8, .inl (fun _ => 0)))] H := hP
  have hD : va_D A [(h0, .inr (3, [.ref q1, .ref q2, .null])), (q1, .inl (Y.1, 8, .inl (upd (upd (upd (upd (upd (upd (upd (upd (fun _ => 0) 0 (-1)) 1 (-1)) 2 (-1)) 3 (-1)) 4 (-1)) 5 (-1)) 6 (-1)) 7 (-1)))), (q2, .inl (Y.1, 8, .inl (fun _ => 0)))] := hD
  refine lv_aload_n hx hb dX3_init_54 rfl (lv_at hl 0 rfl) ?_
  refine lv_bipush (v := 8) hx hb dX3_init_55 (by decide) ?_
  refine lv_bipush (v := 40) hx hb dX3_init_57 (by decide) ?_
  refine b_mna (N' := 8) (K' := 40) hx hb hown (hW _ (by decide +kernel)) (hAA) (hW _ (by decide +kernel)) hK hP hD hS hA (by decide) (by decide) (by decide +kernel) (by decide +kernel) (Nat.le_of_ble_eq_true rfl) (Nat.le_of_ble_eq_true rfl) (Nat.le_of_ble_eq_true rfl) (Nat.le_of_ble_eq_true rfl) (Nat.le_of_ble_eq_true rfl) dX3_init_59 (fun q3 r3 H hP hD hS => ?_)
  have hP : va_P (dC, dI) vwCl [(h0, .inr (3, [.ref q1, .ref q2, .null])), (q1, .inl (Y.1, 8, .inl (upd (upd (upd (upd (upd (upd (upd (upd (fun _ => 0) 0 (-1)) 1 (-1)) 2 (-1)) 3 (-1)) 4 (-1)) 5 (-1)) 6 (-1)) 7 (-1)))), (q2, .inl (Y.1, 8, .inl (fun _ => 0))), (q3, .inl (Y.2.2.2, 8, .inr (.inr (.inr (.inr (fun i => if i < 8 then some (r3 i) else none)))))), (r3 0, .inl (Y.1, 40, .inl (fun _ => 0))), (r3 1, .inl (Y.1, 40, .inl (fun _ => 0))), (r3 2, .inl (Y.1, 40, .inl (fun _ => 0))), (r3 3, .inl (Y.1, 40, .inl (fun _ => 0))), (r3 4, .inl (Y.1, 40, .inl (fun _ => 0))), (r3 5, .inl (Y.1, 40, .inl (fun _ => 0))), (r3 6, .inl (Y.1, 40, .inl (fun _ => 0))), (r3 7, .inl (Y.1, 40, .inl (fun _ => 0)))] H := hP
  have hD : va_D A [(h0, .inr (3, [.ref q1, .ref q2, .null])), (q1, .inl (Y.1, 8, .inl (upd (upd (upd (upd (upd (upd (upd (upd (fun _ => 0) 0 (-1)) 1 (-1)) 2 (-1)) 3 (-1)) 4 (-1)) 5 (-1)) 6 (-1)) 7 (-1)))), (q2, .inl (Y.1, 8, .inl (fun _ => 0))), (q3, .inl (Y.2.2.2, 8, .inr (.inr (.inr (.inr (fun i => if i < 8 then some (r3 i) else none)))))), (r3 0, .inl (Y.1, 40, .inl (fun _ => 0))), (r3 1, .inl (Y.1, 40, .inl (fun _ => 0))), (r3 2, .inl (Y.1, 40, .inl (fun _ => 0))), (r3 3, .inl (Y.1, 40, .inl (fun _ => 0))), (r3 4, .inl (Y.1, 40, .inl (fun _ => 0))), (r3 5, .inl (Y.1, 40, .inl (fun _ => 0))), (r3 6, .inl (Y.1, 40, .inl (fun _ => 0))), (r3 7, .inl (Y.1, 40, .inl (fun _ => 0)))] := hD
  refine va_putF (D := (dC, dI)) (ci := 3) (v := .ref q3) (ty := .array (.array .int)) (C := RX3) (T := TX3) (N := 3) hx hb hts (g_lays (ci := 3) (by decide)) tyX3 tyX3_ok nmX3 hown hK hP hD hS 0 rfl rfl 2 (by decide) (hW (.fieldLink RX3 18 "DialTown$Rows" "items" "[[I") (by decide +kernel)) (fun _ h9 => h9) rfl hin rfl (by decide +kernel) rfl rfl (Nat.le_of_ble_eq_true rfl) dX3_init_63 (fun H locs hP hD hS => ?_)
  have hP : va_P (dC, dI) vwCl [(h0, .inr (3, [.ref q1, .ref q2, .ref q3])), (q1, .inl (Y.1, 8, .inl (upd (upd (upd (upd (upd (upd (upd (upd (fun _ => 0) 0 (-1)) 1 (-1)) 2 (-1)) 3 (-1)) 4 (-1)) 5 (-1)) 6 (-1)) 7 (-1)))), (q2, .inl (Y.1, 8, .inl (fun _ => 0))), (q3, .inl (Y.2.2.2, 8, .inr (.inr (.inr (.inr (fun i => if i < 8 then some (r3 i) else none)))))), (r3 0, .inl (Y.1, 40, .inl (fun _ => 0))), (r3 1, .inl (Y.1, 40, .inl (fun _ => 0))), (r3 2, .inl (Y.1, 40, .inl (fun _ => 0))), (r3 3, .inl (Y.1, 40, .inl (fun _ => 0))), (r3 4, .inl (Y.1, 40, .inl (fun _ => 0))), (r3 5, .inl (Y.1, 40, .inl (fun _ => 0))), (r3 6, .inl (Y.1, 40, .inl (fun _ => 0))), (r3 7, .inl (Y.1, 40, .inl (fun _ => 0)))] H := hP
  have hD : va_D A [(h0, .inr (3, [.ref q1, .ref q2, .ref q3])), (q1, .inl (Y.1, 8, .inl (upd (upd (upd (upd (upd (upd (upd (upd (fun _ => 0) 0 (-1)) 1 (-1)) 2 (-1)) 3 (-1)) 4 (-1)) 5 (-1)) 6 (-1)) 7 (-1)))), (q2, .inl (Y.1, 8, .inl (fun _ => 0))), (q3, .inl (Y.2.2.2, 8, .inr (.inr (.inr (.inr (fun i => if i < 8 then some (r3 i) else none)))))), (r3 0, .inl (Y.1, 40, .inl (fun _ => 0))), (r3 1, .inl (Y.1, 40, .inl (fun _ => 0))), (r3 2, .inl (Y.1, 40, .inl (fun _ => 0))), (r3 3, .inl (Y.1, 40, .inl (fun _ => 0))), (r3 4, .inl (Y.1, 40, .inl (fun _ => 0))), (r3 5, .inl (Y.1, 40, .inl (fun _ => 0))), (r3 6, .inl (Y.1, 40, .inl (fun _ => 0))), (r3 7, .inl (Y.1, 40, .inl (fun _ => 0)))] := hD
  have hP9 := hP; have hD9 := hD
  exact W.vret hx hb hr (fun t ht hW9 => ⟨⟨(), rfl, trivial, q1, q2, q3, r3, by rw [ht]; exact hP9, va_K.moved hW9.alike hK, hD9⟩, hS.F ht⟩) hS.2.2 dX3_init_66
theorem dX4_init_0 : decode cX4_init 0 = .ok (.aload_n 0, 1) := by decide +kernel
theorem dX4_init_1 : decode cX4_init 1 = .ok (.invokespecial 1, 3) := by decide +kernel
theorem dX4_init_4 : decode cX4_init 4 = .ok (.aload_n 0, 1) := by decide +kernel
theorem dX4_init_5 : decode cX4_init 5 = .ok (.sipush 400, 3) := by decide +kernel
theorem dX4_init_8 : decode cX4_init 8 = .ok (.newarray .int, 2) := by decide +kernel
theorem dX4_init_10 : decode cX4_init 10 = .ok (.putfield 9, 3) := by decide +kernel
theorem dX4_init_13 : decode cX4_init 13 = .ok (.aload_n 0, 1) := by decide +kernel
theorem dX4_init_14 : decode cX4_init 14 = .ok (.iconst 0, 1) := by decide +kernel
theorem dX4_init_15 : decode cX4_init 15 = .ok (.putfield 13, 3) := by decide +kernel
theorem dX4_init_18 : decode cX4_init 18 = .ok (.return_, 1) := by decide +kernel
set_option maxHeartbeats 8000000 in
set_option maxRecDepth 100000 in
theorem b_4_init (l : Launch) (dC : Nat → ClassId) (dI : Nat → Nat → Nat) (Y : g_Y) (h0 : Nat) (sz : Nat) : Met l yX4_init (.code yX4_init cX4_init 1 none :: g_W) ({ frames := 1, cells := 1, slots := 400, locals := 64 }) (va_Pc [.ref h0] (fun U => U.heap.size = sz ∧ va_P (dC, dI) vwCl [(h0, .inr (4, [.null, .int 0]))] U.heap ∧ va_K (dC, dI) vwCl (g_tys Y) U ∧ va_D (fun _ => True) [(h0, .inr (4, [.null, .int 0]))])) (va_Qv (fun _ : Unit => True) (fun _ t => ∃ (q1 : Nat), va_P (dC, dI) vwCl [(h0, .inr (4, [.ref q1, .int 0])), (q1, .inl (Y.1, 400, .inl (fun _ => 0)))] t.heap ∧ va_K (dC, dI) vwCl (g_tys Y) t ∧ va_D (va_A [(h0, .inr (4, [.null, .int 0]))] sz) [(h0, .inr (4, [.ref q1, .int 0])), (q1, .inl (Y.1, 400, .inl (fun _ => 0)))]) (va_A [(h0, .inr (4, [.null, .int 0]))] sz)) 1 400 (va_A [(h0, .inr (4, [.null, .int 0]))] sz) := by
  refine Met.ofW (cc := cX4_init) (maxL := 1) (ret := none) (by decide +kernel) rfl ?_
  intro p e s m args below meth c s₁ B hml hv
  obtain ⟨rfl, hsz, hP, hK, hD0⟩ := hv
  have hx := B.exec
  have hb := B.bytes
  have hr := B.returns
  have hts0 := atoms_spec (ws := .code yX4_init cX4_init 1 none :: g_W) B.pre
  have hW : ∀ w, g_in w = true → w.before [.ref h0].toArray s = true := fun w h => hts0 w (List.mem_cons_of_mem _ (g_in_mem h))
  have hts : ∀ w ∈ g_W, w.before [.ref h0].toArray s = true := fun w h => hts0 w (List.mem_cons_of_mem _ h)
  have hws := b_ws hts
  have hown : s.vm.findClass RX4 = some m.cls := findClass_of_methodNamed B.named
  have hlocks := B.notSynchronized
  have hin : meth.name = "<init>" := (name_of_methodNamed B.named B.method).1
  subst hsz
  have hD := hD0.self (sz := s.heap.size)
  generalize hAe : va_A [(h0, .inr (4, [.null, .int 0]))] s.heap.size = A at hD ⊢
  have hA : ∀ q : Nat, s.heap.size ≤ q → A q := fun q h => by rw [← hAe]; exact Or.inr h
  have hS : va_S A s.heap s.heap [] := va_S.rf
  have hl := lv_entry ([.ref h0]) (n := 1) (Nat.le_of_ble_eq_true rfl)
  rw [lg_entry_eq]
  generalize (lg_sl ([.ref h0]) ++ List.replicate (1 - (lg_sl ([.ref h0])).length) Slot.unset).toArray = ls at hl ⊢
  have hl : lv_has ls 1 [(0, .ref h0)] := hl
  refine lv_aload_n hx hb dX4_init_0 rfl (lv_at hl 0 rfl) ?_
  refine W.objInit hx hb hown (hW (.methodLink RX4 1 Lib.objectInit) (by decide +kernel)) (hW (.instanceMethod Lib.objectInit) (by decide +kernel)) (hW (.code Lib.objectInit ⟨#[0xb1]⟩ 1 none) (by decide +kernel)) rfl (by rw [hml]; exact hl.1) rfl dX4_init_1 (Nat.le_of_ble_eq_true rfl) (Nat.le_of_ble_eq_true rfl) ?_
  refine W.eq (g2 := F0 m 4 ls []) rfl ?_
  refine lv_aload_n hx hb dX4_init_4 rfl (lv_at hl 0 rfl) ?_
  refine lv_sipush (v := 400) hx hb dX4_init_5 (by decide) ?_
  refine b_newaI (N' := 400) hx hb (hW _ (by decide +kernel)) hK hP hD hS hA (by decide) (by decide +kernel) (Nat.le_of_ble_eq_true rfl) (Nat.le_of_ble_eq_true rfl) (Nat.le_of_ble_eq_true rfl) dX4_init_8 (fun q1 H hP hD hS => ?_)
  have hP : va_P (dC, dI) vwCl [(h0, .inr (4, [.null, .int 0])), (q1, .inl (Y.1, 400, .inl (fun _ => 0)))] H := hP
  have hD : va_D A [(h0, .inr (4, [.null, .int 0])), (q1, .inl (Y.1, 400, .inl (fun _ => 0)))] := hD
  refine va_putF (D := (dC, dI)) (ci := 4) (v := .ref q1) (ty := .array .int) (C := RX4) (T := TX4) (N := 2) hx hb hts (g_lays (ci := 4) (by decide)) tyX4 tyX4_ok nmX4 hown hK hP hD hS 0 rfl rfl 0 (by decide) (hW (.fieldLink RX4 9 "DialTown$Tape" "bytes" "[I") (by decide +kernel)) (fun _ h9 => h9) rfl hin rfl (by decide +kernel) rfl rfl (Nat.le_of_ble_eq_true rfl) dX4_init_10 (fun H locs hP hD hS => ?_)
  have hP : va_P (dC, dI) vwCl [(h0, .inr (4, [.ref q1, .int 0])), (q1, .inl (Y.1, 400, .inl (fun _ => 0)))] H := hP
  have hD : va_D A [(h0, .inr (4, [.ref q1, .int 0])), (q1, .inl (Y.1, 400, .inl (fun _ => 0)))] := hD
  refine lv_aload_n hx hb dX4_init_13 rfl (lv_at hl 0 rfl) ?_
  refine lv_iconst (v := 0) hx hb dX4_init_14 (by decide) ?_
  refine va_put (D := (dC, dI)) (ci := 4) (v := .int 0) (ty := .int) (C := RX4) (T := TX4) (N := 2) hx hb hts (g_lays (ci := 4) (by decide)) tyX4 tyX4_ok nmX4 hown hK hP hD hS 0 rfl rfl 1 (by decide) (hW (.fieldLink RX4 13 "DialTown$Tape" "length" "I") (by decide +kernel)) (fun _ h9 => h9) rfl (by decide +kernel) rfl rfl (Nat.le_of_ble_eq_true rfl) dX4_init_15 (fun H locs hP hD hS => ?_)
  have hP : va_P (dC, dI) vwCl [(h0, .inr (4, [.ref q1, .int 0])), (q1, .inl (Y.1, 400, .inl (fun _ => 0)))] H := hP
  have hD : va_D A [(h0, .inr (4, [.ref q1, .int 0])), (q1, .inl (Y.1, 400, .inl (fun _ => 0)))] := hD
  have hP9 := hP; have hD9 := hD
  exact W.vret hx hb hr (fun t ht hW9 => ⟨⟨(), rfl, trivial, q1, by rw [ht]; exact hP9, va_K.moved hW9.alike hK, hD9⟩, hS.F ht⟩) hS.2.2 dX4_init_18
theorem dX5_init_0 : decode cX5_init 0 = .ok (.aload_n 0, 1) := by decide +kernel
theorem dX5_init_1 : decode cX5_init 1 = .ok (.invokespecial 3, 3) := by decide +kernel
theorem dX5_init_4 : decode cX5_init 4 = .ok (.aload_n 0, 1) := by decide +kernel
theorem dX5_init_5 : decode cX5_init 5 = .ok (.iconst 0, 1) := by decide +kernel
theorem dX5_init_6 : decode cX5_init 6 = .ok (.putfield 9, 3) := by decide +kernel
theorem dX5_init_9 : decode cX5_init 9 = .ok (.aload_n 0, 1) := by decide +kernel
theorem dX5_init_10 : decode cX5_init 10 = .ok (.iconst 0, 1) := by decide +kernel
theorem dX5_init_11 : decode cX5_init 11 = .ok (.putfield 15, 3) := by decide +kernel
theorem dX5_init_14 : decode cX5_init 14 = .ok (.aload_n 0, 1) := by decide +kernel
theorem dX5_init_15 : decode cX5_init 15 = .ok (.iconst 0, 1) := by decide +kernel
theorem dX5_init_16 : decode cX5_init 16 = .ok (.putfield 19, 3) := by decide +kernel
theorem dX5_init_19 : decode cX5_init 19 = .ok (.aload_n 0, 1) := by decide +kernel
theorem dX5_init_20 : decode cX5_init 20 = .ok (.iconst 0, 1) := by decide +kernel
theorem dX5_init_21 : decode cX5_init 21 = .ok (.putfield 22, 3) := by decide +kernel
theorem dX5_init_24 : decode cX5_init 24 = .ok (.aload_n 0, 1) := by decide +kernel
theorem dX5_init_25 : decode cX5_init 25 = .ok (.iconst 0, 1) := by decide +kernel
theorem dX5_init_26 : decode cX5_init 26 = .ok (.putfield 25, 3) := by decide +kernel
theorem dX5_init_29 : decode cX5_init 29 = .ok (.aload_n 0, 1) := by decide +kernel
theorem dX5_init_30 : decode cX5_init 30 = .ok (.iconst 0, 1) := by decide +kernel
theorem dX5_init_31 : decode cX5_init 31 = .ok (.putfield 28, 3) := by decide +kernel
theorem dX5_init_34 : decode cX5_init 34 = .ok (.aload_n 0, 1) := by decide +kernel
theorem dX5_init_35 : decode cX5_init 35 = .ok (.iconst 0, 1) := by decide +kernel
theorem dX5_init_36 : decode cX5_init 36 = .ok (.putfield 31, 3) := by decide +kernel
theorem dX5_init_39 : decode cX5_init 39 = .ok (.aload_n 0, 1) := by decide +kernel
theorem dX5_init_40 : decode cX5_init 40 = .ok (.iconst 0, 1) := by decide +kernel
theorem dX5_init_41 : decode cX5_init 41 = .ok (.putfield 34, 3) := by decide +kernel
theorem dX5_init_44 : decode cX5_init 44 = .ok (.aload_n 0, 1) := by decide +kernel
theorem dX5_init_45 : decode cX5_init 45 = .ok (.iconst 0, 1) := by decide +kernel
theorem dX5_init_46 : decode cX5_init 46 = .ok (.putfield 37, 3) := by decide +kernel
theorem dX5_init_49 : decode cX5_init 49 = .ok (.aload_n 0, 1) := by decide +kernel
theorem dX5_init_50 : decode cX5_init 50 = .ok (.bipush 81, 2) := by decide +kernel
theorem dX5_init_52 : decode cX5_init 52 = .ok (.newarray .int, 2) := by decide +kernel
theorem dX5_init_54 : decode cX5_init 54 = .ok (.putfield 40, 3) := by decide +kernel
theorem dX5_init_57 : decode cX5_init 57 = .ok (.aload_n 0, 1) := by decide +kernel
theorem dX5_init_58 : decode cX5_init 58 = .ok (.bipush 73, 2) := by decide +kernel
theorem dX5_init_60 : decode cX5_init 60 = .ok (.newarray .int, 2) := by decide +kernel
theorem dX5_init_62 : decode cX5_init 62 = .ok (.putfield 44, 3) := by decide +kernel
theorem dX5_init_65 : decode cX5_init 65 = .ok (.aload_n 0, 1) := by decide +kernel
theorem dX5_init_66 : decode cX5_init 66 = .ok (.bipush 8, 2) := by decide +kernel
theorem dX5_init_68 : decode cX5_init 68 = .ok (.newarray .int, 2) := by decide +kernel
theorem dX5_init_70 : decode cX5_init 70 = .ok (.putfield 47, 3) := by decide +kernel
theorem dX5_init_73 : decode cX5_init 73 = .ok (.aload_n 0, 1) := by decide +kernel
theorem dX5_init_74 : decode cX5_init 74 = .ok (.bipush 8, 2) := by decide +kernel
theorem dX5_init_76 : decode cX5_init 76 = .ok (.newarray .int, 2) := by decide +kernel
theorem dX5_init_78 : decode cX5_init 78 = .ok (.putfield 50, 3) := by decide +kernel
theorem dX5_init_81 : decode cX5_init 81 = .ok (.aload_n 0, 1) := by decide +kernel
theorem dX5_init_82 : decode cX5_init 82 = .ok (.bipush 8, 2) := by decide +kernel
theorem dX5_init_84 : decode cX5_init 84 = .ok (.newarray .int, 2) := by decide +kernel
theorem dX5_init_86 : decode cX5_init 86 = .ok (.putfield 53, 3) := by decide +kernel
theorem dX5_init_89 : decode cX5_init 89 = .ok (.return_, 1) := by decide +kernel
set_option maxHeartbeats 8000000 in
set_option maxRecDepth 100000 in
theorem b_5_init (l : Launch) (dC : Nat → ClassId) (dI : Nat → Nat → Nat) (Y : g_Y) (h0 : Nat) (sz : Nat) : Met l yX5_init (.code yX5_init cX5_init 1 none :: g_W) ({ frames := 1, cells := 5, slots := 178, locals := 64 }) (va_Pc [.ref h0] (fun U => U.heap.size = sz ∧ va_P (dC, dI) vwCl [(h0, .inr (5, [.int 0, .int 0, .int 0, .int 0, .int 0, .int 0, .int 0, .int 0, .int 0, .null, .null, .null, .null, .null]))] U.heap ∧ va_K (dC, dI) vwCl (g_tys Y) U ∧ va_D (fun _ => True) [(h0, .inr (5, [.int 0, .int 0, .int 0, .int 0, .int 0, .int 0, .int 0, .int 0, .int 0, .null, .null, .null, .null, .null]))])) (va_Qv (fun _ : Unit => True) (fun _ t => ∃ (q1 : Nat) (q2 : Nat) (q3 : Nat) (q4 : Nat) (q5 : Nat), va_P (dC, dI) vwCl [(h0, .inr (5, [.int 0, .int 0, .int 0, .int 0, .int 0, .int 0, .int 0, .int 0, .int 0, .ref q1, .ref q2, .ref q3, .ref q4, .ref q5])), (q1, .inl (Y.1, 81, .inl (fun _ => 0))), (q2, .inl (Y.1, 73, .inl (fun _ => 0))), (q3, .inl (Y.1, 8, .inl (fun _ => 0))), (q4, .inl (Y.1, 8, .inl (fun _ => 0))), (q5, .inl (Y.1, 8, .inl (fun _ => 0)))] t.heap ∧ va_K (dC, dI) vwCl (g_tys Y) t ∧ va_D (va_A [(h0, .inr (5, [.int 0, .int 0, .int 0, .int 0, .int 0, .int 0, .int 0, .int 0, .int 0, .null, .null, .null, .null, .null]))] sz) [(h0, .inr (5, [.int 0, .int 0, .int 0, .int 0, .int 0, .int 0, .int 0, .int 0, .int 0, .ref q1, .ref q2, .ref q3, .ref q4, .ref q5])), (q1, .inl (Y.1, 81, .inl (fun _ => 0))), (q2, .inl (Y.1, 73, .inl (fun _ => 0))), (q3, .inl (Y.1, 8, .inl (fun _ => 0))), (q4, .inl (Y.1, 8, .inl (fun _ => 0))), (q5, .inl (Y.1, 8, .inl (fun _ => 0)))]) (va_A [(h0, .inr (5, [.int 0, .int 0, .int 0, .int 0, .int 0, .int 0, .int 0, .int 0, .int 0, .null, .null, .null, .null, .null]))] sz)) 5 178 (va_A [(h0, .inr (5, [.int 0, .int 0, .int 0, .int 0, .int 0, .int 0, .int 0, .int 0, .int 0, .null, .null, .null, .null, .null]))] sz) := by
  refine Met.ofW (cc := cX5_init) (maxL := 1) (ret := none) (by decide +kernel) rfl ?_
  intro p e s m args below meth c s₁ B hml hv
  obtain ⟨rfl, hsz, hP, hK, hD0⟩ := hv
  have hx := B.exec
  have hb := B.bytes
  have hr := B.returns
  have hts0 := atoms_spec (ws := .code yX5_init cX5_init 1 none :: g_W) B.pre
  have hW : ∀ w, g_in w = true → w.before [.ref h0].toArray s = true := fun w h => hts0 w (List.mem_cons_of_mem _ (g_in_mem h))
  have hts : ∀ w ∈ g_W, w.before [.ref h0].toArray s = true := fun w h => hts0 w (List.mem_cons_of_mem _ h)
  have hws := b_ws hts
  have hown : s.vm.findClass RX5 = some m.cls := findClass_of_methodNamed B.named
  have hlocks := B.notSynchronized
  have hin : meth.name = "<init>" := (name_of_methodNamed B.named B.method).1
  subst hsz
  have hD := hD0.self (sz := s.heap.size)
  generalize hAe : va_A [(h0, .inr (5, [.int 0, .int 0, .int 0, .int 0, .int 0, .int 0, .int 0, .int 0, .int 0, .null, .null, .null, .null, .null]))] s.heap.size = A at hD ⊢
  have hA : ∀ q : Nat, s.heap.size ≤ q → A q := fun q h => by rw [← hAe]; exact Or.inr h
  have hS : va_S A s.heap s.heap [] := va_S.rf
  have hl := lv_entry ([.ref h0]) (n := 1) (Nat.le_of_ble_eq_true rfl)
  rw [lg_entry_eq]
  generalize (lg_sl ([.ref h0]) ++ List.replicate (1 - (lg_sl ([.ref h0])).length) Slot.unset).toArray = ls at hl ⊢
  have hl : lv_has ls 1 [(0, .ref h0)] := hl
  refine lv_aload_n hx hb dX5_init_0 rfl (lv_at hl 0 rfl) ?_
  refine W.objInit hx hb hown (hW (.methodLink RX5 3 Lib.objectInit) (by decide +kernel)) (hW (.instanceMethod Lib.objectInit) (by decide +kernel)) (hW (.code Lib.objectInit ⟨#[0xb1]⟩ 1 none) (by decide +kernel)) rfl (by rw [hml]; exact hl.1) rfl dX5_init_1 (Nat.le_of_ble_eq_true rfl) (Nat.le_of_ble_eq_true rfl) ?_
  refine W.eq (g2 := F0 m 4 ls []) rfl ?_
  refine lv_aload_n hx hb dX5_init_4 rfl (lv_at hl 0 rfl) ?_
  refine lv_iconst (v := 0) hx hb dX5_init_5 (by decide) ?_
  refine va_put (D := (dC, dI)) (ci := 5) (v := .int 0) (ty := .boolean) (C := RX5) (T := TX5) (N := 14) hx hb hts (g_lays (ci := 5) (by decide)) tyX5 tyX5_ok nmX5 hown hK hP hD hS 0 rfl rfl 0 (by decide) (hW (.fieldLink RX5 9 "DialTown$Town" "stands" "Z") (by decide +kernel)) (fun _ h9 => h9) rfl (by decide +kernel) rfl rfl (Nat.le_of_ble_eq_true rfl) dX5_init_6 (fun H locs hP hD hS => ?_)
  have hP : va_P (dC, dI) vwCl [(h0, .inr (5, [.int 0, .int 0, .int 0, .int 0, .int 0, .int 0, .int 0, .int 0, .int 0, .null, .null, .null, .null, .null]))] H := hP
  have hD : va_D A [(h0, .inr (5, [.int 0, .int 0, .int 0, .int 0, .int 0, .int 0, .int 0, .int 0, .int 0, .null, .null, .null, .null, .null]))] := hD
  refine lv_aload_n hx hb dX5_init_9 rfl (lv_at hl 0 rfl) ?_
  refine lv_iconst (v := 0) hx hb dX5_init_10 (by decide) ?_
  refine va_put (D := (dC, dI)) (ci := 5) (v := .int 0) (ty := .int) (C := RX5) (T := TX5) (N := 14) hx hb hts (g_lays (ci := 5) (by decide)) tyX5 tyX5_ok nmX5 hown hK hP hD hS 0 rfl rfl 1 (by decide) (hW (.fieldLink RX5 15 "DialTown$Town" "towerX" "I") (by decide +kernel)) (fun _ h9 => h9) rfl (by decide +kernel) rfl rfl (Nat.le_of_ble_eq_true rfl) dX5_init_11 (fun H locs hP hD hS => ?_)
  have hP : va_P (dC, dI) vwCl [(h0, .inr (5, [.int 0, .int 0, .int 0, .int 0, .int 0, .int 0, .int 0, .int 0, .int 0, .null, .null, .null, .null, .null]))] H := hP
  have hD : va_D A [(h0, .inr (5, [.int 0, .int 0, .int 0, .int 0, .int 0, .int 0, .int 0, .int 0, .int 0, .null, .null, .null, .null, .null]))] := hD
  refine lv_aload_n hx hb dX5_init_14 rfl (lv_at hl 0 rfl) ?_
  refine lv_iconst (v := 0) hx hb dX5_init_15 (by decide) ?_
  refine va_put (D := (dC, dI)) (ci := 5) (v := .int 0) (ty := .int) (C := RX5) (T := TX5) (N := 14) hx hb hts (g_lays (ci := 5) (by decide)) tyX5 tyX5_ok nmX5 hown hK hP hD hS 0 rfl rfl 2 (by decide) (hW (.fieldLink RX5 19 "DialTown$Town" "towerY" "I") (by decide +kernel)) (fun _ h9 => h9) rfl (by decide +kernel) rfl rfl (Nat.le_of_ble_eq_true rfl) dX5_init_16 (fun H locs hP hD hS => ?_)
  have hP : va_P (dC, dI) vwCl [(h0, .inr (5, [.int 0, .int 0, .int 0, .int 0, .int 0, .int 0, .int 0, .int 0, .int 0, .null, .null, .null, .null, .null]))] H := hP
  have hD : va_D A [(h0, .inr (5, [.int 0, .int 0, .int 0, .int 0, .int 0, .int 0, .int 0, .int 0, .int 0, .null, .null, .null, .null, .null]))] := hD
  refine lv_aload_n hx hb dX5_init_19 rfl (lv_at hl 0 rfl) ?_
  refine lv_iconst (v := 0) hx hb dX5_init_20 (by decide) ?_
  refine va_put (D := (dC, dI)) (ci := 5) (v := .int 0) (ty := .int) (C := RX5) (T := TX5) (N := 14) hx hb hts (g_lays (ci := 5) (by decide)) tyX5 tyX5_ok nmX5 hown hK hP hD hS 0 rfl rfl 3 (by decide) (hW (.fieldLink RX5 22 "DialTown$Town" "reach" "I") (by decide +kernel)) (fun _ h9 => h9) rfl (by decide +kernel) rfl rfl (Nat.le_of_ble_eq_true rfl) dX5_init_21 (fun H locs hP hD hS => ?_)
  have hP : va_P (dC, dI) vwCl [(h0, .inr (5, [.int 0, .int 0, .int 0, .int 0, .int 0, .int 0, .int 0, .int 0, .int 0, .null, .null, .null, .null, .null]))] H := hP
  have hD : va_D A [(h0, .inr (5, [.int 0, .int 0, .int 0, .int 0, .int 0, .int 0, .int 0, .int 0, .int 0, .null, .null, .null, .null, .null]))] := hD
  refine lv_aload_n hx hb dX5_init_24 rfl (lv_at hl 0 rfl) ?_
  refine lv_iconst (v := 0) hx hb dX5_init_25 (by decide) ?_
  refine va_put (D := (dC, dI)) (ci := 5) (v := .int 0) (ty := .int) (C := RX5) (T := TX5) (N := 14) hx hb hts (g_lays (ci := 5) (by decide)) tyX5 tyX5_ok nmX5 hown hK hP hD hS 0 rfl rfl 4 (by decide) (hW (.fieldLink RX5 25 "DialTown$Town" "season" "I") (by decide +kernel)) (fun _ h9 => h9) rfl (by decide +kernel) rfl rfl (Nat.le_of_ble_eq_true rfl) dX5_init_26 (fun H locs hP hD hS => ?_)
  have hP : va_P (dC, dI) vwCl [(h0, .inr (5, [.int 0, .int 0, .int 0, .int 0, .int 0, .int 0, .int 0, .int 0, .int 0, .null, .null, .null, .null, .null]))] H := hP
  have hD : va_D A [(h0, .inr (5, [.int 0, .int 0, .int 0, .int 0, .int 0, .int 0, .int 0, .int 0, .int 0, .null, .null, .null, .null, .null]))] := hD
  refine lv_aload_n hx hb dX5_init_29 rfl (lv_at hl 0 rfl) ?_
  refine lv_iconst (v := 0) hx hb dX5_init_30 (by decide) ?_
  refine va_put (D := (dC, dI)) (ci := 5) (v := .int 0) (ty := .int) (C := RX5) (T := TX5) (N := 14) hx hb hts (g_lays (ci := 5) (by decide)) tyX5 tyX5_ok nmX5 hown hK hP hD hS 0 rfl rfl 5 (by decide) (hW (.fieldLink RX5 28 "DialTown$Town" "leanEast" "I") (by decide +kernel)) (fun _ h9 => h9) rfl (by decide +kernel) rfl rfl (Nat.le_of_ble_eq_true rfl) dX5_init_31 (fun H locs hP hD hS => ?_)
  have hP : va_P (dC, dI) vwCl [(h0, .inr (5, [.int 0, .int 0, .int 0, .int 0, .int 0, .int 0, .int 0, .int 0, .int 0, .null, .null, .null, .null, .null]))] H := hP
  have hD : va_D A [(h0, .inr (5, [.int 0, .int 0, .int 0, .int 0, .int 0, .int 0, .int 0, .int 0, .int 0, .null, .null, .null, .null, .null]))] := hD
  refine lv_aload_n hx hb dX5_init_34 rfl (lv_at hl 0 rfl) ?_
  refine lv_iconst (v := 0) hx hb dX5_init_35 (by decide) ?_
  refine va_put (D := (dC, dI)) (ci := 5) (v := .int 0) (ty := .int) (C := RX5) (T := TX5) (N := 14) hx hb hts (g_lays (ci := 5) (by decide)) tyX5 tyX5_ok nmX5 hown hK hP hD hS 0 rfl rfl 6 (by decide) (hW (.fieldLink RX5 31 "DialTown$Town" "leanNorth" "I") (by decide +kernel)) (fun _ h9 => h9) rfl (by decide +kernel) rfl rfl (Nat.le_of_ble_eq_true rfl) dX5_init_36 (fun H locs hP hD hS => ?_)
  have hP : va_P (dC, dI) vwCl [(h0, .inr (5, [.int 0, .int 0, .int 0, .int 0, .int 0, .int 0, .int 0, .int 0, .int 0, .null, .null, .null, .null, .null]))] H := hP
  have hD : va_D A [(h0, .inr (5, [.int 0, .int 0, .int 0, .int 0, .int 0, .int 0, .int 0, .int 0, .int 0, .null, .null, .null, .null, .null]))] := hD
  refine lv_aload_n hx hb dX5_init_39 rfl (lv_at hl 0 rfl) ?_
  refine lv_iconst (v := 0) hx hb dX5_init_40 (by decide) ?_
  refine va_put (D := (dC, dI)) (ci := 5) (v := .int 0) (ty := .int) (C := RX5) (T := TX5) (N := 14) hx hb hts (g_lays (ci := 5) (by decide)) tyX5 tyX5_ok nmX5 hown hK hP hD hS 0 rfl rfl 7 (by decide) (hW (.fieldLink RX5 34 "DialTown$Town" "walls" "I") (by decide +kernel)) (fun _ h9 => h9) rfl (by decide +kernel) rfl rfl (Nat.le_of_ble_eq_true rfl) dX5_init_41 (fun H locs hP hD hS => ?_)
  have hP : va_P (dC, dI) vwCl [(h0, .inr (5, [.int 0, .int 0, .int 0, .int 0, .int 0, .int 0, .int 0, .int 0, .int 0, .null, .null, .null, .null, .null]))] H := hP
  have hD : va_D A [(h0, .inr (5, [.int 0, .int 0, .int 0, .int 0, .int 0, .int 0, .int 0, .int 0, .int 0, .null, .null, .null, .null, .null]))] := hD
  refine lv_aload_n hx hb dX5_init_44 rfl (lv_at hl 0 rfl) ?_
  refine lv_iconst (v := 0) hx hb dX5_init_45 (by decide) ?_
  refine va_put (D := (dC, dI)) (ci := 5) (v := .int 0) (ty := .int) (C := RX5) (T := TX5) (N := 14) hx hb hts (g_lays (ci := 5) (by decide)) tyX5 tyX5_ok nmX5 hown hK hP hD hS 0 rfl rfl 8 (by decide) (hW (.fieldLink RX5 37 "DialTown$Town" "shops" "I") (by decide +kernel)) (fun _ h9 => h9) rfl (by decide +kernel) rfl rfl (Nat.le_of_ble_eq_true rfl) dX5_init_46 (fun H locs hP hD hS => ?_)
  have hP : va_P (dC, dI) vwCl [(h0, .inr (5, [.int 0, .int 0, .int 0, .int 0, .int 0, .int 0, .int 0, .int 0, .int 0, .null, .null, .null, .null, .null]))] H := hP
  have hD : va_D A [(h0, .inr (5, [.int 0, .int 0, .int 0, .int 0, .int 0, .int 0, .int 0, .int 0, .int 0, .null, .null, .null, .null, .null]))] := hD
  refine lv_aload_n hx hb dX5_init_49 rfl (lv_at hl 0 rfl) ?_
  refine lv_bipush (v := 81) hx hb dX5_init_50 (by decide) ?_
  refine b_newaI (N' := 81) hx hb (hW _ (by decide +kernel)) hK hP hD hS hA (by decide) (by decide +kernel) (Nat.le_of_ble_eq_true rfl) (Nat.le_of_ble_eq_true rfl) (Nat.le_of_ble_eq_true rfl) dX5_init_52 (fun q1 H hP hD hS => ?_)
  have hP : va_P (dC, dI) vwCl [(h0, .inr (5, [.int 0, .int 0, .int 0, .int 0, .int 0, .int 0, .int 0, .int 0, .int 0, .null, .null, .null, .null, .null])), (q1, .inl (Y.1, 81, .inl (fun _ => 0)))] H := hP
  have hD : va_D A [(h0, .inr (5, [.int 0, .int 0, .int 0, .int 0, .int 0, .int 0, .int 0, .int 0, .int 0, .null, .null, .null, .null, .null])), (q1, .inl (Y.1, 81, .inl (fun _ => 0)))] := hD
  refine va_putF (D := (dC, dI)) (ci := 5) (v := .ref q1) (ty := .array .int) (C := RX5) (T := TX5) (N := 14) hx hb hts (g_lays (ci := 5) (by decide)) tyX5 tyX5_ok nmX5 hown hK hP hD hS 0 rfl rfl 9 (by decide) (hW (.fieldLink RX5 40 "DialTown$Town" "ground" "[I") (by decide +kernel)) (fun _ h9 => h9) rfl hin rfl (by decide +kernel) rfl rfl (Nat.le_of_ble_eq_true rfl) dX5_init_54 (fun H locs hP hD hS => ?_)
  have hP : va_P (dC, dI) vwCl [(h0, .inr (5, [.int 0, .int 0, .int 0, .int 0, .int 0, .int 0, .int 0, .int 0, .int 0, .ref q1, .null, .null, .null, .null])), (q1, .inl (Y.1, 81, .inl (fun _ => 0)))] H := hP
  have hD : va_D A [(h0, .inr (5, [.int 0, .int 0, .int 0, .int 0, .int 0, .int 0, .int 0, .int 0, .int 0, .ref q1, .null, .null, .null, .null])), (q1, .inl (Y.1, 81, .inl (fun _ => 0)))] := hD
  refine lv_aload_n hx hb dX5_init_57 rfl (lv_at hl 0 rfl) ?_
  refine lv_bipush (v := 73) hx hb dX5_init_58 (by decide) ?_
  refine b_newaI (N' := 73) hx hb (hW _ (by decide +kernel)) hK hP hD hS hA (by decide) (by decide +kernel) (Nat.le_of_ble_eq_true rfl) (Nat.le_of_ble_eq_true rfl) (Nat.le_of_ble_eq_true rfl) dX5_init_60 (fun q2 H hP hD hS => ?_)
  have hP : va_P (dC, dI) vwCl [(h0, .inr (5, [.int 0, .int 0, .int 0, .int 0, .int 0, .int 0, .int 0, .int 0, .int 0, .ref q1, .null, .null, .null, .null])), (q1, .inl (Y.1, 81, .inl (fun _ => 0))), (q2, .inl (Y.1, 73, .inl (fun _ => 0)))] H := hP
  have hD : va_D A [(h0, .inr (5, [.int 0, .int 0, .int 0, .int 0, .int 0, .int 0, .int 0, .int 0, .int 0, .ref q1, .null, .null, .null, .null])), (q1, .inl (Y.1, 81, .inl (fun _ => 0))), (q2, .inl (Y.1, 73, .inl (fun _ => 0)))] := hD
  refine va_putF (D := (dC, dI)) (ci := 5) (v := .ref q2) (ty := .array .int) (C := RX5) (T := TX5) (N := 14) hx hb hts (g_lays (ci := 5) (by decide)) tyX5 tyX5_ok nmX5 hown hK hP hD hS 0 rfl rfl 10 (by decide) (hW (.fieldLink RX5 44 "DialTown$Town" "clouds" "[I") (by decide +kernel)) (fun _ h9 => h9) rfl hin rfl (by decide +kernel) rfl rfl (Nat.le_of_ble_eq_true rfl) dX5_init_62 (fun H locs hP hD hS => ?_)
  have hP : va_P (dC, dI) vwCl [(h0, .inr (5, [.int 0, .int 0, .int 0, .int 0, .int 0, .int 0, .int 0, .int 0, .int 0, .ref q1, .ref q2, .null, .null, .null])), (q1, .inl (Y.1, 81, .inl (fun _ => 0))), (q2, .inl (Y.1, 73, .inl (fun _ => 0)))] H := hP
  have hD : va_D A [(h0, .inr (5, [.int 0, .int 0, .int 0, .int 0, .int 0, .int 0, .int 0, .int 0, .int 0, .ref q1, .ref q2, .null, .null, .null])), (q1, .inl (Y.1, 81, .inl (fun _ => 0))), (q2, .inl (Y.1, 73, .inl (fun _ => 0)))] := hD
  refine lv_aload_n hx hb dX5_init_65 rfl (lv_at hl 0 rfl) ?_
  refine lv_bipush (v := 8) hx hb dX5_init_66 (by decide) ?_
  refine b_newaI (N' := 8) hx hb (hW _ (by decide +kernel)) hK hP hD hS hA (by decide) (by decide +kernel) (Nat.le_of_ble_eq_true rfl) (Nat.le_of_ble_eq_true rfl) (Nat.le_of_ble_eq_true rfl) dX5_init_68 (fun q3 H hP hD hS => ?_)
  have hP : va_P (dC, dI) vwCl [(h0, .inr (5, [.int 0, .int 0, .int 0, .int 0, .int 0, .int 0, .int 0, .int 0, .int 0, .ref q1, .ref q2, .null, .null, .null])), (q1, .inl (Y.1, 81, .inl (fun _ => 0))), (q2, .inl (Y.1, 73, .inl (fun _ => 0))), (q3, .inl (Y.1, 8, .inl (fun _ => 0)))] H := hP
  have hD : va_D A [(h0, .inr (5, [.int 0, .int 0, .int 0, .int 0, .int 0, .int 0, .int 0, .int 0, .int 0, .ref q1, .ref q2, .null, .null, .null])), (q1, .inl (Y.1, 81, .inl (fun _ => 0))), (q2, .inl (Y.1, 73, .inl (fun _ => 0))), (q3, .inl (Y.1, 8, .inl (fun _ => 0)))] := hD
  refine va_putF (D := (dC, dI)) (ci := 5) (v := .ref q3) (ty := .array .int) (C := RX5) (T := TX5) (N := 14) hx hb hts (g_lays (ci := 5) (by decide)) tyX5 tyX5_ok nmX5 hown hK hP hD hS 0 rfl rfl 11 (by decide) (hW (.fieldLink RX5 47 "DialTown$Town" "sorts" "[I") (by decide +kernel)) (fun _ h9 => h9) rfl hin rfl (by decide +kernel) rfl rfl (Nat.le_of_ble_eq_true rfl) dX5_init_70 (fun H locs hP hD hS => ?_)
  have hP : va_P (dC, dI) vwCl [(h0, .inr (5, [.int 0, .int 0, .int 0, .int 0, .int 0, .int 0, .int 0, .int 0, .int 0, .ref q1, .ref q2, .ref q3, .null, .null])), (q1, .inl (Y.1, 81, .inl (fun _ => 0))), (q2, .inl (Y.1, 73, .inl (fun _ => 0))), (q3, .inl (Y.1, 8, .inl (fun _ => 0)))] H := hP
  have hD : va_D A [(h0, .inr (5, [.int 0, .int 0, .int 0, .int 0, .int 0, .int 0, .int 0, .int 0, .int 0, .ref q1, .ref q2, .ref q3, .null, .null])), (q1, .inl (Y.1, 81, .inl (fun _ => 0))), (q2, .inl (Y.1, 73, .inl (fun _ => 0))), (q3, .inl (Y.1, 8, .inl (fun _ => 0)))] := hD
  refine lv_aload_n hx hb dX5_init_73 rfl (lv_at hl 0 rfl) ?_
  refine lv_bipush (v := 8) hx hb dX5_init_74 (by decide) ?_
  refine b_newaI (N' := 8) hx hb (hW _ (by decide +kernel)) hK hP hD hS hA (by decide) (by decide +kernel) (Nat.le_of_ble_eq_true rfl) (Nat.le_of_ble_eq_true rfl) (Nat.le_of_ble_eq_true rfl) dX5_init_76 (fun q4 H hP hD hS => ?_)
  have hP : va_P (dC, dI) vwCl [(h0, .inr (5, [.int 0, .int 0, .int 0, .int 0, .int 0, .int 0, .int 0, .int 0, .int 0, .ref q1, .ref q2, .ref q3, .null, .null])), (q1, .inl (Y.1, 81, .inl (fun _ => 0))), (q2, .inl (Y.1, 73, .inl (fun _ => 0))), (q3, .inl (Y.1, 8, .inl (fun _ => 0))), (q4, .inl (Y.1, 8, .inl (fun _ => 0)))] H := hP
  have hD : va_D A [(h0, .inr (5, [.int 0, .int 0, .int 0, .int 0, .int 0, .int 0, .int 0, .int 0, .int 0, .ref q1, .ref q2, .ref q3, .null, .null])), (q1, .inl (Y.1, 81, .inl (fun _ => 0))), (q2, .inl (Y.1, 73, .inl (fun _ => 0))), (q3, .inl (Y.1, 8, .inl (fun _ => 0))), (q4, .inl (Y.1, 8, .inl (fun _ => 0)))] := hD
  refine va_putF (D := (dC, dI)) (ci := 5) (v := .ref q4) (ty := .array .int) (C := RX5) (T := TX5) (N := 14) hx hb hts (g_lays (ci := 5) (by decide)) tyX5 tyX5_ok nmX5 hown hK hP hD hS 0 rfl rfl 12 (by decide) (hW (.fieldLink RX5 50 "DialTown$Town" "cells" "[I") (by decide +kernel)) (fun _ h9 => h9) rfl hin rfl (by decide +kernel) rfl rfl (Nat.le_of_ble_eq_true rfl) dX5_init_78 (fun H locs hP hD hS => ?_)
  have hP : va_P (dC, dI) vwCl [(h0, .inr (5, [.int 0, .int 0, .int 0, .int 0, .int 0, .int 0, .int 0, .int 0, .int 0, .ref q1, .ref q2, .ref q3, .ref q4, .null])), (q1, .inl (Y.1, 81, .inl (fun _ => 0))), (q2, .inl (Y.1, 73, .inl (fun _ => 0))), (q3, .inl (Y.1, 8, .inl (fun _ => 0))), (q4, .inl (Y.1, 8, .inl (fun _ => 0)))] H := hP
  have hD : va_D A [(h0, .inr (5, [.int 0, .int 0, .int 0, .int 0, .int 0, .int 0, .int 0, .int 0, .int 0, .ref q1, .ref q2, .ref q3, .ref q4, .null])), (q1, .inl (Y.1, 81, .inl (fun _ => 0))), (q2, .inl (Y.1, 73, .inl (fun _ => 0))), (q3, .inl (Y.1, 8, .inl (fun _ => 0))), (q4, .inl (Y.1, 8, .inl (fun _ => 0)))] := hD
  refine lv_aload_n hx hb dX5_init_81 rfl (lv_at hl 0 rfl) ?_
  refine lv_bipush (v := 8) hx hb dX5_init_82 (by decide) ?_
  refine b_newaI (N' := 8) hx hb (hW _ (by decide +kernel)) hK hP hD hS hA (by decide) (by decide +kernel) (Nat.le_of_ble_eq_true rfl) (Nat.le_of_ble_eq_true rfl) (Nat.le_of_ble_eq_true rfl) dX5_init_84 (fun q5 H hP hD hS => ?_)
  have hP : va_P (dC, dI) vwCl [(h0, .inr (5, [.int 0, .int 0, .int 0, .int 0, .int 0, .int 0, .int 0, .int 0, .int 0, .ref q1, .ref q2, .ref q3, .ref q4, .null])), (q1, .inl (Y.1, 81, .inl (fun _ => 0))), (q2, .inl (Y.1, 73, .inl (fun _ => 0))), (q3, .inl (Y.1, 8, .inl (fun _ => 0))), (q4, .inl (Y.1, 8, .inl (fun _ => 0))), (q5, .inl (Y.1, 8, .inl (fun _ => 0)))] H := hP
  have hD : va_D A [(h0, .inr (5, [.int 0, .int 0, .int 0, .int 0, .int 0, .int 0, .int 0, .int 0, .int 0, .ref q1, .ref q2, .ref q3, .ref q4, .null])), (q1, .inl (Y.1, 81, .inl (fun _ => 0))), (q2, .inl (Y.1, 73, .inl (fun _ => 0))), (q3, .inl (Y.1, 8, .inl (fun _ => 0))), (q4, .inl (Y.1, 8, .inl (fun _ => 0))), (q5, .inl (Y.1, 8, .inl (fun _ => 0)))] := hD
  refine va_putF (D := (dC, dI)) (ci := 5) (v := .ref q5) (ty := .array .int) (C := RX5) (T := TX5) (N := 14) hx hb hts (g_lays (ci := 5) (by decide)) tyX5 tyX5_ok nmX5 hown hK hP hD hS 0 rfl rfl 13 (by decide) (hW (.fieldLink RX5 53 "DialTown$Town" "rents" "[I") (by decide +kernel)) (fun _ h9 => h9) rfl hin rfl (by decide +kernel) rfl rfl (Nat.le_of_ble_eq_true rfl) dX5_init_86 (fun H locs hP hD hS => ?_)
  have hP : va_P (dC, dI) vwCl [(h0, .inr (5, [.int 0, .int 0, .int 0, .int 0, .int 0, .int 0, .int 0, .int 0, .int 0, .ref q1, .ref q2, .ref q3, .ref q4, .ref q5])), (q1, .inl (Y.1, 81, .inl (fun _ => 0))), (q2, .inl (Y.1, 73, .inl (fun _ => 0))), (q3, .inl (Y.1, 8, .inl (fun _ => 0))), (q4, .inl (Y.1, 8, .inl (fun _ => 0))), (q5, .inl (Y.1, 8, .inl (fun _ => 0)))] H := hP
  have hD : va_D A [(h0, .inr (5, [.int 0, .int 0, .int 0, .int 0, .int 0, .int 0, .int 0, .int 0, .int 0, .ref q1, .ref q2, .ref q3, .ref q4, .ref q5])), (q1, .inl (Y.1, 81, .inl (fun _ => 0))), (q2, .inl (Y.1, 73, .inl (fun _ => 0))), (q3, .inl (Y.1, 8, .inl (fun _ => 0))), (q4, .inl (Y.1, 8, .inl (fun _ => 0))), (q5, .inl (Y.1, 8, .inl (fun _ => 0)))] := hD
  have hP9 := hP; have hD9 := hD
  exact W.vret hx hb hr (fun t ht hW9 => ⟨⟨(), rfl, trivial, q1, q2, q3, q4, q5, by rw [ht]; exact hP9, va_K.moved hW9.alike hK, hD9⟩, hS.F ht⟩) hS.2.2 dX5_init_89
theorem dX6_init_0 : decode cX6_init 0 = .ok (.aload_n 0, 1) := by decide +kernel
theorem dX6_init_1 : decode cX6_init 1 = .ok (.invokespecial 3, 3) := by decide +kernel
theorem dX6_init_4 : decode cX6_init 4 = .ok (.aload_n 0, 1) := by decide +kernel
theorem dX6_init_5 : decode cX6_init 5 = .ok (.bipush 81, 2) := by decide +kernel
theorem dX6_init_7 : decode cX6_init 7 = .ok (.newarray .int, 2) := by decide +kernel
theorem dX6_init_9 : decode cX6_init 9 = .ok (.putfield 9, 3) := by decide +kernel
theorem dX6_init_12 : decode cX6_init 12 = .ok (.aload_n 0, 1) := by decide +kernel
theorem dX6_init_13 : decode cX6_init 13 = .ok (.bipush 8, 2) := by decide +kernel
theorem dX6_init_15 : decode cX6_init 15 = .ok (.bipush 81, 2) := by decide +kernel
theorem dX6_init_17 : decode cX6_init 17 = .ok (.multianewarray 15 2, 4) := by decide +kernel
theorem dX6_init_21 : decode cX6_init 21 = .ok (.putfield 17, 3) := by decide +kernel
theorem dX6_init_24 : decode cX6_init 24 = .ok (.aload_n 0, 1) := by decide +kernel
theorem dX6_init_25 : decode cX6_init 25 = .ok (.bipush 8, 2) := by decide +kernel
theorem dX6_init_27 : decode cX6_init 27 = .ok (.bipush 73, 2) := by decide +kernel
theorem dX6_init_29 : decode cX6_init 29 = .ok (.multianewarray 15 2, 4) := by decide +kernel
theorem dX6_init_33 : decode cX6_init 33 = .ok (.putfield 20, 3) := by decide +kernel
theorem dX6_init_36 : decode cX6_init 36 = .ok (.aload_n 0, 1) := by decide +kernel
theorem dX6_init_37 : decode cX6_init 37 = .ok (.sipush 2048, 3) := by decide +kernel
theorem dX6_init_40 : decode cX6_init 40 = .ok (.newarray .int, 2) := by decide +kernel
theorem dX6_init_42 : decode cX6_init 42 = .ok (.putfield 23, 3) := by decide +kernel
theorem dX6_init_45 : decode cX6_init 45 = .ok (.aload_n 0, 1) := by decide +kernel
theorem dX6_init_46 : decode cX6_init 46 = .ok (.iconst 0, 1) := by decide +kernel
theorem dX6_init_47 : decode cX6_init 47 = .ok (.putfield 26, 3) := by decide +kernel
theorem dX6_init_50 : decode cX6_init 50 = .ok (.aload_n 0, 1) := by decide +kernel
theorem dX6_init_51 : decode cX6_init 51 = .ok (.iconst 0, 1) := by decide +kernel
theorem dX6_init_52 : decode cX6_init 52 = .ok (.putfield 30, 3) := by decide +kernel
theorem dX6_init_55 : decode cX6_init 55 = .ok (.aload_n 0, 1) := by decide +kernel
theorem dX6_init_56 : decode cX6_init 56 = .ok (.iconst 0, 1) := by decide +kernel
theorem dX6_init_57 : decode cX6_init 57 = .ok (.putfield 33, 3) := by decide +kernel
theorem dX6_init_60 : decode cX6_init 60 = .ok (.return_, 1) := by decide +kernel
set_option maxHeartbeats 8000000 in
set_option maxRecDepth 100000 in
theorem b_6_init (l : Launch) (dC : Nat → ClassId) (dI : Nat → Nat → Nat) (Y : g_Y) (h0 : Nat) (sz : Nat) : Met l yX6_init (.code yX6_init cX6_init 1 none :: g_W) ({ frames := 1, cells := 20, slots := 3377, locals := 64 }) (va_Pc [.ref h0] (fun U => U.heap.size = sz ∧ va_P (dC, dI) vwCl [(h0, .inr (6, [.null, .null, .null, .null, .int 0, .int 0, .int 0]))] U.heap ∧ va_K (dC, dI) vwCl (g_tys Y) U ∧ va_D (fun _ => True) [(h0, .inr (6, [.null, .null, .null, .null, .int 0, .int 0, .int 0]))] ∧ va_AOA .int U)) (va_Qv (fun _ : Unit => True) (fun _ t => ∃ (q1 : Nat) (q2 : Nat) (r2 : Nat → Nat) (q3 : Nat) (r3 : Nat → Nat) (q4 : Nat), va_P (dC, dI) vwCl [(h0, .inr (6, [.ref q1, .ref q2, .ref q3, .ref q4, .int 0, .int 0, .int 0])), (q1, .inl (Y.1, 81, .inl (fun _ => 0))), (q2, .inl (Y.2.2.2, 8, .inr (.inr (.inr (.inr (fun i => if i < 8 then some (r2 i) else none)))))), (r2 0, .inl (Y.1, 81, .inl (fun _ => 0))), (r2 1, .inl (Y.1, 81, .inl (fun _ => 0))), (r2 2, .inl (Y.1, 81, .inl (fun _ => 0))), (r2 3, .inl (Y.1, 81, .inl (fun _ => 0))), (r2 4, .inl (Y.1, 81, .inl (fun _ => 0))), (r2 5, .inl (Y.1, 81, .inl (fun _ => 0))), (r2 6, .inl (Y.1, 81, .inl (fun _ => 0))), (r2 7, .inl (Y.1, 81, .inl (fun _ => 0))), (q3, .inl (Y.2.2.2, 8, .inr (.inr (.inr (.inr (fun i => if i < 8 then some (r3 i) else none)))))), (r3 0, .inl (Y.1, 73, .inl (fun _ => 0))), (r3 1, .inl (Y.1, 73, .inl (fun _ => 0))), (r3 2, .inl (Y.1, 73, .inl (fun _ => 0))), (r3 3, .inl (Y.1, 73, .inl (fun _ => 0))), (r3 4, .inl (Y.1, 73, .inl (fun _ => 0))), (r3 5, .inl (Y.1, 73, .inl (fun _ => 0))), (r3 6, .inl (Y.1, 73, .inl (fun _ => 0))), (r3 7, .inl (Y.1, 73, .inl (fun _ => 0))), (q4, .inl (Y.1, 2048, .inl (fun _ => 0)))] t.heap ∧ va_K (dC, dI) vwCl (g_tys Y) t ∧ va_D (va_A [(h0, .inr (6, [.null, .null, .null, .null, .int 0, .int 0, .int 0]))] sz) [(h0, .inr (6, [.ref q1, .ref q2, .ref q3, .ref q4, .int 0, .int 0, .int 0])), (q1, .inl (Y.1, 81, .inl (fun _ => 0))), (q2, .inl (Y.2.2.2, 8, .inr (.inr (.inr (.inr (fun i => if i < 8 then some (r2 i) else none)))))), (r2 0, .inl (Y.1, 81, .inl (fun _ => 0))), (r2 1, .inl (Y.1, 81, .inl (fun _ => 0))), (r2 2, .inl (Y.1, 81, .inl (fun _ => 0))), (r2 3, .inl (Y.1, 81, .inl (fun _ => 0))), (r2 4, .inl (Y.1, 81, .inl (fun _ => 0))), (r2 5, .inl (Y.1, 81, .inl (fun _ => 0))), (r2 6, .inl (Y.1, 81, .inl (fun _ => 0))), (r2 7, .inl (Y.1, 81, .inl (fun _ => 0))), (q3, .inl (Y.2.2.2, 8, .inr (.inr (.inr (.inr (fun i => if i < 8 then some (r3 i) else none)))))), (r3 0, .inl (Y.1, 73, .inl (fun _ => 0))), (r3 1, .inl (Y.1, 73, .inl (fun _ => 0))), (r3 2, .inl (Y.1, 73, .inl (fun _ => 0))), (r3 3, .inl (Y.1, 73, .inl (fun _ => 0))), (r3 4, .inl (Y.1, 73, .inl (fun _ => 0))), (r3 5, .inl (Y.1, 73, .inl (fun _ => 0))), (r3 6, .inl (Y.1, 73, .inl (fun _ => 0))), (r3 7, .inl (Y.1, 73, .inl (fun _ => 0))), (q4, .inl (Y.1, 2048, .inl (fun _ => 0)))]) (va_A [(h0, .inr (6, [.null, .null, .null, .null, .int 0, .int 0, .int 0]))] sz)) 20 3377 (va_A [(h0, .inr (6, [.null, .null, .null, .null, .int 0, .int 0, .int 0]))] sz) := by
  refine Met.ofW (cc := cX6_init) (maxL := 1) (ret := none) (by decide +kernel) rfl ?_
  intro p e s m args below meth c s₁ B hml hv
  obtain ⟨rfl, hsz, hP, hK, hD0, hAA⟩ := hv
  have hx := B.exec
  have hb := B.bytes
  have hr := B.returns
  have hts0 := atoms_spec (ws := .code yX6_init cX6_init 1 none :: g_W) B.pre
  have hW : ∀ w, g_in w = true → w.before [.ref h0].toArray s = true := fun w h => hts0 w (List.mem_cons_of_mem _ (g_in_mem h))
  have hts : ∀ w ∈ g_W, w.before [.ref h0].toArray s = true := fun w h => hts0 w (List.mem_cons_of_mem _ h)
  have hws := b_ws hts
  have hown : s.vm.findClass RX6 = some m.cls := findClass_of_methodNamed B.named
  have hlocks := B.notSynchronized
  have hin : meth.name = "<init>" := (name_of_methodNamed B.named B.method).1
  subst hsz
  have hD := hD0.self (sz := s.heap.size)
  generalize hAe : va_A [(h0, .inr (6, [.null, .null, .null, .null, .int 0, .int 0, .int 0]))] s.heap.size = A at hD ⊢
  have hA : ∀ q : Nat, s.heap.size ≤ q → A q := fun q h => by rw [← hAe]; exact Or.inr h
  have hS : va_S A s.heap s.heap [] := va_S.rf
  have hl := lv_entry ([.ref h0]) (n := 1) (Nat.le_of_ble_eq_true rfl)
  rw [lg_entry_eq]
  generalize (lg_sl ([.ref h0]) ++ List.replicate (1 - (lg_sl ([.ref h0])).length) Slot.unset).toArray = ls at hl ⊢
  have hl : lv_has ls 1 [(0, .ref h0)] := hl
  refine lv_aload_n hx hb dX6_init_0 rfl (lv_at hl 0 rfl) ?_
  refine W.objInit hx hb hown (hW (.methodLink RX6 3 Lib.objectInit) (by decide +kernel)) (hW (.instanceMethod Lib.objectInit) (by decide +kernel)) (hW (.code Lib.objectInit ⟨#[0xb1]⟩ 1 none) (by decide +kernel)) rfl (by rw [hml]; exact hl.1) rfl dX6_init_1 (Nat.le_of_ble_eq_true rfl) (Nat.le_of_ble_eq_true rfl) ?_
  refine W.eq (g2 := F0 m 4 ls []) rfl ?_
  refine lv_aload_n hx hb dX6_init_4 rfl (lv_at hl 0 rfl) ?_
  refine lv_bipush (v := 81) hx hb dX6_init_5 (by decide) ?_
  refine b_newaI (N' := 81) hx hb (hW _ (by decide +kernel)) hK hP hD hS hA (by decide) (by decide +kernel) (Nat.le_of_ble_eq_true rfl) (Nat.le_of_ble_eq_true rfl) (Nat.le_of_ble_eq_true rfl) dX6_init_7 (fun q1 H hP hD hS => ?_)
  have hP : va_P (dC, dI) vwCl [(h0, .inr (6, [.null, .null, .null, .null, .int 0, .int 0, .int 0])), (q1, .inl (Y.1, 81, .inl (fun _ => 0)))] H := hP
  have hD : va_D A [(h0, .inr (6, [.null, .null, .null, .null, .int 0, .int 0, .int 0])), (q1, .inl (Y.1, 81, .inl (fun _ => 0)))] := hD
  refine va_putF (D := (dC, dI)) (ci := 6) (v := .ref q1) (ty := .array .int) (C := RX6) (T := TX6) (N := 7) hx hb hts (g_lays (ci := 6) (by decide)) tyX6 tyX6_ok nmX6 hown hK hP hD hS 0 rfl rfl 0 (by decide) (hW (.fieldLink RX6 9 "DialTown$Walker" "queue" "[I") (by decide +kernel)) (fun _ h9 => h9) rfl hin rfl (by decide +kernel) rfl rfl (Nat.le_of_ble_eq_true rfl) dX6_init_9 (fun H locs hP hD hS => ?_)
  have hP : va_P (dC, dI) vwCl [(h0, .inr (6, [.ref q1, .null, .null, .null, .int 0, .int 0, .int 0])), (q1, .inl (Y.1, 81, .inl (fun _ => 0)))] H := hP
  have hD : va_D A [(h0, .inr (6, [.ref q1, .null, .null, .null, .int 0, .int 0, .int 0])), (q1, .inl (Y.1, 81, .inl (fun _ => 0)))] := hD
  refine lv_aload_n hx hb dX6_init_12 rfl (lv_at hl 0 rfl) ?_
  refine lv_bipush (v := 8) hx hb dX6_init_13 (by decide) ?_
  refine lv_bipush (v := 81) hx hb dX6_init_15 (by decide) ?_
  refine b_mna (N' := 8) (K' := 81) hx hb hown (hW _ (by decide +kernel)) (hAA) (hW _ (by decide +kernel)) hK hP hD hS hA (by decide) (by decide) (by decide +kernel) (by decide +kernel) (Nat.le_of_ble_eq_true rfl) (Nat.le_of_ble_eq_true rfl) (Nat.le_of_ble_eq_true rfl) (Nat.le_of_ble_eq_true rfl) (Nat.le_of_ble_eq_true rfl) dX6_init_17 (fun q2 r2 H hP hD hS => ?_)
  have hP : va_P (dC, dI) vwCl [(h0, .inr (6, [.ref q1, .null, .null, .null, .int 0, .int 0, .int 0])), (q1, .inl (Y.1, 81, .inl (fun _ => 0))), (q2, .inl (Y.2.2.2, 8, .inr (.inr (.inr (.inr (fun i => if i < 8 then some (r2 i) else none)))))), (r2 0, .inl (Y.1, 81, .inl (fun _ => 0))), (r2 1, .inl (Y.1, 81, .inl (fun _ => 0))), (r2 2, .inl (Y.1, 81, .inl (fun _ => 0))), (r2 3, .inl (Y.1, 81, .inl (fun _ => 0))), (r2 4, .inl (Y.1, 81, .inl (fun _ => 0))), (r2 5, .inl (Y.1, 81, .inl (fun _ => 0))), (r2 6, .inl (Y.1, 81, .inl (fun _ => 0))), (r2 7, .inl (Y.1, 81, .inl (fun _ => 0)))] H := hP
  have hD : va_D A [(h0, .inr (6, [.ref q1, .null, .null, .null, .int 0, .int 0, .int 0])), (q1, .inl (Y.1, 81, .inl (fun _ => 0))), (q2, .inl (Y.2.2.2, 8, .inr (.inr (.inr (.inr (fun i => if i < 8 then some (r2 i) else none)))))), (r2 0, .inl (Y.1, 81, .inl (fun _ => 0))), (r2 1, .inl (Y.1, 81, .inl (fun _ => 0))), (r2 2, .inl (Y.1, 81, .inl (fun _ => 0))), (r2 3, .inl (Y.1, 81, .inl (fun _ => 0))), (r2 4, .inl (Y.1, 81, .inl (fun _ => 0))), (r2 5, .inl (Y.1, 81, .inl (fun _ => 0))), (r2 6, .inl (Y.1, 81, .inl (fun _ => 0))), (r2 7, .inl (Y.1, 81, .inl (fun _ => 0)))] := hD
  refine va_putF (D := (dC, dI)) (ci := 6) (v := .ref q2) (ty := .array (.array .int)) (C := RX6) (T := TX6) (N := 7) hx hb hts (g_lays (ci := 6) (by decide)) tyX6 tyX6_ok nmX6 hown hK hP hD hS 0 rfl rfl 1 (by decide) (hW (.fieldLink RX6 17 "DialTown$Walker" "far" "[[I") (by decide +kernel)) (fun _ h9 => h9) rfl hin rfl (by decide +kernel) rfl rfl (Nat.le_of_ble_eq_true rfl) dX6_init_21 (fun H locs hP hD hS => ?_)
  have hP : va_P (dC, dI) vwCl [(h0, .inr (6, [.ref q1, .ref q2, .null, .null, .int 0, .int 0, .int 0])), (q1, .inl (Y.1, 81, .inl (fun _ => 0))), (q2, .inl (Y.2.2.2, 8, .inr (.inr (.inr (.inr (fun i => if i < 8 then some (r2 i) else none)))))), (r2 0, .inl (Y.1, 81, .inl (fun _ => 0))), (r2 1, .inl (Y.1, 81, .inl (fun _ => 0))), (r2 2, .inl (Y.1, 81, .inl (fun _ => 0))), (r2 3, .inl (Y.1, 81, .inl (fun _ => 0))), (r2 4, .inl (Y.1, 81, .inl (fun _ => 0))), (r2 5, .inl (Y.1, 81, .inl (fun _ => 0))), (r2 6, .inl (Y.1, 81, .inl (fun _ => 0))), (r2 7, .inl (Y.1, 81, .inl (fun _ => 0)))] H := hP
  have hD : va_D A [(h0, .inr (6, [.ref q1, .ref q2, .null, .null, .int 0, .int 0, .int 0])), (q1, .inl (Y.1, 81, .inl (fun _ => 0))), (q2, .inl (Y.2.2.2, 8, .inr (.inr (.inr (.inr (fun i => if i < 8 then some (r2 i) else none)))))), (r2 0, .inl (Y.1, 81, .inl (fun _ => 0))), (r2 1, .inl (Y.1, 81, .inl (fun _ => 0))), (r2 2, .inl (Y.1, 81, .inl (fun _ => 0))), (r2 3, .inl (Y.1, 81, .inl (fun _ => 0))), (r2 4, .inl (Y.1, 81, .inl (fun _ => 0))), (r2 5, .inl (Y.1, 81, .inl (fun _ => 0))), (r2 6, .inl (Y.1, 81, .inl (fun _ => 0))), (r2 7, .inl (Y.1, 81, .inl (fun _ => 0)))] := hD
  refine lv_aload_n hx hb dX6_init_24 rfl (lv_at hl 0 rfl) ?_
  refine lv_bipush (v := 8) hx hb dX6_init_25 (by decide) ?_
  refine lv_bipush (v := 73) hx hb dX6_init_27 (by decide) ?_
  refine b_mna (N' := 8) (K' := 73) hx hb hown (hW _ (by decide +kernel)) (hAA) (hW _ (by decide +kernel)) hK hP hD hS hA (by decide) (by decide) (by decide +kernel) (by decide +kernel) (Nat.le_of_ble_eq_true rfl) (Nat.le_of_ble_eq_true rfl) (Nat.le_of_ble_eq_true rfl) (Nat.le_of_ble_eq_true rfl) (Nat.le_of_ble_eq_true rfl) dX6_init_29 (fun q3 r3 H hP hD hS => ?_)
  have hP : va_P (dC, dI) vwCl [(h0, .inr (6, [.ref q1, .ref q2, .null, .null, .int 0, .int 0, .int 0])), (q1, .inl (Y.1, 81, .inl (fun _ => 0))), (q2, .inl (Y.2.2.2, 8, .inr (.inr (.inr (.inr (fun i => if i < 8 then some (r2 i) else none)))))), (r2 0, .inl (Y.1, 81, .inl (fun _ => 0))), (r2 1, .inl (Y.1, 81, .inl (fun _ => 0))), (r2 2, .inl (Y.1, 81, .inl (fun _ => 0))), (r2 3, .inl (Y.1, 81, .inl (fun _ => 0))), (r2 4, .inl (Y.1, 81, .inl (fun _ => 0))), (r2 5, .inl (Y.1, 81, .inl (fun _ => 0))), (r2 6, .inl (Y.1, 81, .inl (fun _ => 0))), (r2 7, .inl (Y.1, 81, .inl (fun _ => 0))), (q3, .inl (Y.2.2.2, 8, .inr (.inr (.inr (.inr (fun i => if i < 8 then some (r3 i) else none)))))), (r3 0, .inl (Y.1, 73, .inl (fun _ => 0))), (r3 1, .inl (Y.1, 73, .inl (fun _ => 0))), (r3 2, .inl (Y.1, 73, .inl (fun _ => 0))), (r3 3, .inl (Y.1, 73, .inl (fun _ => 0))), (r3 4, .inl (Y.1, 73, .inl (fun _ => 0))), (r3 5, .inl (Y.1, 73, .inl (fun _ => 0))), (r3 6, .inl (Y.1, 73, .inl (fun _ => 0))), (r3 7, .inl (Y.1, 73, .inl (fun _ => 0)))] H := hP
  have hD : va_D A [(h0, .inr (6, [.ref q1, .ref q2, .null, .null, .int 0, .int 0, .int 0])), (q1, .inl (Y.1, 81, .inl (fun _ => 0))), (q2, .inl (Y.2.2.2, 8, .inr (.inr (.inr (.inr (fun i => if i < 8 then some (r2 i) else none)))))), (r2 0, .inl (Y.1, 81, .inl (fun _ => 0))), (r2 1, .inl (Y.1, 81, .inl (fun _ => 0))), (r2 2, .inl (Y.1, 81, .inl (fun _ => 0))), (r2 3, .inl (Y.1, 81, .inl (fun _ => 0))), (r2 4, .inl (Y.1, 81, .inl (fun _ => 0))), (r2 5, .inl (Y.1, 81, .inl (fun _ => 0))), (r2 6, .inl (Y.1, 81, .inl (fun _ => 0))), (r2 7, .inl (Y.1, 81, .inl (fun _ => 0))), (q3, .inl (Y.2.2.2, 8, .inr (.inr (.inr (.inr (fun i => if i < 8 then some (r3 i) else none)))))), (r3 0, .inl (Y.1, 73, .inl (fun _ => 0))), (r3 1, .inl (Y.1, 73, .inl (fun _ => 0))), (r3 2, .inl (Y.1, 73, .inl (fun _ => 0))), (r3 3, .inl (Y.1, 73, .inl (fun _ => 0))), (r3 4, .inl (Y.1, 73, .inl (fun _ => 0))), (r3 5, .inl (Y.1, 73, .inl (fun _ => 0))), (r3 6, .inl (Y.1, 73, .inl (fun _ => 0))), (r3 7, .inl (Y.1, 73, .inl (fun _ => 0)))] := hD
  refine va_putF (D := (dC, dI)) (ci := 6) (v := .ref q3) (ty := .array (.array .int)) (C := RX6) (T := TX6) (N := 7) hx hb hts (g_lays (ci := 6) (by decide)) tyX6 tyX6_ok nmX6 hown hK hP hD hS 0 rfl rfl 2 (by decide) (hW (.fieldLink RX6 20 "DialTown$Walker" "opening" "[[I") (by decide +kernel)) (fun _ h9 => h9) rfl hin rfl (by decide +kernel) rfl rfl (Nat.le_of_ble_eq_true rfl) dX6_init_33 (fun H locs hP hD hS => ?_)
  have hP : va_P (dC, dI) vwCl [(h0, .inr (6, [.ref q1, .ref q2, .ref q3, .null, .int 0, .int 0, .int 0])), (q1, .inl (Y.1, 81, .inl (fun _ => 0))), (q2, .inl (Y.2.2.2, 8, .inr (.inr (.inr (.inr (fun i => if i < 8 then some (r2 i) else none)))))), (r2 0, .inl (Y.1, 81, .inl (fun _ => 0))), (r2 1, .inl (Y.1, 81, .inl (fun _ => 0))), (r2 2, .inl (Y.1, 81, .inl (fun _ => 0))), (r2 3, .inl (Y.1, 81, .inl (fun _ => 0))), (r2 4, .inl (Y.1, 81, .inl (fun _ => 0))), (r2 5, .inl (Y.1, 81, .inl (fun _ => 0))), (r2 6, .inl (Y.1, 81, .inl (fun _ => 0))), (r2 7, .inl (Y.1, 81, .inl (fun _ => 0))), (q3, .inl (Y.2.2.2, 8, .inr (.inr (.inr (.inr (fun i => if i < 8 then some (r3 i) else none)))))), (r3 0, .inl (Y.1, 73, .inl (fun _ => 0))), (r3 1, .inl (Y.1, 73, .inl (fun _ => 0))), (r3 2, .inl (Y.1, 73, .inl (fun _ => 0))), (r3 3, .inl (Y.1, 73, .inl (fun _ => 0))), (r3 4, .inl (Y.1, 73, .inl (fun _ => 0))), (r3 5, .inl (Y.1, 73, .inl (fun _ => 0))), (r3 6, .inl (Y.1, 73, .inl (fun _ => 0))), (r3 7, .inl (Y.1, 73, .inl (fun _ => 0)))] H := hP
  have hD : va_D A [(h0, .inr (6, [.ref q1, .ref q2, .ref q3, .null, .int 0, .int 0, .int 0])), (q1, .inl (Y.1, 81, .inl (fun _ => 0))), (q2, .inl (Y.2.2.2, 8, .inr (.inr (.inr (.inr (fun i => if i < 8 then some (r2 i) else none)))))), (r2 0, .inl (Y.1, 81, .inl (fun _ => 0))), (r2 1, .inl (Y.1, 81, .inl (fun _ => 0))), (r2 2, .inl (Y.1, 81, .inl (fun _ => 0))), (r2 3, .inl (Y.1, 81, .inl (fun _ => 0))), (r2 4, .inl (Y.1, 81, .inl (fun _ => 0))), (r2 5, .inl (Y.1, 81, .inl (fun _ => 0))), (r2 6, .inl (Y.1, 81, .inl (fun _ => 0))), (r2 7, .inl (Y.1, 81, .inl (fun _ => 0))), (q3, .inl (Y.2.2.2, 8, .inr (.inr (.inr (.inr (fun i => if i < 8 then some (r3 i) else none)))))), (r3 0, .inl (Y.1, 73, .inl (fun _ => 0))), (r3 1, .inl (Y.1, 73, .inl (fun _ => 0))), (r3 2, .inl (Y.1, 73, .inl (fun _ => 0))), (r3 3, .inl (Y.1, 73, .inl (fun _ => 0))), (r3 4, .inl (Y.1, 73, .inl (fun _ => 0))), (r3 5, .inl (Y.1, 73, .inl (fun _ => 0))), (r3 6, .inl (Y.1, 73, .inl (fun _ => 0))), (r3 7, .inl (Y.1, 73, .inl (fun _ => 0)))] := hD
  refine lv_aload_n hx hb dX6_init_36 rfl (lv_at hl 0 rfl) ?_
  refine lv_sipush (v := 2048) hx hb dX6_init_37 (by decide) ?_
  refine b_newaI (N' := 2048) hx hb (hW _ (by decide +kernel)) hK hP hD hS hA (by decide) (by decide +kernel) (Nat.le_of_ble_eq_true rfl) (Nat.le_of_ble_eq_true rfl) (Nat.le_of_ble_eq_true rfl) dX6_init_40 (fun q4 H hP hD hS => ?_)
  have hP : va_P (dC, dI) vwCl [(h0, .inr (6, [.ref q1, .ref q2, .ref q3, .null, .int 0, .int 0, .int 0])), (q1, .inl (Y.1, 81, .inl (fun _ => 0))), (q2, .inl (Y.2.2.2, 8, .inr (.inr (.inr (.inr (fun i => if i < 8 then some (r2 i) else none)))))), (r2 0, .inl (Y.1, 81, .inl (fun _ => 0))), (r2 1, .inl (Y.1, 81, .inl (fun _ => 0))), (r2 2, .inl (Y.1, 81, .inl (fun _ => 0))), (r2 3, .inl (Y.1, 81, .inl (fun _ => 0))), (r2 4, .inl (Y.1, 81, .inl (fun _ => 0))), (r2 5, .inl (Y.1, 81, .inl (fun _ => 0))), (r2 6, .inl (Y.1, 81, .inl (fun _ => 0))), (r2 7, .inl (Y.1, 81, .inl (fun _ => 0))), (q3, .inl (Y.2.2.2, 8, .inr (.inr (.inr (.inr (fun i => if i < 8 then some (r3 i) else none)))))), (r3 0, .inl (Y.1, 73, .inl (fun _ => 0))), (r3 1, .inl (Y.1, 73, .inl (fun _ => 0))), (r3 2, .inl (Y.1, 73, .inl (fun _ => 0))), (r3 3, .inl (Y.1, 73, .inl (fun _ => 0))), (r3 4, .inl (Y.1, 73, .inl (fun _ => 0))), (r3 5, .inl (Y.1, 73, .inl (fun _ => 0))), (r3 6, .inl (Y.1, 73, .inl (fun _ => 0))), (r3 7, .inl (Y.1, 73, .inl (fun _ => 0))), (q4, .inl (Y.1, 2048, .inl (fun _ => 0)))] H := hP
  have hD : va_D A [(h0, .inr (6, [.ref q1, .ref q2, .ref q3, .null, .int 0, .int 0, .int 0])), (q1, .inl (Y.1, 81, .inl (fun _ => 0))), (q2, .inl (Y.2.2.2, 8, .inr (.inr (.inr (.inr (fun i => if i < 8 then some (r2 i) else none)))))), (r2 0, .inl (Y.1, 81, .inl (fun _ => 0))), (r2 1, .inl (Y.1, 81, .inl (fun _ => 0))), (r2 2, .inl (Y.1, 81, .inl (fun _ => 0))), (r2 3, .inl (Y.1, 81, .inl (fun _ => 0))), (r2 4, .inl (Y.1, 81, .inl (fun _ => 0))), (r2 5, .inl (Y.1, 81, .inl (fun _ => 0))), (r2 6, .inl (Y.1, 81, .inl (fun _ => 0))), (r2 7, .inl (Y.1, 81, .inl (fun _ => 0))), (q3, .inl (Y.2.2.2, 8, .inr (.inr (.inr (.inr (fun i => if i < 8 then some (r3 i) else none)))))), (r3 0, .inl (Y.1, 73, .inl (fun _ => 0))), (r3 1, .inl (Y.1, 73, .inl (fun _ => 0))), (r3 2, .inl (Y.1, 73, .inl (fun _ => 0))), (r3 3, .inl (Y.1, 73, .inl (fun _ => 0))), (r3 4, .inl (Y.1, 73, .inl (fun _ => 0))), (r3 5, .inl (Y.1, 73, .inl (fun _ => 0))), (r3 6, .inl (Y.1, 73, .inl (fun _ => 0))), (r3 7, .inl (Y.1, 73, .inl (fun _ => 0))), (q4, .inl (Y.1, 2048, .inl (fun _ => 0)))] := hD
  refine va_putF (D := (dC, dI)) (ci := 6) (v := .ref q4) (ty := .array .int) (C := RX6) (T := TX6) (N := 7) hx hb hts (g_lays (ci := 6) (by decide)) tyX6 tyX6_ok nmX6 hown hK hP hD hS 0 rfl rfl 3 (by decide) (hW (.fieldLink RX6 23 "DialTown$Walker" "visitedBy" "[I") (by decide +kernel)) (fun _ h9 => h9) rfl hin rfl (by decide +kernel) rfl rfl (Nat.le_of_ble_eq_true rfl) dX6_init_42 (fun H locs hP hD hS => ?_)
  have hP : va_P (dC, dI) vwCl [(h0, .inr (6, [.ref q1, .ref q2, .ref q3, .ref q4, .int 0, .int 0, .int 0])), (q1, .inl (Y.1, 81, .inl (fun _ => 0))), (q2, .inl (Y.2.2.2, 8, .inr (.inr (.inr (.inr (fun i => if i < 8 then some (r2 i) else none)))))), (r2 0, .inl (Y.1, 81, .inl (fun _ => 0))), (r2 1, .inl (Y.1, 81, .inl (fun _ => 0))), (r2 2, .inl (Y.1, 81, .inl (fun _ => 0))), (r2 3, .inl (Y.1, 81, .inl (fun _ => 0))), (r2 4, .inl (Y.1, 81, .inl (fun _ => 0))), (r2 5, .inl (Y.1, 81, .inl (fun _ => 0))), (r2 6, .inl (Y.1, 81, .inl (fun _ => 0))), (r2 7, .inl (Y.1, 81, .inl (fun _ => 0))), (q3, .inl (Y.2.2.2, 8, .inr (.inr (.inr (.inr (fun i => if i < 8 then some (r3 i) else none)))))), (r3 0, .inl (Y.1, 73, .inl (fun _ => 0))), (r3 1, .inl (Y.1, 73, .inl (fun _ => 0))), (r3 2, .inl (Y.1, 73, .inl (fun _ => 0))), (r3 3, .inl (Y.1, 73, .inl (fun _ => 0))), (r3 4, .inl (Y.1, 73, .inl (fun _ => 0))), (r3 5, .inl (Y.1, 73, .inl (fun _ => 0))), (r3 6, .inl (Y.1, 73, .inl (fun _ => 0))), (r3 7, .inl (Y.1, 73, .inl (fun _ => 0))), (q4, .inl (Y.1, 2048, .inl (fun _ => 0)))] H := hP
  have hD : va_D A [(h0, .inr (6, [.ref q1, .ref q2, .ref q3, .ref q4, .int 0, .int 0, .int 0])), (q1, .inl (Y.1, 81, .inl (fun _ => 0))), (q2, .inl (Y.2.2.2, 8, .inr (.inr (.inr (.inr (fun i => if i < 8 then some (r2 i) else none)))))), (r2 0, .inl (Y.1, 81, .inl (fun _ => 0))), (r2 1, .inl (Y.1, 81, .inl (fun _ => 0))), (r2 2, .inl (Y.1, 81, .inl (fun _ => 0))), (r2 3, .inl (Y.1, 81, .inl (fun _ => 0))), (r2 4, .inl (Y.1, 81, .inl (fun _ => 0))), (r2 5, .inl (Y.1, 81, .inl (fun _ => 0))), (r2 6, .inl (Y.1, 81, .inl (fun _ => 0))), (r2 7, .inl (Y.1, 81, .inl (fun _ => 0))), (q3, .inl (Y.2.2.2, 8, .inr (.inr (.inr (.inr (fun i => if i < 8 then some (r3 i) else none)))))), (r3 0, .inl (Y.1, 73, .inl (fun _ => 0))), (r3 1, .inl (Y.1, 73, .inl (fun _ => 0))), (r3 2, .inl (Y.1, 73, .inl (fun _ => 0))), (r3 3, .inl (Y.1, 73, .inl (fun _ => 0))), (r3 4, .inl (Y.1, 73, .inl (fun _ => 0))), (r3 5, .inl (Y.1, 73, .inl (fun _ => 0))), (r3 6, .inl (Y.1, 73, .inl (fun _ => 0))), (r3 7, .inl (Y.1, 73, .inl (fun _ => 0))), (q4, .inl (Y.1, 2048, .inl (fun _ => 0)))] := hD
  refine lv_aload_n hx hb dX6_init_45 rfl (lv_at hl 0 rfl) ?_
  refine lv_iconst (v := 0) hx hb dX6_init_46 (by decide) ?_
  refine va_put (D := (dC, dI)) (ci := 6) (v := .int 0) (ty := .int) (C := RX6) (T := TX6) (N := 7) hx hb hts (g_lays (ci := 6) (by decide)) tyX6 tyX6_ok nmX6 hown hK hP hD hS 0 rfl rfl 4 (by decide) (hW (.fieldLink RX6 26 "DialTown$Walker" "cell" "I") (by decide +kernel)) (fun _ h9 => h9) rfl (by decide +kernel) rfl rfl (Nat.le_of_ble_eq_true rfl) dX6_init_47 (fun H locs hP hD hS => ?_)
  have hP : va_P (dC, dI) vwCl [(h0, .inr (6, [.ref q1, .ref q2, .ref q3, .ref q4, .int 0, .int 0, .int 0])), (q1, .inl (Y.1, 81, .inl (fun _ => 0))), (q2, .inl (Y.2.2.2, 8, .inr (.inr (.inr (.inr (fun i => if i < 8 then some (r2 i) else none)))))), (r2 0, .inl (Y.1, 81, .inl (fun _ => 0))), (r2 1, .inl (Y.1, 81, .inl (fun _ => 0))), (r2 2, .inl (Y.1, 81, .inl (fun _ => 0))), (r2 3, .inl (Y.1, 81, .inl (fun _ => 0))), (r2 4, .inl (Y.1, 81, .inl (fun _ => 0))), (r2 5, .inl (Y.1, 81, .inl (fun _ => 0))), (r2 6, .inl (Y.1, 81, .inl (fun _ => 0))), (r2 7, .inl (Y.1, 81, .inl (fun _ => 0))), (q3, .inl (Y.2.2.2, 8, .inr (.inr (.inr (.inr (fun i => if i < 8 then some (r3 i) else none)))))), (r3 0, .inl (Y.1, 73, .inl (fun _ => 0))), (r3 1, .inl (Y.1, 73, .inl (fun _ => 0))), (r3 2, .inl (Y.1, 73, .inl (fun _ => 0))), (r3 3, .inl (Y.1, 73, .inl (fun _ => 0))), (r3 4, .inl (Y.1, 73, .inl (fun _ => 0))), (r3 5, .inl (Y.1, 73, .inl (fun _ => 0))), (r3 6, .inl (Y.1, 73, .inl (fun _ => 0))), (r3 7, .inl (Y.1, 73, .inl (fun _ => 0))), (q4, .inl (Y.1, 2048, .inl (fun _ => 0)))] H := hP
  have hD : va_D A [(h0, .inr (6, [.ref q1, .ref q2, .ref q3, .ref q4, .int 0, .int 0, .int 0])), (q1, .inl (Y.1, 81, .inl (fun _ => 0))), (q2, .inl (Y.2.2.2, 8, .inr (.inr (.inr (.inr (fun i => if i < 8 then some (r2 i) else none)))))), (r2 0, .inl (Y.1, 81, .inl (fun _ => 0))), (r2 1, .inl (Y.1, 81, .inl (fun _ => 0))), (r2 2, .inl (Y.1, 81, .inl (fun _ => 0))), (r2 3, .inl (Y.1, 81, .inl (fun _ => 0))), (r2 4, .inl (Y.1, 81, .inl (fun _ => 0))), (r2 5, .inl (Y.1, 81, .inl (fun _ => 0))), (r2 6, .inl (Y.1, 81, .inl (fun _ => 0))), (r2 7, .inl (Y.1, 81, .inl (fun _ => 0))), (q3, .inl (Y.2.2.2, 8, .inr (.inr (.inr (.inr (fun i => if i < 8 then some (r3 i) else none)))))), (r3 0, .inl (Y.1, 73, .inl (fun _ => 0))), (r3 1, .inl (Y.1, 73, .inl (fun _ => 0))), (r3 2, .inl (Y.1, 73, .inl (fun _ => 0))), (r3 3, .inl (Y.1, 73, .inl (fun _ => 0))), (r3 4, .inl (Y.1, 73, .inl (fun _ => 0))), (r3 5, .inl (Y.1, 73, .inl (fun _ => 0))), (r3 6, .inl (Y.1, 73, .inl (fun _ => 0))), (r3 7, .inl (Y.1, 73, .inl (fun _ => 0))), (q4, .inl (Y.1, 2048, .inl (fun _ => 0)))] := hD
  refine lv_aload_n hx hb dX6_init_50 rfl (lv_at hl 0 rfl) ?_
  refine lv_iconst (v := 0) hx hb dX6_init_51 (by decide) ?_
  refine va_put (D := (dC, dI)) (ci := 6) (v := .int 0) (ty := .int) (C := RX6) (T := TX6) (N := 7) hx hb hts (g_lays (ci := 6) (by decide)) tyX6 tyX6_ok nmX6 hown hK hP hD hS 0 rfl rfl 5 (by decide) (hW (.fieldLink RX6 30 "DialTown$Walker" "slot" "I") (by decide +kernel)) (fun _ h9 => h9) rfl (by decide +kernel) rfl rfl (Nat.le_of_ble_eq_true rfl) dX6_init_52 (fun H locs hP hD hS => ?_)
  have hP : va_P (dC, dI) vwCl [(h0, .inr (6, [.ref q1, .ref q2, .ref q3, .ref q4, .int 0, .int 0, .int 0])), (q1, .inl (Y.1, 81, .inl (fun _ => 0))), (q2, .inl (Y.2.2.2, 8, .inr (.inr (.inr (.inr (fun i => if i < 8 then some (r2 i) else none)))))), (r2 0, .inl (Y.1, 81, .inl (fun _ => 0))), (r2 1, .inl (Y.1, 81, .inl (fun _ => 0))), (r2 2, .inl (Y.1, 81, .inl (fun _ => 0))), (r2 3, .inl (Y.1, 81, .inl (fun _ => 0))), (r2 4, .inl (Y.1, 81, .inl (fun _ => 0))), (r2 5, .inl (Y.1, 81, .inl (fun _ => 0))), (r2 6, .inl (Y.1, 81, .inl (fun _ => 0))), (r2 7, .inl (Y.1, 81, .inl (fun _ => 0))), (q3, .inl (Y.2.2.2, 8, .inr (.inr (.inr (.inr (fun i => if i < 8 then some (r3 i) else none)))))), (r3 0, .inl (Y.1, 73, .inl (fun _ => 0))), (r3 1, .inl (Y.1, 73, .inl (fun _ => 0))), (r3 2, .inl (Y.1, 73, .inl (fun _ => 0))), (r3 3, .inl (Y.1, 73, .inl (fun _ => 0))), (r3 4, .inl (Y.1, 73, .inl (fun _ => 0))), (r3 5, .inl (Y.1, 73, .inl (fun _ => 0))), (r3 6, .inl (Y.1, 73, .inl (fun _ => 0))), (r3 7, .inl (Y.1, 73, .inl (fun _ => 0))), (q4, .inl (Y.1, 2048, .inl (fun _ => 0)))] H := hP
  have hD : va_D A [(h0, .inr (6, [.ref q1, .ref q2, .ref q3, .ref q4, .int 0, .int 0, .int 0])), (q1, .inl (Y.1, 81, .inl (fun _ => 0))), (q2, .inl (Y.2.2.2, 8, .inr (.inr (.inr (.inr (fun i => if i < 8 then some (r2 i) else none)))))), (r2 0, .inl (Y.1, 81, .inl (fun _ => 0))), (r2 1, .inl (Y.1, 81, .inl (fun _ => 0))), (r2 2, .inl (Y.1, 81, .inl (fun _ => 0))), (r2 3, .inl (Y.1, 81, .inl (fun _ => 0))), (r2 4, .inl (Y.1, 81, .inl (fun _ => 0))), (r2 5, .inl (Y.1, 81, .inl (fun _ => 0))), (r2 6, .inl (Y.1, 81, .inl (fun _ => 0))), (r2 7, .inl (Y.1, 81, .inl (fun _ => 0))), (q3, .inl (Y.2.2.2, 8, .inr (.inr (.inr (.inr (fun i => if i < 8 then some (r3 i) else none)))))), (r3 0, .inl (Y.1, 73, .inl (fun _ => 0))), (r3 1, .inl (Y.1, 73, .inl (fun _ => 0))), (r3 2, .inl (Y.1, 73, .inl (fun _ => 0))), (r3 3, .inl (Y.1, 73, .inl (fun _ => 0))), (r3 4, .inl (Y.1, 73, .inl (fun _ => 0))), (r3 5, .inl (Y.1, 73, .inl (fun _ => 0))), (r3 6, .inl (Y.1, 73, .inl (fun _ => 0))), (r3 7, .inl (Y.1, 73, .inl (fun _ => 0))), (q4, .inl (Y.1, 2048, .inl (fun _ => 0)))] := hD
  refine lv_aload_n hx hb dX6_init_55 rfl (lv_at hl 0 rfl) ?_
  refine lv_iconst (v := 0) hx hb dX6_init_56 (by decide) ?_
  refine va_put (D := (dC, dI)) (ci := 6) (v := .int 0) (ty := .int) (C := RX6) (T := TX6) (N := 7) hx hb hts (g_lays (ci := 6) (by decide)) tyX6 tyX6_ok nmX6 hown hK hP hD hS 0 rfl rfl 6 (by decide) (hW (.fieldLink RX6 33 "DialTown$Walker" "visited" "I") (by decide +kernel)) (fun _ h9 => h9) rfl (by decide +kernel) rfl rfl (Nat.le_of_ble_eq_true rfl) dX6_init_57 (fun H locs hP hD hS => ?_)
  have hP : va_P (dC, dI) vwCl [(h0, .inr (6, [.ref q1, .ref q2, .ref q3, .ref q4, .int 0, .int 0, .int 0])), (q1, .inl (Y.1, 81, .inl (fun _ => 0))), (q2, .inl (Y.2.2.2, 8, .inr (.inr (.inr (.inr (fun i => if i < 8 then some (r2 i) else none)))))), (r2 0, .inl (Y.1, 81, .inl (fun _ => 0))), (r2 1, .inl (Y.1, 81, .inl (fun _ => 0))), (r2 2, .inl (Y.1, 81, .inl (fun _ => 0))), (r2 3, .inl (Y.1, 81, .inl (fun _ => 0))), (r2 4, .inl (Y.1, 81, .inl (fun _ => 0))), (r2 5, .inl (Y.1, 81, .inl (fun _ => 0))), (r2 6, .inl (Y.1, 81, .inl (fun _ => 0))), (r2 7, .inl (Y.1, 81, .inl (fun _ => 0))), (q3, .inl (Y.2.2.2, 8, .inr (.inr (.inr (.inr (fun i => if i < 8 then some (r3 i) else none)))))), (r3 0, .inl (Y.1, 73, .inl (fun _ => 0))), (r3 1, .inl (Y.1, 73, .inl (fun _ => 0))), (r3 2, .inl (Y.1, 73, .inl (fun _ => 0))), (r3 3, .inl (Y.1, 73, .inl (fun _ => 0))), (r3 4, .inl (Y.1, 73, .inl (fun _ => 0))), (r3 5, .inl (Y.1, 73, .inl (fun _ => 0))), (r3 6, .inl (Y.1, 73, .inl (fun _ => 0))), (r3 7, .inl (Y.1, 73, .inl (fun _ => 0))), (q4, .inl (Y.1, 2048, .inl (fun _ => 0)))] H := hP
  have hD : va_D A [(h0, .inr (6, [.ref q1, .ref q2, .ref q3, .ref q4, .int 0, .int 0, .int 0])), (q1, .inl (Y.1, 81, .inl (fun _ => 0))), (q2, .inl (Y.2.2.2, 8, .inr (.inr (.inr (.inr (fun i => if i < 8 then some (r2 i) else none)))))), (r2 0, .inl (Y.1, 81, .inl (fun _ => 0))), (r2 1, .inl (Y.1, 81, .inl (fun _ => 0))), (r2 2, .inl (Y.1, 81, .inl (fun _ => 0))), (r2 3, .inl (Y.1, 81, .inl (fun _ => 0))), (r2 4, .inl (Y.1, 81, .inl (fun _ => 0))), (r2 5, .inl (Y.1, 81, .inl (fun _ => 0))), (r2 6, .inl (Y.1, 81, .inl (fun _ => 0))), (r2 7, .inl (Y.1, 81, .inl (fun _ => 0))), (q3, .inl (Y.2.2.2, 8, .inr (.inr (.inr (.inr (fun i => if i < 8 then some (r3 i) else none)))))), (r3 0, .inl (Y.1, 73, .inl (fun _ => 0))), (r3 1, .inl (Y.1, 73, .inl (fun _ => 0))), (r3 2, .inl (Y.1, 73, .inl (fun _ => 0))), (r3 3, .inl (Y.1, 73, .inl (fun _ => 0))), (r3 4, .inl (Y.1, 73, .inl (fun _ => 0))), (r3 5, .inl (Y.1, 73, .inl (fun _ => 0))), (r3 6, .inl (Y.1, 73, .inl (fun _ => 0))), (r3 7, .inl (Y.1, 73, .inl (fun _ => 0))), (q4, .inl (Y.1, 2048, .inl (fun _ => 0)))] := hD
  have hP9 := hP; have hD9 := hD
  exact W.vret hx hb hr (fun t ht hW9 => ⟨⟨(), rfl, trivial, q1, q2, r2, q3, r3, q4, by rw [ht]; exact hP9, va_K.moved hW9.alike hK, hD9⟩, hS.F ht⟩) hS.2.2 dX6_init_60
