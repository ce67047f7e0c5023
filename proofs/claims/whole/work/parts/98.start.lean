theorem lw_rel0 : Rel lw_s0 := by sorry
set_option maxHeartbeats 4000000 in
set_option maxRecDepth 100000 in
/-- from the entry, for every script of at most 448 ints, the law comes to its end with true -/
theorem whole_start {p : Program} {e : Env} {s : State} {m : MethodId} {below : List Frame} {meth : Method} {c : Code} (l : Launch) (hflags : l.flags = flags0) {b L : Nat} {xs : Nat → Int32} (hL : L ≤ 448) (C0 : lw_At p s m meth c b L xs) : W p l e room_1 s m #[Value.ref b] below meth c s.heap [] 0 0 (lw_Z below #[Value.ref b] s) (entryFrame m ([Value.ref b] : List Value).toArray 4) := by
  obtain ⟨hx, hb, hr, hml, hown, hts, hX, hbl, hlocks, hgv⟩ := id C0
  obtain ⟨dC, dI, Y, hK⟩ := lw_cl hts
  obtain ⟨rv, hr99, hZ⟩ := lw_Zs (A := fun q : Nat => s.heap.size ≤ q) hts hX hbl (by omega) hgv (fun a h q => by omega)
  refine lw_made l C0 hK (fun ad H locs ls hP hD hS hl => ?_)
  have hA : ∀ q, g_A ad q → s.heap.size ≤ q := by
    rintro q ⟨a, ha, rfl⟩
    exact hD.2 a _ (g_w_at ha)
  have hts2 : ∀ w ∈ g_W, w.before #[Value.ref b] s = true := fun w h => hts w (List.mem_filter.mp h).1
  have F : g_Fr p l room_1 s m #[Value.ref b] c ad rv (dC, dI) Y (fun q : Nat => s.heap.size ≤ q) (xs, L) 0 20 200 100000 := ⟨hx, hb, hml, hown, hts2, hK, hZ, hA, ⟨Nat.le_of_ble_eq_true rfl, Nat.le_of_ble_eq_true rfl⟩, Nat.le_of_ble_eq_true rfl, Nat.le_of_ble_eq_true rfl⟩
  have hrun := law_loop (E := (xs, L)) hL 65 0 lw_s0 (by omega) (by omega) lw_rel0
  refine g_run F (g_hall 0 (by omega)) g_hom (fun M' as σ R' h0 h1 h2 h3 => ⟨19, rfl, g_con g_hall g_hom l 19 M' as σ R' h0 h1 h2 h3⟩) ?_ hrun H locs ls ?_ hP hD hS
  · refine ⟨?_, ?_, ?_⟩
    · intro pc H locs ls v ty σ hdg hty hn hR h1 h2 h3
      have e : v = 1 := by
        have := hR
        unfold lw_R at this
        cases this
        rfl
      subst e
      refine va_forget (fun q hq => h3.2.2 q hq) ?_
      refine W.widen (k := 600000) (n := 7302250) (Nat.le_of_ble_eq_true rfl) (Nat.le_of_ble_eq_true rfl) ?_
      exact lw_ret hx hb hr hlocks hdg
    · intro pc H locs ls v σ hdg hty hR h1 h2 h3
      cases hty
    · intro pc H locs ls σ hdg hty hR h1 h2 h3
      cases hty
  · refine ⟨hl.1, hl.2.1, fun k v hk => ?_⟩
    match k, hk with
    | 0, hk => cases hk; exact (lv_at hl 3 rfl).trans (by rw [show g_cv ad rv (.retAddr 99) = rv 99 from rfl, hr99])
    | 1, hk => cases hk; exact lv_at hl 2 rfl
    | 2, hk => cases hk; exact lv_at hl 1 rfl
    | 3, hk => cases hk; exact lv_at hl 0 rfl
    | k + 4, hk => cases hk
