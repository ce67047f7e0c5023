/-! at the start both agree -/
theorem lw_z0 : q_walls (fun _ => (0 : Int32)) 81 = 0 := by
  have : ∀ n, q_walls (fun _ => (0 : Int32)) n = 0 := by
    intro n
    induction n with
    | zero => rfl
    | succ n ih => rw [show q_walls (fun _ => (0 : Int32)) (n + 1) = q_walls (fun _ => (0 : Int32)) n + (if (0 : Int32) = 1 then 1 else 0) from rfl, ih]; rfl
  exact this 81
theorem lw_n0 (k : Nat) (hk : k < 8) : ¬ nI k < (0 : Int32) := nI_nlt (a := k) (b := 0) (by omega) (by omega)
theorem lw_wt0 : WT (fun _ => (0 : Int32)) :=
  ⟨⟨0, 0, by omega, by omega, rfl⟩, ⟨0, by omega, rfl⟩, by decide, by decide, ⟨0, by omega, rfl⟩, ⟨0, by omega, rfl, fun k hk => absurd hk (Nat.not_lt_zero k), fun j k _ hk => absurd hk (Nat.not_lt_zero k)⟩, fun c _ => Or.inl rfl, fun t _ => Or.inl rfl, fun q => absurd rfl q, fun _ => ⟨rfl, fun _ _ => rfl, fun _ _ => rfl⟩⟩
theorem lw_tr0 {σ : g_S} {b : Nat} (h : ∀ a, b ≤ a → a < b + 6 → σ a = fun _ => 0) : TR σ b (fun _ => (0 : Int32)) := by
  unfold TR
  rw [h b (by omega) (by omega), h (b + 1) (by omega) (by omega), h (b + 2) (by omega) (by omega), h (b + 3) (by omega) (by omega), h (b + 4) (by omega) (by omega), h (b + 5) (by omega) (by omega), lw_z0]
  refine ⟨rfl, ⟨0, 0, by omega, by omega, rfl, rfl, rfl⟩, rfl, rfl, rfl, rfl, rfl, rfl, fun c _ => ⟨fun q => absurd (show (0 : Int32) = 2 from q) (by decide), fun q => absurd (show (0 : Int32) = 1 from q) (by decide), fun _ q => ?_, fun _ _ => rfl⟩, fun t _ => rfl, fun k hk q => absurd q (lw_n0 k hk)⟩
  obtain ⟨k, hk, q2, -⟩ := q
  exact absurd q2 (lw_n0 k hk)
theorem lw_rel0 : Rel lw_s0 := by
  have m1 : ∀ i, i < 8 → lw_s0 69 i = -1 := by
    intro i hi
    rcases (show i = 0 ∨ i = 1 ∨ i = 2 ∨ i = 3 ∨ i = 4 ∨ i = 5 ∨ i = 6 ∨ i = 7 by omega) with e | e | e | e | e | e | e | e <;> subst e <;> rfl
  have e72 : mo lw_s0 72 = fun _ => 0 := mo_row (by omega)
  have e69 : mo lw_s0 69 = lw_s0 69 := mo_row (by omega)
  have e70 : mo lw_s0 70 = fun _ => 0 := mo_row (by omega)
  have e71 : mo lw_s0 71 = fun _ => 0 := mo_row (by omega)
  have e74 : mo lw_s0 74 = fun _ => 0 := mo_row (by omega)
  have e68 : mo lw_s0 68 = fun _ => 0 := mo_row (by omega)
  have e81 : mo lw_s0 81 = fun _ => 0 := mo_row (by omega)
  have e82 : mo lw_s0 82 = fun _ => 0 := mo_row (by omega)
  have e83 : mo lw_s0 83 = fun _ => 0 := mo_row (by omega)
  constructor
  · unfold RC
    rw [e72, e69, e70, e71, e74, e68, e81, e82, e83]
    refine ⟨fun i _ => rfl, fun i _ => rfl, fun r hr i _ => ?_, fun i _ => rfl, rfl, rfl, rfl, lw_tr0 (fun a h1 h2 => ?_), fun k hk => ⟨fun q => absurd (show (0 : Int32) = 1 from q) (by decide), fun _ => ?_⟩, fun i _ => rfl, rfl⟩
    · rcases (show r = 0 ∨ r = 1 ∨ r = 2 ∨ r = 3 ∨ r = 4 ∨ r = 5 ∨ r = 6 ∨ r = 7 by omega) with e | e | e | e | e | e | e | e <;> subst e <;> rfl
    · rcases (show a = 15 ∨ a = 16 ∨ a = 17 ∨ a = 18 ∨ a = 19 ∨ a = 20 by omega) with e | e | e | e | e | e <;> subst e <;> rfl
    · rcases (show k = 0 ∨ k = 1 by omega) with e | e <;> subst e <;> rfl
  · unfold WF
    rw [e72, e69, e70, e74, e68, e81, e82]
    exact ⟨fun i hi => Or.inl (m1 i hi), fun i _ => ⟨0, by omega, rfl⟩, ⟨0, by omega, rfl⟩, fun i _ => ⟨0, by omega, rfl⟩, ⟨0, by omega, rfl⟩, lw_wt0, fun k _ => Or.inl rfl⟩
set_option maxHeartbeats 4000000 in
set_option maxRecDepth 100000 in
/-- from the entry, for every script of at most 448 ints, the law comes to its end with true -/
theorem whole_start {p : Program} {e : Env} {s : State} {m : MethodId} {below : List Frame} {meth : Method} {c : Code} (l : Launch) (hflags : l.flags = flags0) {b L : Nat} {xs : Nat → Int32} (hL : L ≤ 448) (C0 : lw_At p s m meth c b L xs) : W p l e room_1 s m #[Value.ref b] below meth c s.heap [] 0 0 (lw_Z below #[Value.ref b] s) (entryFrame m ([Value.ref b] : List Value).toArray 4) := by
  obtain ⟨hx, hb, hr, hml, hown, hts, hX, hbl, hlocks, hgv⟩ := id C0
  obtain ⟨dC, dI, Y, hK⟩ := lw_cl hts
  obtain ⟨rv, hr99, hZ⟩ := lw_Zs (A := fun q : Nat => s.heap.size ≤ q) hts hX hbl (by omega) hgv (fun a h q => by omega)
  refine lw_made l C0 hK (fun ad H locs ls hP hD hS hl => ?_)
  have hA : ∀ q, g_A ad q → s.heap.size ≤ q := by
    rintro q ⟨a, ha, rfl⟩
    exact hD.2 a _ (g_w_at ha)
  have hts2 : ∀ w ∈ g_W, w.before #[Value.ref b] s = true := fun w h => hts w (List.mem_filter.mp h).1
  have F : g_Fr p l room_1 s m #[Value.ref b] c ad rv (dC, dI) Y (fun q : Nat => s.heap.size ≤ q) (xs, L) 0 20 200 100000 := ⟨hx, hb, hml, hown, hts2, hK, hZ, hA, ⟨Nat.le_of_ble_eq_true rfl, Nat.le_of_ble_eq_true rfl⟩, Nat.le_of_ble_eq_true rfl, Nat.le_of_ble_eq_true rfl⟩
  have hrun := law_loop (E := (xs, L)) hL 65 0 lw_s0 (by omega) (by omega) lw_rel0
  refine g_run F (g_hall 0 (by omega)) g_hom (fun M' as σ R' h0 h1 h2 h3 => ⟨19, rfl, g_con g_hall g_hom l 19 M' as σ R' h0 h1 h2 h3⟩) ?_ hrun H locs ls ?_ hP hD hS
  · refine ⟨?_, ?_, ?_⟩
    · intro pc H locs ls v ty σ hdg hty hn hR h1 h2 h3
      have e : v = 1 := by
        have := hR
        unfold lw_R at this
        cases this
        rfl
      subst e
      refine va_forget (fun q hq => h3.2.2 q hq) ?_
      refine W.widen (k := 600000) (n := 7302250) (Nat.le_of_ble_eq_true rfl) (Nat.le_of_ble_eq_true rfl) ?_
      exact lw_ret hx hb hr hlocks hdg
    · intro pc H locs ls v σ hdg hty hR h1 h2 h3
      cases hty
    · intro pc H locs ls σ hdg hty hR h1 h2 h3
      cases hty
  · refine ⟨hl.1, hl.2.1, fun k v hk => ?_⟩
    match k, hk with
    | 0, hk => cases hk; exact (lv_at hl 3 rfl).trans (by rw [show g_cv ad rv (.retAddr 99) = rv 99 from rfl, hr99])
    | 1, hk => cases hk; exact lv_at hl 2 rfl
    | 2, hk => cases hk; exact lv_at hl 1 rfl
    | 3, hk => cases hk; exact lv_at hl 0 rfl
    | k + 4, hk => cases hk
