/-! how long a shop is open: both; pairs: leans, shop -/
def q_ct (f : Nat → Bool) : Nat → Nat
  | 0 => 0
  | n + 1 => q_ct f n + (if f n = true then 1 else 0)
theorem q_ct_le {f : Nat → Bool} : ∀ {n : Nat}, q_ct f n ≤ n
  | 0 => Nat.le_refl 0
  | n + 1 => by
    have := q_ct_le (f := f) (n := n)
    rw [show q_ct f (n + 1) = q_ct f n + (if f n = true then 1 else 0) from rfl]
    split <;> omega
theorem q_ct_c {f g : Nat → Bool} : ∀ {n : Nat}, (∀ k, k < n → f k = g k) → q_ct f n = q_ct g n
  | 0, _ => rfl
  | n + 1, h => by
    rw [show q_ct f (n + 1) = q_ct f n + (if f n = true then 1 else 0) from rfl, show q_ct g (n + 1) = q_ct g n + (if g n = true then 1 else 0) from rfl, q_ct_c (n := n) (fun k hk => h k (by omega)), h n (by omega)]
set_option maxRecDepth 20000 in
theorem q_bit : ∀ m, m < 256 → ∀ k, k < 8 → (nI m >>> (nI k &&& 31)) &&& 1 = q_b (m.testBit k) := by decide
/-- what the shadow hangs on -/
def q_eqv (τ' τ : Nat → Int32) : Prop := ∀ i, i = 0 ∨ i = 1 ∨ (6 ≤ i ∧ i < 112) → τ' i = τ i
theorem q_dark_c {τ τ' : Nat → Int32} {e n : Int32} {c : Nat} (h : q_eqv τ' τ) (hx : q_x τ < 9) (hy : q_y τ < 9) : q_dark τ' e n c = q_dark τ e n c := by
  have ex : q_x τ' = q_x τ := by unfold q_x; rw [h 0 (Or.inl rfl)]
  have ey : q_y τ' = q_y τ := by unfold q_y; rw [h 0 (Or.inl rfl)]
  have ec : q_cell τ' e n (q_m e n) = q_cell τ e n (q_m e n) := by
    funext k
    unfold q_cell q_X q_Y
    rw [ex, ey]
  have ei : ∀ k, q_inn τ' e n (q_m e n) k = q_inn τ e n (q_m e n) k := fun k => by
    unfold q_inn q_X q_Y
    rw [ex, ey]
  have eo : q_ok τ' e n (q_m e n) = q_ok τ e n (q_m e n) := by
    funext k
    unfold q_ok
    rw [ei, ec]
    by_cases q : q_inn τ e n (q_m e n) k = true
    · have c81 : q_cell τ e n (q_m e n) k < 81 := by
        by_cases k0 : k = 0
        · subst k0
          unfold q_cell
          rw [if_pos rfl]; omega
        · obtain ⟨a, b, ha, hb, -, -, z⟩ := q_inn_c (by omega) q
          omega
      rw [h _ (Or.inr (Or.inr ⟨by omega, by omega⟩))]
    · rw [Bool.eq_false_iff.mpr q, Bool.false_and, Bool.false_and]
  unfold q_dark q_L
  rw [ec, eo]
theorem q_os_c {τ τ' : Nat → Int32} {e n : Int32} {t : Nat} (h : q_eqv τ' τ) (f : WT τ) : q_os τ' e n t = q_os τ e n t := by
  obtain ⟨hx, hy, -⟩ := q_xy f
  obtain ⟨N, n1, n2, -⟩ := f.2.2.2.2.2.1
  unfold q_os
  rw [h 6 (by omega), n2, q_cl (by omega)]
  exact q_bs_c (fun k hk => by rw [h (88 + 3 * k) (by omega), h (89 + 3 * k) (by omega), q_dark_c h hx hy])
/-- whether shop k is open in a slot, by any season and lean -/
def q_op (τ : Nat → Int32) (s le ln : Int32) (k t : Nat) : Bool := q_open (τ (88 + 3 * k)) (q_dark τ (q_e t (τ 1) le) (s + ln) (τ (89 + 3 * k)).toNatClampNeg) t
def q_sl (τ : Nat → Int32) (s le ln : Int32) (cl : Nat → Bool) (k : Nat) : Nat := q_ct (fun t => q_op τ s le ln k t && !cl t) 73
theorem q_sl_c {τ τ' : Nat → Int32} {s le ln : Int32} {cl : Nat → Bool} {k : Nat} (hk : k < 8) (h : q_eqv τ' τ) (f : WT τ) : q_sl τ' s le ln cl k = q_sl τ s le ln cl k := by
  obtain ⟨hx, hy, -⟩ := q_xy f
  unfold q_sl q_op
  rw [h 1 (by omega), h (88 + 3 * k) (by omega), h (89 + 3 * k) (by omega)]
  exact q_ct_c (fun t ht => by rw [q_dark_c h hx hy])
def q_cl1 (τ : Nat → Int32) (t : Nat) : Bool := decide (τ (112 + t) = 1)
theorem q_at_t {τ : Nat → Int32} {t k : Nat} (f : WT τ) (hk : nI k < τ 6) (hk8 : k < 8) : (q_at τ t).testBit k = (q_op τ (τ 4) (τ 2) (τ 3) k t && !q_cl1 τ t) := by
  obtain ⟨N, n1, n2, -⟩ := f.2.2.2.2.2.1
  rw [n2, q_lt8 hk8 n1] at hk
  unfold q_at q_cl1
  by_cases c : τ (112 + t) = 1
  · rw [if_pos c, decide_eq_true c, Bool.not_true, Bool.and_false, Nat.zero_testBit]
  · rw [if_neg c, decide_eq_false c, Bool.not_false, Bool.and_true]
    unfold q_os
    rw [q_bs_t, n2, q_cl (by omega), decide_eq_true hk, Bool.true_and]
    rfl
theorem q_at_l {τ : Nat → Int32} {t : Nat} (f : WT τ) : q_at τ t < 256 := by
  obtain ⟨N, n1, n2, -⟩ := f.2.2.2.2.2.1
  unfold q_at
  split
  · omega
  · unfold q_os
    rw [n2, q_cl (by omega)]
    exact Nat.lt_of_lt_of_le q_bs_l (Nat.pow_le_pow_right (by omega) n1 : 2 ^ N ≤ 2 ^ 8)
section Q76
variable {E : g_E} {d : Nat} {R : g_R} {σ : g_S} {τ : Nat → Int32}
theorem c_slots_l {b k : Nat} (hb : g_Tw b) (w : TR σ b τ) (f : WT τ) (hk : nI k < τ 6) (hk8 : k < 8) (h : ∀ σ', (∀ a, a ≠ 41 → a ≠ 42 → σ' a = σ a) → R (some (.int (nI (q_sl τ (τ 4) (τ 2) (τ 3) (q_cl1 τ) k)))) σ') : ∀ w' i s, i + w' = 73 → (∀ a, a ≠ 41 → a ≠ 42 → s a = σ a) → g_g E (g_wp E (d + 3)) 8 5 [some (.ref 41), some (.ref b), some (.int (nI k)), some (.int (nI (q_ct (fun t => q_op τ (τ 4) (τ 2) (τ 3) k t && !q_cl1 τ t) i))), some (.int (nI i))] [] s R := by
  have hb' := hb.rg
  intro w'
  induction w' with
  | zero =>
    intro i s hi hs
    have e : i = 73 := by omega
    subst e
    exact t8_5 hb ⟨fun _ => h s hs, fun c => absurd (nI_le (a := 73) (b := 73) (by omega) (by omega)) c⟩
  | succ w' ih =>
    intro i s hi hs
    refine t8_5 hb ⟨fun c => absurd c (nI_ge (b := 73) (by omega) (by omega)), fun _ => c_openShops hb (w.low (fun a h1 h2 => hs a (by omega) (by omega))) f (by omega) (fun s' hs' => ⟨_, rfl, ?_⟩)⟩
    have z := ih (i + 1) s' (by omega) (fun a h1 h2 => (hs' a h1 h2).trans (hs a h1 h2))
    dsimp only
    rw [q_bit _ (q_at_l f) k hk8, q_at_t f hk hk8, nI_1]
    rw [show q_ct (fun t => q_op τ (τ 4) (τ 2) (τ 3) k t && !q_cl1 τ t) (i + 1) = q_ct (fun t => q_op τ (τ 4) (τ 2) (τ 3) k t && !q_cl1 τ t) i + (if (q_op τ (τ 4) (τ 2) (τ 3) k i && !q_cl1 τ i) = true then 1 else 0) from rfl] at z
    cases q : (q_op τ (τ 4) (τ 2) (τ 3) k i && !q_cl1 τ i)
    · rw [q, if_neg (by decide)] at z
      rw [q_b0, show (0 : Int32) = nI 0 from rfl, nI_add]; exact z
    · rw [q, if_pos rfl] at z
      rw [q_b1, nI_1]; exact z
theorem c_slots {b k : Nat} (hb : g_Tw b) (w : TR σ b τ) (f : WT τ) (hk : nI k < τ 6) (hk8 : k < 8) (h : ∀ σ', (∀ a, a ≠ 41 → a ≠ 42 → σ' a = σ a) → R (some (.int (nI (q_sl τ (τ 4) (τ 2) (τ 3) (q_cl1 τ) k)))) σ') : g_wp E (d + 4) 8 [.ref 41, .ref b, .int (nI k)] σ R :=
  t8_0 hb (c_slots_l hb w f hk hk8 h 73 0 σ (by omega) (fun _ _ _ => rfl))
theorem m_slots_l {k : Nat} {s le ln : Int32} {cy : Bool} (f : WT τ) (et : σ 72 = τ) (hk : nI k < τ 6) (hk8 : k < 8) (g : ∀ t, t < 73 → q_rg (q_e t (τ 1) le) (s + ln)) (h : ∀ σ', (∀ a, a ≠ 75 → σ' a = σ a) → R (some (.int (nI (q_sl τ s le ln (fun t => cy && q_cl1 τ t) k)))) σ') : ∀ w' i u, i + w' = 73 → (∀ a, a ≠ 75 → u a = σ a) → g_g E (g_wp E (d + 2)) 157 6 [some (.ref 68), some (.int (nI k)), some (.int s), some (.int le), some (.int ln), some (.int (q_b cy)), some (.int (nI (q_ct (fun t => q_op τ s le ln k t && !(cy && q_cl1 τ t)) i))), some (.int (nI i))] [] u R := by
  obtain ⟨N, n1, n2, n3, n4⟩ := id f.2.2.2.2.2.1
  have hkN : k < N := by rw [n2, q_lt8 hk8 n1] at hk; exact hk
  obtain ⟨⟨i0, i1, i2, i3⟩, ⟨c, c1, c2, c3⟩, -⟩ := n3 k hkN
  intro w'
  induction w' with
  | zero =>
    intro i u hi hs
    have e : i = 73 := by omega
    subst e
    exact t157_6 ⟨fun _ => h u hs, fun c => absurd (nI_lt (a := 72) (b := 73) (by omega) (by omega)) c⟩
  | succ w' ih =>
    intro i u hi hs
    have u72 : u 72 = τ := (hs 72 (by omega)).trans et
    refine t157_6 ⟨fun c => absurd c (nI_nlt (a := 72) (b := i) (by omega) (by omega)), fun _ => m_lay u72 f (g i (by omega)) ⟨rfl, ?_⟩⟩
    have v72 : g_dk u (q_cell τ (q_e i (τ 1) le) (s + ln) (q_m (q_e i (τ 1) le) (s + ln))) (q_L τ (q_e i (τ 1) le) (s + ln)) 72 = τ := (g_dk_ne (by omega)).trans u72
    have z := ih (i + 1) (g_dk u (q_cell τ (q_e i (τ 1) le) (s + ln) (q_m (q_e i (τ 1) le) (s + ln))) (q_L τ (q_e i (τ 1) le) (s + ln))) (by omega) (fun a h1 => (g_dk_ne h1).trans (hs a h1))
    rw [show q_ct (fun t => q_op τ s le ln k t && !(cy && q_cl1 τ t)) (i + 1) = q_ct (fun t => q_op τ s le ln k t && !(cy && q_cl1 τ t)) i + (if (q_op τ s le ln k i && !(cy && q_cl1 τ i)) = true then 1 else 0) from rfl] at z
    refine m_kind0 hk8 ⟨_, rfl, m_cellOf hk8 ⟨_, rfl, ?_⟩⟩
    rw [v72, i3, c2]
    refine m_isOpen (τ := τ) (e := q_e i (τ 1) le) (n := s + ln) ⟨i1, i2⟩ (by omega) c1 q_lad_dk ⟨_, rfl, ?_⟩
    have eop : q_op τ s le ln k i = q_open (nI i0) (q_dark τ (q_e i (τ 1) le) (s + ln) c) i := by
      unfold q_op
      rw [i3, c2, q_cl (by omega)]
    have e112 : (112 : Int32) + nI i = nI (112 + i) := nI_add 112 i
    rw [eop] at z
    dsimp only
    rw [nI_1, nI_1, e112, q_cl (by omega), v72, Int32.add_zero]
    cases q : q_open (nI i0) (q_dark τ (q_e i (τ 1) le) (s + ln) c) i
    · rw [q, Bool.false_and, if_neg (by decide)] at z
      exact ⟨fun _ => z, fun y => absurd rfl y⟩
    · rw [q, Bool.true_and] at z
      refine ⟨fun y => absurd y (by decide), fun _ => ⟨fun y => ?_, fun y => ⟨vp_in_nI (by omega) (by omega), fun x => ?_, fun x => ?_⟩⟩⟩
      · cases cy
        · rw [Bool.false_and, Bool.not_false, if_pos rfl] at z; exact z
        · exact absurd y (by decide)
      · cases cy
        · exact absurd rfl y
        · unfold q_cl1 at z
          rw [decide_eq_true x, Bool.true_and, Bool.not_true, if_neg (by decide)] at z
          unfold q_cl1
          exact z
      · cases cy
        · exact absurd rfl y
        · have x' : q_cl1 τ i = false := decide_eq_false x
          rw [x', Bool.true_and, Bool.not_false, if_pos rfl] at z
          exact z
theorem m_slots {k : Nat} {s le ln : Int32} {cy : Bool} (f : WT τ) (et : σ 72 = τ) (hk : nI k < τ 6) (hk8 : k < 8) (g : ∀ t, t < 73 → q_rg (q_e t (τ 1) le) (s + ln)) (h : ∀ σ', (∀ a, a ≠ 75 → σ' a = σ a) → R (some (.int (nI (q_sl τ s le ln (fun t => cy && q_cl1 τ t) k)))) σ') : g_wp E (d + 3) 157 [.ref 68, .int (nI k), .int s, .int le, .int ln, .int (q_b cy)] σ R :=
  t157_0 (m_slots_l f et hk hk8 g h 73 0 σ (by omega) (fun _ _ => rfl))
theorem m_slotsNow {k : Nat} (f : WT τ) (et : σ 72 = τ) (hk : nI k < τ 6) (hk8 : k < 8) (h : ∀ σ', (∀ a, a ≠ 75 → σ' a = σ a) → R (some (.int (nI (q_sl τ (τ 4) (τ 2) (τ 3) (q_cl1 τ) k)))) σ') : g_wp E (d + 4) 158 [.ref 68, .int (nI k)] σ R := by
  refine t158_0 ?_
  rw [et]
  exact m_slots (cy := true) f et hk hk8 (fun t ht => q_rg_t f ht) (fun σ' k => ⟨_, rfl, h σ' k⟩)
end Q76
theorem q_rg_l {τ : Nat → Int32} {t : Nat} {le ln : Int32} (f : WT τ) (ht : t < 73) (h1 : -3 ≤ le.toInt ∧ le.toInt ≤ 3) (h2 : -3 ≤ ln.toInt ∧ ln.toInt ≤ 3) : q_rg (q_e t (τ 1) le) (τ 4 + ln) := by
  obtain ⟨w0, ⟨r, hr, er⟩, w2, w3, ⟨s, hs, es⟩, -⟩ := f
  rw [er, es]
  exact ⟨q_eb ht hr h1, q_nb hs h2⟩
/-- leans changed -/
def q_ln (τ : Nat → Int32) (le ln : Int32) : Nat → Int32 := upd (upd τ 2 le) 3 ln
theorem p_leans {E : g_E} (x1 x2 x3 : Int32) : g_pr E 90 171 [.int x1, .int x2, .int x3] := by
  refine ⟨fun μ => if x1.toInt < 0 ∨ (μ 72 6).toInt ≤ x1.toInt ∨ x2.toInt < -3 ∨ 3 < x2.toInt ∨ x3.toInt < -3 ∨ 3 < x3.toInt then -1000001 else nI (q_sl (μ 72) (μ 72 4) x2 x3 (q_cl1 (μ 72)) x1.toNatClampNeg) - nI (q_sl (μ 72) (μ 72 4) (μ 72 2) (μ 72 3) (q_cl1 (μ 72)) x1.toNatClampNeg), fun μ => μ, fun σ μ R hc hw h => ?_, fun σ R hw h => ?_, fun μ h => h⟩
  · dsimp only at h
    have e8 := hc.tr.2.2.2.2.2.2.2.1
    obtain ⟨n, n1, n2, n3, n4⟩ := hw.wt.2.2.2.2.2.1
    have e6 : (μ 72 6).toInt = n := by rw [n2, nI_toInt (by omega)]
    refine t90_0 (c_hasShop (Or.inl rfl) (fun a1 a2 => ⟨_, rfl, q_1 (c_isLean (fun a3 a4 => ⟨_, rfl, q_1 (c_isLean (fun a5 a6 => ⟨_, rfl, n_1 ?_⟩) (fun a5 => ⟨_, rfl, n_0 ?_⟩))⟩) (fun a3 => ⟨_, rfl, q_0 ?_⟩))⟩) (fun a1 => ⟨_, rfl, q_0 ?_⟩))
    · rw [e8] at a2
      repeat (first | rw [if_neg (by omega)] at h)
      obtain ⟨k, hk, rfl⟩ := q_ix (x := x1) (n := 8) (by omega) (by omega) (by omega)
      have hk' := q_lt.mpr a2
      rw [q_cl (by omega)] at h
      have l2 : -3 ≤ x2 ∧ x2 ≤ 3 := by
        rw [q_le, q_le, show ((-3 : Int32)).toInt = (-3 : Int) from by decide, show ((3 : Int32)).toInt = (3 : Int) from by decide]; exact ⟨a3, a4⟩
      have l3 : -3 ≤ x3 ∧ x3 ≤ 3 := by
        rw [q_le, q_le, show ((-3 : Int32)).toInt = (-3 : Int) from by decide, show ((3 : Int32)).toInt = (3 : Int) from by decide]; exact ⟨a5, a6⟩
      have e4 : upd (upd (μ 72) 2 x2) 3 x3 4 = μ 72 4 := (upd_n (by omega)).trans (upd_n (by omega))
      have f' : WT (q_ln (μ 72) x2 x3) := by
        unfold q_ln
        refine hw.wt.head (fun i a b _ => (upd_n b).trans (upd_n a)) ?_ ?_ (by rw [e4]; exact hw.wt.2.2.2.2.1) (by rw [e4])
        · rw [upd_n (by omega), upd_s]; exact l2
        · rw [upd_s]; exact l3
      refine c_become (Or.inr (Or.inl rfl)) (Or.inl rfl) (by omega) hc.tr.b01 ⟨rfl, t48_0 (Or.inr (Or.inl rfl)) (fun s es s2 es2 => ⟨rfl, ?_⟩)⟩
      have t21 : TR (g_bc σ 21 15) 21 (μ 72) := hc.tr.bc (by omega)
      have t2 : TR s2 21 (q_ln (μ 72) x2 x3) := by
        subst es; subst es2
        have kk : ∀ j, j ≠ 5 → j ≠ 6 → g_up (g_up (g_bc σ 21 15) 21 5 x2) 21 6 x3 21 j = g_bc σ 21 15 21 j := fun j h1 h2 => (g_up_n (by omega)).trans (g_up_n (by omega))
        unfold q_ln
        refine t21.head (fun a h _ => (g_up_ne (by omega)).trans (g_up_ne (by omega))) (kk _ (by omega) (by omega)) (kk _ (by omega) (by omega)) (kk _ (by omega) (by omega)) (kk _ (by omega) (by omega)) (kk _ (by omega) (by omega)) (fun i h2 h3 _ => (upd_n h3).trans (upd_n h2)) ?_ ?_ ?_ ?_
        · rw [kk _ (by omega) (by omega), upd_n (by omega), upd_n (by omega)]; exact t21.1
        · rw [kk _ (by omega) (by omega), upd_n (by omega), upd_n (by omega)]; exact t21.2.2.2.1
        · rw [g_up_n (by omega), g_up_s, upd_n (by omega), upd_s]
        · rw [g_up_s, upd_s]
      have fr : ∀ a, (a < 21 ∨ 26 < a) → s2 a = σ a := fun a ha => by
        rw [es2, es]; exact (g_up_ne (by omega)).trans ((g_up_ne (by omega)).trans (g_bc_ne (by omega)))
      have hk6 : nI k < q_ln (μ 72) x2 x3 6 := by unfold q_ln; rw [upd_n (by omega), upd_n (by omega)]; exact hk'
      have eqv : q_eqv (q_ln (μ 72) x2 x3) (μ 72) := fun i hi => (upd_n (by omega)).trans (upd_n (by omega))
      refine c_slots (d := 15) (Or.inr (Or.inl rfl)) t2 f' hk6 hk (fun s3 k3 => ⟨_, rfl, c_slots (d := 15) (Or.inl rfl) (hc.tr.low (fun a q1 q2 => (k3 a (by omega) (by omega)).trans (fr a (by omega)))) hw.wt hk' hk (fun s4 k4 => ⟨_, rfl, ?_⟩)⟩)
      rw [q_sl_c hk eqv hw.wt]
      have e2 : q_ln (μ 72) x2 x3 2 = x2 := by unfold q_ln; rw [upd_n (by omega), upd_s]
      have e3 : q_ln (μ 72) x2 x3 3 = x3 := by unfold q_ln; rw [upd_s]
      have e5 : q_ln (μ 72) x2 x3 4 = μ 72 4 := e4
      have ecl : q_cl1 (q_ln (μ 72) x2 x3) = q_cl1 (μ 72) := by
        funext t
        unfold q_cl1 q_ln
        rw [upd_n (by omega), upd_n (by omega)]
      rw [e2, e3, e5, ecl]
      exact h s4 (hc.low (fun a q1 q2 q3 q4 q5 => (k4 a (by omega) (by omega)).trans ((k3 a (by omega) (by omega)).trans (fr a (by omega))))) (fun a ha => (k4 a (by omega) (by omega)).trans ((k3 a (by omega) (by omega)).trans (fr a (by omega))))
    · rw [e8] at a2
      repeat (first | rw [if_pos (by omega)] at h | rw [if_neg (by omega)] at h)
      exact h σ hc (fun _ _ => rfl)
    · rw [e8] at a2
      repeat (first | rw [if_pos (by omega)] at h | rw [if_neg (by omega)] at h)
      exact h σ hc (fun _ _ => rfl)
    · rw [e8] at a1
      repeat (first | rw [if_pos (by omega)] at h | rw [if_neg (by omega)] at h)
      exact h σ hc (fun _ _ => rfl)
  · dsimp only at h
    obtain ⟨n, n1, n2, n3, n4⟩ := hw.wt.2.2.2.2.2.1
    have e6 : (mo σ 72 6).toInt = n := by rw [n2, nI_toInt (by omega)]
    refine t171_0 (fun s es => m_isShop ⟨n, n1, by rw [es]; exact n2⟩ (fun a1 a2 => ⟨_, rfl, q_1 (m_isLean (fun a3 a4 => ⟨_, rfl, q_1 (m_isLean (fun a5 a6 => ⟨_, rfl, n_1 ?_⟩) (fun a5 => ⟨_, rfl, n_0 ?_⟩))⟩) (fun a3 => ⟨_, rfl, q_0 ?_⟩))⟩) (fun a1 => ⟨_, rfl, q_0 ?_⟩))
    all_goals subst es
    · change x1.toInt < (mo σ 72 6).toInt at a2
      repeat (first | rw [if_neg (by omega)] at h)
      obtain ⟨k, hk, rfl⟩ := q_ix (x := x1) (n := 8) (by omega) (by omega) (by omega)
      have hk' := q_lt.mpr a2
      rw [q_cl (by omega)] at h
      have e72 : g_up σ 68 0 0 72 = mo σ 72 := rfl
      rw [show g_up σ 68 0 0 72 4 = mo σ 72 4 from rfl]
      refine m_slots (d := 16) (cy := true) hw.wt e72 hk' hk (fun t ht => q_rg_l hw.wt ht ⟨a3, a4⟩ ⟨a5, a6⟩) (fun s2 k2 => ⟨_, rfl, m_slotsNow (d := 15) hw.wt ((k2 72 (by omega)).trans e72) hk' hk (fun s3 k3 => ⟨_, rfl, ?_⟩)⟩)
      exact h s3 (fun a ha => (k3 a (by omega)).trans ((k2 a (by omega)).trans (g_up_ne (by omega)))) ((((Sc.rf.up rfl).d75 k2).d75 k3).ce)
    · change x1.toInt < (mo σ 72 6).toInt at a2
      repeat (first | rw [if_pos (by omega)] at h | rw [if_neg (by omega)] at h)
      exact h _ (lo_up (fun _ _ => rfl) (by omega)) (Sc.rf.up rfl).ce
    · change x1.toInt < (mo σ 72 6).toInt at a2
      repeat (first | rw [if_pos (by omega)] at h | rw [if_neg (by omega)] at h)
      exact h _ (lo_up (fun _ _ => rfl) (by omega)) (Sc.rf.up rfl).ce
    · change x1.toInt < 0 ∨ (mo σ 72 6).toInt ≤ x1.toInt at a1
      repeat (first | rw [if_pos (by omega)] at h | rw [if_neg (by omega)] at h)
      exact h _ (lo_up (fun _ _ => rfl) (by omega)) (Sc.rf.up rfl).ce
