/-! pairs: shadow -/
abbrev q_te (t : Nat) (τ : Nat → Int32) : Int32 := q_e t (τ 1) (τ 2)
abbrev q_tn (τ : Nat → Int32) : Int32 := τ 4 + τ 3
theorem q_rg_t {τ : Nat → Int32} {t : Nat} (f : WT τ) (ht : t < 73) : q_rg (q_te t τ) (q_tn τ) := by
  obtain ⟨w0, ⟨r, hr, er⟩, w2, w3, ⟨s, hs, es⟩, -⟩ := f
  unfold q_te q_tn
  rw [er, es]
  exact ⟨q_eb ht hr (q_lv w2), q_nb hs (q_lv w3)⟩
theorem q_abs {e : Int32} (h : -11 ≤ e.toInt ∧ e.toInt ≤ 11) : (if 0 ≤ e then e else 0 - e) = nI e.toInt.natAbs := by
  apply q_inj
  rw [nI_toInt (by omega)]
  by_cases c : 0 ≤ e
  · rw [if_pos c]
    simp only [q_le, Int32.reduceToInt] at c
    omega
  · rw [if_neg c]
    simp only [q_le, Int32.reduceToInt] at c
    have z : ((0 : Int32)).toInt = 0 := by decide
    rw [q_sub (by omega) (by omega)]
    omega
theorem q_mx {e n : Int32} (g : q_rg e n) : (if nI e.toInt.natAbs < nI n.toInt.natAbs then nI n.toInt.natAbs else nI e.toInt.natAbs) = nI (q_m e n) := by
  obtain ⟨g1, g2⟩ := g
  unfold q_m
  by_cases c : nI e.toInt.natAbs < nI n.toInt.natAbs
  · rw [if_pos c]
    rw [nI_ltI (by omega) (by omega)] at c
    rw [show max e.toInt.natAbs n.toInt.natAbs = n.toInt.natAbs by omega]
  · rw [if_neg c]
    rw [nI_ltI (by omega) (by omega)] at c
    rw [show max e.toInt.natAbs n.toInt.natAbs = e.toInt.natAbs by omega]
/-- a town of the class as the shadow sees it -/
def q_see (σ : g_S) (b : Nat) (τ : Nat → Int32) : Prop := σ b 1 = nI (q_x τ) ∧ σ b 2 = nI (q_y τ) ∧ σ b 3 = τ 1 ∧ σ b 4 = τ 4 ∧ σ b 5 = τ 2 ∧ σ b 6 = τ 3 ∧ ∀ c, c < 81 → (σ (b + 1) c = 2 ↔ τ (7 + c) = 1)
theorem TR.see {σ : g_S} {b : Nat} {τ : Nat → Int32} (w : TR σ b τ) (f : WT τ) : q_see σ b τ := by
  obtain ⟨w0, ⟨x, y, hx, hy, e1, e2, e3⟩, w3, w4, w5, w6, w7, w8, w9, w10, w11⟩ := w
  have ex : q_x τ = x := by unfold q_x; rw [e3, q_cl (by omega)]; omega
  have ey : q_y τ = y := by unfold q_y; rw [e3, q_cl (by omega)]; omega
  refine ⟨by rw [ex]; exact e1, by rw [ey]; exact e2, w3, w4, w5, w6, fun c hc => ?_⟩
  obtain ⟨g1, g2, g3, g4⟩ := w9 c hc
  rcases f.2.2.2.2.2.2.1 c hc with q | q | q
  · rw [q]
    by_cases s : q_shopAt τ c
    · rw [g3 q s]; exact ⟨fun z => absurd z (by decide), fun z => absurd z (by decide)⟩
    · rw [g4 q s]; exact ⟨fun z => absurd z (by decide), fun z => absurd z (by decide)⟩
  · rw [q, g2 q]; exact ⟨fun _ => rfl, fun _ => rfl⟩
  · rw [q, g1 q]; exact ⟨fun z => absurd z (by decide), fun z => absurd z (by decide)⟩
theorem g_Tw.rg {b : Nat} (h : g_Tw b) : 15 ≤ b ∧ b ≤ 34 := by
  rcases h with rfl | rfl | rfl | rfl <;> omega
section Q74
variable {E : g_E} {d : Nat} {R : g_R} {σ : g_S}
theorem c_cellAt {X Y : Int32} (hp : ∀ a b, a ≤ 8 → b ≤ 8 → X = nI a → Y = nI b → R (some (.int (nI (a + 9 * b)))) σ) (hn : X.toInt < 0 ∨ 8 < X.toInt ∨ Y.toInt < 0 ∨ 8 < Y.toInt → R (some (.int (-1000000))) σ) : g_wp E (d + 1) 106 [.int X, .int Y] σ R := by
  refine t106_0 ⟨fun c => hn ?_, fun c => ⟨fun c2 => hn ?_, fun c2 => ⟨fun c3 => hn ?_, fun c3 => ⟨fun c4 => hn ?_, fun c4 => ?_⟩⟩⟩⟩
  all_goals simp only [q_lt, q_le, Int32.reduceToInt] at *
  · omega
  · omega
  · omega
  · omega
  · obtain ⟨a, ha, rfl⟩ := q_ix (x := X) (n := 9) (by omega) (by omega) (by omega)
    obtain ⟨b, hb, rfl⟩ := q_ix (x := Y) (n := 9) (by omega) (by omega) (by omega)
    rw [show (9 : Int32) = nI 9 from rfl, pk_mul, nI_add]
    exact hp a b (by omega) (by omega) rfl rfl
theorem c_isWall {b c : Nat} (hb : g_Tw b) (hc : c < 81) (hp : σ (b + 1) c = 2 → R (some (.int 1)) σ) (hn : σ (b + 1) c ≠ 2 → R (some (.int 0)) σ) : g_wp E (d + 1) 54 [.ref b, .int (nI c)] σ R := by
  refine t54_0 hb ⟨vp_in_nI hc (by omega), ?_⟩
  rw [q_cl (by omega)]
  exact ⟨hn, fun c => hp (Classical.not_not.mp c)⟩
theorem q_see.sh {b : Nat} {τ : Nat → Int32} {cell : Nat → Nat} {l : Nat} (hb : g_Tw b) (h : q_see σ b τ) : q_see (g_sh σ cell l) b τ := by
  have := hb.rg
  unfold q_see at h ⊢
  rw [g_sh_ne (a := b) (by omega) (by omega), g_sh_ne (a := b + 1) (by omega) (by omega)]
  exact h
theorem c_throw_l {b : Nat} {τ : Nat → Int32} {e n : Int32} (hb : g_Tw b) (w : q_see σ b τ) (hx : q_x τ < 9) (hy : q_y τ < 9) (g : q_rg e n) : ∀ f k, 1 ≤ k → k ≤ 9 → k + f = q_m e n + 1 → R none (g_sh σ (q_cell τ e n (q_m e n)) (q_run (q_ok τ e n (q_m e n)) f k)) → g_g E (g_wp E (d + 1)) 5 68 [some (.ref 41), some (.ref b), none, some (.int e), some (.int n), some (.int (nI (q_m e n))), some (.int (nI k)), none] [] (g_sh σ (q_cell τ e n (q_m e n)) k) R := by
  have hm : q_m e n ≤ 11 := by
    obtain ⟨g1, g2⟩ := g
    unfold q_m; omega
  have hb' := hb.rg
  intro f
  induction f with
  | zero =>
    intro k h1 h9 hk h
    exact t5_68 hb ⟨fun _ => h, fun c => absurd (nI_lt (by omega) (by omega)) c⟩
  | succ f ih =>
    intro k h1 h9 hk h
    unfold q_run at h
    refine t5_68 hb ⟨fun c => absurd c (nI_nlt (by omega) (by omega)), fun _ => ⟨fun c => ?_, fun c => ?_⟩⟩
    · rw [g_sh_41, show (9 : Int32) = nI 9 from rfl, nI_leI (by omega) (by omega)] at c
      have e9 : k = 9 := by omega
      subst e9
      rw [q_ok9 hx hy g (by omega), if_neg (by decide)] at h
      exact h
    · rw [g_sh_41, show (9 : Int32) = nI 9 from rfl, nI_leI (by omega) (by omega)] at c
      obtain ⟨s1, s2, s3, s4, s5, s6, s7⟩ := w.sh (cell := q_cell τ e n (q_m e n)) (l := k) hb
      have ok := q_ok_iff (τ := τ) (e := e) (n := n) (m := q_m e n) (k := k)
      refine ⟨nI_ne0 (by omega) (by omega), nI_ne0 (by omega) (by omega), ?_⟩
      rw [s1, s2]
      refine c_cellAt (fun a b' ha hb2 eX eY => ⟨_, rfl, fun c2 => ?_, fun c2 => c_isWall hb (by omega) (fun c3 => ⟨_, rfl, q_1 ?_⟩) (fun c3 => ⟨_, rfl, q_0 ?_⟩)⟩) (fun c2 => ⟨_, rfl, fun _ => ?_, fun c3 => absurd rfl c3⟩)
      · exfalso
        have := congrArg Int32.toInt c2
        rw [nI_toInt (by omega), show ((-1000000 : Int32)).toInt = (-1000000 : Int) from by decide] at this
        omega
      · have ec : q_cell τ e n (q_m e n) k = a + 9 * b' := by
          unfold q_cell q_X q_Y
          rw [if_neg (by omega), eX, eY, q_cl (by omega), q_cl (by omega)]
        rw [s7 _ (by omega), ← ec] at c3
        rw [if_neg (fun z => (ok.mp z).2 c3)] at h
        exact h
      · have ec : q_cell τ e n (q_m e n) k = a + 9 * b' := by
          unfold q_cell q_X q_Y
          rw [if_neg (by omega), eX, eY, q_cl (by omega), q_cl (by omega)]
        have c3 : ¬ τ (7 + (a + 9 * b')) = 1 := fun z => c3 ((s7 _ (by omega)).mpr z)
        rw [if_pos (ok.mpr ⟨q_inn_iff.mpr (by
          unfold q_X q_Y
          rw [eX, eY, nI_toInt (by omega), nI_toInt (by omega)]
          omega), by rw [ec]; exact c3⟩)] at h
        rw [g_sh_41, q_cl (by omega), nI_1]
        refine ⟨vp_in_nI (by omega) (by omega), fun s es s' es' => ?_⟩
        rw [es', es, ← ec, g_sh_s rfl]
        exact ih (k + 1) (by omega) (by omega) (by omega) h
      · rw [if_neg (fun z => by
          have := q_inn_iff.mp (ok.mp z).1
          unfold q_X q_Y at this
          omega)] at h
        exact h
theorem c_throw {b t : Nat} {τ : Nat → Int32} (hb : g_Tw b) (w : TR σ b τ) (f : WT τ) (ht : t < 73) (h : R none (g_sh σ (q_cell τ (q_te t τ) (q_tn τ) (q_m (q_te t τ) (q_tn τ))) (q_L τ (q_te t τ) (q_tn τ)))) : g_wp E (d + 2) 5 [.ref 41, .ref b, .int (nI t)] σ R := by
  have s := w.see f
  obtain ⟨s1, s2, s3, s4, s5, s6, s7⟩ := id s
  obtain ⟨hx, hy, e0⟩ := q_xy f
  have g := q_rg_t f ht
  refine t5_0 hb ?_
  rw [s1, s2, s3, s4, s5, s6]
  refine c_cellAt (fun a b' ha hb2 eX eY => ⟨_, rfl, fun s4' es4 s5' es5 => ?_⟩) (fun c => ?_)
  · have ea : q_x τ = a := (nI_eq (by omega) (by omega)).mp eX
    have eb : q_y τ = b' := (nI_eq (by omega) (by omega)).mp eY
    have a1 : (if 0 ≤ (nI t - 36) * τ 1 / 36 + τ 2 then (nI t - 36) * τ 1 / 36 + τ 2 else 0 - ((nI t - 36) * τ 1 / 36 + τ 2)) = nI (q_te t τ).toInt.natAbs := q_abs g.1
    have a2 : (if 0 ≤ τ 4 + τ 3 then τ 4 + τ 3 else 0 - (τ 4 + τ 3)) = nI (q_tn τ).toInt.natAbs := q_abs g.2
    rw [a1, a2, q_mx g]
    rw [es4, g_sh_1 (cell := q_cell τ (q_te t τ) (q_tn τ) (q_m (q_te t τ) (q_tn τ))) (by
      unfold q_cell
      rw [if_pos rfl, ea, eb])] at es5
    subst es5
    exact c_throw_l hb s hx hy g _ 1 (by omega) (by omega) (by omega) h
  · exfalso
    rw [nI_toInt (by omega), nI_toInt (by omega)] at c
    omega
theorem c_isIn_l {O : g_O} {cell : Nat → Nat} {l c : Nat} (hl : l ≤ 9) (hc : c < 81) (h81 : ∀ j, j < l → cell j < 81) (e1 : σ 41 1 = nI l) (e2 : ∀ j, j < l → σ 42 j = nI (cell j)) (hp : q_mem cell l c = true → R (some (.int 1)) σ) (hn : ¬ q_mem cell l c = true → R (some (.int 0)) σ) : ∀ f k, k + f = l → (∀ j, j < k → cell j ≠ c) → g_g E O 6 2 [some (.ref 41), some (.int (nI c)), some (.int (nI k))] [] σ R := by
  intro f
  induction f with
  | zero =>
    intro k hk hj
    have e : k = l := by omega
    subst e
    refine t6_2 ⟨fun _ => hn (fun z => ?_), fun q => absurd (by rw [e1]; exact nI_le (Nat.le_refl _) (by omega)) q⟩
    obtain ⟨j, h1, h2⟩ := q_mem_iff.mp z
    exact hj j h1 h2
  | succ f ih =>
    intro k hk hj
    refine t6_2 ⟨fun q => absurd q (by rw [e1]; exact nI_ge (by omega) (by omega)), fun _ => ⟨vp_in_nI (by omega) (by omega), ?_⟩⟩
    rw [q_cl (by omega), e2 k (by omega), nI_1]
    have := h81 k (by omega)
    refine ⟨fun q => ih (k + 1) (by omega) (fun j hjk => ?_), fun q => hp (q_mem_iff.mpr ⟨k, by omega, (nI_eq (by omega) (by omega)).mp (Classical.not_not.mp q)⟩)⟩
    by_cases z : j = k
    · subst z; exact fun y => q (by rw [y])
    · exact hj j (by omega)
theorem c_isIn {cell : Nat → Nat} {l c : Nat} (hl : l ≤ 9) (hc : c < 81) (h81 : ∀ j, j < l → cell j < 81) (e1 : σ 41 1 = nI l) (e2 : ∀ j, j < l → σ 42 j = nI (cell j)) (hp : q_mem cell l c = true → R (some (.int 1)) σ) (hn : ¬ q_mem cell l c = true → R (some (.int 0)) σ) : g_wp E (d + 1) 6 [.ref 41, .int (nI c)] σ R :=
  t6_0 (c_isIn_l hl hc h81 e1 e2 hp hn l 0 (by omega) (fun j hj => absurd hj (Nat.not_lt_zero j)))
theorem m_abs {e : Int32} (h : -11 ≤ e.toInt ∧ e.toInt ≤ 11) (k : R (some (.int (nI e.toInt.natAbs))) σ) : g_wp E (d + 1) 147 [.int e] σ R := by
  have := q_abs h
  refine t147_0 ⟨fun c => ?_, fun c => ?_⟩
  · rw [if_pos c] at this
    rw [this]; exact k
  · rw [if_neg c, Int32.zero_sub] at this
    rw [this]; exact k
theorem m_lay_l2 {τ : Nat → Int32} {e n : Int32} (et : σ 72 = τ) (hx : q_x τ < 9) (hy : q_y τ < 9) (e0 : τ 0 = nI (q_x τ + 9 * q_y τ)) (g : q_rg e n) : ∀ f k, 1 ≤ k → k + f = q_m e n + 1 → R none (g_dk σ (q_cell τ e n (q_m e n)) (q_run (q_ok τ e n (q_m e n)) f k)) → g_g E (g_wp E (d + 1)) 148 94 [some (.ref 68), none, none, none, none, some (.int e), some (.int n), some (.int (nI (q_m e n))), some (.int (nI k)), none, none] [] (g_dk σ (q_cell τ e n (q_m e n)) k) R := by
  have hm : q_m e n ≤ 11 := by
    obtain ⟨g1, g2⟩ := g
    unfold q_m; omega
  intro f
  induction f with
  | zero =>
    intro k h1 hk h
    exact t148_94 ⟨fun _ => h, fun c => absurd (nI_lt (by omega) (by omega)) c⟩
  | succ f ih =>
    intro k h1 hk h
    unfold q_run at h
    have ok := q_ok_iff (τ := τ) (e := e) (n := n) (m := q_m e n) (k := k)
    have e72 : g_dk σ (q_cell τ e n (q_m e n)) k 72 = τ := (g_dk_ne (by omega)).trans et
    have ex : τ 0 - τ 0 / 9 * 9 = nI (q_x τ) := by
      rw [e0, show (9 : Int32) = nI 9 from rfl, pk_rem (by omega) (by omega) (by omega), show (q_x τ + 9 * q_y τ) % 9 = q_x τ by omega]
    have ey : τ 0 / 9 = nI (q_y τ) := by
      rw [e0, show (9 : Int32) = nI 9 from rfl, pk_div (by omega) (by omega) (by omega), show (q_x τ + 9 * q_y τ) / 9 = q_y τ by omega]
    refine t148_94 ⟨fun c => absurd c (nI_nlt (by omega) (by omega)), fun _ => ⟨nI_ne0 (by omega) (by omega), nI_ne0 (by omega) (by omega), ?_⟩⟩
    rw [e72, ex, ey]
    change g_wp E (d + 1) 107 [.long (q_X τ e (q_m e n) k).toInt64, .long 0, .long 8] _ _
    refine m_in 0 8 rfl rfl (fun x1 x2 => ⟨_, rfl, q_1 ?_⟩) (fun x1 => ⟨_, rfl, q_0 ?_⟩)
    · change g_wp E (d + 1) 107 [.long (q_Y τ n (q_m e n) k).toInt64, .long 0, .long 8] _ _
      refine m_in 0 8 rfl rfl (fun y1 y2 => ⟨_, rfl, q_1 ?_⟩) (fun y1 => ⟨_, rfl, q_0 ?_⟩)
      · have hin : q_inn τ e n (q_m e n) k = true := q_inn_iff.mpr ⟨x1, x2, y1, y2⟩
        obtain ⟨a, b, ha, hb, eX, eY, ec⟩ := q_inn_c h1 hin
        change vp_in ((7 : Int32) + q_X τ e (q_m e n) k + 9 * q_Y τ n (q_m e n) k) 185 ∧ (¬ (g_dk σ (q_cell τ e n (q_m e n)) k 72 ((7 : Int32) + q_X τ e (q_m e n) k + 9 * q_Y τ n (q_m e n) k).toNatClampNeg = 1) → vp_in (q_X τ e (q_m e n) k + 9 * q_Y τ n (q_m e n) k) 81 ∧ ∀ s28 : g_S, s28 = g_up _ 75 ((q_X τ e (q_m e n) k + 9 * q_Y τ n (q_m e n) k).toNatClampNeg) 1 → _) ∧ (¬ ¬ (g_dk σ (q_cell τ e n (q_m e n)) k 72 ((7 : Int32) + q_X τ e (q_m e n) k + 9 * q_Y τ n (q_m e n) k).toNatClampNeg = 1) → _)
        have e7 : (7 : Int32) + nI a + 9 * nI b = nI (7 + (a + 9 * b)) := by
          rw [show (7 : Int32) = nI 7 from rfl, show (9 : Int32) = nI 9 from rfl, pk_mul, nI_add, nI_add, Nat.add_assoc]
        have e8 : nI a + 9 * nI b = nI (a + 9 * b) := by
          rw [show (9 : Int32) = nI 9 from rfl, pk_mul, nI_add]
        rw [e72, eX, eY, e7, e8, q_cl (by omega), q_cl (by omega), nI_1]
        refine ⟨vp_in_nI (by omega) (by omega), fun c => ⟨vp_in_nI (by omega) (by omega), fun s es => ?_⟩, fun c => ?_⟩
        · rw [if_pos (ok.mpr ⟨hin, by rw [ec]; exact c⟩)] at h
          rw [es, ← ec, g_dk_s (by omega)]
          exact ih (k + 1) (by omega) (by omega) h
        · rw [if_neg (fun z => (ok.mp z).2 (by rw [ec]; exact Classical.not_not.mp c))] at h
          exact h
      · rw [if_neg (fun z => by have := q_inn_iff.mp (ok.mp z).1; omega)] at h
        exact h
    · rw [if_neg (fun z => by have := q_inn_iff.mp (ok.mp z).1; omega)] at h
      exact h
theorem m_lay_l1 {O : g_O} {c0 : Nat} {t x2 x3 x4 : Int32} (hc : c0 < 81) (e0 : σ 72 0 = nI c0) (h : g_g E O 148 3 [some (.ref 68), some (.int t), some (.int x2), some (.int x3), some (.int x4), some (.int (nI 81)), none, none, none, none, none] [] (g_di σ c0 81) R) : ∀ f i, i + f = 81 → g_g E O 148 3 [some (.ref 68), some (.int t), some (.int x2), some (.int x3), some (.int x4), some (.int (nI i)), none, none, none, none, none] [] (g_di σ c0 i) R := by
  intro f
  induction f with
  | zero =>
    intro i hi
    have e : i = 81 := by omega
    subst e
    exact h
  | succ f ih =>
    intro i hi
    have e72 : g_di σ c0 i 72 0 = nI c0 := (congrFun (g_di_ne (by omega)) 0).trans e0
    refine t148_3 ⟨fun c => absurd c (nI_ge (b := 81) (by omega) (by omega)), fun _ => ?_⟩
    rw [e72, q_cl (by omega), nI_1]
    refine ⟨fun c => ⟨vp_in_nI (by omega) (by omega), fun s es => ?_⟩, fun c => ⟨vp_in_nI (by omega) (by omega), fun s es => ?_⟩⟩
    · rw [g_di_s (by rw [if_neg (fun z => c (by rw [z]))])] at es
      rw [es]; exact ih (i + 1) (by omega)
    · rw [g_di_s (by rw [if_pos ((nI_eq (by omega) (by omega)).mp (Classical.not_not.mp c))])] at es
      rw [es]; exact ih (i + 1) (by omega)
theorem m_lay {t : Nat} {τ : Nat → Int32} {s le ln : Int32} (et : σ 72 = τ) (f : WT τ) (g : q_rg (q_e t (τ 1) le) (s + ln)) (h : R none (g_dk σ (q_cell τ (q_e t (τ 1) le) (s + ln) (q_m (q_e t (τ 1) le) (s + ln))) (q_L τ (q_e t (τ 1) le) (s + ln)))) : g_wp E (d + 2) 148 [.ref 68, .int (nI t), .int s, .int le, .int ln] σ R := by
  obtain ⟨hx, hy, e0⟩ := q_xy f
  have e0' : σ 72 0 = nI (q_x τ + 9 * q_y τ) := by rw [et]; exact e0
  refine t148_0 ?_
  have z := m_lay_l1 (E := E) (O := g_wp E (d + 1)) (σ := σ) (R := R) (t := nI t) (x2 := s) (x3 := le) (x4 := ln) (show q_x τ + 9 * q_y τ < 81 by omega) e0' ?_ 81 0 (by omega)
  · rw [g_di_0] at z
    exact z
  · have ed : g_di σ (q_x τ + 9 * q_y τ) 81 = g_dk σ (q_cell τ (q_e t (τ 1) le) (s + ln) (q_m (q_e t (τ 1) le) (s + ln))) 1 := by
      rw [← g_di_81]
      unfold q_cell
      rw [if_pos rfl]
    rw [ed]
    have e72 : g_dk σ (q_cell τ (q_e t (τ 1) le) (s + ln) (q_m (q_e t (τ 1) le) (s + ln))) 1 72 = τ := (g_dk_ne (by omega)).trans et
    refine t148_3 ⟨fun _ => ?_, fun c => absurd (nI_le (a := 81) (b := 81) (by omega) (by omega)) c⟩
    rw [e72]
    change g_wp E (d + 1) 147 [.int (q_e t (τ 1) le)] _ _
    have fin := m_lay_l2 (E := E) (d := d) (R := R) et hx hy e0 g _ 1 (by omega) (by omega) h
    refine m_abs g.1 ⟨_, rfl, m_abs g.2 ⟨_, rfl, fun c => m_abs g.2 ⟨_, rfl, ?_⟩, fun c => ?_⟩⟩
    · rw [nI_leI (by have := g.1; omega) (by have := g.2; omega)] at c
      have em : (s + ln).toInt.natAbs = q_m (q_e t (τ 1) le) (s + ln) := by unfold q_m; omega
      rw [em]; exact fin
    · change g_wp E (d + 1) 147 [.int (q_e t (τ 1) le)] _ _
      refine m_abs g.1 ⟨_, rfl, ?_⟩
      rw [nI_leI (by have := g.1; omega) (by have := g.2; omega)] at c
      have em : (q_e t (τ 1) le).toInt.natAbs = q_m (q_e t (τ 1) le) (s + ln) := by unfold q_m; omega
      rw [em]; exact fin
theorem m_layNow {t : Nat} {τ : Nat → Int32} (et : σ 72 = τ) (f : WT τ) (ht : t < 73) (h : R none (g_dk σ (q_cell τ (q_te t τ) (q_tn τ) (q_m (q_te t τ) (q_tn τ))) (q_L τ (q_te t τ) (q_tn τ)))) : g_wp E (d + 3) 149 [.ref 68, .int (nI t)] σ R := by
  refine t149_0 ?_
  have e4 : σ 72 4 = τ 4 := by rw [et]
  have e2 : σ 72 2 = τ 2 := by rw [et]
  have e3 : σ 72 3 = τ 3 := by rw [et]
  rw [e4, e2, e3]
  exact m_lay et f (q_rg_t f ht) ⟨rfl, h⟩
end Q74
theorem lo_dk {σ σ1 : g_S} {cell : Nat → Nat} {l : Nat} (h : ∀ b, b < 68 → σ1 b = σ b) : ∀ b, b < 68 → g_dk σ1 cell l b = σ b := fun b hb => (g_dk_ne (by omega)).trans (h b hb)
theorem Sc.dk {σ σ1 : g_S} {cell : Nat → Nat} {l : Nat} (h : Sc σ1 σ) : Sc (g_dk σ1 cell l) σ := fun a j q => by
  have : a ≠ 75 := by
    have q' := q
    unfold q_can at q'
    simp only [Bool.or_eq_true, Bool.and_eq_true, beq_iff_eq] at q'
    omega
  rw [congrFun (g_dk_ne this) j]
  exact h a j q
theorem p_shadow {E : g_E} (x1 x2 : Int32) : g_pr E 82 150 [.int x1, .int x2] := by
  refine ⟨fun μ => if (μ 72 4).toInt ≤ 0 then -1000002 else if x1.toInt < 0 ∨ 72 < x1.toInt ∨ x2.toInt < 0 ∨ 80 < x2.toInt then -1000001 else if q_dark (μ 72) (q_te x1.toNatClampNeg (μ 72)) (q_tn (μ 72)) x2.toNatClampNeg = true then 1 else 0, fun μ => μ, fun σ μ R hc hw h => ?_, fun σ R hw h => ?_, fun μ h => h⟩
  · have ht := q_there hc hw
    dsimp only at h
    refine t82_0 ⟨fun c => c_isSlot (fun a1 a2 => ⟨_, rfl, q_1 (c_isCell (fun a3 a4 => ⟨_, rfl, n_1 ?_⟩) (fun a3 => ⟨_, rfl, n_0 ?_⟩))⟩) (fun a1 => ⟨_, rfl, q_0 ?_⟩), fun c => ?_⟩
    · rw [ht] at c
      obtain ⟨t, ht', rfl⟩ := q_ix (x := x1) (n := 73) (by omega) (by omega) (by omega)
      obtain ⟨cc, hcc, rfl⟩ := q_ix (x := x2) (n := 81) (by omega) (by omega) (by omega)
      rw [q_cl (by omega), q_cl (by omega)] at h
      repeat (first | rw [if_neg (by omega)] at h)
      obtain ⟨hx, hy, e0⟩ := q_xy hw.wt
      have g := q_rg_t (t := t) hw.wt ht'
      refine c_throw (d := 17) (Or.inl rfl) hc.tr hw.wt ht' ⟨rfl, ?_⟩
      have z := h (g_sh σ (q_cell (μ 72) (q_te t (μ 72)) (q_tn (μ 72)) (q_m (q_te t (μ 72)) (q_tn (μ 72)))) (q_L (μ 72) (q_te t (μ 72)) (q_tn (μ 72)))) (hc.low (fun a _ _ _ _ _ => g_sh_ne (by omega) (by omega))) (fun a ha => g_sh_ne (by omega) (by omega))
      unfold q_dark at z
      refine c_isIn (q_L9 hx hy g) hcc (fun j hj => q_cell81 hx hy hj) g_sh_41 (fun j hj => g_sh_42 hj) (fun q => ⟨_, rfl, q_1 ?_⟩) (fun q => ⟨_, rfl, q_0 ?_⟩)
      · rw [if_pos q] at z; exact z
      · rw [if_neg q] at z; exact z
    · rw [ht] at c
      repeat (first | rw [if_pos (by omega)] at h | rw [if_neg (by omega)] at h)
      exact h σ hc (fun _ _ => rfl)
    · rw [ht] at c
      repeat (first | rw [if_pos (by omega)] at h | rw [if_neg (by omega)] at h)
      exact h σ hc (fun _ _ => rfl)
    · rw [ht] at c
      repeat (first | rw [if_pos (by omega)] at h | rw [if_neg (by omega)] at h)
      exact h σ hc (fun _ _ => rfl)
  · dsimp only at h
    refine t150_0 (fun s es => m_isThere (fun h4 => ⟨_, rfl, n_1 (m_isSlot (fun a1 a2 => ⟨_, rfl, q_1 (m_isCell (fun a3 a4 => ⟨_, rfl, n_1 ?_⟩) (fun a3 => ⟨_, rfl, n_0 ?_⟩))⟩) (fun a1 => ⟨_, rfl, q_0 ?_⟩))⟩) (fun h4 => ⟨_, rfl, n_0 ?_⟩))
    all_goals subst es
    · change 0 < (mo σ 72 4).toInt at h4
      obtain ⟨t, ht', rfl⟩ := q_ix (x := x1) (n := 73) (by omega) (by omega) (by omega)
      obtain ⟨cc, hcc, rfl⟩ := q_ix (x := x2) (n := 81) (by omega) (by omega) (by omega)
      rw [q_cl (by omega), q_cl (by omega)] at h
      rw [q_cl (by omega)]
      repeat (first | rw [if_neg (by omega)] at h)
      have e72 : g_up σ 68 0 0 72 = mo σ 72 := rfl
      refine m_layNow (d := 16) e72 hw.wt ht' ⟨rfl, vp_in_nI hcc (by omega), ?_⟩
      rw [g_dk_75 hcc]
      have z := h (g_dk (g_up σ 68 0 0) (q_cell (mo σ 72) (q_te t (mo σ 72)) (q_tn (mo σ 72)) (q_m (q_te t (mo σ 72)) (q_tn (mo σ 72)))) (q_L (mo σ 72) (q_te t (mo σ 72)) (q_tn (mo σ 72)))) (lo_dk (lo_up (fun _ _ => rfl) (by omega))) ((Sc.rf.up rfl).dk.ce)
      unfold q_dark at z
      by_cases q : q_mem (q_cell (mo σ 72) (q_te t (mo σ 72)) (q_tn (mo σ 72)) (q_m (q_te t (mo σ 72)) (q_tn (mo σ 72)))) (q_L (mo σ 72) (q_te t (mo σ 72)) (q_tn (mo σ 72))) cc = true
      · rw [if_pos q] at z ⊢
        exact ⟨fun y => absurd y (by decide), fun _ => z⟩
      · rw [if_neg q] at z ⊢
        exact ⟨fun _ => z, fun y => absurd rfl y⟩
    · change 0 < (mo σ 72 4).toInt at h4
      repeat (first | rw [if_pos (by omega)] at h | rw [if_neg (by omega)] at h)
      exact h _ (lo_up (fun _ _ => rfl) (by omega)) (Sc.rf.up rfl).ce
    · change 0 < (mo σ 72 4).toInt at h4
      repeat (first | rw [if_pos (by omega)] at h | rw [if_neg (by omega)] at h)
      exact h _ (lo_up (fun _ _ => rfl) (by omega)) (Sc.rf.up rfl).ce
    · change (mo σ 72 4).toInt ≤ 0 at h4
      repeat (first | rw [if_pos (by omega)] at h | rw [if_neg (by omega)] at h)
      exact h _ (lo_up (fun _ _ => rfl) (by omega)) (Sc.rf.up rfl).ce
