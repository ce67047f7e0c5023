/-! pairs: shop, bills -/
def q_yt (τ : Nat → Int32) (s : Nat) : Nat → Int32 := fun i => if i = 4 then nI s else if 112 ≤ i then 0 else τ i
theorem q_yt_n {τ : Nat → Int32} {s i : Nat} (h : i ≠ 4) (h2 : i < 112) : q_yt τ s i = τ i := by
  unfold q_yt
  rw [if_neg h, if_neg (by omega)]
theorem q_yt_4 {τ : Nat → Int32} {s : Nat} : q_yt τ s 4 = nI s := if_pos rfl
theorem q_yt_c {τ : Nat → Int32} {s t : Nat} : q_yt τ s (112 + t) = 0 := by
  unfold q_yt
  rw [if_neg (by omega), if_pos (by omega)]
theorem q_yt_e {τ : Nat → Int32} {s : Nat} : q_eqv (q_yt τ s) τ := fun i hi => q_yt_n (by omega) (by omega)
theorem WT.yt {τ : Nat → Int32} {s : Nat} (w : WT τ) (h4 : τ 4 ≠ 0) (hs : 1 ≤ s ∧ s ≤ 6) : WT (q_yt τ s) := by
  have w1 : WT (fun i => if 112 ≤ i then 0 else τ i) := w.cloud (fun i hi => if_neg (by omega)) (fun t ht => Or.inl (if_pos (by omega))) h4
  have e4 : (if 112 ≤ 4 then (0 : Int32) else τ 4) = τ 4 := if_neg (by omega)
  refine w1.head (fun i a b c => ?_) ?_ ?_ ⟨s, hs.2, q_yt_4⟩ ?_
  · unfold q_yt
    rw [if_neg c]
  · rw [q_yt_n (by omega) (by omega)]; exact w.2.2.1
  · rw [q_yt_n (by omega) (by omega)]; exact w.2.2.2.1
  · rw [q_yt_4, e4]
    exact ⟨fun z => absurd z (nI_ne0 (by omega) (by omega)), fun z => absurd z h4⟩
def q_inv (st : g_S) (τ : Nat → Int32) : Prop := ∃ τ' : Nat → Int32, TR st 21 τ' ∧ τ' 4 ≠ 0 ∧ ∀ i, i ≠ 4 → τ' i = if 112 ≤ i then 0 else τ i
theorem q_inv.seas {st : g_S} {τ : Nat → Int32} {s : Nat} (h : q_inv st τ) (hs : 1 ≤ s ∧ s ≤ 6) : TR (g_up st 21 4 (nI s)) 21 (q_yt τ s) := by
  obtain ⟨τ', w, h4, u⟩ := h
  have kk : ∀ j, j ≠ 4 → g_up st 21 4 (nI s) 21 j = st 21 j := fun j hj => g_up_n (by omega)
  have uu : ∀ i, i ≠ 4 → q_yt τ s i = τ' i := fun i hi => by
    rw [u i hi]
    unfold q_yt
    rw [if_neg hi]
  refine w.head (fun a q1 q2 => g_up_ne (by omega)) (kk _ (by omega)) (kk _ (by omega)) (kk _ (by omega)) (kk _ (by omega)) (kk _ (by omega)) (fun i _ _ c => uu i c) ?_ ?_ ?_ ?_
  · rw [kk _ (by omega), q_yt_4, if_neg (nI_ne0 (by omega) (by omega)), w.1, if_neg h4]
  · rw [g_up_s, q_yt_4]
  · rw [kk _ (by omega), uu 2 (by omega)]; exact w.2.2.2.2.1
  · rw [kk _ (by omega), uu 3 (by omega)]; exact w.2.2.2.2.2.1
theorem q_inv.of {st : g_S} {τ : Nat → Int32} {s : Nat} (h : TR st 21 (q_yt τ s)) (hs : 1 ≤ s ∧ s ≤ 6) : q_inv st τ :=
  ⟨_, h, by rw [q_yt_4]; exact nI_ne0 (by omega) (by omega), fun i hi => by unfold q_yt; rw [if_neg hi]⟩
def g_tc0 (σ : g_S) : g_S := g_fl (g_bc σ 21 15) 23 73 0
theorem g_tc0_ne {σ : g_S} {a : Nat} (h : a < 21 ∨ 26 < a) : g_tc0 σ a = σ a := (g_fl_ne (by omega)).trans (g_bc_ne (by omega))
theorem q_inv.ini {σ : g_S} {τ : Nat → Int32} (w : TR σ 15 τ) (h4 : τ 4 ≠ 0) : q_inv (g_tc0 σ) τ := by
  refine ⟨fun i => if 112 ≤ i then 0 else τ i, ?_, by dsimp only; rw [if_neg (by omega)]; exact h4, fun i _ => rfl⟩
  have w1 : TR (g_bc σ 21 15) 21 τ := w.bc (by omega)
  exact w1.cloud (fun a ha => g_fl_ne ha) (fun i hi => if_neg (by omega)) (fun t ht => (g_fl_in ht).trans (if_pos (by omega)).symm)
section Q77
variable {E : g_E} {d : Nat} {R : g_R} {σ : g_S} {τ : Nat → Int32}
theorem c_tryClear {K : g_S → Prop} (w : TR σ 15 τ) (h : g_r0 K none (g_tc0 σ)) : g_wp E (d + 3) 43 [.ref 21, .ref 15] σ (g_r0 fun s1 => g_wp E (d + 3) 49 [.ref 21] s1 (g_r0 K)) :=
  c_become (Or.inr (Or.inl rfl)) (Or.inl rfl) (by omega) w.b01 ⟨rfl, t49_0 (Or.inr (Or.inl rfl)) (c_fill (d := d + 1) (n := 73) rfl rfl (by omega) ⟨rfl, h⟩)⟩
def q_ys (τ : Nat → Int32) (k : Nat) : Nat → Nat
  | 0 => 0
  | m + 1 => q_ys τ k m + q_sl τ (nI (m + 1)) (τ 2) (τ 3) (fun _ => false) k
theorem c_year_l {k : Nat} (f : WT τ) (h4 : τ 4 ≠ 0) (hk : nI k < τ 6) (hk8 : k < 8) (h : ∀ σ', (∀ a, (a < 21 ∨ 26 < a) → a ≠ 41 → a ≠ 42 → σ' a = σ a) → R (some (.int (nI (q_ys τ k 6)))) σ') : ∀ w m s, m + w = 6 → q_inv s τ → (∀ a, (a < 21 ∨ 26 < a) → a ≠ 41 → a ≠ 42 → s a = σ a) → g_g E (g_wp E (d + 4)) 101 22 [some (.ref 0), some (.int (nI k)), some (.int (nI (q_ys τ k m))), some (.int (nI (m + 1)))] [] s R := by
  intro w
  induction w with
  | zero =>
    intro m s hm hi hs
    have e : m = 6 := by omega
    subst e
    exact t101_22 ⟨fun _ => h s hs, fun c => absurd (nI_lt (a := 6) (b := 7) (by omega) (by omega)) c⟩
  | succ w ih =>
    intro m s hm hi hs
    refine t101_22 ⟨fun c => absurd c (nI_nlt (a := 6) (b := m + 1) (by omega) (by omega)), fun _ s' es => ?_⟩
    have tr : TR s' 21 (q_yt τ (m + 1)) := by rw [es]; exact hi.seas (by omega)
    have kk : nI k < q_yt τ (m + 1) 6 := by rw [q_yt_n (by omega) (by omega)]; exact hk
    refine c_slots (d := d) (Or.inr (Or.inl rfl)) tr (f.yt h4 (by omega)) kk hk8 (fun s2 k2 => ⟨_, rfl, ?_⟩)
    have z := ih (m + 1) s2 (by omega) (q_inv.of (tr.low (fun a q1 q2 => k2 a (by omega) (by omega))) (by omega)) (fun a q1 q2 q3 => (k2 a q2 q3).trans (by rw [es]; exact (g_up_ne (by omega)).trans (hs a q1 q2 q3)))
    have e1 : q_sl (q_yt τ (m + 1)) (q_yt τ (m + 1) 4) (q_yt τ (m + 1) 2) (q_yt τ (m + 1) 3) (q_cl1 (q_yt τ (m + 1))) k = q_sl τ (nI (m + 1)) (τ 2) (τ 3) (fun _ => false) k := by
      rw [q_yt_4, q_yt_n (i := 2) (by omega) (by omega), q_yt_n (i := 3) (by omega) (by omega), q_sl_c hk8 q_yt_e f]
      have : q_cl1 (q_yt τ (m + 1)) = fun _ => false := by
        funext t
        unfold q_cl1
        rw [q_yt_c]; rfl
      rw [this]
    dsimp only
    rw [e1, nI_add, nI_1]
    exact z
theorem c_year {k : Nat} (w : TR σ 15 τ) (f : WT τ) (h4 : τ 4 ≠ 0) (hk : nI k < τ 6) (hk8 : k < 8) (h : ∀ σ', (∀ a, (a < 21 ∨ 26 < a) → a ≠ 41 → a ≠ 42 → σ' a = σ a) → R (some (.int (nI (q_ys τ k 6)))) σ') : g_wp E (d + 5) 101 [.ref 0, .int (nI k)] σ R := by
  refine t101_0 (c_tryClear (d := d + 1) w ⟨rfl, ?_⟩)
  exact c_year_l (σ := g_tc0 σ) f h4 hk hk8 (fun σ' k' => h σ' (fun a q1 q2 q3 => (k' a q1 q2 q3).trans (g_tc0_ne q1))) 6 0 _ (by omega) (q_inv.ini w h4) (fun _ _ _ _ => rfl)
theorem q_rg_s {s t : Nat} (f : WT τ) (ht : t < 73) (hs : s ≤ 6) : q_rg (q_e t (τ 1) (τ 2)) (nI s + τ 3) := by
  obtain ⟨w0, ⟨r, hr, er⟩, w2, w3, -⟩ := f
  rw [er]
  exact ⟨q_eb ht hr (q_lv w2), q_nb hs (q_lv w3)⟩
theorem m_year_l {k : Nat} {rent : Int32} (f : WT τ) (et : σ 72 = τ) (hk : nI k < τ 6) (hk8 : k < 8) (h : ∀ σ', (∀ a, a ≠ 75 → σ' a = σ a) → R (some (.int (rent * nI (q_ys τ k 6)))) σ') : ∀ w m s, m + w = 6 → (∀ a, a ≠ 75 → s a = σ a) → g_g E (g_wp E (d + 3)) 159 100 [some (.ref 68), some (.int (nI k)), none, some (.int rent), some (.int (nI (q_ys τ k m))), some (.int (nI (m + 1)))] [] s R := by
  intro w
  induction w with
  | zero =>
    intro m s hm hs
    have e : m = 6 := by omega
    subst e
    exact t159_100 ⟨fun _ => h s hs, fun c => absurd (nI_lt (a := 6) (b := 7) (by omega) (by omega)) c⟩
  | succ w ih =>
    intro m s hm hs
    have s72 : s 72 = τ := (hs 72 (by omega)).trans et
    refine t159_100 ⟨fun c => absurd c (nI_nlt (a := 6) (b := m + 1) (by omega) (by omega)), fun _ => ?_⟩
    rw [s72]
    refine m_slots (cy := false) f s72 hk hk8 (fun t ht => q_rg_s f ht (by omega)) (fun s2 k2 => ⟨_, rfl, ?_⟩)
    have z := ih (m + 1) s2 (by omega) (fun a q => (k2 a q).trans (hs a q))
    dsimp only
    rw [nI_add, nI_1]
    exact z
end Q77
theorem p_shop {E : g_E} (x1 x2 : Int32) : g_pr E 84 159 [.int x1, .int x2] := by
  refine ⟨fun μ => if x1.toInt < 0 ∨ (μ 72 6).toInt ≤ x1.toInt ∨ x2.toInt < 0 ∨ 4 < x2.toInt then -1000001 else if x2 = 0 then μ 72 (89 + 3 * x1.toNatClampNeg) else if x2 = 1 then μ 72 (90 + 3 * x1.toNatClampNeg) else if x2 = 2 then nI (q_sl (μ 72) (μ 72 4) (μ 72 2) (μ 72 3) (q_cl1 (μ 72)) x1.toNatClampNeg) else if x2 = 3 then μ 72 (90 + 3 * x1.toNatClampNeg) * nI (q_sl (μ 72) (μ 72 4) (μ 72 2) (μ 72 3) (q_cl1 (μ 72)) x1.toNatClampNeg) else μ 72 (90 + 3 * x1.toNatClampNeg) * nI (q_ys (μ 72) x1.toNatClampNeg 6), fun μ => μ, fun σ μ R hc hw h => ?_, fun σ R hw h => ?_, fun μ h => h⟩
  · dsimp only at h
    have e8 := hc.tr.2.2.2.2.2.2.2.1
    obtain ⟨n, n1, n2, n3, n4⟩ := hw.wt.2.2.2.2.2.1
    have e6 : (μ 72 6).toInt = n := by rw [n2, nI_toInt (by omega)]
    refine t84_0 (c_hasShop (Or.inl rfl) (fun a1 a2 => ⟨_, rfl, n_1 ?_⟩) (fun a1 => ⟨_, rfl, n_0 ?_⟩))
    · rw [e8] at a2
      have hk' := q_lt.mpr a2
      obtain ⟨k, hk, rfl⟩ := q_ix (x := x1) (n := 8) (by omega) (by omega) (by omega)
      rw [q_cl (by omega)] at h
      rw [q_cl (by omega)]
      have h4 : μ 72 4 ≠ 0 := fun z => by
        have := (hw.wt.2.2.2.2.2.2.2.2.2 z).1
        rw [this] at a2
        have z0 : ((0 : Int32)).toInt = 0 := by decide
        omega
      obtain ⟨r1, r2, r3⟩ := hc.tr.2.2.2.2.2.2.2.2.2.2 k hk hk'
      have r2 : σ 19 k = μ 72 (89 + 3 * k) := r2
      have r3 : σ 20 k = μ 72 (90 + 3 * k) := r3
      have lo : ∀ σ' : g_S, (∀ a, (a < 21 ∨ 26 < a) → a ≠ 41 → a ≠ 42 → σ' a = σ a) → RC σ' μ := fun σ' k' => hc.low (fun a q1 q2 q3 q4 q5 => k' a (by omega) (by omega) (by omega))
      refine ⟨fun c => ?_, fun c => ⟨vp_in_nI hk (by omega), ?_⟩, fun c => ⟨vp_in_nI hk (by omega), ?_⟩, fun c => ?_, fun c => ⟨vp_in_nI hk (by omega), ?_⟩, fun c => ⟨vp_in_nI hk (by omega), ?_⟩, trivial⟩
      · rw [if_pos (by omega)] at h
        exact h σ hc (fun _ _ => rfl)
      · subst c
        rw [if_neg (by have z0 : ((0 : Int32)).toInt = 0 := by decide
                       omega), if_pos rfl] at h
        exact q_R (h σ hc (fun _ _ => rfl)) r2
      · subst c
        rw [if_neg (by have z0 : ((1 : Int32)).toInt = 1 := by decide
                       omega), if_neg (by decide), if_pos rfl] at h
        exact q_R (h σ hc (fun _ _ => rfl)) r3
      · subst c
        rw [if_neg (by have z0 : ((2 : Int32)).toInt = 2 := by decide
                       omega), if_neg (by decide), if_neg (by decide), if_pos rfl] at h
        exact c_slots (d := 15) (Or.inl rfl) hc.tr hw.wt hk' hk (fun σ' k' => ⟨_, rfl, h σ' (lo σ' (fun a _ q2 q3 => k' a q2 q3)) (fun a ha => k' a (by omega) (by omega))⟩)
      · subst c
        rw [if_neg (by have z0 : ((3 : Int32)).toInt = 3 := by decide
                       omega), if_neg (by decide), if_neg (by decide), if_neg (by decide), if_pos rfl] at h
        rw [r3]
        exact c_slots (d := 15) (Or.inl rfl) hc.tr hw.wt hk' hk (fun σ' k' => ⟨_, rfl, h σ' (lo σ' (fun a _ q2 q3 => k' a q2 q3)) (fun a ha => k' a (by omega) (by omega))⟩)
      · subst c
        rw [if_neg (by have z0 : ((4 : Int32)).toInt = 4 := by decide
                       omega), if_neg (by decide), if_neg (by decide), if_neg (by decide), if_neg (by decide)] at h
        rw [r3]
        exact c_year (d := 14) hc.tr hw.wt h4 hk' hk (fun σ' k' => ⟨_, rfl, h σ' (lo σ' k') (fun a ha => k' a (by omega) (by omega) (by omega))⟩)
    · rw [e8] at a1
      rw [if_pos (by omega)] at h
      exact h σ hc (fun _ _ => rfl)
  · dsimp only at h
    obtain ⟨n, n1, n2, n3, n4⟩ := hw.wt.2.2.2.2.2.1
    have e6 : (mo σ 72 6).toInt = n := by rw [n2, nI_toInt (by omega)]
    refine t159_0 (fun s es => m_isShop ⟨n, n1, by rw [es]; exact n2⟩ (fun a1 a2 => ⟨_, rfl, q_1 (m_in 0 4 rfl rfl (fun a3 a4 => ⟨_, rfl, n_1 ?_⟩) (fun a3 => ⟨_, rfl, n_0 ?_⟩))⟩) (fun a1 => ⟨_, rfl, q_0 ?_⟩))
    all_goals subst es
    · change x1.toInt < (mo σ 72 6).toInt at a2
      have hk' := q_lt.mpr a2
      obtain ⟨k, hk, rfl⟩ := q_ix (x := x1) (n := 8) (by omega) (by omega) (by omega)
      have e72 : g_up σ 68 0 0 72 = mo σ 72 := rfl
      rw [q_cl (by omega), if_neg (by omega)] at h
      have er : (88 : Int32) + (3 : Int32) * nI k + 2 = nI (90 + 3 * k) := by
        rw [show (88 : Int32) = nI 88 from rfl, show (3 : Int32) = nI 3 from rfl, show (2 : Int32) = nI 2 from rfl, pk_mul, nI_add, nI_add, show 88 + 3 * k + 2 = 90 + 3 * k by omega]
      have lo : ∀ σ' : g_S, (∀ a, a ≠ 75 → σ' a = g_up σ 68 0 0 a) → ∀ a, a < 68 → σ' a = σ a := fun σ' k' a ha => (k' a (by omega)).trans (g_up_ne (by omega))
      rw [er, q_cl (by omega), e72]
      refine ⟨vp_in_nI (by omega) (by omega), fun c => ?_, fun c => ?_, fun c => ?_, fun c => ?_, fun c => ?_, trivial⟩
      · have n0 : ¬ x2 = 0 := fun z => by
          have z0 : ((0 : Int32)).toInt = 0 := by decide
          rw [z] at c; omega
        have n1' : ¬ x2 = 1 := fun z => by
          have z0 : ((1 : Int32)).toInt = 1 := by decide
          rw [z] at c; omega
        have n2' : ¬ x2 = 2 := fun z => by
          have z0 : ((2 : Int32)).toInt = 2 := by decide
          rw [z] at c; omega
        have n3' : ¬ x2 = 3 := fun z => by
          have z0 : ((3 : Int32)).toInt = 3 := by decide
          rw [z] at c; omega
        rw [if_neg n0, if_neg n1', if_neg n2', if_neg n3'] at h
        exact m_year_l (d := 16) (σ := g_up σ 68 0 0) hw.wt e72 hk' hk (fun σ' k' => h σ' (lo σ' k') (((Sc.rf.up rfl).d75 k').ce)) 6 0 _ (by omega) (fun _ _ => rfl)
      · subst c
        rw [if_pos rfl] at h
        exact m_cellOf hk ⟨_, rfl, h _ (lo_up (fun _ _ => rfl) (by omega)) (Sc.rf.up rfl).ce⟩
      · subst c
        rw [if_neg (by decide), if_pos rfl] at h
        exact h _ (lo_up (fun _ _ => rfl) (by omega)) (Sc.rf.up rfl).ce
      · subst c
        rw [if_neg (by decide), if_neg (by decide), if_pos rfl] at h
        exact m_slotsNow (d := 15) hw.wt e72 hk' hk (fun σ' k' => ⟨_, rfl, h σ' (lo σ' k') (((Sc.rf.up rfl).d75 k').ce)⟩)
      · subst c
        rw [if_neg (by decide), if_neg (by decide), if_neg (by decide), if_pos rfl] at h
        exact m_slotsNow (d := 15) hw.wt e72 hk' hk (fun σ' k' => ⟨_, rfl, h σ' (lo σ' k') (((Sc.rf.up rfl).d75 k').ce)⟩)
    · change x1.toInt < (mo σ 72 6).toInt at a2
      rw [if_pos (by omega)] at h
      exact h _ (lo_up (fun _ _ => rfl) (by omega)) (Sc.rf.up rfl).ce
    · change x1.toInt < 0 ∨ (mo σ 72 6).toInt ≤ x1.toInt at a1
      rw [if_pos (by omega)] at h
      exact h _ (lo_up (fun _ _ => rfl) (by omega)) (Sc.rf.up rfl).ce
