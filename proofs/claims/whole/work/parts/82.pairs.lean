/-! how far: the class's search in breadth -/
def q_ed (τ : Nat → Int32) (c c' : Nat) : Prop := ∃ w, w < 5 ∧ q_nbr τ c w = some c'
def q_rc (τ : Nat → Int32) (a : Nat) : Nat → Nat → Prop
  | 0, c => c = a
  | n + 1, c => ∃ x, x < 81 ∧ q_rc τ a n x ∧ q_ed τ x c
theorem q_st4 {τ : Nat → Int32} {x : Nat} (hx : x < 81) : q_nbr τ x 4 = if τ (7 + x) = 0 then some x else none := by
  have e1 : q_nx x 4 = nI (x % 9) := by
    unfold q_nx
    exact Int32.add_zero _
  have e2 : q_ny x 4 = nI (x / 9) := by
    unfold q_ny
    exact Int32.add_zero _
  unfold q_nbr
  rw [e1, e2, nI_toInt (by omega), nI_toInt (by omega), q_cl (by omega), q_cl (by omega), if_pos (by omega), show x % 9 + 9 * (x / 9) = x by omega]
theorem q_rc_w {τ : Nat → Int32} {a : Nat} (ha : a < 81 ∧ τ (7 + a) = 0) : ∀ {n c : Nat}, q_rc τ a n c → c < 81 ∧ τ (7 + c) = 0
  | 0, c, h => by
    have : c = a := h
    subst this
    exact ha
  | n + 1, c, h => by
    obtain ⟨x, _, _, w, _, e⟩ := h
    exact q_nbr_l e
theorem q_rc_s {τ : Nat → Int32} {a n c : Nat} (ha : a < 81 ∧ τ (7 + a) = 0) (h : q_rc τ a n c) : q_rc τ a (n + 1) c := by
  have w := q_rc_w ha h
  exact ⟨c, w.1, h, 4, by omega, by rw [q_st4 w.1, if_pos w.2]⟩
theorem q_rc_m {τ : Nat → Int32} {a c : Nat} (ha : a < 81 ∧ τ (7 + a) = 0) : ∀ {k n : Nat}, q_rc τ a n c → q_rc τ a (n + k) c
  | 0, n, h => h
  | k + 1, n, h => q_rc_s ha (q_rc_m (k := k) ha h)
def q_dist (τ : Nat → Int32) (a : Nat) (D : Nat → Nat) : Prop := ∀ c, c < 81 → (D c ≤ 80 ∨ D c = 1000) ∧ ∀ n, n < 1000 → (q_rc τ a n c ↔ D c ≤ n)
theorem q_ct_up {f g : Nat → Bool} {c : Nat} (hf : f c = false) (hg : g c = true) (h : ∀ x, x ≠ c → g x = f x) : ∀ {n : Nat}, q_ct g n = q_ct f n + (if c < n then 1 else 0)
  | 0 => rfl
  | n + 1 => by
    rw [show q_ct f (n + 1) = q_ct f n + (if f n = true then 1 else 0) from rfl, show q_ct g (n + 1) = q_ct g n + (if g n = true then 1 else 0) from rfl, q_ct_up hf hg h (n := n)]
    by_cases e : n = c
    · subst e
      rw [hf, hg, if_neg (Nat.lt_irrefl n), if_pos rfl, if_pos (Nat.lt_succ_self n), if_neg (by decide)]
    · rw [h n e]
      by_cases l : c < n
      · rw [if_pos l, if_pos (show c < n + 1 by omega)]; omega
      · rw [if_neg l, if_neg (show ¬ c < n + 1 by omega), Nat.add_zero, Nat.add_zero]
theorem q_ct_all {f : Nat → Bool} : ∀ {n : Nat}, q_ct f n = n → ∀ k, k < n → f k = true
  | 0, _, k, hk => absurd hk (Nat.not_lt_zero k)
  | n + 1, h, k, hk => by
    rw [show q_ct f (n + 1) = q_ct f n + (if f n = true then 1 else 0) from rfl] at h
    have l := q_ct_le (f := f) (n := n)
    by_cases q : f n = true
    · rw [if_pos q] at h
      by_cases e : k = n
      · subst e; exact q
      · exact q_ct_all (n := n) (by omega) k (by omega)
    · rw [if_neg q] at h
      omega
/-- what holds while the search goes on -/
def q_bf (τ : Nat → Int32) (a i wn m : Nat) (d q : Nat → Nat) : Prop :=
  (m ≤ 81 ∧ 1 ≤ m ∧ i ≤ m) ∧ (∀ j, j < m → q j < 81 ∧ d (q j) ≤ j ∧ q_rc τ a (d (q j)) (q j)) ∧ (∀ c, c < 81 → d c ≠ 1000 → ∃ j, j < m ∧ q j = c) ∧ q_ct (fun c => decide (d c ≠ 1000)) 81 = m ∧ (∀ j k, j ≤ k → k < m → d (q j) ≤ d (q k)) ∧ (∀ j, j < m → i < m → d (q j) ≤ d (q i) + 1) ∧ (∀ j, j < i → ∀ w, w < 4 → ∀ c', q_nbr τ (q j) w = some c' → d c' ≤ d (q j) + 1) ∧ (∀ w, w < wn → ∀ c', q_nbr τ (q i) w = some c' → d c' ≤ d (q i) + 1) ∧ d a = 0
theorem q_bf.way {τ : Nat → Int32} {a i wn m : Nat} {d q : Nat → Nat} (h : q_bf τ a i wn m d q) (him : i < m) (k : ∀ c', q_nbr τ (q i) wn = some c' → d c' ≠ 1000) : q_bf τ a i (wn + 1) m d q := by
  obtain ⟨h1, h2, h3, h4, h5, h6, h7, h8, h9⟩ := h
  refine ⟨h1, h2, h3, h4, h5, h6, h7, fun w hw c' e => ?_, h9⟩
  by_cases q' : w = wn
  · subst q'
    obtain ⟨j, hj, ej⟩ := h3 c' (q_nbr_l e).1 (k c' e)
    rw [← ej]
    exact h6 j hj him
  · exact h8 w (by omega) c' e
theorem q_bf.next {τ : Nat → Int32} {a i m : Nat} {d q : Nat → Nat} (h : q_bf τ a i 4 m d q) (him : i < m) : q_bf τ a (i + 1) 0 m d q := by
  obtain ⟨h1, h2, h3, h4, h5, h6, h7, h8, h9⟩ := h
  refine ⟨by omega, h2, h3, h4, h5, fun j hj hi => ?_, fun j hj w hw c' e => ?_, fun w hw => absurd hw (Nat.not_lt_zero w), h9⟩
  · have a1 := h6 j hj him
    have a2 := h5 i (i + 1) (by omega) hi
    omega
  · by_cases z : j = i
    · subst z; exact h8 w hw c' e
    · exact h7 j (by omega) w hw c' e
theorem q_bf.new {τ : Nat → Int32} {a i wn m c' : Nat} {d q : Nat → Nat} (h : q_bf τ a i wn m d q) (him : i < m) (hw : wn < 4) (e : q_nbr τ (q i) wn = some c') (hd : d c' = 1000) : m < 81 ∧ q_bf τ a i (wn + 1) (m + 1) (fun x => if x = c' then d (q i) + 1 else d x) (fun x => if x = m then c' else q x) := by
  obtain ⟨h1, h2, h3, h4, h5, h6, h7, h8, h9⟩ := h
  have c81 := (q_nbr_l e).1
  have m81 : m < 81 := by
    by_cases z : m = 81
    · rw [z] at h4
      have := q_ct_all h4 c' c81
      rw [hd] at this
      exact absurd this (by decide)
    · omega
  have nq : ∀ j, j < m → q j ≠ c' := fun j hj z => by
    have := (h2 j hj).2.1
    rw [z, hd] at this
    omega
  have D1 : ∀ j, j < m → (fun x => if x = c' then d (q i) + 1 else d x) (q j) = d (q j) := fun j hj => if_neg (nq j hj)
  have Q1 : ∀ j, j < m → (fun x => if x = m then c' else q x) j = q j := fun j hj => if_neg (by omega)
  have Q2 : (fun x => if x = m then c' else q x) m = c' := if_pos rfl
  have D2 : (fun x => if x = c' then d (q i) + 1 else d x) c' = d (q i) + 1 := if_pos rfl
  have di := h2 i him
  refine ⟨m81, by omega, fun j hj => ?_, fun c hc hn => ?_, ?_, fun j k hj hk => ?_, fun j hj _ => ?_, fun j hj w hw' c'' e' => ?_, fun w hw' c'' e' => ?_, ?_⟩
  · by_cases z : j = m
    · subst z
      rw [Q2, D2]
      exact ⟨c81, by omega, q i, di.1, di.2.2, wn, by omega, e⟩
    · rw [Q1 j (by omega), D1 j (by omega)]
      exact h2 j (by omega)
  · by_cases z : c = c'
    · subst z
      exact ⟨m, by omega, Q2⟩
    · have : d c ≠ 1000 := by
        dsimp only at hn
        rw [if_neg z] at hn; exact hn
      obtain ⟨j, hj, ej⟩ := h3 c hc this
      exact ⟨j, by omega, by rw [Q1 j hj]; exact ej⟩
  · have := q_ct_up (f := fun c => decide (d c ≠ 1000)) (g := fun c => decide ((fun x => if x = c' then d (q i) + 1 else d x) c ≠ 1000)) (c := c') (by rw [hd]; decide) (by rw [D2]; exact decide_eq_true (by omega)) (fun x hx => by dsimp only; exact decide_eq_decide.mpr (by rw [if_neg hx])) (n := 81)
    rw [this, h4, if_pos c81]
  · by_cases z : k = m
    · subst z
      rw [Q2, D2]
      by_cases z2 : j = k
      · subst z2
        rw [Q2, D2]; exact Nat.le_refl _
      · rw [Q1 j (by omega), D1 j (by omega)]
        exact h6 j (by omega) him
    · rw [Q1 k (by omega), Q1 j (by omega), D1 k (by omega), D1 j (by omega)]
      exact h5 j k hj (by omega)
  · rw [Q1 i him, D1 i him]
    by_cases z : j = m
    · subst z
      rw [Q2, D2]; exact Nat.le_refl _
    · rw [Q1 j (by omega), D1 j (by omega)]
      exact h6 j (by omega) him
  · rw [Q1 j (by omega)] at e' ⊢
    rw [D1 j (by omega)]
    have z := h7 j hj w hw' c'' e'
    have : c'' ≠ c' := fun y => by
      rw [y, hd] at z
      have := (h2 j (by omega)).2.1
      omega
    dsimp only
    rw [if_neg this]; exact z
  · rw [Q1 i him] at e' ⊢
    rw [D1 i him]
    by_cases y : c'' = c'
    · subst y
      rw [D2]; exact Nat.le_refl _
    · dsimp only
      rw [if_neg y]
      by_cases z : w = wn
      · subst z
        rw [e] at e'
        cases e'
        exact absurd rfl y
      · exact h8 w (by omega) c'' e'
  · have : a ≠ c' := fun y => by rw [← y, h9] at hd; omega
    dsimp only
    rw [if_neg this]; exact h9
theorem q_bf.done {τ : Nat → Int32} {a m : Nat} {d q : Nat → Nat} (ha : a < 81 ∧ τ (7 + a) = 0) (h : q_bf τ a m 0 m d q) : q_dist τ a d := by
  obtain ⟨h1, h2, h3, h4, h5, h6, h7, h8, h9⟩ := h
  have up : ∀ n c, n < 1000 → q_rc τ a n c → d c ≤ n := by
    intro n
    induction n with
    | zero =>
      intro c _ hc
      have : c = a := hc
      rw [this, h9]; exact Nat.le_refl 0
    | succ n ih =>
      intro c hn hc
      obtain ⟨x, hx, hr, w, hw, e⟩ := hc
      have dx := ih x (by omega) hr
      obtain ⟨j, hj, ej⟩ := h3 x hx (by omega)
      by_cases z : w = 4
      · subst z
        rw [q_st4 hx] at e
        by_cases y : τ (7 + x) = 0
        · rw [if_pos y] at e; cases e; omega
        · rw [if_neg y] at e; cases e
      · have := h7 j hj w (by omega) c (by rw [ej]; exact e)
        rw [ej] at this
        omega
  intro c hc
  refine ⟨?_, fun n hn => ⟨up n c hn, fun l => ?_⟩⟩
  · by_cases z : d c = 1000
    · exact Or.inr z
    · obtain ⟨j, hj, ej⟩ := h3 c hc z
      have := (h2 j hj).2.1
      rw [ej] at this
      exact Or.inl (by omega)
  · obtain ⟨j, hj, ej⟩ := h3 c hc (by omega)
    have := (h2 j hj).2.2
    rw [ej] at this
    have z := q_rc_m (k := n - d c) ha this
    rwa [show d c + (n - d c) = n by omega] at z
section Q82
variable {E : g_E} {d : Nat} {R : g_R} {σ : g_S} {τ : Nat → Int32}
def q_row (s : g_S) (row m : Nat) (D q : Nat → Nat) : Prop := (∀ c, c < 81 → s row c = nI (D c)) ∧ ∀ j, j < m → s 46 j = nI (q j)
theorem c_meas_in {b a row i : Nat} (hb : g_Tw b) (w0 : TR σ b τ) (f : WT τ) (hr : 48 ≤ row ∧ row ≤ 55) (hk : g_kd row = 100) (hl : g_ln row = 81) (h : ∀ s m D q, (∀ x, x ≠ 46 → x ≠ row → s x = σ x) → q_row s row m D q → q_bf τ a (i + 1) 0 m D q → g_g E (g_wp E (d + 3)) 67 24 [some (.ref 45), some (.ref b), none, some (.ref row), some (.int (nI m)), some (.int (nI (i + 1))), none, none] [] s R) : ∀ g wn s m D q, wn + g = 4 → i < m → (∀ x, x ≠ 46 → x ≠ row → s x = σ x) → q_row s row m D q → q_bf τ a i wn m D q → g_g E (g_wp E (d + 3)) 67 41 [some (.ref 45), some (.ref b), none, some (.ref row), some (.int (nI m)), some (.int (nI i)), some (.int (nI wn)), none] [] s R := by
  have hb' := hb.rg
  intro g
  induction g with
  | zero =>
    intro wn s m D q hw him fr hrow hbf
    have e : wn = 4 := by omega
    subst e
    refine t67_41 hb ⟨fun _ => ?_, fun c => absurd (nI_le (a := 4) (b := 4) (by omega) (by omega)) c⟩
    rw [nI_1]
    exact h s m D q fr hrow (hbf.next him)
  | succ g ih =>
    intro wn s m D q hw him fr hrow hbf
    obtain ⟨r1, r2⟩ := hrow
    have hm := hbf.1
    have qi := (hbf.2.1 i him)
    have tr : TR s b τ := w0.low (fun x q1 q2 => fr x (by omega) (by omega))
    refine t67_41 hb ⟨fun c => absurd c (nI_ge (b := 4) (by omega) (by omega)), fun _ => ⟨vp_in_nI (by omega) (by omega), ?_⟩⟩
    rw [q_cl (by omega), r2 i him, nI_1]
    refine c_beside hb tr f qi.1 (by omega) (fun c' ec => ⟨_, rfl, fun z => absurd z (q_none (q_nbr_l ec).1), fun _ => ⟨hk, ?_, fun z => ?_, fun z => ⟨fun y => ?_, fun y => ⟨vp_in_nI (by omega) (by omega), hk, ?_, hk, ?_, fun s1 es1 => ⟨?_, fun s2 es2 => ?_⟩⟩⟩⟩⟩) (fun ec => ⟨_, rfl, fun _ => ?_, fun z => absurd rfl z⟩)
    · rw [hl]; exact vp_in_nI (q_nbr_l ec).1 (by omega)
    · have hc' := (q_nbr_l ec).1
      refine ih (wn + 1) s m D q (by omega) him fr ⟨r1, r2⟩ (hbf.way him (fun c'' e'' => ?_))
      rw [ec] at e''
      cases e''
      intro y
      apply z
      change s row (nI c').toNatClampNeg = 1000
      rw [q_cl (by omega), r1 c' hc', y]; rfl
    · exfalso
      have hc' := (q_nbr_l ec).1
      have z : s row (nI c').toNatClampNeg = 1000 := Classical.not_not.mp z
      rw [q_cl (by omega), r1 c' hc'] at z
      have dc : D c' ≤ 1000 := by
        by_cases y : D c' = 1000
        · omega
        · obtain ⟨j, hj, ej⟩ := hbf.2.2.1 c' hc' y
          have := (hbf.2.1 j hj).2.1
          rw [ej] at this
          omega
      have z2 : D c' = 1000 := (nI_eq (b := 1000) (by omega) (by omega)).mp z
      have := (hbf.new him (by omega) ec z2).1
      exact absurd y (nI_ge (b := 81) (by omega) (by omega))
    · rw [hl]
      change vp_in (s 46 i) 81
      rw [r2 i him]; exact vp_in_nI qi.1 (by omega)
    · rw [hl]; exact vp_in_nI (q_nbr_l ec).1 (by omega)
    · have hc' := (q_nbr_l ec).1
      have z : s row (nI c').toNatClampNeg = 1000 := Classical.not_not.mp z
      rw [q_cl (by omega), r1 c' hc'] at z
      have dc : D c' ≤ 1000 := by
        by_cases y : D c' = 1000
        · omega
        · obtain ⟨j, hj, ej⟩ := hbf.2.2.1 c' hc' y
          have := (hbf.2.1 j hj).2.1
          rw [ej] at this
          omega
      have z2 : D c' = 1000 := (nI_eq (b := 1000) (by omega) (by omega)).mp z
      exact vp_in_nI (hbf.new him (by omega) ec z2).1 (by omega)
    · have hc' := (q_nbr_l ec).1
      have z : s row (nI c').toNatClampNeg = 1000 := Classical.not_not.mp z
      rw [q_cl (by omega), r1 c' hc'] at z
      have dc : D c' ≤ 1000 := by
        by_cases y : D c' = 1000
        · omega
        · obtain ⟨j, hj, ej⟩ := hbf.2.2.1 c' hc' y
          have := (hbf.2.1 j hj).2.1
          rw [ej] at this
          omega
      have z2 : D c' = 1000 := (nI_eq (b := 1000) (by omega) (by omega)).mp z
      obtain ⟨m81, nb⟩ := hbf.new him (by omega) ec z2
      rw [q_cl (by omega), r2 i him, q_cl (by omega), r1 _ qi.1, nI_1] at es1
      rw [q_cl (by omega)] at es2
      rw [nI_1]
      refine ih (wn + 1) s2 (m + 1) _ _ (by omega) (by omega) (fun x q1 q2 => by rw [es2, es1]; exact (g_up_ne q1).trans ((g_up_ne q2).trans (fr x q1 q2))) ⟨fun c hc => ?_, fun j hj => ?_⟩ nb
      · rw [es2, es1, congrFun (g_up_ne (by omega)) c]
        by_cases y : c = c'
        · subst y
          rw [g_up_s, if_pos rfl]
        · rw [g_up_n (by omega), if_neg y]
          exact r1 c hc
      · rw [es2]
        by_cases y : j = m
        · subst y
          rw [g_up_s, if_pos rfl]
        · rw [g_up_n (by omega), es1, congrFun (g_up_ne (by omega)) j, if_neg y]
          exact r2 j (by omega)
    · refine ih (wn + 1) s m D q (by omega) him fr ⟨r1, r2⟩ (hbf.way him (fun c'' e'' => ?_))
      rw [ec] at e''
      cases e''
theorem c_meas_l {b a row : Nat} (hb : g_Tw b) (w0 : TR σ b τ) (f : WT τ) (ha : a < 81 ∧ τ (7 + a) = 0) (hr : 48 ≤ row ∧ row ≤ 55) (hk : g_kd row = 100) (hl : g_ln row = 81) (h : ∀ s D, (∀ x, x ≠ 46 → x ≠ row → s x = σ x) → (∀ c, c < 81 → s row c = nI (D c)) → q_dist τ a D → R none s) : ∀ g i s m D q, i + g = 81 → (∀ x, x ≠ 46 → x ≠ row → s x = σ x) → q_row s row m D q → q_bf τ a i 0 m D q → g_g E (g_wp E (d + 3)) 67 24 [some (.ref 45), some (.ref b), none, some (.ref row), some (.int (nI m)), some (.int (nI i)), none, none] [] s R := by
  intro g
  induction g with
  | zero =>
    intro i s m D q hi fr hrow hbf
    have hm := hbf.1
    have e : i = m := by omega
    subst e
    exact t67_24 hb ⟨fun _ => h s D fr hrow.1 (hbf.done ha), fun c => absurd (nI_le (Nat.le_refl i) (by omega)) c⟩
  | succ g ih =>
    intro i s m D q hi fr hrow hbf
    have hm := hbf.1
    refine t67_24 hb ⟨fun c => ?_, fun c => ⟨fun c2 => absurd c2 (nI_ge (b := 81) (by omega) (by omega)), fun _ => ?_⟩⟩
    · rw [nI_leI (by omega) (by omega)] at c
      have e : i = m := by omega
      subst e
      exact h s D fr hrow.1 (hbf.done ha)
    · rw [nI_leI (by omega) (by omega)] at c
      exact c_meas_in hb w0 f hr hk hl (fun s2 m2 D2 q2 fr2 row2 bf2 => ih (i + 1) s2 m2 D2 q2 (by omega) fr2 row2 bf2) 4 0 s m D q (by omega) (by omega) fr hrow hbf
theorem c_measure {b a row : Nat} (hb : g_Tw b) (w0 : TR σ b τ) (f : WT τ) (ha : a < 81 ∧ τ (7 + a) = 0) (hr : 48 ≤ row ∧ row ≤ 55) (hk : g_kd row = 100) (hl : g_ln row = 81) (h : ∀ s D, (∀ x, x ≠ 46 → x ≠ row → s x = σ x) → (∀ c, c < 81 → s row c = nI (D c)) → q_dist τ a D → R none s) : g_wp E (d + 4) 67 [.ref 45, .ref b, .int (nI a), .ref row] σ R := by
  have hb' := hb.rg
  refine t67_0 hb (c_fill hk hl (by omega) ⟨rfl, hk, ?_, fun s1 es1 s2 es2 => ?_⟩)
  · rw [hl]; exact vp_in_nI ha.1 (by omega)
  rw [q_cl (by omega)] at es1
  have fr2 : ∀ x, x ≠ 46 → x ≠ row → s2 x = σ x := fun x q1 q2 => by
    rw [es2, es1]; exact (g_up_ne q1).trans ((g_up_ne q2).trans (g_fl_ne q2))
  refine c_meas_l hb w0 f ha hr hk hl h 81 0 s2 1 (fun x => if x = a then 0 else 1000) (fun _ => a) (by omega) fr2 ⟨fun c hc => ?_, fun j hj => ?_⟩ ⟨by omega, fun j hj => ?_, fun c hc hn => ?_, ?_, fun j k hj hk' => Nat.le_refl _, fun j hj _ => by dsimp only; rw [if_pos rfl]; omega, fun j hj => absurd hj (Nat.not_lt_zero j), fun w hw => absurd hw (Nat.not_lt_zero w), if_pos rfl⟩
  · rw [es2, es1, congrFun (g_up_ne (by omega)) c]
    by_cases y : c = a
    · subst y
      dsimp only
      rw [g_up_s, if_pos rfl]; rfl
    · dsimp only
      rw [g_up_n (by omega), g_fl_in hc, if_neg y]; rfl
  · have : j = 0 := by omega
    subst this
    rw [es2, g_up_s]
  · dsimp only
    rw [if_pos rfl]
    exact ⟨ha.1, Nat.zero_le j, rfl⟩
  · refine ⟨0, by omega, ?_⟩
    by_cases y : c = a
    · exact y.symm
    · dsimp only at hn
      rw [if_neg y] at hn
      exact absurd rfl hn
  · have z := q_ct_up (f := fun _ => false) (g := fun c => decide ((if c = a then 0 else 1000) ≠ 1000)) (c := a) rfl (decide_eq_true (by rw [if_pos rfl]; omega)) (fun x hx => decide_eq_false (by rw [if_neg hx]; exact fun y => y rfl)) (n := 81)
    rw [if_pos ha.1] at z
    have z0 : ∀ n, q_ct (fun _ => false) n = 0 := by
      intro n
      induction n with
      | zero => rfl
      | succ n ih => rw [show q_ct (fun _ => false) (n + 1) = q_ct (fun _ => false) n + (if false = true then 1 else 0) from rfl, ih]; rfl
    rw [z0] at z
    exact z
end Q82
