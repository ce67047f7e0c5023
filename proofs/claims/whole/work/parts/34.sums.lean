/-! sums, clouds that are drawn -/
def q_sm (f : Nat → Int32) : Nat → Int32
  | 0 => 0
  | n + 1 => q_sm f n + f n
theorem q_sm_c {f g : Nat → Int32} : ∀ {n : Nat}, (∀ t, t < n → f t = g t) → q_sm f n = q_sm g n
  | 0, _ => rfl
  | n + 1, h => by
    unfold q_sm
    rw [q_sm_c (fun t ht => h t (by omega)), h n (by omega)]
section QS
variable {E : g_E} {d : Nat} {R : g_R} {σ : g_S}
theorem c_cloudy_l {O : g_O} {b : Nat} (hb : g_Tw b) (h : R (some (.int (q_sm (σ (b + 2)) 73))) σ) : ∀ k i, i + k = 73 → g_g E O 51 13 [none, some (.int (q_sm (σ (b + 2)) i)), some (.ref (b + 2)), some (.int 73), some (.int (nI i)), none] [] σ R := by
  intro k
  induction k with
  | zero =>
    intro i hi
    have e : i = 73 := by omega
    subst e
    exact t51_13 hb ⟨fun _ => h, fun c => absurd (nI_le (Nat.le_refl 73) (by omega)) c⟩
  | succ k ih =>
    intro i hi
    refine t51_13 hb ⟨fun c => absurd c (nI_ge (b := 73) (by omega) (by omega)), fun c => ⟨vp_in_nI (by omega) (by omega), ?_⟩⟩
    rw [q_cl (by omega), nI_1]
    exact ih (i + 1) (by omega)
theorem c_cloudy {b : Nat} (hb : g_Tw b) (h : R (some (.int (q_sm (σ (b + 2)) 73))) σ) : g_wp E (d + 1) 51 [.ref b] σ R :=
  t51_0 hb (c_cloudy_l hb h 73 0 (by omega))
theorem m_clouds_l {O : g_O} (h : R (some (.int (q_sm (fun t => σ 72 (112 + t)) 73))) σ) : ∀ k i, i + k = 73 → g_g E O 142 4 [some (.ref 68), some (.int (q_sm (fun t => σ 72 (112 + t)) i)), some (.int (nI i))] [] σ R := by
  intro k
  induction k with
  | zero =>
    intro i hi
    have e : i = 73 := by omega
    subst e
    exact t142_4 ⟨fun _ => h, fun c => absurd (nI_lt (a := 72) (b := 73) (by omega) (by omega)) c⟩
  | succ k ih =>
    intro i hi
    have e : (112 : Int32) + nI i = nI (112 + i) := nI_add 112 i
    refine t142_4 ⟨fun c => absurd c (nI_nlt (a := 72) (b := i) (by omega) (by omega)), fun c => ⟨by rw [e]; exact vp_in_nI (by omega) (by omega), ?_⟩⟩
    rw [e, q_cl (by omega), nI_1]
    exact ih (i + 1) (by omega)
theorem m_clouds (h : R (some (.int (q_sm (fun t => σ 72 (112 + t)) 73))) σ) : g_wp E (d + 1) 142 [.ref 68] σ R :=
  t142_0 (m_clouds_l h 73 0 (by omega))
/-- the draws -/
def q_xn (x : Int64) : Int64 := (x * (16807 : Int64)) - (x * (16807 : Int64)) / (2147483647 : Int64) * (2147483647 : Int64)
def q_xs (x : Int64) : Nat → Int64
  | 0 => x
  | n + 1 => q_xn (q_xs x n)
def q_dc (x : Int64) (p : Int32) (t : Nat) : Int32 := if 0 ≤ lg_cmp (q_xs x (t + 1) - q_xs x (t + 1) / (100 : Int64) * (100 : Int64)) p.toInt64 then 0 else 1
def g_dr (σ : g_S) (a o i : Nat) (x : Int64) (p : Int32) : g_S := fun b k => if b = a ∧ o ≤ k ∧ k < o + i then q_dc x p (k - o) else σ b k
theorem g_dr_0 {a o : Nat} {x : Int64} {p : Int32} : g_dr σ a o 0 x p = σ := by
  funext b k
  unfold g_dr
  rw [if_neg (by omega)]
theorem g_dr_ne {a o i b : Nat} {x : Int64} {p : Int32} (h : b ≠ a) : g_dr σ a o i x p b = σ b := by
  funext k
  unfold g_dr
  rw [if_neg (fun q => h q.1)]
theorem g_dr_in {a o i k : Nat} {x : Int64} {p : Int32} (h : k < i) : g_dr σ a o i x p a (o + k) = q_dc x p k := by
  unfold g_dr
  rw [if_pos ⟨rfl, by omega, by omega⟩, Nat.add_sub_cancel_left]
theorem g_dr_out {a o i k : Nat} {x : Int64} {p : Int32} (h : k < o ∨ o + i ≤ k) : g_dr σ a o i x p a k = σ a k := by
  unfold g_dr
  rw [if_neg (by omega)]
theorem g_dr_s {a o i : Nat} {x : Int64} {p v : Int32} (hv : v = q_dc x p i) : g_up (g_dr σ a o i x p) a (o + i) v = g_dr σ a o (i + 1) x p := by
  subst hv
  funext b k
  unfold g_up g_dr
  by_cases h : b = a
  · by_cases h1 : k = o + i
    · rw [if_pos ⟨h, h1⟩, if_pos ⟨h, by omega, by omega⟩, h1, Nat.add_sub_cancel_left]
    · rw [if_neg (fun q => h1 q.2)]
      by_cases h2 : o ≤ k ∧ k < o + i
      · rw [if_pos ⟨h, h2⟩, if_pos ⟨h, by omega, by omega⟩]
      · rw [if_neg (fun q => h2 q.2), if_neg (by omega)]
  · rw [if_neg (fun q => h q.1), if_neg (fun q => h q.1), if_neg (fun q => h q.1)]
theorem c_draw_l {O : g_O} {b : Nat} {x : Int64} {p : Int32} (hb : g_Tw b) (h : R none (g_dr σ (b + 2) 0 73 x p)) : ∀ k i, i + k = 73 → g_g E O 50 6 [some (.ref b), none, some (.int p), some (.long (q_xs x i)), none, some (.int (nI i))] [] (g_dr σ (b + 2) 0 i x p) R := by
  intro k
  induction k with
  | zero =>
    intro i hi
    have e : i = 73 := by omega
    subst e
    exact t50_6 hb ⟨fun _ => h, fun c => absurd (nI_le (a := 73) (Nat.le_refl 73) (by omega)) c⟩
  | succ k ih =>
    intro i hi
    refine t50_6 hb ⟨fun c => absurd c (nI_ge (b := 73) (by omega) (by omega)), fun c => ⟨fun c2 => ⟨vp_in_nI (by omega) (by omega), fun s es => ?_⟩, fun c2 => ⟨vp_in_nI (by omega) (by omega), fun s es => ?_⟩⟩⟩
    · have := g_dr_s (σ := σ) (a := b + 2) (o := 0) (i := i) (x := x) (p := p) (v := 0) (by unfold q_dc; rw [if_pos]; exact c2)
      rw [Nat.zero_add] at this
      rw [es, q_cl (by omega), this, nI_1]
      exact ih (i + 1) (by omega)
    · have := g_dr_s (σ := σ) (a := b + 2) (o := 0) (i := i) (x := x) (p := p) (v := 1) (by unfold q_dc; rw [if_neg]; exact c2)
      rw [Nat.zero_add] at this
      rw [es, q_cl (by omega), this, nI_1]
      exact ih (i + 1) (by omega)
theorem m_draw_l {O : g_O} {x : Int64} {p : Int32} (h : g_g E O 143 48 [some (.ref 68), none, some (.int p), some (.long (q_xs x 73)), none, some (.int (nI 73))] [] (g_dr σ 72 112 73 x p) R) : ∀ k i, i + k = 73 → g_g E O 143 48 [some (.ref 68), none, some (.int p), some (.long (q_xs x i)), none, some (.int (nI i))] [] (g_dr σ 72 112 i x p) R := by
  intro k
  induction k with
  | zero =>
    intro i hi
    have e : i = 73 := by omega
    subst e
    exact h
  | succ k ih =>
    intro i hi
    have e : (112 : Int32) + nI i = nI (112 + i) := nI_add 112 i
    refine t143_48 ⟨fun c => absurd c (nI_nlt (a := 72) (b := i) (by omega) (by omega)), fun c => ⟨fun c2 => ⟨by rw [e]; exact vp_in_nI (by omega) (by omega), fun s es => ?_⟩, fun c2 => ⟨by rw [e]; exact vp_in_nI (by omega) (by omega), fun s es => ?_⟩⟩⟩
    · have := g_dr_s (σ := σ) (a := 72) (o := 112) (i := i) (x := x) (p := p) (v := 0) (by unfold q_dc; rw [if_pos]; exact c2)
      rw [es, e, q_cl (by omega), this, nI_1]
      exact ih (i + 1) (by omega)
    · have := g_dr_s (σ := σ) (a := 72) (o := 112) (i := i) (x := x) (p := p) (v := 1) (by unfold q_dc; rw [if_neg]; exact c2)
      rw [es, e, q_cl (by omega), this, nI_1]
      exact ih (i + 1) (by omega)
end QS
