/-! small things: conditions, indices, answers, and the least methods of both -/
theorem q_R {R : g_R} {a b : Int32} {σ : g_S} (h : R (some (.int a)) σ) (e : b = a) : R (some (.int b)) σ := e ▸ h
theorem q_0 {A B : Prop} (a : A) : ((0 : Int32) = 0 → A) ∧ (¬ ((0 : Int32) = 0) → B) := ⟨fun _ => a, fun q => absurd rfl q⟩
theorem q_1 {A B : Prop} (b : B) : ((1 : Int32) = 0 → A) ∧ (¬ ((1 : Int32) = 0) → B) := ⟨fun q => absurd q (by decide), fun _ => b⟩
theorem n_0 {A B : Prop} (b : B) : (¬ (0 : Int32) = 0 → A) ∧ (¬ (¬ (0 : Int32) = 0) → B) := ⟨fun q => absurd rfl q, fun _ => b⟩
theorem n_1 {A B : Prop} (a : A) : (¬ (1 : Int32) = 0 → A) ∧ (¬ (¬ (1 : Int32) = 0) → B) := ⟨fun _ => a, fun q => absurd (fun z => absurd z (by decide)) q⟩
theorem q_ix {x : Int32} {n : Nat} (h0 : 0 ≤ x.toInt) (h1 : x.toInt < n) (hn : n < 2 ^ 31) : ∃ j : Nat, j < n ∧ x = nI j := vp_in_of (vp_in_iff.mpr ⟨h0, h1⟩) hn
theorem q_lt {x y : Int32} : x < y ↔ x.toInt < y.toInt := Int32.lt_iff_toInt_lt
theorem q_le {x y : Int32} : x ≤ y ↔ x.toInt ≤ y.toInt := Int32.le_iff_toInt_le
theorem q_inj {x y : Int32} (h : x.toInt = y.toInt) : x = y := Int32.toInt_inj.mp h
theorem q_cl {n : Nat} (h : n < 2 ^ 31) : (nI n).toNatClampNeg = n := nI_clamp h
theorem q_cmp_lt (x y : Int64) : lg_cmp x y < 0 ↔ x.toInt < y.toInt := by
  unfold lg_cmp
  by_cases h1 : x > y
  · rw [if_pos h1]
    have := Int64.lt_iff_toInt_lt.mp h1
    exact ⟨fun h => absurd h (by decide), fun h => by omega⟩
  · rw [if_neg h1]
    have h1 : ¬ y.toInt < x.toInt := fun q => h1 (Int64.lt_iff_toInt_lt.mpr q)
    by_cases h2 : x = y
    · rw [if_pos h2, h2]
      exact ⟨fun h => absurd h (by decide), fun h => by omega⟩
    · rw [if_neg h2]
      have h2 : ¬ x.toInt = y.toInt := fun q => h2 (Int64.toInt_inj.mp q)
      exact ⟨fun _ => by omega, fun _ => by decide⟩
theorem q_cmp_gt (x y : Int64) : 0 < lg_cmp x y ↔ y.toInt < x.toInt := by
  unfold lg_cmp
  by_cases h1 : x > y
  · rw [if_pos h1]
    have := Int64.lt_iff_toInt_lt.mp h1
    exact ⟨fun _ => this, fun h => by decide⟩
  · rw [if_neg h1]
    have h1 : ¬ y.toInt < x.toInt := fun q => h1 (Int64.lt_iff_toInt_lt.mpr q)
    by_cases h2 : x = y
    · rw [if_pos h2]
      exact ⟨fun h => absurd h (by decide), fun h => absurd h h1⟩
    · rw [if_neg h2]
      exact ⟨fun h => absurd h (by decide), fun h => absurd h h1⟩
section QB
variable {E : g_E} {d : Nat} {R : g_R} {σ : g_S}
theorem m_inL {v l h : Int64} (hp : l.toInt ≤ v.toInt → v.toInt ≤ h.toInt → R (some (.int 1)) σ) (hn : v.toInt < l.toInt ∨ h.toInt < v.toInt → R (some (.int 0)) σ) : g_wp E (d + 1) 107 [.long v, .long l, .long h] σ R :=
  t107_0 ⟨fun c => hn (Or.inl ((q_cmp_lt _ _).mp c)), fun c => ⟨fun c2 => hn (Or.inr ((q_cmp_gt _ _).mp c2)), fun c2 => hp (by
    rw [q_cmp_lt] at c; omega) (by rw [q_cmp_gt] at c2; omega)⟩⟩
theorem m_in {x : Int32} {l h : Int64} (a b : Int) (el : l.toInt = a) (eh : h.toInt = b) (hp : a ≤ x.toInt → x.toInt ≤ b → R (some (.int 1)) σ) (hn : x.toInt < a ∨ b < x.toInt → R (some (.int 0)) σ) : g_wp E (d + 1) 107 [.long x.toInt64, .long l, .long h] σ R := by
  subst el; subst eh
  exact m_inL (fun h1 h2 => hp (by rwa [Int32.toInt_toInt64] at h1) (by rwa [Int32.toInt_toInt64] at h2)) (fun q => hn (by rwa [Int32.toInt_toInt64] at q))
theorem c_isRow {x : Int32} (hp : 0 ≤ x.toInt → x.toInt ≤ 7 → R (some (.int 1)) σ) (hn : x.toInt < 0 ∨ 7 < x.toInt → R (some (.int 0)) σ) : g_wp E (d + 1) 24 [.int x] σ R :=
  t24_0 ⟨fun c => hn (Or.inl (by simp only [q_lt, q_le, Int32.reduceToInt] at *; omega)), fun c => ⟨fun c2 => hn (Or.inr (by simp only [q_lt, q_le, Int32.reduceToInt] at *; omega)), fun c2 => hp (by simp only [q_lt, q_le, Int32.reduceToInt] at *; omega) (by simp only [q_lt, q_le, Int32.reduceToInt] at *; omega)⟩⟩
theorem m_isRow {x : Int32} (hp : 0 ≤ x.toInt → x.toInt ≤ 7 → R (some (.int 1)) σ) (hn : x.toInt < 0 ∨ 7 < x.toInt → R (some (.int 0)) σ) : g_wp E (d + 2) 109 [.int x] σ R :=
  t109_0 (m_in 0 7 rfl rfl (fun h1 h2 => ⟨_, rfl, by decide, hp h1 h2⟩) (fun h => ⟨_, rfl, by decide, hn h⟩))
theorem c_isSlot {x : Int32} (hp : 0 ≤ x.toInt → x.toInt ≤ 72 → R (some (.int 1)) σ) (hn : x.toInt < 0 ∨ 72 < x.toInt → R (some (.int 0)) σ) : g_wp E (d + 1) 102 [.int x] σ R :=
  t102_0 ⟨fun c => hn (Or.inl (by simp only [q_lt, q_le, Int32.reduceToInt] at *; omega)), fun c => ⟨fun c2 => hn (Or.inr (by simp only [q_lt, q_le, Int32.reduceToInt] at *; omega)), fun c2 => hp (by simp only [q_lt, q_le, Int32.reduceToInt] at *; omega) (by simp only [q_lt, q_le, Int32.reduceToInt] at *; omega)⟩⟩
theorem m_isSlot {x : Int32} (hp : 0 ≤ x.toInt → x.toInt ≤ 72 → R (some (.int 1)) σ) (hn : x.toInt < 0 ∨ 72 < x.toInt → R (some (.int 0)) σ) : g_wp E (d + 2) 135 [.int x] σ R :=
  t135_0 (m_in 0 72 rfl rfl (fun h1 h2 => ⟨_, rfl, by decide, hp h1 h2⟩) (fun h => ⟨_, rfl, by decide, hn h⟩))
theorem c_isCell {x : Int32} (hp : 0 ≤ x.toInt → x.toInt ≤ 80 → R (some (.int 1)) σ) (hn : x.toInt < 0 ∨ 80 < x.toInt → R (some (.int 0)) σ) : g_wp E (d + 1) 103 [.int x] σ R :=
  t103_0 ⟨fun c => hn (Or.inl (by simp only [q_lt, q_le, Int32.reduceToInt] at *; omega)), fun c => ⟨fun c2 => hn (Or.inr (by simp only [q_lt, q_le, Int32.reduceToInt] at *; omega)), fun c2 => hp (by simp only [q_lt, q_le, Int32.reduceToInt] at *; omega) (by simp only [q_lt, q_le, Int32.reduceToInt] at *; omega)⟩⟩
theorem m_isCell {x : Int32} (hp : 0 ≤ x.toInt → x.toInt ≤ 80 → R (some (.int 1)) σ) (hn : x.toInt < 0 ∨ 80 < x.toInt → R (some (.int 0)) σ) : g_wp E (d + 2) 136 [.int x] σ R :=
  t136_0 (m_in 0 80 rfl rfl (fun h1 h2 => ⟨_, rfl, by decide, hp h1 h2⟩) (fun h => ⟨_, rfl, by decide, hn h⟩))
theorem c_isSort {x : Int32} (hp : 0 ≤ x.toInt → x.toInt ≤ 4 → R (some (.int 1)) σ) (hn : x.toInt < 0 ∨ 4 < x.toInt → R (some (.int 0)) σ) : g_wp E (d + 1) 104 [.int x] σ R :=
  t104_0 ⟨fun c => hn (Or.inl (by simp only [q_lt, q_le, Int32.reduceToInt] at *; omega)), fun c => ⟨fun c2 => hn (Or.inr (by simp only [q_lt, q_le, Int32.reduceToInt] at *; omega)), fun c2 => hp (by simp only [q_lt, q_le, Int32.reduceToInt] at *; omega) (by simp only [q_lt, q_le, Int32.reduceToInt] at *; omega)⟩⟩
theorem c_isLean {x : Int32} (hp : -3 ≤ x.toInt → x.toInt ≤ 3 → R (some (.int 1)) σ) (hn : x.toInt < -3 ∨ 3 < x.toInt → R (some (.int 0)) σ) : g_wp E (d + 1) 105 [.int x] σ R :=
  t105_0 ⟨fun c => hn (Or.inl (by simp only [q_lt, q_le, Int32.reduceToInt] at *; omega)), fun c => ⟨fun c2 => hn (Or.inr (by simp only [q_lt, q_le, Int32.reduceToInt] at *; omega)), fun c2 => hp (by simp only [q_lt, q_le, Int32.reduceToInt] at *; omega) (by simp only [q_lt, q_le, Int32.reduceToInt] at *; omega)⟩⟩
theorem m_isLean {x : Int32} (hp : -3 ≤ x.toInt → x.toInt ≤ 3 → R (some (.int 1)) σ) (hn : x.toInt < -3 ∨ 3 < x.toInt → R (some (.int 0)) σ) : g_wp E (d + 2) 137 [.int x] σ R :=
  t137_0 (m_in (-3) 3 rfl rfl (fun h1 h2 => ⟨_, rfl, by decide, hp h1 h2⟩) (fun h => ⟨_, rfl, by decide, hn h⟩))
theorem m_isThere (hp : 0 < (σ 72 4).toInt → R (some (.int 1)) σ) (hn : (σ 72 4).toInt ≤ 0 → R (some (.int 0)) σ) : g_wp E (d + 1) 134 [.ref 68] σ R :=
  t134_0 ⟨fun c => hn (by simp only [q_lt, q_le, Int32.reduceToInt] at *; omega), fun c => hp (by simp only [q_lt, q_le, Int32.reduceToInt] at *; omega)⟩
theorem m_isShop {x : Int32} (h6 : ∃ n, n ≤ 8 ∧ σ 72 6 = nI n) (hp : 0 ≤ x.toInt → x.toInt < (σ 72 6).toInt → R (some (.int 1)) σ) (hn : x.toInt < 0 ∨ (σ 72 6).toInt ≤ x.toInt → R (some (.int 0)) σ) : g_wp E (d + 2) 138 [.ref 68, .int x] σ R := by
  obtain ⟨n, hn8, e⟩ := h6
  have e2 : ((σ 72 6 - (1 : Int32)).toInt64).toInt = (σ 72 6).toInt - 1 := by
    rw [Int32.toInt_toInt64, e, show (1 : Int32) = nI 1 from rfl, pk_sub_toInt (by omega) (by omega), nI_toInt (by omega)]
    rfl
  refine t138_0 (m_in 0 _ rfl e2 (fun h1 h2 => ⟨_, rfl, by decide, hp h1 (by omega)⟩) (fun h => ⟨_, rfl, by decide, hn (by omega)⟩))
theorem c_fine {x : Int32} (h : R (some (.int x)) (g_up σ 0 10 0)) : g_wp E (d + 1) 100 [.ref 0, .int x] σ R := t100_0 (fun s e => by rw [e]; exact h)
theorem c_found {x : Int32} (h : R (some (.int (-1000010 - x))) (g_up σ 0 10 x)) : g_wp E (d + 1) 99 [.ref 0, .int x] σ R := t99_0 (fun s e => by rw [e]; exact h)
theorem m_found {x : Int32} (h : R (some (.int (-1000010 - x))) (g_up σ 68 1 x)) : g_wp E (d + 1) 108 [.ref 68, .int x] σ R := t108_0 (fun s e => by rw [e]; exact h)
/-- Arrays.fill -/
def g_fl (σ : g_S) (a n : Nat) (v : Int32) : g_S := fun b k => if b = a ∧ k < n then v else σ b k
theorem g_fl_0 {a : Nat} {v : Int32} : g_fl σ a 0 v = σ := by
  funext b k
  unfold g_fl
  rw [if_neg (by omega)]
theorem g_fl_s {a i : Nat} {v : Int32} : g_up (g_fl σ a i v) a i v = g_fl σ a (i + 1) v := by
  funext b k
  unfold g_up g_fl
  by_cases h : b = a
  · by_cases h1 : k = i
    · rw [if_pos ⟨h, h1⟩, if_pos ⟨h, by omega⟩]
    · rw [if_neg (fun q => h1 q.2)]
      by_cases h2 : k < i
      · rw [if_pos ⟨h, h2⟩, if_pos ⟨h, by omega⟩]
      · rw [if_neg (fun q => h2 q.2), if_neg (fun q => h2 (by omega))]
  · rw [if_neg (fun q => h q.1), if_neg (fun q => h q.1), if_neg (fun q => h q.1)]
theorem g_fl_ne {a n b : Nat} {v : Int32} (h : b ≠ a) : g_fl σ a n v b = σ b := by
  funext k
  unfold g_fl
  rw [if_neg (fun q => h q.1)]
theorem c_fill_l {O : g_O} {a n : Nat} {v : Int32} (ha : g_kd a = 100) (hn : g_ln a = n) (hb : n < 2 ^ 31) (h : R none (g_fl σ a n v)) : ∀ k i, i + k = n → g_g E O 192 5 [some (.ref a), some (.int v), some (.int (nI i)), some (.int (nI n))] [] (g_fl σ a i v) R := by
  intro k
  induction k with
  | zero =>
    intro i hi
    have e : i = n := by omega
    subst e
    exact t192_5 ⟨fun _ => h, fun c => absurd (nI_le (Nat.le_refl _) hb) c⟩
  | succ k ih =>
    intro i hi
    refine t192_5 ⟨fun c => absurd c (nI_ge (by omega) hb), fun c => ⟨ha, ?_, fun s hs => ?_⟩⟩
    · rw [hn]; exact vp_in_nI (by omega) hb
    · rw [hs, q_cl (by omega), g_fl_s, nI_1]
      exact ih (i + 1) (by omega)
theorem c_fill {a n : Nat} {v : Int32} (ha : g_kd a = 100) (hn : g_ln a = n) (hb : n < 2 ^ 31) (h : R none (g_fl σ a n v)) : g_wp E (d + 1) 192 [.ref a, .int v] σ R := by
  refine t192_0 ⟨by omega, by omega, ?_⟩
  have := c_fill_l (E := E) (O := g_wp E d) (σ := σ) ha hn hb h n 0 (by omega)
  rw [g_fl_0] at this
  rw [hn]
  exact this
end QB
