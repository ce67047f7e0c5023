/-! arithmetic without overflow, changes of rows -/
theorem q_bm {x : Int} (h1 : -2147483648 ≤ x) (h2 : x < 2147483648) : x.bmod (2 ^ 32) = x := by
  rw [Int.bmod_def]
  have : ((2 ^ 32 : Nat) : Int) = 4294967296 := by decide
  rw [this]
  omega
theorem q_add {x y : Int32} (h1 : -2147483648 ≤ x.toInt + y.toInt) (h2 : x.toInt + y.toInt < 2147483648) : (x + y).toInt = x.toInt + y.toInt := by
  rw [Int32.toInt_add]; exact q_bm h1 h2
theorem q_sub {x y : Int32} (h1 : -2147483648 ≤ x.toInt - y.toInt) (h2 : x.toInt - y.toInt < 2147483648) : (x - y).toInt = x.toInt - y.toInt := by
  rw [Int32.toInt_sub]; exact q_bm h1 h2
theorem q_mul {x y : Int32} (h1 : -2147483648 ≤ x.toInt * y.toInt) (h2 : x.toInt * y.toInt < 2147483648) : (x * y).toInt = x.toInt * y.toInt := by
  rw [Int32.toInt_mul]; exact q_bm h1 h2
theorem q_rng (x : Int32) : -2147483648 ≤ x.toInt ∧ x.toInt < 2147483648 := ⟨Int32.le_toInt x, Int32.toInt_lt x⟩
theorem q_a64 {x y : Int32} : (x.toInt64 + y.toInt64).toInt = x.toInt + y.toInt := by
  have a := q_rng x
  have b := q_rng y
  rw [Int64.toInt_add, Int32.toInt_toInt64, Int32.toInt_toInt64, Int.bmod_def]
  have : ((2 ^ 64 : Nat) : Int) = 18446744073709551616 := by decide
  rw [this]
  omega
theorem g_up_up {σ : g_S} {a j : Nat} {v w : Int32} : g_up (g_up σ a j v) a j w = g_up σ a j w := by
  funext b k
  unfold g_up
  by_cases h : b = a ∧ k = j
  · rw [if_pos h, if_pos h]
  · rw [if_neg h, if_neg h, if_neg h]
theorem g_r5 : ∀ r, r < 8 → g_kd (5 + r) = 100 ∧ g_ln (5 + r) = 40 := by decide
theorem CE.dr {σ μ : g_S} {a o i : Nat} {x : Int64} {p : Int32} (h : CE σ μ) : CE (g_dr σ a o i x p) (g_dr μ a o i x p) := fun b k q => by
  unfold g_dr
  by_cases e : b = a ∧ o ≤ k ∧ k < o + i
  · rw [if_pos e, if_pos e]
  · rw [if_neg e, if_neg e]; exact h b k q
theorem lo_dr {σ σ1 : g_S} {a o i : Nat} {x : Int64} {p : Int32} (h : ∀ b, b < 68 → σ1 b = σ b) (ha : 68 ≤ a) : ∀ b, b < 68 → g_dr σ1 a o i x p b = σ b := fun b hb => (g_dr_ne (by omega)).trans (h b hb)
/-- a stretch of one number -/
def g_fz (σ : g_S) (a o n : Nat) (v : Int32) : g_S := fun b k => if b = a ∧ o ≤ k ∧ k < o + n then v else σ b k
theorem g_fz_0 {σ : g_S} {a o : Nat} {v : Int32} : g_fz σ a o 0 v = σ := by
  funext b k
  unfold g_fz
  rw [if_neg (by omega)]
theorem g_fz_s {σ : g_S} {a o i : Nat} {v : Int32} : g_up (g_fz σ a o i v) a (o + i) v = g_fz σ a o (i + 1) v := by
  funext b k
  unfold g_up g_fz
  by_cases h : b = a
  · by_cases h1 : k = o + i
    · rw [if_pos ⟨h, h1⟩, if_pos ⟨h, by omega, by omega⟩]
    · rw [if_neg (fun q => h1 q.2)]
      by_cases h2 : o ≤ k ∧ k < o + i
      · rw [if_pos ⟨h, h2⟩, if_pos ⟨h, by omega, by omega⟩]
      · rw [if_neg (fun q => h2 q.2), if_neg (by omega)]
  · rw [if_neg (fun q => h q.1), if_neg (fun q => h q.1), if_neg (fun q => h q.1)]
theorem g_fz_ne {σ : g_S} {a o n b : Nat} {v : Int32} (h : b ≠ a) : g_fz σ a o n v b = σ b := by
  funext k
  unfold g_fz
  rw [if_neg (fun q => h q.1)]
theorem g_fz_in {σ : g_S} {a o n k : Nat} {v : Int32} (h : o ≤ k ∧ k < o + n) : g_fz σ a o n v a k = v := by
  unfold g_fz
  rw [if_pos ⟨rfl, h⟩]
theorem g_fz_out {σ : g_S} {a o n k : Nat} {v : Int32} (h : k < o ∨ o + n ≤ k) : g_fz σ a o n v a k = σ a k := by
  unfold g_fz
  rw [if_neg (by omega)]
theorem CE.fz {σ μ : g_S} {a o n : Nat} {v : Int32} (h : CE σ μ) : CE (g_fz σ a o n v) (g_fz μ a o n v) := fun b k q => by
  unfold g_fz
  by_cases e : b = a ∧ o ≤ k ∧ k < o + n
  · rw [if_pos e, if_pos e]
  · rw [if_neg e, if_neg e]; exact h b k q
theorem lo_fz {σ σ1 : g_S} {a o n : Nat} {v : Int32} (h : ∀ b, b < 68 → σ1 b = σ b) (ha : 68 ≤ a) : ∀ b, b < 68 → g_fz σ1 a o n v b = σ b := fun b hb => (g_fz_ne (by omega)).trans (h b hb)
theorem g_fl_in {σ : g_S} {a n k : Nat} {v : Int32} (h : k < n) : g_fl σ a n v a k = v := by
  unfold g_fl
  rw [if_pos ⟨rfl, h⟩]
theorem g_cp_in {σ : g_S} {s d sp dp n k : Nat} (h : dp ≤ k ∧ k < dp + n) : g_cp σ s d sp dp n d k = σ s (sp + (k - dp)) := by
  unfold g_cp
  rw [if_pos ⟨rfl, h⟩]
theorem g_cp_out {σ : g_S} {s d sp dp n k : Nat} (h : k < dp ∨ dp + n ≤ k) : g_cp σ s d sp dp n d k = σ d k := by
  unfold g_cp
  rw [if_neg (by omega)]
/-- rows and status alone -/
theorem RC.rows {σ σ' μ μ' : g_S} (w : RC σ μ) (hσ : ∀ a, a < 68 → 12 < a → (a < 21 ∨ 27 < a) → (a < 40 ∨ 65 < a) → σ' a = σ a) (h0 : σ' 0 9 = σ 0 9) (hμ : ∀ a, 71 < a → μ' a = μ a) (m8 : μ' 68 8 = μ 68 8) (m9 : μ' 68 9 = μ 68 9) (m26 : μ' 68 26 = μ 68 26) (hs : σ' 0 10 = μ' 68 1) (k2 : ∀ i, i < 8 → σ' 2 i = μ' 69 i) (k3 : ∀ i, i < 8 → σ' 3 i = μ' 70 i) (k5 : ∀ r, r < 8 → ∀ i, i < 40 → σ' (5 + r) i = μ' 71 (40 * r + i)) : RC σ' μ' := by
  unfold RC at w ⊢
  obtain ⟨h1, h2, h3, h4, h5, h6, h7, h8, h9, h10, h11⟩ := w
  rw [hμ 74 (by omega), hμ 72 (by omega), hμ 81 (by omega), hμ 82 (by omega), hμ 83 (by omega), hσ 14 (by omega) (by omega) (by omega) (by omega), hσ 13 (by omega) (by omega) (by omega) (by omega), hσ 67 (by omega) (by omega) (by omega) (by omega), hσ 66 (by omega) (by omega) (by omega) (by omega), h0, m8, m9, m26]
  refine ⟨k2, k3, k5, h4, h5, h6, hs, h8.low (fun a h1 h2 => hσ a (by omega) (by omega) (by omega) (by omega)), fun k hk => ⟨fun q => ((h9 k hk).1 q).low (fun a h1 h2 => hσ a (by omega) (by omega) (by omega) (by omega)), fun q => ?_⟩, h10, h11⟩
  rw [hσ (28 + 6 * k) (by omega) (by omega) (by omega) (by omega)]
  exact (h9 k hk).2 q
theorem WF.rows {μ μ' : g_S} (w : WF μ) (hμ : ∀ a, 71 < a → μ' a = μ a) (m8 : μ' 68 8 = μ 68 8) (m26 : μ' 68 26 = μ 68 26) (h1 : ∀ i, i < 8 → μ' 69 i = -1 ∨ μ' 69 i = 0 ∨ μ' 69 i = 1 ∨ μ' 69 i = 2) (h2 : ∀ i, i < 8 → ∃ n, n ≤ 40 ∧ μ' 70 i = nI n) : WF μ' := by
  unfold WF at w ⊢
  rw [hμ 74 (by omega), hμ 72 (by omega), hμ 81 (by omega), hμ 82 (by omega), m8, m26]
  obtain ⟨-, -, h3, h4, h5, h6, h7⟩ := w
  exact ⟨h1, h2, h3, h4, h5, h6, h7⟩
