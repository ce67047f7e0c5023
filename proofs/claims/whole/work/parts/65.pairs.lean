/-! pairs: copy -/
theorem q_cmp_le (x y : Int64) : lg_cmp x y ≤ 0 ↔ x.toInt ≤ y.toInt := by
  have h := q_cmp_gt x y
  have e : lg_cmp x y ≤ 0 ↔ ¬ (0 < lg_cmp x y) := by simp only [q_lt, q_le]; omega
  rw [e, h]; omega
theorem q_nsub {a b : Nat} (h : b ≤ a) : nI a - nI b = nI (a - b) := by
  have e := nI_add (a - b) b
  rw [Nat.sub_add_cancel h] at e
  rw [← e, Int32.add_sub_cancel]
theorem g_cp_0 {σ : g_S} {s d sp dp : Nat} : g_cp σ s d sp dp 0 = σ := by
  funext b k
  unfold g_cp
  rw [if_neg (by omega)]
theorem g_cp_s {σ : g_S} {s d sp dp m : Nat} {v : Int32} (hv : v = σ s (sp + m)) : g_up (g_cp σ s d sp dp m) d (dp + m) v = g_cp σ s d sp dp (m + 1) := by
  subst hv
  funext b k
  unfold g_up g_cp
  by_cases h : b = d
  · by_cases h1 : k = dp + m
    · rw [if_pos ⟨h, h1⟩, if_pos ⟨h, by omega, by omega⟩, h1, Nat.add_sub_cancel_left]
    · rw [if_neg (fun q => h1 q.2)]
      by_cases h2 : dp ≤ k ∧ k < dp + m
      · rw [if_pos ⟨h, h2⟩, if_pos ⟨h, by omega, by omega⟩]
      · rw [if_neg (fun q => h2 q.2), if_neg (by omega)]
  · rw [if_neg (fun q => h q.1), if_neg (fun q => h q.1), if_neg (fun q => h q.1)]
theorem g_cp_p {σ : g_S} {s d sp dp m : Nat} {v : Int32} (hv : v = σ s sp) : g_up (g_cp σ s d (sp + 1) (dp + 1) m) d dp v = g_cp σ s d sp dp (m + 1) := by
  subst hv
  funext b k
  unfold g_up g_cp
  by_cases h : b = d
  · by_cases h1 : k = dp
    · rw [if_pos ⟨h, h1⟩, if_pos ⟨h, by omega, by omega⟩, h1, Nat.sub_self, Nat.add_zero]
    · rw [if_neg (fun q => h1 q.2)]
      by_cases h2 : dp + 1 ≤ k ∧ k < dp + 1 + m
      · rw [if_pos ⟨h, h2⟩, if_pos ⟨h, by omega, by omega⟩, show sp + 1 + (k - (dp + 1)) = sp + (k - dp) by omega]
      · rw [if_neg (fun q => h2 q.2), if_neg (by omega)]
  · rw [if_neg (fun q => h q.1), if_neg (fun q => h q.1), if_neg (fun q => h q.1)]
theorem CE.cp {σ μ : g_S} {s d sp dp m : Nat} (h : CE σ μ) (hs : σ s = μ s) : CE (g_cp σ s d sp dp m) (g_cp μ s d sp dp m) := fun b k q => by
  unfold g_cp
  by_cases e : b = d ∧ dp ≤ k ∧ k < dp + m
  · rw [if_pos e, if_pos e, hs]
  · rw [if_neg e, if_neg e]; exact h b k q
theorem lo_cp {σ σ1 : g_S} {s d sp dp m : Nat} (h : ∀ b, b < 68 → σ1 b = σ b) (ha : 68 ≤ d) : ∀ b, b < 68 → g_cp σ1 s d sp dp m b = σ b := fun b hb => (g_cp_ne (by omega)).trans (h b hb)
theorem hi_cp {σ σ1 : g_S} {s d sp dp m : Nat} (h : ∀ b, 68 ≤ b → σ1 b = σ b) (ha : d < 68) : ∀ b, 68 ≤ b → g_cp σ1 s d sp dp m b = σ b := fun b hb => (g_cp_ne (by omega)).trans (h b hb)
section Q65
variable {E : g_E} {d : Nat} {R : g_R} {σ : g_S}
theorem c_oneLane {a b : Nat} (ha : a < 8) (hb : b < 8) (hp : σ 2 a = σ 2 b → R (some (.int 1)) σ) (hn : σ 2 a ≠ σ 2 b → R (some (.int 0)) σ) : g_wp E (d + 1) 26 [.ref 1, .int (nI a), .int (nI b)] σ R := by
  refine t26_0 ⟨vp_in_nI ha (by omega), vp_in_nI hb (by omega), ?_⟩
  rw [q_cl (by omega), q_cl (by omega)]
  exact ⟨hn, fun c => hp (Classical.not_not.mp c)⟩
theorem c_move {a b i j n : Nat} (ha : a < 8) (hb : b < 8) (hi : i + n ≤ 40) (hj : j + n ≤ 40) (h : R none (g_cp σ (5 + a) (5 + b) i j n)) : g_wp E (d + 1) 32 [.ref 1, .int (nI a), .int (nI i), .int (nI b), .int (nI j), .int (nI n)] σ R := by
  have e1 := g_r5 a ha
  have e2 := g_r5 b hb
  have nn : ∀ k, k ≤ 40 → ¬ nI k < 0 := fun k hk => nI_nlt (a := k) (b := 0) (by omega) (by omega)
  refine t32_0 ?_
  rw [q_cl (by omega), q_cl (by omega), q_cl (by omega), q_cl (by omega), q_cl (by omega), e1.1, e1.2, e2.1, e2.2]
  exact ⟨vp_in_nI ha (by omega), vp_in_nI hb (by omega), rfl, rfl, nn i (by omega), nn j (by omega), nn n (by omega), hi, hj, fun s es => es ▸ h⟩
theorem m_copy_u {O : g_O} {a b i j n : Nat} (ha : a < 8) (hb : b < 8) (hi : i + n ≤ 40) (hj : j + n ≤ 40) (hc : ∀ k, k < n → 40 * a + i + k < 40 * b + j ∨ 40 * b + j + k ≤ 40 * a + i + k) (h : R (some (.int (nI n))) (g_cp σ 71 71 (40 * a + i) (40 * b + j) n)) : ∀ k m, m + k = n → g_g E O 112 143 [some (.ref 68), some (.int (nI a)), some (.int (nI i)), some (.int (nI b)), some (.int (nI j)), some (.int (nI n)), some (.int 1), some (.int (nI m)), none] [] (g_cp σ 71 71 (40 * a + i) (40 * b + j) m) R := by
  intro k
  induction k with
  | zero =>
    intro m hm
    have e : m = n := by omega
    subst e
    exact t112_143 ⟨fun _ => h, fun c => absurd (nI_le (Nat.le_refl _) (by omega)) c⟩
  | succ k ih =>
    intro m hm
    have e1 : (40 : Int32) * nI a + nI i + nI m = nI (40 * a + i + m) := by
      rw [show (40 : Int32) = nI 40 from rfl, pk_mul, nI_add, nI_add]
    have e2 : (40 : Int32) * nI b + nI j + nI m = nI (40 * b + j + m) := by
      rw [show (40 : Int32) = nI 40 from rfl, pk_mul, nI_add, nI_add]
    refine t112_143 ⟨fun c => absurd c (nI_ge (by omega) (by omega)), fun c => ⟨fun c2 => absurd c2 (by decide), fun c2 => t112_167 ?_⟩⟩
    rw [e1, e2, q_cl (by omega), q_cl (by omega)]
    refine ⟨vp_in_nI (by omega) (by omega), vp_in_nI (by omega) (by omega), fun s es => ?_⟩
    rw [g_cp_s (g_cp_out (hc m (by omega) |>.imp (fun q => q) (fun q => q)))] at es
    rw [es, nI_1]
    exact ih (m + 1) (by omega)
theorem m_copy_d {O : g_O} {a b i j n : Nat} (ha : a < 8) (hb : b < 8) (hi : i + n ≤ 40) (hj : j + n ≤ 40) (hc : ∀ k, k < n → 40 * a + i + k < 40 * b + j + k + 1 ∨ 40 * b + j + n ≤ 40 * a + i + k) (h : R (some (.int (nI n))) (g_cp σ 71 71 (40 * a + i) (40 * b + j) n)) : ∀ k m, m + k = n → g_g E O 112 143 [some (.ref 68), some (.int (nI a)), some (.int (nI i)), some (.int (nI b)), some (.int (nI j)), some (.int (nI n)), some (.int 0), some (.int (nI m)), none] [] (g_cp σ 71 71 (40 * a + i + k) (40 * b + j + k) m) R := by
  intro k
  induction k with
  | zero =>
    intro m hm
    have e : m = n := by omega
    subst e
    exact t112_143 ⟨fun _ => h, fun c => absurd (nI_le (Nat.le_refl _) (by omega)) c⟩
  | succ k ih =>
    intro m hm
    have e0 : nI n - 1 - nI m = nI k := by
      rw [show (1 : Int32) = nI 1 from rfl, q_nsub (by omega), q_nsub (by omega), show n - 1 - m = k by omega]
    have e1 : (40 : Int32) * nI a + nI i + nI k = nI (40 * a + i + k) := by
      rw [show (40 : Int32) = nI 40 from rfl, pk_mul, nI_add, nI_add]
    have e2 : (40 : Int32) * nI b + nI j + nI k = nI (40 * b + j + k) := by
      rw [show (40 : Int32) = nI 40 from rfl, pk_mul, nI_add, nI_add]
    refine t112_143 ⟨fun c => absurd c (nI_ge (by omega) (by omega)), fun c => ⟨fun c2 => ?_, fun c2 => absurd rfl c2⟩⟩
    rw [e0]
    refine t112_167 ?_
    rw [e1, e2, q_cl (by omega), q_cl (by omega)]
    refine ⟨vp_in_nI (by omega) (by omega), vp_in_nI (by omega) (by omega), fun s es => ?_⟩
    have q : g_cp σ 71 71 (40 * a + i + (k + 1)) (40 * b + j + (k + 1)) m 71 (40 * a + i + k) = σ 71 (40 * a + i + k) := g_cp_out (by have := hc k (by omega); omega)
    rw [q, ← Nat.add_assoc, ← Nat.add_assoc, g_cp_p rfl] at es
    rw [es, nI_1]
    exact ih (m + 1) (by omega)
end Q65
theorem p_copy {E : g_E} (x1 x2 x3 x4 x5 : Int32) : g_pr E 71 112 [.int x1, .int x2, .int x3, .int x4, .int x5] := by
  refine ⟨fun μ => if x1.toInt < 0 ∨ 7 < x1.toInt ∨ x3.toInt < 0 ∨ 7 < x3.toInt then -1000001 else if μ 69 x1.toNatClampNeg = -1 ∨ μ 69 x3.toNatClampNeg = -1 then -1000010 - 1 else if μ 69 x1.toNatClampNeg = μ 69 x3.toNatClampNeg then if x2.toInt < 0 ∨ x4.toInt < 0 ∨ x5.toInt < 0 ∨ (μ 70 x1.toNatClampNeg).toInt < x2.toInt + x5.toInt ∨ (μ 70 x3.toNatClampNeg).toInt < x4.toInt + x5.toInt then -1000010 - 2 else x5 else -1000010 - 5, fun μ => if x1.toInt < 0 ∨ 7 < x1.toInt ∨ x3.toInt < 0 ∨ 7 < x3.toInt then μ else if μ 69 x1.toNatClampNeg = -1 ∨ μ 69 x3.toNatClampNeg = -1 then g_up μ 68 1 1 else if μ 69 x1.toNatClampNeg = μ 69 x3.toNatClampNeg then if x2.toInt < 0 ∨ x4.toInt < 0 ∨ x5.toInt < 0 ∨ (μ 70 x1.toNatClampNeg).toInt < x2.toInt + x5.toInt ∨ (μ 70 x3.toNatClampNeg).toInt < x4.toInt + x5.toInt then g_up μ 68 1 2 else g_cp (g_up μ 68 1 0) 71 71 (40 * x1.toNatClampNeg + x2.toNatClampNeg) (40 * x3.toNatClampNeg + x4.toNatClampNeg) x5.toNatClampNeg else g_up μ 68 1 5, fun σ μ R hc hw h => ?_, fun σ R hw h => ?_, fun μ h => ?_⟩
  · dsimp only at h
    obtain ⟨h1, h2, h3, h4, h5, h6, h7, h8, h9, h10, h11⟩ := id hc
    refine t71_0 (c_isRow (fun a1 a2 => ⟨_, rfl, q_1 (c_isRow (fun a3 a4 => ⟨_, rfl, n_1 ?_⟩) (fun a3 => ⟨_, rfl, n_0 ?_⟩))⟩) (fun a1 => ⟨_, rfl, q_0 ?_⟩))
    · obtain ⟨a, ha, rfl⟩ := q_ix (x := x1) (n := 8) (by omega) (by omega) (by omega)
      obtain ⟨b, hb, rfl⟩ := q_ix (x := x3) (n := 8) (by omega) (by omega) (by omega)
      rw [q_cl (by omega), q_cl (by omega)] at h
      obtain ⟨m, hm, em⟩ := hw.2.1 a ha
      obtain ⟨w, hw', ew⟩ := hw.2.1 b hb
      have e3 : σ 3 a = nI m := (h2 a ha).trans em
      have e3b : σ 3 b = nI w := (h2 b hb).trans ew
      have em' : (μ 70 a).toInt = m := by rw [em, nI_toInt (by omega)]
      have ew' : (μ 70 b).toInt = w := by rw [ew, nI_toInt (by omega)]
      have em2 : (σ 3 a).toInt = m := by rw [e3, nI_toInt (by omega)]
      have ew2 : (σ 3 b).toInt = w := by rw [e3b, nI_toInt (by omega)]
      rw [em', ew'] at h
      refine c_isMissing ha (fun e => ⟨_, rfl, n_1 (c_found ⟨_, rfl, ?_⟩)⟩) (fun e => ⟨_, rfl, n_0 (c_isMissing hb (fun e' => ⟨_, rfl, q_1 (c_found ⟨_, rfl, ?_⟩)⟩) (fun e' => ⟨_, rfl, q_0 (c_oneLane ha hb (fun e5 => ⟨_, rfl, n_1 (c_hasItems ha ⟨m, hm, e3⟩ (fun b1 b2 b3 => ⟨_, rfl, q_1 (c_hasItems hb ⟨w, hw', e3b⟩ (fun b4 b5 b6 => ⟨_, rfl, n_1 ?_⟩) (fun b4 => ⟨_, rfl, n_0 (c_found ⟨_, rfl, ?_⟩)⟩))⟩) (fun b1 => ⟨_, rfl, q_0 (c_found ⟨_, rfl, ?_⟩)⟩))⟩) (fun e5 => ⟨_, rfl, n_0 (c_found ⟨_, rfl, ?_⟩)⟩))⟩))⟩)
      · rw [h1 a ha] at e
        repeat (first | rw [if_pos (Or.inl e)] at h | rw [if_neg (by omega)] at h)
        exact h _ (hc.stat 1) (hi_up (fun _ _ => rfl) (by omega))
      · rw [h1 b hb] at e'
        repeat (first | rw [if_pos (Or.inr e')] at h | rw [if_neg (by omega)] at h)
        exact h _ (hc.stat 1) (hi_up (fun _ _ => rfl) (by omega))
      · rw [h1 a ha] at e e5
        rw [h1 b hb] at e' e5
        have ee : ¬ (μ 69 a = -1 ∨ μ 69 b = -1) := fun q => q.elim e e'
        rw [em2] at b3
        rw [ew2] at b6
        repeat (first | rw [if_neg ee] at h | rw [if_pos e5] at h | rw [if_pos (by omega)] at h | rw [if_neg (by omega)] at h)
        obtain ⟨i, hi, rfl⟩ := q_ix (x := x2) (n := 41) (by omega) (by omega) (by omega)
        obtain ⟨j, hj, rfl⟩ := q_ix (x := x4) (n := 41) (by omega) (by omega) (by omega)
        obtain ⟨n, hn, rfl⟩ := q_ix (x := x5) (n := 41) (by omega) (by omega) (by omega)
        rw [q_cl (by omega), q_cl (by omega), q_cl (by omega)] at h
        rw [nI_toInt (by omega), nI_toInt (by omega)] at b3 b6
        refine c_move ha hb (by omega) (by omega) ⟨rfl, c_fine ⟨_, rfl, ?_⟩⟩
        refine h _ ?_ (hi_up (hi_cp (fun _ _ => rfl) (by omega)) (by omega))
        have k : ∀ a', a' ≠ 68 → a' ≠ 71 → g_cp (g_up μ 68 1 0) 71 71 (40 * a + i) (40 * b + j) n a' = μ a' := fun a q1 q2 => (g_cp_ne q2).trans (g_up_ne q1)
        have k8 : ∀ i', g_cp (g_up μ 68 1 0) 71 71 (40 * a + i) (40 * b + j) n 68 i' = g_up μ 68 1 0 68 i' := fun i' => congrFun (g_cp_ne (by omega)) i'
        refine hc.rows (fun a q1 q2 q3 q4 => (g_up_ne (by omega)).trans (g_cp_ne (by omega))) ((g_up_n (by omega)).trans (congrFun (g_cp_ne (by omega)) 9)) (fun a ha => k a (by omega) (by omega)) ((k8 8).trans (g_up_n (by omega))) ((k8 9).trans (g_up_n (by omega))) ((k8 26).trans (g_up_n (by omega))) (g_up_s.trans ((k8 1).trans g_up_s).symm) (fun i' hi' => ?_) (fun i' hi' => ?_) (fun r hr i' hi' => ?_)
        · rw [k 69 (by omega) (by omega)]
          exact (congrFun ((g_up_ne (by omega)).trans (g_cp_ne (by omega))) i').trans (h1 i' hi')
        · rw [k 70 (by omega) (by omega)]
          exact (congrFun ((g_up_ne (by omega)).trans (g_cp_ne (by omega))) i').trans (h2 i' hi')
        · refine (congrFun (g_up_ne (by omega)) i').trans ?_
          by_cases e' : r = b
          · subst e'
            by_cases e6 : j ≤ i' ∧ i' < j + n
            · rw [g_cp_in e6, g_cp_in (by omega), h3 a ha _ (by omega), show 40 * a + i + (40 * r + i' - (40 * r + j)) = 40 * a + (i + (i' - j)) by omega]
              exact (congrFun (g_up_ne (by omega)) _).symm
            · rw [g_cp_out (by omega), g_cp_out (by omega), h3 r hr i' hi']
              exact (congrFun (g_up_ne (by omega)) _).symm
          · rw [congrFun (g_cp_ne (by omega)) i', g_cp_out (by omega), h3 r hr i' hi']
            exact (congrFun (g_up_ne (by omega)) _).symm
      · rw [h1 a ha] at e e5
        rw [h1 b hb] at e' e5
        have ee : ¬ (μ 69 a = -1 ∨ μ 69 b = -1) := fun q => q.elim e e'
        rw [em2] at b3
        rw [ew2] at b4
        repeat (first | rw [if_neg ee] at h | rw [if_pos e5] at h | rw [if_pos (by omega)] at h | rw [if_neg (by omega)] at h)
        exact h _ (hc.stat 2) (hi_up (fun _ _ => rfl) (by omega))
      · rw [h1 a ha] at e e5
        rw [h1 b hb] at e' e5
        have ee : ¬ (μ 69 a = -1 ∨ μ 69 b = -1) := fun q => q.elim e e'
        rw [em2] at b1
        repeat (first | rw [if_neg ee] at h | rw [if_pos e5] at h | rw [if_pos (by omega)] at h | rw [if_neg (by omega)] at h)
        exact h _ (hc.stat 2) (hi_up (fun _ _ => rfl) (by omega))
      · rw [h1 a ha] at e e5
        rw [h1 b hb] at e' e5
        have ee : ¬ (μ 69 a = -1 ∨ μ 69 b = -1) := fun q => q.elim e e'
        repeat (first | rw [if_neg ee] at h | rw [if_neg e5] at h | rw [if_neg (by omega)] at h)
        exact h _ (hc.stat 5) (hi_up (fun _ _ => rfl) (by omega))
    · repeat (first | rw [if_pos (by omega)] at h | rw [if_neg (by omega)] at h)
      exact h σ hc (fun _ _ => rfl)
    · repeat (first | rw [if_pos (by omega)] at h | rw [if_neg (by omega)] at h)
      exact h σ hc (fun _ _ => rfl)
  · dsimp only at h
    refine t112_0 (fun s es => m_isRow (fun a1 a2 => ⟨_, rfl, q_1 (m_isRow (fun a3 a4 => ⟨_, rfl, n_1 (fun s2 es2 => ?_)⟩) (fun a3 => ⟨_, rfl, n_0 ?_⟩))⟩) (fun a1 => ⟨_, rfl, q_0 ?_⟩))
    · obtain ⟨a, ha, rfl⟩ := q_ix (x := x1) (n := 8) (by omega) (by omega) (by omega)
      obtain ⟨b, hb, rfl⟩ := q_ix (x := x3) (n := 8) (by omega) (by omega) (by omega)
      rw [q_cl (by omega), q_cl (by omega)] at h ⊢
      have m1 := hw.1 a ha
      have m2 := hw.1 b hb
      obtain ⟨m, hm, em⟩ := hw.2.1 a ha
      obtain ⟨w, hw', ew⟩ := hw.2.1 b hb
      have em' : (mo σ 70 a).toInt = m := by rw [em, nI_toInt (by omega)]
      have ew' : (mo σ 70 b).toInt = w := by rw [ew, nI_toInt (by omega)]
      rw [em', ew'] at h
      have s169 : s 69 = mo σ 69 := by rw [es, mo_row (by omega)]; exact g_up_ne (by omega)
      have s170 : s 70 = mo σ 70 := by rw [es, mo_row (by omega)]; exact g_up_ne (by omega)
      have l2 : ∀ b, b < 68 → s2 b = σ b := by rw [es2, es]; exact lo_up (lo_up (fun _ _ => rfl) (by omega)) (by omega)
      have ce : CE s2 (g_up (mo σ) 68 1 0) := by rw [es2, es]; exact CE.st
      have ce2 : ∀ v, CE (g_up s2 68 1 v) (g_up (mo σ) 68 1 v) := by rw [es2, es]; exact fun v => CE.st2
      have lg : ∀ x y : Int32, (x.toInt64 + y.toInt64).toInt = x.toInt + y.toInt := fun x y => q_a64
      simp only [q_cmp_gt, q_cmp_le, lg, Int32.toInt_toInt64]
      rw [s169, s170, em', ew']
      refine ⟨vp_in_nI ha (by omega), fun c1 => m_found ⟨_, rfl, ?_⟩, fun c1 => ⟨vp_in_nI hb (by omega), fun c2 => ⟨vp_in_nI ha (by omega), vp_in_nI hb (by omega), fun c3 => ⟨fun c4 => m_found ⟨_, rfl, ?_⟩, fun c4 => ⟨fun c5 => m_found ⟨_, rfl, ?_⟩, fun c5 => ⟨fun c6 => m_found ⟨_, rfl, ?_⟩, fun c6 => ⟨vp_in_nI ha (by omega), fun c7 => m_found ⟨_, rfl, ?_⟩, fun c7 => ⟨vp_in_nI hb (by omega), fun c8 => ?_, fun c8 => m_found ⟨_, rfl, ?_⟩⟩⟩⟩⟩⟩, fun c3 => m_found ⟨_, rfl, ?_⟩⟩, fun c2 => m_found ⟨_, rfl, ?_⟩⟩⟩
      · have e := (q_lane m1).2.mp c1
        repeat (first | rw [if_pos (Or.inl e)] at h | rw [if_neg (by omega)] at h)
        exact h _ (lo_up l2 (by omega)) (ce2 _)
      · have e : ¬ mo σ 69 a = -1 := fun q => c1 ((q_lane m1).2.mpr q)
        have e' : ¬ mo σ 69 b = -1 := fun q => ((q_lane m2).1.mpr q) c2
        have ee : ¬ (mo σ 69 a = -1 ∨ mo σ 69 b = -1) := fun q => q.elim e e'
        simp only [q_lt, q_le, Int32.reduceToInt] at c4
        repeat (first | rw [if_neg ee] at h | rw [if_pos c3] at h | rw [if_pos (by omega)] at h | rw [if_neg (by omega)] at h)
        exact h _ (lo_up l2 (by omega)) (ce2 _)
      · have e : ¬ mo σ 69 a = -1 := fun q => c1 ((q_lane m1).2.mpr q)
        have e' : ¬ mo σ 69 b = -1 := fun q => ((q_lane m2).1.mpr q) c2
        have ee : ¬ (mo σ 69 a = -1 ∨ mo σ 69 b = -1) := fun q => q.elim e e'
        simp only [q_lt, q_le, Int32.reduceToInt] at c4 c5
        repeat (first | rw [if_neg ee] at h | rw [if_pos c3] at h | rw [if_pos (by omega)] at h | rw [if_neg (by omega)] at h)
        exact h _ (lo_up l2 (by omega)) (ce2 _)
      · have e : ¬ mo σ 69 a = -1 := fun q => c1 ((q_lane m1).2.mpr q)
        have e' : ¬ mo σ 69 b = -1 := fun q => ((q_lane m2).1.mpr q) c2
        have ee : ¬ (mo σ 69 a = -1 ∨ mo σ 69 b = -1) := fun q => q.elim e e'
        simp only [q_lt, q_le, Int32.reduceToInt] at c4 c5 c6
        repeat (first | rw [if_neg ee] at h | rw [if_pos c3] at h | rw [if_pos (by omega)] at h | rw [if_neg (by omega)] at h)
        exact h _ (lo_up l2 (by omega)) (ce2 _)
      · have e : ¬ mo σ 69 a = -1 := fun q => c1 ((q_lane m1).2.mpr q)
        have e' : ¬ mo σ 69 b = -1 := fun q => ((q_lane m2).1.mpr q) c2
        have ee : ¬ (mo σ 69 a = -1 ∨ mo σ 69 b = -1) := fun q => q.elim e e'
        simp only [q_lt, q_le, Int32.reduceToInt] at c4 c5 c6
        repeat (first | rw [if_neg ee] at h | rw [if_pos c3] at h | rw [if_pos (by omega)] at h | rw [if_neg (by omega)] at h)
        exact h _ (lo_up l2 (by omega)) (ce2 _)
      · have e : ¬ mo σ 69 a = -1 := fun q => c1 ((q_lane m1).2.mpr q)
        have e' : ¬ mo σ 69 b = -1 := fun q => ((q_lane m2).1.mpr q) c2
        have ee : ¬ (mo σ 69 a = -1 ∨ mo σ 69 b = -1) := fun q => q.elim e e'
        simp only [q_lt, q_le, Int32.reduceToInt] at c4 c5 c6
        repeat (first | rw [if_neg ee] at h | rw [if_pos c3] at h | rw [if_pos (by omega)] at h | rw [if_neg (by omega)] at h)
        obtain ⟨i, hi, rfl⟩ := q_ix (x := x2) (n := 41) (by omega) (by omega) (by omega)
        obtain ⟨j, hj, rfl⟩ := q_ix (x := x4) (n := 41) (by omega) (by omega) (by omega)
        obtain ⟨n, hn, rfl⟩ := q_ix (x := x5) (n := 41) (by omega) (by omega) (by omega)
        rw [q_cl (by omega), q_cl (by omega), q_cl (by omega)] at h
        rw [nI_toInt (by omega), nI_toInt (by omega)] at c7 c8
        have hf : R (some (.int (nI n))) (g_cp s2 71 71 (40 * a + i) (40 * b + j) n) := h _ (lo_cp l2 (by omega)) (ce.cp ce.e71)
        rw [nI_ltI (by omega) (by omega)]
        refine ⟨fun c9 => ?_, fun c9 => ?_⟩
        · have := m_copy_d (E := E) (O := g_wp E 19) (σ := s2) (R := R) ha hb (by omega) (by omega) (fun k hk => by
            by_cases e : a = b
            · subst e; omega
            · omega) hf n 0 (by omega)
          rw [g_cp_0] at this
          exact this
        · have := m_copy_u (E := E) (O := g_wp E 19) (σ := s2) (R := R) ha hb (by omega) (by omega) (fun k hk => by
            by_cases e : a = b
            · subst e; omega
            · omega) hf n 0 (by omega)
          rw [g_cp_0] at this
          exact this
      · have e : ¬ mo σ 69 a = -1 := fun q => c1 ((q_lane m1).2.mpr q)
        have e' : ¬ mo σ 69 b = -1 := fun q => ((q_lane m2).1.mpr q) c2
        have ee : ¬ (mo σ 69 a = -1 ∨ mo σ 69 b = -1) := fun q => q.elim e e'
        simp only [q_lt, q_le, Int32.reduceToInt] at c4 c5 c6
        repeat (first | rw [if_neg ee] at h | rw [if_pos c3] at h | rw [if_pos (by omega)] at h | rw [if_neg (by omega)] at h)
        exact h _ (lo_up l2 (by omega)) (ce2 _)
      · have e : ¬ mo σ 69 a = -1 := fun q => c1 ((q_lane m1).2.mpr q)
        have e' : ¬ mo σ 69 b = -1 := fun q => ((q_lane m2).1.mpr q) c2
        have ee : ¬ (mo σ 69 a = -1 ∨ mo σ 69 b = -1) := fun q => q.elim e e'
        repeat (first | rw [if_neg ee] at h | rw [if_neg c3] at h | rw [if_pos (by omega)] at h | rw [if_neg (by omega)] at h)
        exact h _ (lo_up l2 (by omega)) (ce2 _)
      · have e' : mo σ 69 b = -1 := (q_lane m2).1.mp c2
        repeat (first | rw [if_pos (Or.inr e')] at h | rw [if_neg (by omega)] at h)
        exact h _ (lo_up l2 (by omega)) (ce2 _)
    · subst es
      repeat (first | rw [if_pos (by omega)] at h | rw [if_neg (by omega)] at h)
      exact h _ (lo_up (fun _ _ => rfl) (by omega)) (Sc.rf.up rfl).ce
    · subst es
      repeat (first | rw [if_pos (by omega)] at h | rw [if_neg (by omega)] at h)
      exact h _ (lo_up (fun _ _ => rfl) (by omega)) (Sc.rf.up rfl).ce
  · dsimp only
    have k : ∀ s p n a', a' ≠ 68 → a' ≠ 71 → g_cp (g_up μ 68 1 0) 71 71 s p n a' = μ a' := fun s p n a q1 q2 => (g_cp_ne q2).trans (g_up_ne q1)
    have k8 : ∀ s p n i', g_cp (g_up μ 68 1 0) 71 71 s p n 68 i' = g_up μ 68 1 0 68 i' := fun s p n i' => congrFun (g_cp_ne (by omega)) i'
    split
    · exact h
    · split
      · exact h.stat 1
      · split
        · split
          · exact h.stat 2
          · refine h.rows (fun a ha => k _ _ _ a (by omega) (by omega)) ((k8 _ _ _ 8).trans (g_up_n (by omega))) ((k8 _ _ _ 26).trans (g_up_n (by omega))) ?_ ?_
            · rw [k _ _ _ 69 (by omega) (by omega)]; exact h.1
            · rw [k _ _ _ 70 (by omega) (by omega)]; exact h.2.1
        · exact h.stat 5
