/-! pairs: row, set, drop -/
section Q63
variable {E : g_E} {d : Nat} {R : g_R} {σ : g_S}
theorem c_lay {j : Nat} {l n : Int32} (hj : j < 8) (h : R none (g_fl (g_up (g_up σ 2 j l) 3 j n) (5 + j) 40 0)) : g_wp E (d + 2) 28 [.ref 1, .int (nI j), .int l, .int n] σ R := by
  have e := g_r5 j hj
  refine t28_0 ⟨vp_in_nI hj (by omega), fun s es => ⟨vp_in_nI hj (by omega), fun s2 es2 => ⟨vp_in_nI hj (by omega), ?_⟩⟩⟩
  rw [q_cl (by omega)] at es es2 ⊢
  subst es; subst es2
  exact c_fill e.1 e.2 (by omega) ⟨rfl, h⟩
theorem c_isMissing {j : Nat} (hj : j < 8) (hp : σ 2 j = -1 → R (some (.int 1)) σ) (hn : σ 2 j ≠ -1 → R (some (.int 0)) σ) : g_wp E (d + 1) 25 [.ref 1, .int (nI j)] σ R := by
  refine t25_0 ⟨vp_in_nI hj (by omega), ?_⟩
  rw [q_cl (by omega)]
  exact ⟨hn, fun c => hp (Classical.not_not.mp c)⟩
theorem c_hasItems {j : Nat} {i n : Int32} (hj : j < 8) (hl : ∃ m, m ≤ 40 ∧ σ 3 j = nI m) (hp : 0 ≤ i.toInt → 0 ≤ n.toInt → i.toInt + n.toInt ≤ (σ 3 j).toInt → R (some (.int 1)) σ) (hn : i.toInt < 0 ∨ n.toInt < 0 ∨ (σ 3 j).toInt < i.toInt + n.toInt → R (some (.int 0)) σ) : g_wp E (d + 1) 27 [.ref 1, .int (nI j), .int i, .int n] σ R := by
  obtain ⟨m, hm, e⟩ := hl
  have hi := q_rng i
  refine t27_0 ⟨fun c => hn (Or.inl (by simp only [q_lt, q_le, Int32.reduceToInt] at c; omega)), fun c => ⟨fun c2 => hn (Or.inr (Or.inl (by simp only [q_lt, q_le, Int32.reduceToInt] at c2; omega))), fun c2 => ⟨vp_in_nI hj (by omega), ?_⟩⟩⟩
  rw [q_cl (by omega)]
  simp only [q_lt, q_le, Int32.reduceToInt] at c c2 ⊢
  have em : (σ 3 j).toInt = m := by rw [e, nI_toInt (by omega)]
  rw [q_sub (by omega) (by omega)]
  exact ⟨fun c3 => hn (by omega), fun c3 => hp (by omega) (by omega) (by omega)⟩
/-- the row that is laid -/
def g_lay (σ : g_S) (j : Nat) (l n : Int32) : g_S := g_fz (g_up (g_up (g_up σ 68 1 0) 69 j l) 70 j n) 71 (40 * j) 40 0
theorem m_lay_l {O : g_O} {j : Nat} {n : Int32} {w : Option Value} (hj : j < 8) (h : R (some (.int n)) (g_fz σ 71 (40 * j) 40 0)) : ∀ k i, i + k = 40 → g_g E O 110 65 [some (.ref 68), some (.int (nI j)), none, some (.int n), some (.int (nI i))] [] (g_fz σ 71 (40 * j) i 0) R := by
  intro k
  induction k with
  | zero =>
    intro i hi
    have e : i = 40 := by omega
    subst e
    exact t110_65 ⟨fun _ => h, fun c => absurd (nI_le (a := 40) (Nat.le_refl 40) (by omega)) c⟩
  | succ k ih =>
    intro i hi
    have e : (40 : Int32) * nI j + nI i = nI (40 * j + i) := by
      rw [show (40 : Int32) = nI 40 from rfl, pk_mul, nI_add]
    refine t110_65 ⟨fun c => absurd c (nI_ge (b := 40) (by omega) (by omega)), fun c => ⟨by rw [e]; exact vp_in_nI (by omega) (by omega), fun s es => ?_⟩⟩
    rw [es, e, q_cl (by omega), g_fz_s, nI_1]
    exact ih (i + 1) (by omega)
end Q63
theorem q_mo1 {σ : g_S} {a : Nat} (h : 68 ≤ a) (h2 : a ≠ 68) : g_up (g_up σ 68 0 0) 68 1 0 a = mo σ a := by
  rw [mo_row h]
  exact (g_up_ne h2).trans (g_up_ne h2)
theorem CE.st {σ : g_S} {v : Int32} : CE (g_up (g_up σ 68 0 0) 68 1 v) (g_up (mo σ) 68 1 v) := (Sc.rf.up rfl).cu 68 1 v (by omega)
theorem CE.st2 {σ : g_S} {v w : Int32} : CE (g_up (g_up (g_up σ 68 0 0) 68 1 w) 68 1 v) (g_up (mo σ) 68 1 v) := by
  rw [g_up_up]; exact CE.st
theorem p_row {E : g_E} (x1 x2 x3 : Int32) : g_pr E 69 110 [.int x1, .int x2, .int x3] := by
  refine ⟨fun μ => if x1.toInt < 0 ∨ 7 < x1.toInt ∨ x2.toInt < 0 ∨ 2 < x2.toInt ∨ 40 < x3.toInt then -1000001 else if x3.toInt < 0 then -1000010 - 4 else x3, fun μ => if x1.toInt < 0 ∨ 7 < x1.toInt ∨ x2.toInt < 0 ∨ 2 < x2.toInt ∨ 40 < x3.toInt then μ else if x3.toInt < 0 then g_up μ 68 1 4 else g_lay μ x1.toNatClampNeg x2 x3, fun σ μ R hc hw h => ?_, fun σ R hw h => ?_, fun μ h => ?_⟩
  · dsimp only at h
    refine t69_0 (c_isRow (fun a1 a2 => ⟨_, rfl, q_1 ⟨fun c1 => ?_, fun c1 => ⟨fun c2 => ?_, fun c2 => ⟨fun c3 => ⟨fun c4 => ?_, fun c4 => c_found ⟨_, rfl, ?_⟩⟩, fun c3 => ?_⟩⟩⟩⟩) (fun a1 => ⟨_, rfl, q_0 ?_⟩))
    · simp only [q_lt, q_le, Int32.reduceToInt] at c1
      repeat (first | rw [if_pos (by omega)] at h | rw [if_neg (by omega)] at h)
      exact h σ hc (fun _ _ => rfl)
    · simp only [q_lt, q_le, Int32.reduceToInt] at c1 c2
      repeat (first | rw [if_pos (by omega)] at h | rw [if_neg (by omega)] at h)
      exact h σ hc (fun _ _ => rfl)
    · simp only [q_lt, q_le, Int32.reduceToInt] at c1 c2 c3 c4
      obtain ⟨j, hj, rfl⟩ := q_ix (x := x1) (n := 8) (by omega) (by omega) (by omega)
      rw [q_cl (by omega)] at h
      repeat (first | rw [if_pos (by omega)] at h | rw [if_neg (by omega)] at h)
      refine c_lay hj ⟨rfl, c_fine ⟨_, rfl, h _ ?_ (fun a ha => ?_)⟩⟩
      · obtain ⟨h1, h2, h3, h4, h5, h6, h7, h8, h9, h10, h11⟩ := id hc
        refine hc.rows (fun a h1 h2 h3 h4 => ?_) ?_ (fun a ha => ?_) ?_ ?_ ?_ ?_ (fun i hi => ?_) (fun i hi => ?_) (fun r hr i hi => ?_)
        · exact (g_up_ne (by omega)).trans ((g_fl_ne (by omega)).trans ((g_up_ne (by omega)).trans (g_up_ne (by omega))))
        · exact (g_up_n (by omega)).trans (congrFun ((g_fl_ne (by omega)).trans ((g_up_ne (by omega)).trans (g_up_ne (by omega)))) 9)
        · exact (g_fz_ne (by omega)).trans ((g_up_ne (by omega)).trans ((g_up_ne (by omega)).trans (g_up_ne (by omega))))
        · exact (congrFun ((g_fz_ne (by omega)).trans ((g_up_ne (by omega)).trans (g_up_ne (by omega)))) 8).trans (g_up_n (by omega))
        · exact (congrFun ((g_fz_ne (by omega)).trans ((g_up_ne (by omega)).trans (g_up_ne (by omega)))) 9).trans (g_up_n (by omega))
        · exact (congrFun ((g_fz_ne (by omega)).trans ((g_up_ne (by omega)).trans (g_up_ne (by omega)))) 26).trans (g_up_n (by omega))
        · exact g_up_s.trans ((congrFun ((g_fz_ne (by omega)).trans ((g_up_ne (by omega)).trans (g_up_ne (by omega)))) 1).trans g_up_s).symm
        · rw [show g_lay μ j x2 x3 69 i = g_up (g_up μ 68 1 0) 69 j x2 69 i from congrFun ((g_fz_ne (by omega)).trans (g_up_ne (by omega))) i]
          refine (congrFun ((g_up_ne (by omega)).trans ((g_fl_ne (by omega)).trans (g_up_ne (by omega)))) i).trans ?_
          by_cases e : i = j
          · rw [e, g_up_s, g_up_s]
          · rw [g_up_n (by omega), g_up_n (by omega), h1 i hi]; exact (g_up_n (by omega)).symm
        · rw [show g_lay μ j x2 x3 70 i = g_up (g_up (g_up μ 68 1 0) 69 j x2) 70 j x3 70 i from congrFun (g_fz_ne (by omega)) i]
          refine (congrFun ((g_up_ne (by omega)).trans (g_fl_ne (by omega))) i).trans ?_
          by_cases e : i = j
          · rw [e, g_up_s, g_up_s]
          · rw [g_up_n (by omega), g_up_n (by omega), g_up_n (by omega), h2 i hi]; exact ((g_up_n (by omega)).trans (g_up_n (by omega))).symm
        · refine (congrFun (g_up_ne (by omega)) i).trans ?_
          by_cases e : r = j
          · subst e
            exact (g_fl_in hi).trans (g_fz_in (by omega)).symm
          · refine (congrFun ((g_fl_ne (by omega)).trans ((g_up_ne (by omega)).trans (g_up_ne (by omega)))) i).trans ?_
            refine (h3 r hr i hi).trans (((g_fz_out (by omega)).trans ?_).symm)
            exact congrFun ((g_up_ne (by omega)).trans ((g_up_ne (by omega)).trans (g_up_ne (by omega)))) _
      · exact (g_up_ne (by omega)).trans ((g_fl_ne (by omega)).trans ((g_up_ne (by omega)).trans (g_up_ne (by omega))))
    · simp only [q_lt, q_le, Int32.reduceToInt] at c1 c2 c3 c4
      repeat (first | rw [if_pos (by omega)] at h | rw [if_neg (by omega)] at h)
      exact h _ (hc.stat 4) (hi_up (fun _ _ => rfl) (by omega))
    · simp only [q_lt, q_le, Int32.reduceToInt] at c1 c2 c3
      repeat (first | rw [if_pos (by omega)] at h | rw [if_neg (by omega)] at h)
      exact h σ hc (fun _ _ => rfl)
    · repeat (first | rw [if_pos (by omega)] at h | rw [if_neg (by omega)] at h)
      exact h σ hc (fun _ _ => rfl)
  · dsimp only at h
    refine t110_0 (fun s es => m_isRow (fun a1 a2 => ⟨_, rfl, q_1 (m_in 0 2 rfl rfl (fun a3 a4 => ⟨_, rfl, q_1 ⟨fun c1 s2 es2 => ⟨fun c2 => ?_, fun c2 => m_found ⟨_, rfl, ?_⟩⟩, fun c1 => ?_⟩⟩) (fun a3 => ⟨_, rfl, q_0 ?_⟩))⟩) (fun a1 => ⟨_, rfl, q_0 ?_⟩))
    · simp only [q_lt, q_le, Int32.reduceToInt] at c1 c2
      obtain ⟨j, hj, rfl⟩ := q_ix (x := x1) (n := 8) (by omega) (by omega) (by omega)
      rw [q_cl (by omega)] at h ⊢
      repeat (first | rw [if_pos (by omega)] at h | rw [if_neg (by omega)] at h)
      refine ⟨vp_in_nI hj (by omega), fun s3 es3 => ⟨vp_in_nI hj (by omega), fun s4 es4 => ?_⟩⟩
      have := m_lay_l (E := E) (O := g_wp E 19) (σ := s4) (n := x3) (w := none) (R := R) hj ?_ 40 0 (by omega)
      · rw [g_fz_0] at this
        exact this
      · subst es; subst es2; subst es3; subst es4
        exact h _ (lo_fz (lo_up (lo_up (lo_up (lo_up (fun _ _ => rfl) (by omega)) (by omega)) (by omega)) (by omega)) (by omega)) (((CE.st.cu _ _ _).cu _ _ _).fz)
    · simp only [q_lt, q_le, Int32.reduceToInt] at c1 c2
      repeat (first | rw [if_pos (by omega)] at h | rw [if_neg (by omega)] at h)
      subst es; subst es2
      exact h _ (lo_up (lo_up (lo_up (fun _ _ => rfl) (by omega)) (by omega)) (by omega)) CE.st2
    · simp only [q_lt, q_le, Int32.reduceToInt] at c1
      repeat (first | rw [if_pos (by omega)] at h | rw [if_neg (by omega)] at h)
      subst es
      exact h _ (lo_up (fun _ _ => rfl) (by omega)) (Sc.rf.up rfl).ce
    · repeat (first | rw [if_pos (by omega)] at h | rw [if_neg (by omega)] at h)
      subst es
      exact h _ (lo_up (fun _ _ => rfl) (by omega)) (Sc.rf.up rfl).ce
    · repeat (first | rw [if_pos (by omega)] at h | rw [if_neg (by omega)] at h)
      subst es
      exact h _ (lo_up (fun _ _ => rfl) (by omega)) (Sc.rf.up rfl).ce
  · dsimp only
    split
    · exact h
    · split
      · exact h.stat 4
      · rename_i c1 c2
        obtain ⟨j, hj, rfl⟩ := q_ix (x := x1) (n := 8) (by omega) (by omega) (by omega)
        obtain ⟨l, hl, rfl⟩ := q_ix (x := x2) (n := 3) (by omega) (by omega) (by omega)
        obtain ⟨n, hn, rfl⟩ := q_ix (x := x3) (n := 41) (by omega) (by omega) (by omega)
        rw [q_cl (by omega)]
        refine h.rows (fun a ha => ?_) ?_ ?_ (fun i hi => ?_) (fun i hi => ?_)
        · exact (g_fz_ne (by omega)).trans ((g_up_ne (by omega)).trans ((g_up_ne (by omega)).trans (g_up_ne (by omega))))
        · exact (congrFun ((g_fz_ne (by omega)).trans ((g_up_ne (by omega)).trans (g_up_ne (by omega)))) 8).trans (g_up_n (by omega))
        · exact (congrFun ((g_fz_ne (by omega)).trans ((g_up_ne (by omega)).trans (g_up_ne (by omega)))) 26).trans (g_up_n (by omega))
        · rw [show g_lay μ j (nI l) (nI n) 69 i = g_up (g_up μ 68 1 0) 69 j (nI l) 69 i from congrFun ((g_fz_ne (by omega)).trans (g_up_ne (by omega))) i]
          by_cases e : i = j
          · rw [e, g_up_s]
            rcases (show l = 0 ∨ l = 1 ∨ l = 2 by omega) with rfl | rfl | rfl
            · exact Or.inr (Or.inl rfl)
            · exact Or.inr (Or.inr (Or.inl rfl))
            · exact Or.inr (Or.inr (Or.inr rfl))
          · rw [g_up_n (by omega), show g_up μ 68 1 0 69 i = μ 69 i from g_up_n (by omega)]; exact h.1 i hi
        · rw [show g_lay μ j (nI l) (nI n) 70 i = g_up (g_up (g_up μ 68 1 0) 69 j (nI l)) 70 j (nI n) 70 i from congrFun (g_fz_ne (by omega)) i]
          by_cases e : i = j
          · rw [e, g_up_s]; exact ⟨n, by omega, rfl⟩
          · rw [g_up_n (by omega), show g_up (g_up μ 68 1 0) 69 j (nI l) 70 i = μ 70 i from (g_up_n (by omega)).trans (g_up_n (by omega))]; exact h.2.1 i hi
