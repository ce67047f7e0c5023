/-! pairs: set, drop -/
def q_cast (l v : Int32) : Int32 := if l = 0 then v.toInt8.toInt32 else if l = 1 then v.toInt16.toInt32 else v
theorem q_lane {x : Int32} (h : x = -1 ∨ x = 0 ∨ x = 1 ∨ x = 2) : (¬ 0 ≤ x ↔ x = -1) ∧ (x < 0 ↔ x = -1) := by
  rcases h with rfl | rfl | rfl | rfl <;> decide
theorem q_mit {σ : g_S} {a : Nat} (h2 : a ≠ 68) : g_up (g_up σ 68 0 0) 68 1 0 a = σ a := (g_up_ne h2).trans (g_up_ne h2)
section Q64
variable {E : g_E} {d : Nat} {R : g_R} {σ : g_S}
theorem c_put {j i : Nat} {v : Int32} (hj : j < 8) (hi : i < 40) (h : R (some (.int (q_cast (σ 2 j) v))) (g_up σ (5 + j) i (q_cast (σ 2 j) v))) : g_wp E (d + 1) 30 [.ref 1, .int (nI j), .int (nI i), .int v] σ R := by
  have e := g_r5 j hj
  refine t30_0 ⟨vp_in_nI hj (by omega), vp_in_nI hj (by omega), ?_⟩
  rw [q_cl (by omega), q_cl (by omega), e.1, e.2]
  unfold q_cast at h
  refine ⟨fun c1 => ⟨vp_in_nI hj (by omega), fun c2 => ⟨rfl, vp_in_nI hi (by omega), fun s es => ⟨vp_in_nI hj (by omega), rfl, vp_in_nI hi (by omega), ?_⟩⟩, fun c2 => ⟨rfl, vp_in_nI hi (by omega), fun s es => ⟨vp_in_nI hj (by omega), rfl, vp_in_nI hi (by omega), ?_⟩⟩⟩, fun c1 => ⟨rfl, vp_in_nI hi (by omega), fun s es => ⟨vp_in_nI hj (by omega), rfl, vp_in_nI hi (by omega), ?_⟩⟩⟩
  · subst es
    rw [if_neg c1, if_neg c2] at h
    rw [g_up_s]; exact h
  · subst es
    rw [if_neg c1, if_pos (Classical.not_not.mp c2)] at h
    rw [g_up_s]; exact h
  · subst es
    rw [if_pos (Classical.not_not.mp c1)] at h
    rw [g_up_s]; exact h
end Q64
theorem p_set {E : g_E} (x1 x2 x3 : Int32) : g_pr E 70 111 [.int x1, .int x2, .int x3] := by
  refine ⟨fun μ => if x1.toInt < 0 ∨ 7 < x1.toInt then -1000001 else if μ 69 x1.toNatClampNeg = -1 then -1000010 - 1 else if x2.toInt < 0 ∨ (μ 70 x1.toNatClampNeg).toInt ≤ x2.toInt then -1000010 - 2 else q_cast (μ 69 x1.toNatClampNeg) x3, fun μ => if x1.toInt < 0 ∨ 7 < x1.toInt then μ else if μ 69 x1.toNatClampNeg = -1 then g_up μ 68 1 1 else if x2.toInt < 0 ∨ (μ 70 x1.toNatClampNeg).toInt ≤ x2.toInt then g_up μ 68 1 2 else g_up (g_up μ 68 1 0) 71 (40 * x1.toNatClampNeg + x2.toNatClampNeg) (q_cast (μ 69 x1.toNatClampNeg) x3), fun σ μ R hc hw h => ?_, fun σ R hw h => ?_, fun μ h => ?_⟩
  · dsimp only at h
    have hx := q_rng x2
    obtain ⟨h1, h2, h3, h4, h5, h6, h7, h8, h9, h10, h11⟩ := id hc
    refine t70_0 (c_isRow (fun a1 a2 => ⟨_, rfl, n_1 ?_⟩) (fun a1 => ⟨_, rfl, n_0 ?_⟩))
    · obtain ⟨j, hj, rfl⟩ := q_ix (x := x1) (n := 8) (by omega) (by omega) (by omega)
      rw [q_cl (by omega)] at h
      obtain ⟨m, hm, em⟩ := hw.2.1 j hj
      have e3 : σ 3 j = nI m := (h2 j hj).trans em
      have em' : (μ 70 j).toInt = m := by rw [em, nI_toInt (by omega)]
      refine c_isMissing hj (fun e => ⟨_, rfl, q_1 (c_found ⟨_, rfl, ?_⟩)⟩) (fun e => ⟨_, rfl, q_0 (c_hasItems hj ⟨m, hm, e3⟩ (fun b1 b2 b3 => ⟨_, rfl, n_1 ?_⟩) (fun b1 => ⟨_, rfl, n_0 (c_found ⟨_, rfl, ?_⟩)⟩))⟩)
      · rw [h1 j hj] at e
        repeat (first | rw [if_pos e] at h | rw [if_pos (by omega)] at h | rw [if_neg (by omega)] at h)
        exact h _ (hc.stat 1) (hi_up (fun _ _ => rfl) (by omega))
      · rw [h1 j hj] at e
        rw [e3, nI_toInt (by omega)] at b3
        simp only [Int32.reduceToInt] at b3
        rw [em'] at h
        repeat (first | rw [if_neg e] at h | rw [if_pos (by omega)] at h | rw [if_neg (by omega)] at h)
        obtain ⟨i, hi, rfl⟩ := q_ix (x := x2) (n := 40) (by omega) (by omega) (by omega)
        rw [q_cl (by omega)] at h
        refine c_put hj hi ⟨_, rfl, c_fine ⟨_, rfl, ?_⟩⟩
        rw [h1 j hj]
        refine h _ ?_ (hi_up (hi_up (fun _ _ => rfl) (by omega)) (by omega))
        have k : ∀ a, a ≠ 68 → a ≠ 71 → g_up (g_up μ 68 1 0) 71 (40 * j + i) (q_cast (μ 69 j) x3) a = μ a := fun a q1 q2 => (g_up_ne q2).trans (g_up_ne q1)
        have k8 : ∀ i', g_up (g_up μ 68 1 0) 71 (40 * j + i) (q_cast (μ 69 j) x3) 68 i' = g_up μ 68 1 0 68 i' := fun i' => congrFun (g_up_ne (by omega)) i'
        refine hc.rows (fun a q1 q2 q3 q4 => (g_up_ne (by omega)).trans (g_up_ne (by omega))) ((g_up_n (by omega)).trans (g_up_n (by omega))) (fun a ha => k a (by omega) (by omega)) ((k8 8).trans (g_up_n (by omega))) ((k8 9).trans (g_up_n (by omega))) ((k8 26).trans (g_up_n (by omega))) (g_up_s.trans ((k8 1).trans g_up_s).symm) (fun i' hi' => ?_) (fun i' hi' => ?_) (fun r hr i' hi' => ?_)
        · rw [k 69 (by omega) (by omega)]
          exact (congrFun ((g_up_ne (by omega)).trans (g_up_ne (by omega))) i').trans (h1 i' hi')
        · rw [k 70 (by omega) (by omega)]
          exact (congrFun ((g_up_ne (by omega)).trans (g_up_ne (by omega))) i').trans (h2 i' hi')
        · refine (congrFun (g_up_ne (by omega)) i').trans ?_
          by_cases e' : r = j ∧ i' = i
          · rw [e'.1, e'.2, g_up_s, g_up_s]
          · rw [g_up_n (by omega), g_up_n (by omega), h3 r hr i' hi']
            exact (congrFun (g_up_ne (by omega)) _).symm
      · rw [h1 j hj] at e
        rw [e3, nI_toInt (by omega)] at b1
        simp only [Int32.reduceToInt] at b1
        rw [em'] at h
        repeat (first | rw [if_neg e] at h | rw [if_pos (by omega)] at h | rw [if_neg (by omega)] at h)
        exact h _ (hc.stat 2) (hi_up (fun _ _ => rfl) (by omega))
    · repeat (first | rw [if_pos (by omega)] at h | rw [if_neg (by omega)] at h)
      exact h σ hc (fun _ _ => rfl)
  · dsimp only at h
    refine t111_0 (fun s es => m_isRow (fun a1 a2 => ⟨_, rfl, n_1 (fun s2 es2 => ?_)⟩) (fun a1 => ⟨_, rfl, n_0 ?_⟩))
    · obtain ⟨j, hj, rfl⟩ := q_ix (x := x1) (n := 8) (by omega) (by omega) (by omega)
      rw [q_cl (by omega)] at h ⊢
      have m1 := hw.1 j hj
      obtain ⟨m, hm, em⟩ := hw.2.1 j hj
      have em' : (mo σ 70 j).toInt = m := by rw [em, nI_toInt (by omega)]
      have s69 : s2 69 = mo σ 69 := by rw [es2, es]; exact q_mo1 (by omega) (by omega)
      have s169 : s 69 = mo σ 69 := by rw [es, mo_row (by omega)]; exact g_up_ne (by omega)
      have s170 : s 70 = mo σ 70 := by rw [es, mo_row (by omega)]; exact g_up_ne (by omega)
      have l2 : ∀ b, b < 68 → s2 b = σ b := by rw [es2, es]; exact lo_up (lo_up (fun _ _ => rfl) (by omega)) (by omega)
      have ce : CE s2 (g_up (mo σ) 68 1 0) := by rw [es2, es]; exact CE.st
      refine ⟨vp_in_nI hj (by omega), fun c1 => ⟨vp_in_nI hj (by omega), ?_⟩, fun c1 => m_found ⟨_, rfl, ?_⟩⟩
      · rw [s169] at c1
        have e : ¬ mo σ 69 j = -1 := fun q => ((q_lane m1).1.mpr q) c1
        rw [em'] at h
        refine m_in 0 ((m : Int) - 1) rfl ?_ (fun b1 b2 => ⟨_, rfl, n_1 ?_⟩) (fun b1 => ⟨_, rfl, n_0 (m_found ⟨_, rfl, ?_⟩)⟩)
        · rw [Int32.toInt_toInt64, s170, em, show (1 : Int32) = nI 1 from rfl, pk_sub_toInt (by omega) (by omega)]
          rfl
        · repeat (first | rw [if_neg e] at h | rw [if_pos (by omega)] at h | rw [if_neg (by omega)] at h)
          obtain ⟨i, hi, rfl⟩ := q_ix (x := x2) (n := 40) (by omega) (by omega) (by omega)
          have e40 : (40 : Int32) * nI j + nI i = nI (40 * j + i) := by
            rw [show (40 : Int32) = nI 40 from rfl, pk_mul, nI_add]
          rw [q_cl (by omega)] at h
          rw [s69, e40, q_cl (by omega)]
          have ix : vp_in (nI (40 * j + i)) 320 := vp_in_nI (by omega) (by omega)
          unfold q_cast at h
          refine ⟨vp_in_nI hj (by omega), fun c2 => ⟨vp_in_nI hj (by omega), fun c3 => ⟨ix, fun s3 es3 => ⟨ix, ?_⟩⟩, fun c3 => ⟨ix, fun s3 es3 => ⟨ix, ?_⟩⟩⟩, fun c2 => ⟨ix, fun s3 es3 => ⟨ix, ?_⟩⟩⟩
          · subst es3
            rw [if_neg c2, if_neg c3] at h
            rw [g_up_s]
            exact h _ (lo_up l2 (by omega)) (ce.cu _ _ _)
          · subst es3
            rw [if_neg c2, if_pos (Classical.not_not.mp c3)] at h
            rw [g_up_s]
            exact h _ (lo_up l2 (by omega)) (ce.cu _ _ _)
          · subst es3
            rw [if_pos (Classical.not_not.mp c2)] at h
            rw [g_up_s]
            exact h _ (lo_up l2 (by omega)) (ce.cu _ _ _)
        · repeat (first | rw [if_neg e] at h | rw [if_pos (by omega)] at h | rw [if_neg (by omega)] at h)
          subst es2; subst es
          exact h _ (lo_up l2 (by omega)) CE.st2
      · rw [s169] at c1
        have e : mo σ 69 j = -1 := (q_lane m1).1.mp c1
        repeat (first | rw [if_pos e] at h | rw [if_pos (by omega)] at h | rw [if_neg (by omega)] at h)
        subst es2; subst es
        exact h _ (lo_up l2 (by omega)) CE.st2
    · repeat (first | rw [if_pos (by omega)] at h | rw [if_neg (by omega)] at h)
      subst es
      exact h _ (lo_up (fun _ _ => rfl) (by omega)) (Sc.rf.up rfl).ce
  · dsimp only
    split
    · exact h
    · split
      · exact h.stat 1
      · split
        · exact h.stat 2
        · have k : ∀ o v a, a ≠ 68 → a ≠ 71 → g_up (g_up μ 68 1 0) 71 o v a = μ a := fun o v a q1 q2 => (g_up_ne q2).trans (g_up_ne q1)
          have k8 : ∀ o v i', g_up (g_up μ 68 1 0) 71 o v 68 i' = g_up μ 68 1 0 68 i' := fun o v i' => congrFun (g_up_ne (by omega)) i'
          refine h.rows (fun a ha => k _ _ a (by omega) (by omega)) ((k8 _ _ 8).trans (g_up_n (by omega))) ((k8 _ _ 26).trans (g_up_n (by omega))) ?_ ?_
          · rw [k _ _ 69 (by omega) (by omega)]; exact h.1
          · rw [k _ _ 70 (by omega) (by omega)]; exact h.2.1
theorem p_drop {E : g_E} (x1 : Int32) : g_pr E 72 113 [.int x1] := by
  refine ⟨fun μ => if x1.toInt < 0 ∨ 7 < x1.toInt then -1000001 else if μ 69 x1.toNatClampNeg = -1 then -1000010 - 1 else μ 70 x1.toNatClampNeg, fun μ => if x1.toInt < 0 ∨ 7 < x1.toInt then μ else if μ 69 x1.toNatClampNeg = -1 then g_up μ 68 1 1 else g_up (g_up μ 68 1 0) 69 x1.toNatClampNeg (-1), fun σ μ R hc hw h => ?_, fun σ R hw h => ?_, fun μ h => ?_⟩
  · dsimp only at h
    obtain ⟨h1, h2, h3, h4, h5, h6, h7, h8, h9, h10, h11⟩ := id hc
    refine t72_0 (c_isRow (fun a1 a2 => ⟨_, rfl, n_1 ?_⟩) (fun a1 => ⟨_, rfl, n_0 ?_⟩))
    · obtain ⟨j, hj, rfl⟩ := q_ix (x := x1) (n := 8) (by omega) (by omega) (by omega)
      rw [q_cl (by omega)] at h
      refine c_isMissing hj (fun e => ⟨_, rfl, q_1 (c_found ⟨_, rfl, ?_⟩)⟩) (fun e => ⟨_, rfl, q_0 (t29_0 ⟨vp_in_nI hj (by omega), fun s es => ⟨vp_in_nI hj (by omega), ⟨_, rfl, c_fine ⟨_, rfl, ?_⟩⟩⟩⟩)⟩)
      · rw [h1 j hj] at e
        repeat (first | rw [if_pos e] at h | rw [if_pos (by omega)] at h | rw [if_neg (by omega)] at h)
        exact h _ (hc.stat 1) (hi_up (fun _ _ => rfl) (by omega))
      · rw [h1 j hj] at e
        repeat (first | rw [if_neg e] at h | rw [if_pos (by omega)] at h | rw [if_neg (by omega)] at h)
        rw [q_cl (by omega)] at es ⊢
        subst es
        refine q_R (h _ ?_ (hi_up (hi_up (fun _ _ => rfl) (by omega)) (by omega))) (h2 j hj)
        have k : ∀ a, a ≠ 68 → a ≠ 69 → g_up (g_up μ 68 1 0) 69 j (-1) a = μ a := fun a q1 q2 => (g_up_ne q2).trans (g_up_ne q1)
        have k8 : ∀ i', g_up (g_up μ 68 1 0) 69 j (-1) 68 i' = g_up μ 68 1 0 68 i' := fun i' => congrFun (g_up_ne (by omega)) i'
        refine hc.rows (fun a q1 q2 q3 q4 => (g_up_ne (by omega)).trans (g_up_ne (by omega))) ((g_up_n (by omega)).trans (g_up_n (by omega))) (fun a ha => k a (by omega) (by omega)) ((k8 8).trans (g_up_n (by omega))) ((k8 9).trans (g_up_n (by omega))) ((k8 26).trans (g_up_n (by omega))) (g_up_s.trans ((k8 1).trans g_up_s).symm) (fun i' hi' => ?_) (fun i' hi' => ?_) (fun r hr i' hi' => ?_)
        · refine (congrFun (g_up_ne (by omega)) i').trans ?_
          by_cases e' : i' = j
          · rw [e', g_up_s, g_up_s]
          · rw [g_up_n (by omega), g_up_n (by omega), h1 i' hi']
            exact (g_up_n (by omega)).symm
        · rw [k 70 (by omega) (by omega)]
          exact (congrFun ((g_up_ne (by omega)).trans (g_up_ne (by omega))) i').trans (h2 i' hi')
        · rw [k 71 (by omega) (by omega)]
          exact (congrFun ((g_up_ne (by omega)).trans (g_up_ne (by omega))) i').trans (h3 r hr i' hi')
    · repeat (first | rw [if_pos (by omega)] at h | rw [if_neg (by omega)] at h)
      exact h σ hc (fun _ _ => rfl)
  · dsimp only at h
    refine t113_0 (fun s es => m_isRow (fun a1 a2 => ⟨_, rfl, n_1 (fun s2 es2 => ?_)⟩) (fun a1 => ⟨_, rfl, n_0 ?_⟩))
    · obtain ⟨j, hj, rfl⟩ := q_ix (x := x1) (n := 8) (by omega) (by omega) (by omega)
      rw [q_cl (by omega)] at h ⊢
      have m1 := hw.1 j hj
      have s169 : s 69 = mo σ 69 := by rw [es, mo_row (by omega)]; exact g_up_ne (by omega)
      have s170 : s 70 = mo σ 70 := by rw [es, mo_row (by omega)]; exact g_up_ne (by omega)
      have l2 : ∀ b, b < 68 → s2 b = σ b := by rw [es2, es]; exact lo_up (lo_up (fun _ _ => rfl) (by omega)) (by omega)
      have ce : CE s2 (g_up (mo σ) 68 1 0) := by rw [es2, es]; exact CE.st
      refine ⟨vp_in_nI hj (by omega), fun c1 => ⟨vp_in_nI hj (by omega), fun s3 es3 => ⟨vp_in_nI hj (by omega), ?_⟩⟩, fun c1 => m_found ⟨_, rfl, ?_⟩⟩
      · rw [s169] at c1
        have e : ¬ mo σ 69 j = -1 := fun q => ((q_lane m1).1.mpr q) c1
        repeat (first | rw [if_neg e] at h | rw [if_pos (by omega)] at h | rw [if_neg (by omega)] at h)
        rw [s170]
        subst es3
        exact h _ (lo_up l2 (by omega)) (ce.cu _ _ _)
      · rw [s169] at c1
        have e : mo σ 69 j = -1 := (q_lane m1).1.mp c1
        repeat (first | rw [if_pos e] at h | rw [if_pos (by omega)] at h | rw [if_neg (by omega)] at h)
        subst es2; subst es
        exact h _ (lo_up l2 (by omega)) CE.st2
    · repeat (first | rw [if_pos (by omega)] at h | rw [if_neg (by omega)] at h)
      subst es
      exact h _ (lo_up (fun _ _ => rfl) (by omega)) (Sc.rf.up rfl).ce
  · dsimp only
    split
    · exact h
    · split
      · exact h.stat 1
      · have k : ∀ o a, a ≠ 68 → a ≠ 69 → g_up (g_up μ 68 1 0) 69 o (-1) a = μ a := fun o a q1 q2 => (g_up_ne q2).trans (g_up_ne q1)
        have k8 : ∀ o i', g_up (g_up μ 68 1 0) 69 o (-1) 68 i' = g_up μ 68 1 0 68 i' := fun o i' => congrFun (g_up_ne (by omega)) i'
        refine h.rows (fun a ha => k _ a (by omega) (by omega)) ((k8 _ 8).trans (g_up_n (by omega))) ((k8 _ 26).trans (g_up_n (by omega))) (fun i hi => ?_) ?_
        · by_cases e' : i = x1.toNatClampNeg
          · rw [e', g_up_s]; exact Or.inl rfl
          · rw [g_up_n (by omega), show g_up μ 68 1 0 69 i = μ 69 i from g_up_n (by omega)]; exact h.1 i hi
        · rw [k _ 70 (by omega) (by omega)]; exact h.2.1
