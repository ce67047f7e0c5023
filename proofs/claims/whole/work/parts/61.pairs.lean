/-! pairs: lean, cloud, undo -/
theorem p_lean {E : g_E} (x1 x2 : Int32) : g_pr E 77 140 [.int x1, .int x2] := by
  refine ⟨fun μ => if (μ 72 4).toInt ≤ 0 then -1000002 else if x1.toInt < -3 ∨ 3 < x1.toInt ∨ x2.toInt < -3 ∨ 3 < x2.toInt then -1000001 else 1, fun μ => if (μ 72 4).toInt ≤ 0 ∨ x1.toInt < -3 ∨ 3 < x1.toInt ∨ x2.toInt < -3 ∨ 3 < x2.toInt then μ else g_up (g_up μ 72 2 x1) 72 3 x2, fun σ μ R hc hw h => ?_, fun σ R hw h => ?_, fun μ h => ?_⟩
  · have ht := q_there hc hw
    dsimp only at h
    refine t77_0 ⟨fun c => c_isLean (fun a1 a2 => ⟨_, rfl, q_1 (c_isLean (fun a3 a4 => ⟨_, rfl, n_1 (t48_0 (Or.inl rfl) (fun s es s2 es2 => ⟨rfl, ?_⟩))⟩) (fun a3 => ⟨_, rfl, n_0 ?_⟩))⟩) (fun a1 => ⟨_, rfl, q_0 ?_⟩), fun c => ?_⟩
    · rw [ht] at c
      rw [if_neg (by omega), if_neg c, if_neg (by omega)] at h
      subst es; subst es2
      refine h _ ?_ (hi_up (hi_up (fun _ _ => rfl) (by omega)) (by omega))
      refine hc.town (fun a _ h _ _ _ _ => (g_up_ne (by omega)).trans (g_up_ne (by omega))) (fun a h => (g_up_ne h).trans (g_up_ne h)) ?_
      rw [g_up_eq, g_up_eq]
      have k : ∀ j, j ≠ 5 → j ≠ 6 → g_up (g_up σ 15 5 x1) 15 6 x2 15 j = σ 15 j := fun j h1 h2 => (g_up_n (by omega)).trans (g_up_n (by omega))
      refine hc.tr.head (fun a h _ => (g_up_ne (by omega)).trans (g_up_ne (by omega))) (k _ (by omega) (by omega)) (k _ (by omega) (by omega)) (k _ (by omega) (by omega)) (k _ (by omega) (by omega)) (k _ (by omega) (by omega)) (fun i h2 h3 _ => (upd_n h3).trans (upd_n h2)) ?_ ?_ ?_ ?_
      · rw [k _ (by omega) (by omega), upd_n (by omega), upd_n (by omega)]; exact hc.tr.1
      · rw [k _ (by omega) (by omega), upd_n (by omega), upd_n (by omega)]; exact hc.tr.2.2.2.1
      · rw [g_up_n (by omega), g_up_s, upd_n (by omega), upd_s]
      · rw [g_up_s, upd_s]
    · rw [ht] at c
      rw [if_pos (by omega), if_neg c, if_pos (by omega)] at h
      exact h σ hc (fun _ _ => rfl)
    · rw [ht] at c
      rw [if_pos (by omega), if_neg c, if_pos (by omega)] at h
      exact h σ hc (fun _ _ => rfl)
    · have c : (μ 72 4).toInt ≤ 0 := by rw [← ht]; exact Classical.not_not.mp c
      rw [if_pos (by omega), if_pos c] at h
      exact h σ hc (fun _ _ => rfl)
  · dsimp only at h
    refine t140_0 (fun s es => m_isThere (fun h4 => ⟨_, rfl, n_1 (m_isLean (fun a1 a2 => ⟨_, rfl, q_1 (m_isLean (fun a3 a4 => ⟨_, rfl, n_1 (fun s2 es2 s3 es3 => ?_)⟩) (fun a3 => ⟨_, rfl, n_0 ?_⟩))⟩) (fun a1 => ⟨_, rfl, q_0 ?_⟩))⟩) (fun h4 => ⟨_, rfl, n_0 ?_⟩))
    · subst es; subst es2; subst es3
      change 0 < (mo σ 72 4).toInt at h4
      rw [if_neg (by omega), if_neg (by omega), if_neg (by omega)] at h
      exact h _ (lo_up (lo_up (lo_up (fun _ _ => rfl) (by omega)) (by omega)) (by omega)) (((Sc.rf.up rfl).cu 72 2 x1 (by omega)).cu 72 3 x2)
    · subst es
      change 0 < (mo σ 72 4).toInt at h4
      rw [if_pos (by omega), if_neg (by omega), if_pos (by omega)] at h
      exact h _ (lo_up (fun _ _ => rfl) (by omega)) (Sc.rf.up rfl).ce
    · subst es
      change 0 < (mo σ 72 4).toInt at h4
      rw [if_pos (by omega), if_neg (by omega), if_pos (by omega)] at h
      exact h _ (lo_up (fun _ _ => rfl) (by omega)) (Sc.rf.up rfl).ce
    · subst es
      change (mo σ 72 4).toInt ≤ 0 at h4
      rw [if_pos (Or.inl h4), if_pos h4] at h
      exact h _ (lo_up (fun _ _ => rfl) (by omega)) (Sc.rf.up rfl).ce
  · dsimp only
    split
    · exact h
    · rename_i hn
      refine h.town (fun a q => (g_up_ne q).trans (g_up_ne q)) ?_
      rw [g_up_eq, g_up_eq]
      have e4 : upd (upd (μ 72) 2 x1) 3 x2 4 = μ 72 4 := (upd_n (by omega)).trans (upd_n (by omega))
      refine h.wt.head (fun i a b _ => (upd_n b).trans (upd_n a)) ?_ ?_ (by rw [e4]; exact h.wt.2.2.2.2.1) (by rw [e4])
      · rw [upd_n (by omega), upd_s, q_le, q_le]
        rw [show ((-3 : Int32)).toInt = (-3 : Int) from by decide, show ((3 : Int32)).toInt = (3 : Int) from by decide]
        omega
      · rw [upd_s, q_le, q_le]
        rw [show ((-3 : Int32)).toInt = (-3 : Int) from by decide, show ((3 : Int32)).toInt = (3 : Int) from by decide]
        omega
theorem p_cloud {E : g_E} (x1 x2 : Int32) : g_pr E 78 141 [.int x1, .int x2] := by
  refine ⟨fun μ => if (μ 72 4).toInt ≤ 0 then -1000002 else if x1.toInt < 0 ∨ 72 < x1.toInt ∨ x2.toInt < 0 ∨ 1 < x2.toInt then -1000001 else μ 72 (112 + x1.toNatClampNeg), fun μ => if (μ 72 4).toInt ≤ 0 ∨ x1.toInt < 0 ∨ 72 < x1.toInt ∨ x2.toInt < 0 ∨ 1 < x2.toInt then μ else g_up μ 72 (112 + x1.toNatClampNeg) x2, fun σ μ R hc hw h => ?_, fun σ R hw h => ?_, fun μ h => ?_⟩
  · have ht := q_there hc hw
    dsimp only at h
    refine t78_0 ⟨fun c => c_isSlot (fun a1 a2 => ⟨_, rfl, q_1 ⟨fun c2 => ?_, fun c2 => ⟨fun c3 => ⟨?_, ?_, fun s es => ?_⟩, fun c3 => ?_⟩⟩⟩) (fun a1 => ⟨_, rfl, q_0 ?_⟩), fun c => ?_⟩
    · rw [ht] at c
      simp only [q_lt, Int32.reduceToInt] at c2
      rw [if_pos (by omega), if_neg c, if_pos (by omega)] at h
      exact h σ hc (fun _ _ => rfl)
    · exact vp_in_iff.mpr ⟨by omega, by omega⟩
    · exact vp_in_iff.mpr ⟨by omega, by omega⟩
    · rw [ht] at c
      simp only [q_lt, q_le, Int32.reduceToInt] at c2 c3
      rw [if_neg (by omega), if_neg c, if_neg (by omega)] at h
      subst es
      obtain ⟨j, hj, rfl⟩ := q_ix (x := x1) (n := 73) (by omega) (by omega) (by omega)
      rw [q_cl (by omega)] at h ⊢
      refine q_R (h _ ?_ (hi_up (fun _ _ => rfl) (by omega))) (hc.tr.2.2.2.2.2.2.2.2.2.1 j hj)
      refine hc.town (fun a _ h _ _ _ _ => g_up_ne (by omega)) (fun a h => g_up_ne h) ?_
      rw [g_up_eq]
      refine hc.tr.cloud (fun a h => g_up_ne (by omega)) (fun i hi => upd_n (by omega)) (fun t ht => ?_)
      by_cases e : t = j
      · rw [e, g_up_s, upd_s]
      · rw [g_up_n (by omega), upd_n (by omega)]; exact hc.tr.2.2.2.2.2.2.2.2.2.1 t ht
    · rw [ht] at c
      simp only [q_lt, q_le, Int32.reduceToInt] at c2 c3
      rw [if_pos (by omega), if_neg c, if_pos (by omega)] at h
      exact h σ hc (fun _ _ => rfl)
    · rw [ht] at c
      rw [if_pos (by omega), if_neg c, if_pos (by omega)] at h
      exact h σ hc (fun _ _ => rfl)
    · have c : (μ 72 4).toInt ≤ 0 := by rw [← ht]; exact Classical.not_not.mp c
      rw [if_pos (by omega), if_pos c] at h
      exact h σ hc (fun _ _ => rfl)
  · dsimp only at h
    refine t141_0 (fun s es => m_isThere (fun h4 => ⟨_, rfl, n_1 (m_isSlot (fun a1 a2 => ⟨_, rfl, q_1 (m_in 0 1 rfl rfl (fun a3 a4 => ⟨_, rfl, n_1 ⟨?_, ?_, fun s2 es2 => ?_⟩⟩) (fun a3 => ⟨_, rfl, n_0 ?_⟩))⟩) (fun a1 => ⟨_, rfl, q_0 ?_⟩))⟩) (fun h4 => ⟨_, rfl, n_0 ?_⟩))
    · obtain ⟨j, hj, rfl⟩ := q_ix (x := x1) (n := 73) (by omega) (by omega) (by omega)
      rw [show (112 : Int32) = nI 112 from rfl, nI_add]
      exact vp_in_nI (by omega) (by omega)
    · obtain ⟨j, hj, rfl⟩ := q_ix (x := x1) (n := 73) (by omega) (by omega) (by omega)
      rw [show (112 : Int32) = nI 112 from rfl, nI_add]
      exact vp_in_nI (by omega) (by omega)
    · subst es; subst es2
      change 0 < (mo σ 72 4).toInt at h4
      rw [if_neg (by omega), if_neg (by omega), if_neg (by omega)] at h
      obtain ⟨j, hj, rfl⟩ := q_ix (x := x1) (n := 73) (by omega) (by omega) (by omega)
      rw [q_cl (by omega)] at h
      rw [show (112 : Int32) = nI 112 from rfl, nI_add, q_cl (by omega)]
      exact h _ (lo_up (lo_up (fun _ _ => rfl) (by omega)) (by omega)) ((Sc.rf.up rfl).cu 72 _ x2 (by omega))
    · subst es
      change 0 < (mo σ 72 4).toInt at h4
      rw [if_pos (by omega), if_neg (by omega), if_pos (by omega)] at h
      exact h _ (lo_up (fun _ _ => rfl) (by omega)) (Sc.rf.up rfl).ce
    · subst es
      change 0 < (mo σ 72 4).toInt at h4
      rw [if_pos (by omega), if_neg (by omega), if_pos (by omega)] at h
      exact h _ (lo_up (fun _ _ => rfl) (by omega)) (Sc.rf.up rfl).ce
    · subst es
      change (mo σ 72 4).toInt ≤ 0 at h4
      rw [if_pos (Or.inl h4), if_pos h4] at h
      exact h _ (lo_up (fun _ _ => rfl) (by omega)) (Sc.rf.up rfl).ce
  · dsimp only
    split
    · exact h
    · rename_i hn
      refine h.town (fun a q => g_up_ne q) ?_
      rw [g_up_eq]
      obtain ⟨j, hj, rfl⟩ := q_ix (x := x1) (n := 73) (by omega) (by omega) (by omega)
      rw [q_cl (by omega)]
      refine h.wt.cloud (fun i hi => upd_n (by omega)) (fun t ht => ?_) (fun q => hn (Or.inl (by rw [q]; decide)))
      by_cases e : t = j
      · rw [e, upd_s]
        obtain ⟨v, hv, rfl⟩ := q_ix (x := x2) (n := 2) (by omega) (by omega) (by omega)
        rcases (show v = 0 ∨ v = 1 by omega) with rfl | rfl
        · exact Or.inl rfl
        · exact Or.inr rfl
      · rw [upd_n (by omega)]; exact h.wt.2.2.2.2.2.2.2.1 t ht
theorem p_undo {E : g_E} : g_pr E 81 146 [] := by
  refine ⟨fun μ => if μ 72 6 = 0 then -1000002 else μ 72 6 - 1, fun μ => if μ 72 6 = 0 then μ else g_up μ 72 6 (μ 72 6 - 1), fun σ μ R hc hw h => ?_, fun σ R hw h => ?_, fun μ h => ?_⟩
  · dsimp only at h
    have e8 := hc.tr.2.2.2.2.2.2.2.1
    obtain ⟨n, n1, n2, n3, n4⟩ := hw.wt.2.2.2.2.2.1
    refine t81_0 ⟨fun c => t47_0 (Or.inl rfl) ⟨fun c2 => ?_, fun c2 s es => ?_⟩, fun c => ?_⟩
    · exfalso
      simp only [q_le, Int32.reduceToInt] at c c2
      omega
    · rw [e8, n2] at c
      simp only [q_le, Int32.reduceToInt] at c
      rw [nI_toInt (by omega)] at c
      cases n with
      | zero => exact absurd c (by decide)
      | succ n =>
        have e1 : σ 15 8 - 1 = nI n := by rw [e8, n2, nI_pred]
        have hne : μ 72 6 ≠ 0 := by rw [n2]; exact nI_ne0 (by omega) (by omega)
        rw [if_neg hne, if_neg hne] at h
        subst es
        rw [g_up_s, e1, q_cl (by omega)]
        obtain ⟨-, ⟨cc, c1, c2', c3⟩, -⟩ := n3 n (by omega)
        have ecell : σ 19 n = nI cc := ((hc.tr.2.2.2.2.2.2.2.2.2.2 n (by omega) (by rw [n2]; exact nI_lt (by omega) (by omega))).2.1).trans c2'
        rw [show g_up σ 15 8 (nI n) (15 + 4) n = σ 19 n from g_up_n (by omega), ecell, q_cl (by omega)]
        refine ⟨vp_in_nI (by omega) (by omega), vp_in_nI (by omega) (by omega), fun s es => ?_⟩
        subst es
        refine ⟨rfl, ?_⟩
        refine q_R (h _ ?_ (hi_up (hi_up (fun _ _ => rfl) (by omega)) (by omega))) ?_
        · refine hc.town (fun a _ h _ _ _ _ => (g_up_ne (by omega)).trans (g_up_ne (by omega))) (fun a h => g_up_ne h) ?_
          rw [g_up_eq, n2, nI_pred]
          refine hc.tr.pop hw.wt (by omega) n2 c2' c1 (fun a h1 h2 => (g_up_ne (by omega)).trans (g_up_ne (by omega))) (fun k hk => (g_up_n (by omega)).trans (g_up_n (by omega))) ((g_up_n (by omega)).trans g_up_s) (fun k hk => (g_up_n (by omega)).trans (g_up_n (by omega))) g_up_s
        · rw [g_up_n (by omega), g_up_s, n2, nI_pred]
    · rw [e8, n2] at c
      simp only [q_le, Int32.reduceToInt] at c
      rw [nI_toInt (by omega)] at c
      have : n = 0 := by omega
      subst this
      have n2 : μ 72 6 = 0 := n2
      rw [if_pos n2, if_pos n2] at h
      exact h σ hc (fun _ _ => rfl)
  · dsimp only at h
    refine t146_0 (fun s es => ⟨fun c s2 es2 => ?_, fun c => ?_⟩)
    · subst es; subst es2
      have c : ¬ mo σ 72 6 = 0 := c
      rw [if_neg c, if_neg c] at h
      exact h _ (lo_up (lo_up (fun _ _ => rfl) (by omega)) (by omega)) ((Sc.rf.up rfl).cu 72 6 _ (by omega))
    · subst es
      have c : mo σ 72 6 = 0 := Classical.not_not.mp c
      rw [if_pos c, if_pos c] at h
      exact h _ (lo_up (fun _ _ => rfl) (by omega)) (Sc.rf.up rfl).ce
  · dsimp only
    split
    · exact h
    · rename_i hn
      refine h.town (fun a q => g_up_ne q) ?_
      rw [g_up_eq]
      exact h.wt.pop hn
