/-! pairs: more -/
def g_psh (μ : g_S) (n : Nat) (k c r : Int32) : g_S := g_up (g_up (g_up (g_up μ 72 (88 + 3 * n) k) 72 (89 + 3 * n) c) 72 (90 + 3 * n) r) 72 6 (nI (n + 1))
theorem g_psh_72 {μ : g_S} {n : Nat} {k c r : Int32} : g_psh μ n k c r 72 = q_push (μ 72) n k c r := by
  unfold g_psh q_push
  rw [g_up_eq, g_up_eq, g_up_eq, g_up_eq]
theorem g_psh_ne {μ : g_S} {n a : Nat} {k c r : Int32} (h : a ≠ 72) : g_psh μ n k c r a = μ a := (g_up_ne h).trans ((g_up_ne h).trans ((g_up_ne h).trans (g_up_ne h)))
theorem p_more {E : g_E} (x1 x2 x3 : Int32) : g_pr E 80 145 [.int x1, .int x2, .int x3] := by
  refine ⟨fun μ => if (μ 72 4).toInt ≤ 0 then -1000002 else if x1.toInt < 0 ∨ 4 < x1.toInt ∨ x2.toInt < 0 ∨ 80 < x2.toInt ∨ x3.toInt < 0 ∨ 99 < x3.toInt then -1000001 else if q_free (μ 72) x2.toNatClampNeg = true then if (μ 72 6).toInt = 8 then -1000003 else μ 72 6 else -1000001, fun μ => if (μ 72 4).toInt ≤ 0 ∨ x1.toInt < 0 ∨ 4 < x1.toInt ∨ x2.toInt < 0 ∨ 80 < x2.toInt ∨ x3.toInt < 0 ∨ 99 < x3.toInt then μ else if q_free (μ 72) x2.toNatClampNeg = true then if (μ 72 6).toInt = 8 then μ else g_psh μ (μ 72 6).toNatClampNeg (q_kos x1) x2 x3 else μ, fun σ μ R hc hw h => ?_, fun σ R hw h => ?_, fun μ h => ?_⟩
  · have ht := q_there hc hw
    dsimp only at h
    obtain ⟨n, n1, n2, n3, n4⟩ := hw.wt.2.2.2.2.2.1
    have e8 := hc.tr.2.2.2.2.2.2.2.1
    have e6 : (μ 72 6).toInt = n := by rw [n2, nI_toInt (by omega)]
    rw [e6] at h
    refine t80_0 ⟨fun c => c_isSort (fun a1 a2 => ⟨_, rfl, q_1 (c_isCell (fun a3 a4 => ⟨_, rfl, q_1 ⟨fun c1 => ?_, fun c1 => ⟨fun c2 => ?_, fun c2 => ?_⟩⟩⟩) (fun a3 => ⟨_, rfl, q_0 ?_⟩))⟩) (fun a1 => ⟨_, rfl, q_0 ?_⟩), fun c => ?_⟩
    · rw [ht] at c
      simp only [q_lt, q_le, Int32.reduceToInt] at c1
      repeat (first | rw [if_pos (by omega)] at h | rw [if_neg (by omega)] at h)
      exact h σ hc (fun _ _ => rfl)
    · rw [ht] at c
      simp only [q_lt, q_le, Int32.reduceToInt] at c1 c2
      repeat (first | rw [if_pos (by omega)] at h | rw [if_neg (by omega)] at h)
      exact h σ hc (fun _ _ => rfl)
    · rw [ht] at c
      simp only [q_lt, q_le, Int32.reduceToInt] at c1 c2
      obtain ⟨s, hs, rfl⟩ := q_ix (x := x1) (n := 5) (by omega) (by omega) (by omega)
      obtain ⟨cc, hcc, rfl⟩ := q_ix (x := x2) (n := 81) (by omega) (by omega) (by omega)
      obtain ⟨r, hr, rfl⟩ := q_ix (x := x3) (n := 100) (by omega) (by omega) (by omega)
      rw [q_cl (by omega)] at h
      have fr := q_gr_free hw.wt hcc n1 n2 (hc.tr.2.2.2.2.2.2.2.2.1 cc hcc)
      refine t52_0 (Or.inl rfl) ⟨vp_in_nI (by omega) (by omega), ?_⟩
      rw [q_cl (by omega)]
      refine ⟨fun c3 => ⟨_, rfl, n_0 ?_⟩, fun c3 => ⟨_, rfl, n_1 ⟨fun c4 => ?_, fun c4 => ?_⟩⟩⟩
      · have q : ¬ q_free (μ 72) cc = true := fun z => c3 (fr.mpr z)
        repeat (first | rw [if_neg q] at h | rw [if_pos (by omega)] at h | rw [if_neg (by omega)] at h)
        exact h σ hc (fun _ _ => rfl)
      · have q : q_free (μ 72) cc = true := fr.mp (Classical.not_not.mp c3)
        rw [e8, n2, show (8 : Int32) = nI 8 from rfl, nI_ltI (by omega) (by omega)] at c4
        repeat (first | rw [if_pos q] at h | rw [if_pos (by omega)] at h | rw [if_neg (by omega)] at h)
        rw [n2, q_cl (by omega)] at h
        have e15 : σ 15 8 = nI n := e8.trans n2
        have k1 : ∀ (v : Int32) (w : Nat), g_up σ 18 n v 15 8 = nI n := fun v w => (g_up_n (by omega)).trans e15
        refine t46_0 (Or.inl rfl) ⟨fun c5 => ?_, fun c5 => absurd (by rw [e15]; exact nI_lt (a := n) (b := 8) c4 (by omega)) c5⟩
        rw [e15, q_cl (by omega)]
        refine ⟨vp_in_nI (by omega) (by omega), fun s2 es2 => ?_⟩
        have f2 : s2 15 8 = nI n := by rw [es2]; exact (g_up_n (by omega)).trans e15
        rw [f2, q_cl (by omega)]
        refine ⟨vp_in_nI (by omega) (by omega), fun s3 es3 => ?_⟩
        have f3 : s3 15 8 = nI n := by rw [es3]; exact (g_up_n (by omega)).trans f2
        rw [f3, q_cl (by omega), q_cl (by omega)]
        refine ⟨vp_in_nI (by omega) (by omega), fun s4 es4 => ⟨vp_in_nI (by omega) (by omega), fun s5 es5 s6 es6 => ⟨rfl, ?_⟩⟩⟩
        have f5 : s5 15 8 = nI n := by
          rw [es5, es4]; exact ((g_up_n (by omega)).trans (g_up_n (by omega))).trans f3
        rw [f5, nI_1] at es6
        have f6 : s6 15 8 = nI (n + 1) := by rw [es6]; exact g_up_s
        have ff := (q_free_iff n1 n2).mp q
        refine q_R (h s6 ?_ ?_) (by rw [f6, nI_pred])
        · refine hc.town (fun a _ h _ _ _ _ => ?_) (fun a h => g_psh_ne h) ?_
          · rw [es6, es5, es4, es3, es2]
            exact (g_up_ne (by omega)).trans ((g_up_ne (by omega)).trans ((g_up_ne (by omega)).trans ((g_up_ne (by omega)).trans (g_up_ne (by omega)))))
          · rw [g_psh_72]
            refine hc.tr.push c4 n2 hcc ff (fun k hk => ?_) f6 (fun k hk => ?_) ?_ ?_ (fun k hk => ⟨?_, ?_, ?_⟩) ⟨?_, ?_, ?_⟩
            all_goals rw [es6, es5, es4, es3, es2]
            · exact (g_up_n (by omega)).trans ((g_up_n (by omega)).trans ((g_up_n (by omega)).trans ((g_up_n (by omega)).trans (g_up_n (by omega)))))
            · exact (g_up_n (by omega)).trans ((g_up_n (by omega)).trans ((g_up_n (by omega)).trans ((g_up_n (by omega)).trans (g_up_n (by omega)))))
            · exact (g_up_n (by omega)).trans g_up_s
            · exact (g_up_ne (by omega)).trans ((g_up_ne (by omega)).trans ((g_up_ne (by omega)).trans ((g_up_ne (by omega)).trans (g_up_ne (by omega)))))
            · exact (g_up_n (by omega)).trans ((g_up_n (by omega)).trans ((g_up_n (by omega)).trans ((g_up_n (by omega)).trans (g_up_n (by omega)))))
            · exact (g_up_n (by omega)).trans ((g_up_n (by omega)).trans ((g_up_n (by omega)).trans ((g_up_n (by omega)).trans (g_up_n (by omega)))))
            · exact (g_up_n (by omega)).trans ((g_up_n (by omega)).trans ((g_up_n (by omega)).trans ((g_up_n (by omega)).trans (g_up_n (by omega)))))
            · refine ((g_up_n (by omega)).trans ((g_up_n (by omega)).trans ((g_up_n (by omega)).trans ((g_up_n (by omega)).trans g_up_s)))).trans (q_kos_c s hs).2.symm
            · exact (g_up_n (by omega)).trans ((g_up_n (by omega)).trans ((g_up_n (by omega)).trans g_up_s))
            · exact (g_up_n (by omega)).trans ((g_up_n (by omega)).trans g_up_s)
        · intro a ha
          rw [es6, es5, es4, es3, es2]
          exact (g_up_ne (by omega)).trans ((g_up_ne (by omega)).trans ((g_up_ne (by omega)).trans ((g_up_ne (by omega)).trans (g_up_ne (by omega)))))
      · have q : q_free (μ 72) cc = true := fr.mp (Classical.not_not.mp c3)
        rw [e8, n2, show (8 : Int32) = nI 8 from rfl, nI_ltI (by omega) (by omega)] at c4
        repeat (first | rw [if_pos q] at h | rw [if_pos (by omega)] at h | rw [if_neg (by omega)] at h)
        exact h σ hc (fun _ _ => rfl)
    · rw [ht] at c
      repeat (first | rw [if_pos (by omega)] at h | rw [if_neg (by omega)] at h)
      exact h σ hc (fun _ _ => rfl)
    · rw [ht] at c
      repeat (first | rw [if_pos (by omega)] at h | rw [if_neg (by omega)] at h)
      exact h σ hc (fun _ _ => rfl)
    · rw [ht] at c
      repeat (first | rw [if_pos (by omega)] at h | rw [if_neg (by omega)] at h)
      exact h σ hc (fun _ _ => rfl)
  · dsimp only at h
    obtain ⟨n, n1, n2, n3, n4⟩ := hw.wt.2.2.2.2.2.1
    have e6 : (mo σ 72 6).toInt = n := by rw [n2, nI_toInt (by omega)]
    rw [e6] at h
    refine t145_0 (fun s es => m_isThere (fun h4 => ⟨_, rfl, n_1 (m_in 0 4 rfl rfl (fun a1 a2 => ⟨_, rfl, q_1 (m_isCell (fun a3 a4 => ⟨_, rfl, q_1 ?_⟩) (fun a3 => ⟨_, rfl, q_0 ?_⟩))⟩) (fun a1 => ⟨_, rfl, q_0 ?_⟩))⟩) (fun h4 => ⟨_, rfl, n_0 ?_⟩))
    all_goals subst es
    · change 0 < (mo σ 72 4).toInt at h4
      obtain ⟨cc, hcc, rfl⟩ := q_ix (x := x2) (n := 81) (by omega) (by omega) (by omega)
      rw [q_cl (by omega)] at h
      have s6 : g_up σ 68 0 0 72 6 = nI n := n2
      refine m_free rfl rfl hcc n1 n2 (fun q => ⟨_, rfl, q_1 (m_in 0 99 rfl rfl (fun a5 a6 => ⟨_, rfl, n_1 ?_⟩) (fun a5 => ⟨_, rfl, n_0 ?_⟩))⟩) (fun q => ⟨_, rfl, q_0 ?_⟩)
      · change q_free (mo σ 72) cc = true at q
        rw [s6]
        refine ⟨fun c1 => m_kos ⟨_, rfl, ?_⟩, fun c1 => ?_⟩
        · have c1 : n ≠ 8 := fun z => c1 (by rw [z]; rfl)
          repeat (first | rw [if_pos q] at h | rw [if_pos (by omega)] at h | rw [if_neg (by omega)] at h)
          rw [n2, q_cl (by omega)] at h
          have e1 : (88 : Int32) + (3 : Int32) * nI n = nI (88 + 3 * n) := by
            rw [show (88 : Int32) = nI 88 from rfl, show (3 : Int32) = nI 3 from rfl, pk_mul, nI_add]
          rw [e1, nI_1, show (2 : Int32) = nI 2 from rfl, nI_add, q_cl (by omega), q_cl (by omega), q_cl (by omega)]
          refine ⟨vp_in_nI (by omega) (by omega), fun s2 es2 => ⟨vp_in_nI (by omega) (by omega), fun s3 es3 => ⟨vp_in_nI (by omega) (by omega), fun s4 es4 s5 es5 => ?_⟩⟩⟩
          have f4 : s4 72 6 = nI n := by
            rw [es4, es3, es2]; exact ((g_up_n (by omega)).trans ((g_up_n (by omega)).trans (g_up_n (by omega)))).trans s6
          rw [f4, nI_1] at es5 ⊢
          rw [nI_pred]
          have f5 : s5 = g_psh (g_up σ 68 0 0) n (q_kos x1) (nI cc) x3 := by
            rw [es5, es4, es3, es2, show 88 + 3 * n + 1 = 89 + 3 * n by omega, show 88 + 3 * n + 2 = 90 + 3 * n by omega]; rfl
          rw [f5]
          exact h _ (lo_up (lo_up (lo_up (lo_up (lo_up (fun _ _ => rfl) (by omega)) (by omega)) (by omega)) (by omega)) (by omega)) (((((Sc.rf.up rfl).ce.cu _ _ _).cu _ _ _).cu _ _ _).cu _ _ _)
        · have c1 : n = 8 := (nI_eq (by omega) (by omega)).mp (show nI n = nI 8 from Classical.not_not.mp c1)
          repeat (first | rw [if_pos q] at h | rw [if_pos (by omega)] at h | rw [if_neg (by omega)] at h)
          exact h _ (lo_up (fun _ _ => rfl) (by omega)) (Sc.rf.up rfl).ce
      · repeat (first | rw [if_pos (by omega)] at h | rw [if_neg (by omega)] at h)
        exact h _ (lo_up (fun _ _ => rfl) (by omega)) (Sc.rf.up rfl).ce
      · change ¬ q_free (mo σ 72) cc = true at q
        by_cases a5 : x3.toInt < 0 ∨ 99 < x3.toInt
        · repeat (first | rw [if_neg q] at h | rw [if_pos (by omega)] at h | rw [if_neg (by omega)] at h)
          exact h _ (lo_up (fun _ _ => rfl) (by omega)) (Sc.rf.up rfl).ce
        · repeat (first | rw [if_neg q] at h | rw [if_pos (by omega)] at h | rw [if_neg (by omega)] at h)
          exact h _ (lo_up (fun _ _ => rfl) (by omega)) (Sc.rf.up rfl).ce
    · change 0 < (mo σ 72 4).toInt at h4
      repeat (first | rw [if_pos (by omega)] at h | rw [if_neg (by omega)] at h)
      exact h _ (lo_up (fun _ _ => rfl) (by omega)) (Sc.rf.up rfl).ce
    · change 0 < (mo σ 72 4).toInt at h4
      repeat (first | rw [if_pos (by omega)] at h | rw [if_neg (by omega)] at h)
      exact h _ (lo_up (fun _ _ => rfl) (by omega)) (Sc.rf.up rfl).ce
    · change (mo σ 72 4).toInt ≤ 0 at h4
      repeat (first | rw [if_pos (by omega)] at h | rw [if_neg (by omega)] at h)
      exact h _ (lo_up (fun _ _ => rfl) (by omega)) (Sc.rf.up rfl).ce
  · dsimp only
    split
    · exact h
    · rename_i c
      split
      · rename_i q
        split
        · exact h
        · rename_i c8
          obtain ⟨n, n1, n2, n3, n4⟩ := id h.wt.2.2.2.2.2.1
          rw [n2, nI_toInt (by omega)] at c8
          obtain ⟨s, hs, rfl⟩ := q_ix (x := x1) (n := 5) (by omega) (by omega) (by omega)
          obtain ⟨cc, hcc, rfl⟩ := q_ix (x := x2) (n := 81) (by omega) (by omega) (by omega)
          obtain ⟨r, hr, rfl⟩ := q_ix (x := x3) (n := 100) (by omega) (by omega) (by omega)
          rw [q_cl (by omega)] at q
          have ff := (q_free_iff n1 n2).mp q
          obtain ⟨i, i1, i2, i3⟩ := (q_kos_c s hs).1
          rw [n2, q_cl (by omega), i3]
          refine h.town (fun a q => g_psh_ne q) ?_
          rw [g_psh_72]
          exact h.wt.push (by omega) n2 ⟨i2, i1⟩ hcc (by omega) ff (fun z => by rw [z] at c; exact c (Or.inl (by decide)))
      · exact h
