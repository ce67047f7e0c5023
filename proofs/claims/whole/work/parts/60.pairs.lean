/-! pairs: fault, status, trace, season, lean, cloud -/
theorem p_fault {E : g_E} : g_pr E 75 133 [] := by
  refine ⟨fun μ => μ 68 9, fun μ => μ, fun σ μ R hc hw h => ?_, fun σ R hw h => ?_, fun μ h => h⟩
  · exact t75_0 (q_R (h σ hc (fun _ _ => rfl)) hc.2.2.2.2.2.1)
  · exact t133_0 (fun s e => by subst e; exact h _ (lo_up (fun _ _ => rfl) (by omega)) (Sc.rf.up rfl).ce)
theorem p_status {E : g_E} : g_pr E 98 185 [] := by
  refine ⟨fun μ => μ 68 1, fun μ => μ, fun σ μ R hc hw h => ?_, fun σ R hw h => ?_, fun μ h => h⟩
  · exact t98_0 (q_R (h σ hc (fun _ _ => rfl)) hc.2.2.2.2.2.2.1)
  · exact t185_0 (fun s e => by subst e; exact h _ (lo_up (fun _ _ => rfl) (by omega)) (Sc.rf.up rfl).ce)
theorem p_trace {E : g_E} (x1 : Int32) : g_pr E 96 183 [.int x1] := by
  refine ⟨fun μ => if x1.toInt < 0 ∨ (μ 68 26).toInt ≤ x1.toInt then -1000000 else μ 83 x1.toNatClampNeg, fun μ => μ, fun σ μ R hc hw h => ?_, fun σ R hw h => ?_, fun μ h => h⟩
  · dsimp only at h
    obtain ⟨n, hn, e⟩ := hw.2.2.2.2.1
    have e1 := hc.2.2.2.2.2.2.2.2.2.2
    refine t96_0 ⟨fun c => q_R (h σ hc (fun _ _ => rfl)) ?_, fun c => ⟨fun c2 => q_R (h σ hc (fun _ _ => rfl)) ?_, fun c2 => ⟨?_, q_R (h σ hc (fun _ _ => rfl)) ?_⟩⟩⟩
    · rw [if_pos]; simp only [q_lt, Int32.reduceToInt] at c; omega
    · rw [if_pos]; rw [e1, q_le] at c2; omega
    · rw [e1, q_le, e, nI_toInt (by omega)] at c2
      simp only [q_lt, Int32.reduceToInt] at c
      exact vp_in_iff.mpr ⟨by omega, by omega⟩
    · rw [e1, q_le] at c2
      simp only [q_lt, Int32.reduceToInt] at c
      rw [if_neg (by omega)]
      rw [e, nI_toInt (by omega)] at c2
      obtain ⟨j, hj, rfl⟩ := q_ix (x := x1) (n := 16) (by omega) (by omega) (by omega)
      rw [q_cl (by omega)]
      exact hc.2.2.2.2.2.2.2.2.2.1 j hj
  · dsimp only at h
    obtain ⟨n, hn, e⟩ := hw.2.2.2.2.1
    change σ 68 26 = nI n at e
    refine t183_0 (fun s es => m_in 0 (n - 1) rfl ?_ (fun h1 h2 => ⟨_, rfl, q_1 ⟨?_, ?_⟩⟩) (fun h1 => ⟨_, rfl, q_0 ?_⟩))
    · rw [Int32.toInt_toInt64, e, show (1 : Int32) = nI 1 from rfl, pk_sub_toInt (by omega) (by omega)]
      rfl
    · exact vp_in_iff.mpr ⟨h1, by omega⟩
    · subst es
      refine q_R (h _ (lo_up (fun _ _ => rfl) (by omega)) (Sc.rf.up rfl).ce) ?_
      have e2 : mo σ 68 26 = nI n := e
      rw [e2, nI_toInt (by omega), if_neg (by omega)]
      rfl
    · subst es
      refine q_R (h _ (lo_up (fun _ _ => rfl) (by omega)) (Sc.rf.up rfl).ce) ?_
      have e2 : mo σ 68 26 = nI n := e
      rw [e2, nI_toInt (by omega), if_pos (by omega)]
theorem p_season {E : g_E} (x1 : Int32) : g_pr E 76 139 [.int x1] := by
  refine ⟨fun μ => if (μ 72 4).toInt ≤ 0 then -1000002 else if x1.toInt < 1 ∨ 6 < x1.toInt then -1000001 else μ 72 4, fun μ => if (μ 72 4).toInt ≤ 0 ∨ x1.toInt < 1 ∨ 6 < x1.toInt then μ else g_up μ 72 4 x1, fun σ μ R hc hw h => ?_, fun σ R hw h => ?_, fun μ h => ?_⟩
  · have ht := q_there hc hw
    dsimp only at h
    refine t76_0 ⟨fun c => ⟨fun c2 => ?_, fun c2 => ⟨fun c3 s es => ?_, fun c3 => ?_⟩⟩, fun c => ?_⟩
    · rw [ht] at c
      simp only [q_lt, Int32.reduceToInt] at c2
      rw [if_pos (by omega), if_neg c, if_pos (by omega)] at h
      exact h σ hc (fun _ _ => rfl)
    · rw [ht] at c
      simp only [q_lt, q_le, Int32.reduceToInt] at c2 c3
      rw [if_neg (by omega), if_neg c, if_neg (by omega)] at h
      subst es
      refine q_R (h _ ?_ (hi_up (fun _ _ => rfl) (by omega))) hc.tr.2.2.2.1
      refine hc.town (fun a _ h _ _ _ _ => g_up_ne (by omega)) (fun a h => g_up_ne h) ?_
      rw [g_up_eq]
      refine hc.tr.head (fun a h _ => g_up_ne (by omega)) (g_up_n (by omega)) (g_up_n (by omega)) (g_up_n (by omega)) (g_up_n (by omega)) (g_up_n (by omega)) (fun i _ _ h => upd_n h) ?_ (g_up_s.trans upd_s.symm) ((g_up_n (by omega)).trans hc.tr.2.2.2.2.1) ((g_up_n (by omega)).trans hc.tr.2.2.2.2.2.1)
      rw [upd_s, g_up_n (by omega), hc.tr.1]
      rw [if_neg (fun q => c (by rw [q]; decide)), if_neg (fun q => by rw [q] at c2; exact c2 (by decide))]
    · rw [ht] at c
      simp only [q_lt, q_le, Int32.reduceToInt] at c2 c3
      rw [if_pos (by omega), if_neg c, if_pos (by omega)] at h
      exact h σ hc (fun _ _ => rfl)
    · have c : (μ 72 4).toInt ≤ 0 := by rw [← ht]; exact Classical.not_not.mp c
      rw [if_pos (by omega), if_pos c] at h
      exact h σ hc (fun _ _ => rfl)
  · dsimp only at h
    refine t139_0 (fun s es => m_isThere (fun h4 => ⟨_, rfl, n_1 (m_in 1 6 rfl rfl (fun h1 h2 => ⟨_, rfl, n_1 (fun s2 es2 => ?_)⟩) (fun h1 => ⟨_, rfl, n_0 ?_⟩))⟩) (fun h4 => ⟨_, rfl, n_0 ?_⟩))
    · subst es; subst es2
      change 0 < (σ 72 4).toInt at h4
      rw [if_neg (by change ¬ ((σ 72 4).toInt ≤ 0 ∨ _); omega), if_neg (by change ¬ ((σ 72 4).toInt ≤ 0); omega), if_neg (by omega)] at h
      exact h _ (lo_up (lo_up (fun _ _ => rfl) (by omega)) (by omega)) ((Sc.rf.up rfl).cu 72 4 x1 (by omega))
    · subst es
      change 0 < (σ 72 4).toInt at h4
      rw [if_pos (by omega), if_neg (by change ¬ ((σ 72 4).toInt ≤ 0); omega), if_pos (by omega)] at h
      exact h _ (lo_up (fun _ _ => rfl) (by omega)) (Sc.rf.up rfl).ce
    · subst es
      change (mo σ 72 4).toInt ≤ 0 at h4
      rw [if_pos (Or.inl h4), if_pos h4] at h
      exact h _ (lo_up (fun _ _ => rfl) (by omega)) (Sc.rf.up rfl).ce
  · dsimp only
    split
    · exact h
    · rename_i hn
      refine h.town (fun a q => g_up_ne q) ?_
      rw [g_up_eq]
      obtain ⟨w0, w1, w2, w3, w4, w5, w6, w7, w8, w9⟩ := h.wt
      have u : ∀ i, i ≠ 4 → upd (μ 72) 4 x1 i = μ 72 i := fun i q => upd_n q
      unfold WT
      rw [u 0 (by omega), u 1 (by omega), u 2 (by omega), u 3 (by omega), u 6 (by omega), upd_s]
      have hx : ∃ s, s ≤ 6 ∧ x1 = nI s := by
        obtain ⟨j, hj, e⟩ := q_ix (x := x1) (n := 7) (by omega) (by omega) (by omega)
        exact ⟨j, by omega, e⟩
      refine ⟨w0, w1, w2, w3, hx, ?_, fun c hc => ?_, fun t ht => ?_, fun hx4 c hc => ?_, fun hx4 => ?_⟩
      · obtain ⟨n, n1, n2, n3, n4⟩ := w5
        refine ⟨n, n1, n2, fun k hk => ?_, fun j k hj hk => ?_⟩
        · obtain ⟨a1, ⟨c, c1, c2, c3⟩, a3⟩ := n3 k hk
          rw [u (88 + 3 * k) (by omega), u (89 + 3 * k) (by omega), u (90 + 3 * k) (by omega)]
          exact ⟨a1, ⟨c, c1, c2, by rw [u _ (by omega)]; exact c3⟩, a3⟩
        · rw [u _ (by omega), u _ (by omega)]; exact n4 j k hj hk
      · rw [u _ (by omega)]; exact w6 c hc
      · rw [u _ (by omega)]; exact w7 t ht
      · rw [u _ (by omega)]
        exact w8 (fun q => hn (Or.inl (by rw [q]; decide))) c hc
      · exfalso
        rw [hx4] at hn
        exact hn (Or.inr (Or.inl (by decide)))
