/-! pairs: draw, row, drop -/
section Q62
variable {E : g_E} {d : Nat} {R : g_R} {σ : g_S}
theorem c_draw {b : Nat} {x p : Int32} (hb : g_Tw b) (h : R none (g_dr σ (b + 2) 0 73 x.toInt64 p)) : g_wp E (d + 1) 50 [.ref b, .int x, .int p] σ R := by
  refine t50_0 hb ?_
  have := c_draw_l (E := E) (O := g_wp E d) (σ := σ) hb h 73 0 (by omega)
  rw [g_dr_0] at this
  exact this
theorem m_draw {x : Int64} {p : Int32} (h : R (some (.int (q_sm (q_dc x p) 73))) (g_dr σ 72 112 73 x p)) : g_g E (g_wp E (d + 1)) 143 48 [some (.ref 68), none, some (.int p), some (.long x), none, some (.int 0)] [] σ R := by
  have := m_draw_l (E := E) (O := g_wp E (d + 1)) (σ := σ) (x := x) (p := p) (R := R) (t143_48 ⟨fun _ => m_clouds ⟨_, rfl, q_R h (q_sm_c (fun t ht => g_dr_in ht))⟩, fun c => absurd (nI_lt (a := 72) (b := 73) (by omega) (by omega)) c⟩) 73 0 (by omega)
  rw [g_dr_0] at this
  exact this
end Q62
theorem p_draw {E : g_E} (x1 x2 : Int32) : g_pr E 79 143 [.int x1, .int x2] := by
  refine ⟨fun μ => if (μ 72 4).toInt ≤ 0 then -1000002 else if x1.toInt < 1 ∨ 999999 < x1.toInt ∨ x2.toInt < 0 ∨ 100 < x2.toInt then -1000001 else q_sm (q_dc x1.toInt64 x2) 73, fun μ => if (μ 72 4).toInt ≤ 0 ∨ x1.toInt < 1 ∨ 999999 < x1.toInt ∨ x2.toInt < 0 ∨ 100 < x2.toInt then μ else g_dr μ 72 112 73 x1.toInt64 x2, fun σ μ R hc hw h => ?_, fun σ R hw h => ?_, fun μ h => ?_⟩
  · have ht := q_there hc hw
    dsimp only at h
    refine t79_0 ⟨fun c => ⟨fun c1 => ?_, fun c1 => ⟨fun c2 => ?_, fun c2 => ⟨fun c3 => ?_, fun c3 => ⟨fun c4 => c_draw (Or.inl rfl) ⟨rfl, c_cloudy (Or.inl rfl) ⟨_, rfl, ?_⟩⟩, fun c4 => ?_⟩⟩⟩⟩, fun c => ?_⟩
    · rw [ht] at c
      simp only [q_lt, q_le, Int32.reduceToInt] at c1
      repeat (first | rw [if_pos (by omega)] at h | rw [if_neg (by omega)] at h)
      exact h σ hc (fun _ _ => rfl)
    · rw [ht] at c
      simp only [q_lt, q_le, Int32.reduceToInt] at c1 c2
      repeat (first | rw [if_pos (by omega)] at h | rw [if_neg (by omega)] at h)
      exact h σ hc (fun _ _ => rfl)
    · rw [ht] at c
      simp only [q_lt, q_le, Int32.reduceToInt] at c1 c2 c3
      repeat (first | rw [if_pos (by omega)] at h | rw [if_neg (by omega)] at h)
      exact h σ hc (fun _ _ => rfl)
    · rw [ht] at c
      simp only [q_lt, q_le, Int32.reduceToInt] at c1 c2 c3 c4
      repeat (first | rw [if_pos (by omega)] at h | rw [if_neg (by omega)] at h)
      have e : ∀ t, t < 73 → g_dr σ 17 0 73 x1.toInt64 x2 17 t = q_dc x1.toInt64 x2 t := fun t ht => by
        have := g_dr_in (σ := σ) (a := 17) (o := 0) (i := 73) (k := t) (x := x1.toInt64) (p := x2) ht
        rw [Nat.zero_add] at this
        exact this
      refine q_R (h _ ?_ (fun a ha => g_dr_ne (by omega))) (q_sm_c e)
      refine hc.town (fun a _ h _ _ _ _ => g_dr_ne (by omega)) (fun a h => g_dr_ne h) ?_
      exact hc.tr.cloud (fun a h => g_dr_ne h) (fun i hi => g_dr_out (Or.inl hi)) (fun t ht => (e t ht).trans (g_dr_in ht).symm)
    · rw [ht] at c
      simp only [q_lt, q_le, Int32.reduceToInt] at c1 c2 c3 c4
      repeat (first | rw [if_pos (by omega)] at h | rw [if_neg (by omega)] at h)
      exact h σ hc (fun _ _ => rfl)
    · rw [ht] at c
      repeat (first | rw [if_pos (by omega)] at h | rw [if_neg (by omega)] at h)
      exact h σ hc (fun _ _ => rfl)
  · dsimp only at h
    refine t143_0 (fun s es => m_isThere (fun h4 => ⟨_, rfl, n_1 (m_in 1 999999 rfl rfl (fun a1 a2 => ⟨_, rfl, q_1 (m_in 0 100 rfl rfl (fun a3 a4 => ⟨_, rfl, n_1 (m_draw ?_)⟩) (fun a3 => ⟨_, rfl, n_0 ?_⟩))⟩) (fun a1 => ⟨_, rfl, q_0 ?_⟩))⟩) (fun h4 => ⟨_, rfl, n_0 ?_⟩))
    all_goals subst es
    · change 0 < (mo σ 72 4).toInt at h4
      repeat (first | rw [if_pos (by omega)] at h | rw [if_neg (by omega)] at h)
      exact h _ (lo_dr (lo_up (fun _ _ => rfl) (by omega)) (by omega)) ((Sc.rf.up rfl).ce.dr)
    · change 0 < (mo σ 72 4).toInt at h4
      repeat (first | rw [if_pos (by omega)] at h | rw [if_neg (by omega)] at h)
      exact h _ (lo_up (fun _ _ => rfl) (by omega)) (Sc.rf.up rfl).ce
    · change 0 < (mo σ 72 4).toInt at h4
      repeat (first | rw [if_pos (by omega)] at h | rw [if_neg (by omega)] at h)
      exact h _ (lo_up (fun _ _ => rfl) (by omega)) (Sc.rf.up rfl).ce
    · change (mo σ 72 4).toInt ≤ 0 at h4
      repeat (first | rw [if_pos (by omega)] at h | rw [if_neg (by omega)] at h)
      exact h _ (lo_up (fun _ _ => rfl) (by omega)) (Sc.rf.up rfl).ce
  · dsimp only
    split
    · exact h
    · rename_i hn
      refine h.town (fun a q => g_dr_ne q) (h.wt.cloud (fun i hi => g_dr_out (Or.inl hi)) (fun t ht => ?_) (fun q => hn (Or.inl (by rw [q]; decide))))
      rw [g_dr_in ht]
      unfold q_dc
      split
      · exact Or.inl rfl
      · exact Or.inr rfl
