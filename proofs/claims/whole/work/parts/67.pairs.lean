/-! pairs: image, restore -/
theorem TR.eq {σ : g_S} {b : Nat} {τ τ' : Nat → Int32} (h : ∀ i, i < 185 → τ' i = τ i) (w : TR σ b τ) : TR σ b τ' := by
  unfold TR at w ⊢
  obtain ⟨w0, w1, w3, w4, w5, w6, w7, w8, w9, w10, w11⟩ := w
  rw [h 4 (by omega), h 0 (by omega), h 1 (by omega), h 2 (by omega), h 3 (by omega), h 6 (by omega), q_walls.congr 81 (fun c _ => h (7 + c) (by omega))]
  refine ⟨w0, w1, w3, w4, w5, w6, w7, w8, fun c hc => ?_, fun t ht => ?_, fun k hk hs => ?_⟩
  · exact (w9 c hc).congr (h _ (by omega)) (h 6 (by omega)) (fun k _ => h _ (by omega))
  · rw [h _ (by omega)]; exact w10 t ht
  · rw [h _ (by omega), h _ (by omega), h _ (by omega)]; exact w11 k hk hs
theorem WT.eq {τ τ' : Nat → Int32} (h : ∀ i, i < 185 → τ' i = τ i) (w : WT τ) : WT τ' := by
  unfold WT at w ⊢
  obtain ⟨w0, w1, w2, w3, w4, w5, w6, w7, w8, w9⟩ := w
  rw [h 4 (by omega), h 0 (by omega), h 1 (by omega), h 2 (by omega), h 3 (by omega), h 6 (by omega)]
  refine ⟨w0, w1, w2, w3, w4, ?_, fun c hc => by rw [h _ (by omega)]; exact w6 c hc, fun t ht => by rw [h _ (by omega)]; exact w7 t ht, fun q c hc => by rw [h _ (by omega)]; exact w8 q c hc, fun q => ?_⟩
  · obtain ⟨n, n1, n2, n3, n4⟩ := w5
    refine ⟨n, n1, n2, fun k hk => ?_, fun j k hj hk => ?_⟩
    · obtain ⟨a1, ⟨c, c1, c2, c3⟩, a3⟩ := n3 k hk
      rw [h _ (by omega), h (89 + 3 * k) (by omega), h (90 + 3 * k) (by omega)]
      exact ⟨a1, ⟨c, c1, c2, by rw [h _ (by omega)]; exact c3⟩, a3⟩
    · rw [h _ (by omega), h (89 + 3 * k) (by omega)]; exact n4 j k hj hk
  · obtain ⟨a1, a2, a3⟩ := w9 q
    exact ⟨a1, fun c hc => by rw [h _ (by omega)]; exact a2 c hc, fun t ht => by rw [h _ (by omega)]; exact a3 t ht⟩
/-- one town becomes another -/
def g_bc (σ : g_S) (b t : Nat) : g_S := g_cp (g_cp (g_cp (g_cp (g_cp (g_cp σ t b 0 0 9) (t + 1) (b + 1) 0 0 81) (t + 2) (b + 2) 0 0 73) (t + 3) (b + 3) 0 0 8) (t + 4) (b + 4) 0 0 8) (t + 5) (b + 5) 0 0 8
theorem g_bc_ne {σ : g_S} {b t a : Nat} (h : a < b ∨ b + 5 < a) : g_bc σ b t a = σ a := by
  unfold g_bc
  rw [g_cp_ne (by omega), g_cp_ne (by omega), g_cp_ne (by omega), g_cp_ne (by omega), g_cp_ne (by omega), g_cp_ne (by omega)]
theorem g_cp_in0 {σ : g_S} {s d n k : Nat} (h : k < n) : g_cp σ s d 0 0 n d k = σ s k := by
  rw [g_cp_in (by omega), Nat.sub_zero, Nat.zero_add]
theorem g_bc_0 {σ : g_S} {b t j : Nat} (hj : j < 9) : g_bc σ b t b j = σ t j := by
  unfold g_bc
  rw [g_cp_ne (by omega), g_cp_ne (by omega), g_cp_ne (by omega), g_cp_ne (by omega), g_cp_ne (by omega), g_cp_in0 hj]
theorem g_bc_1 {σ : g_S} {b t j : Nat} (h : b + 6 ≤ t ∨ t + 6 ≤ b) (hj : j < 81) : g_bc σ b t (b + 1) j = σ (t + 1) j := by
  unfold g_bc
  rw [g_cp_ne (by omega), g_cp_ne (by omega), g_cp_ne (by omega), g_cp_ne (by omega), g_cp_in0 hj, g_cp_ne (by omega)]
theorem g_bc_2 {σ : g_S} {b t j : Nat} (h : b + 6 ≤ t ∨ t + 6 ≤ b) (hj : j < 73) : g_bc σ b t (b + 2) j = σ (t + 2) j := by
  unfold g_bc
  rw [g_cp_ne (by omega), g_cp_ne (by omega), g_cp_ne (by omega), g_cp_in0 hj, g_cp_ne (by omega), g_cp_ne (by omega)]
theorem g_bc_3 {σ : g_S} {b t j : Nat} (h : b + 6 ≤ t ∨ t + 6 ≤ b) (hj : j < 8) : g_bc σ b t (b + 3) j = σ (t + 3) j := by
  unfold g_bc
  rw [g_cp_ne (by omega), g_cp_ne (by omega), g_cp_in0 hj, g_cp_ne (by omega), g_cp_ne (by omega), g_cp_ne (by omega)]
theorem g_bc_4 {σ : g_S} {b t j : Nat} (h : b + 6 ≤ t ∨ t + 6 ≤ b) (hj : j < 8) : g_bc σ b t (b + 4) j = σ (t + 4) j := by
  unfold g_bc
  rw [g_cp_ne (by omega), g_cp_in0 hj, g_cp_ne (by omega), g_cp_ne (by omega), g_cp_ne (by omega), g_cp_ne (by omega)]
theorem g_bc_5 {σ : g_S} {b t j : Nat} (h : b + 6 ≤ t ∨ t + 6 ≤ b) (hj : j < 8) : g_bc σ b t (b + 5) j = σ (t + 5) j := by
  unfold g_bc
  rw [g_cp_in0 hj, g_cp_ne (by omega), g_cp_ne (by omega), g_cp_ne (by omega), g_cp_ne (by omega), g_cp_ne (by omega)]
theorem TR.bc {σ : g_S} {b t : Nat} {τ : Nat → Int32} (h : b + 6 ≤ t ∨ t + 6 ≤ b) (w : TR σ t τ) : TR (g_bc σ b t) b τ := by
  unfold TR at w ⊢
  rw [g_bc_0 (by omega), g_bc_0 (by omega), g_bc_0 (by omega), g_bc_0 (by omega), g_bc_0 (by omega), g_bc_0 (by omega), g_bc_0 (by omega), g_bc_0 (by omega), g_bc_0 (by omega)]
  obtain ⟨w0, w1, w3, w4, w5, w6, w7, w8, w9, w10, w11⟩ := w
  refine ⟨w0, w1, w3, w4, w5, w6, w7, w8, fun c hc => ?_, fun u hu => ?_, fun k hk hs => ?_⟩
  · rw [g_bc_1 h hc]; exact w9 c hc
  · rw [g_bc_2 h hu]; exact w10 u hu
  · rw [g_bc_3 h hk, g_bc_4 h hk, g_bc_5 h hk]; exact w11 k hk hs
theorem TR.b01 {σ : g_S} {b : Nat} {τ : Nat → Int32} (w : TR σ b τ) : σ b 0 = 0 ∨ σ b 0 = 1 := by
  rw [w.1]
  split
  · exact Or.inl rfl
  · exact Or.inr rfl
theorem g_Tw.ln {b : Nat} (h : g_Tw b) : g_ln (b + 1) = 81 ∧ g_ln (b + 2) = 73 ∧ g_ln (b + 3) = 8 ∧ g_ln (b + 4) = 8 ∧ g_ln (b + 5) = 8 := by
  rcases h with rfl | rfl | rfl | rfl <;> decide
theorem c_become {E : g_E} {d : Nat} {R : g_R} {σ : g_S} {b t : Nat} (hb : g_Tw b) (ht : g_Tw t) (hd : b + 6 ≤ t ∨ t + 6 ≤ b) (h0 : σ t 0 = 0 ∨ σ t 0 = 1) (h : R none (g_bc σ b t)) : g_wp E (d + 1) 43 [.ref b, .ref t] σ R := by
  have l1 := hb.ln
  have l2 := ht.ln
  refine t43_0 hb ht ?_
  rw [l1.1, l1.2.1, l1.2.2.1, l1.2.2.2.1, l1.2.2.2.2, l2.1, l2.2.1, l2.2.2.1, l2.2.2.2.1, l2.2.2.2.2]
  have st : ∀ {m : Nat} {v : Int32}, v = g_cp σ t b 0 0 m t m → g_up (g_cp σ t b 0 0 m) b m v = g_cp σ t b 0 0 (m + 1) := fun {m v} hv => by
    rw [g_cp_ne (by omega)] at hv
    have := g_cp_s (σ := σ) (s := t) (d := b) (sp := 0) (dp := 0) (m := m) (v := v) (by rw [Nat.zero_add]; exact hv)
    rwa [Nat.zero_add] at this
  have z : σ = g_cp σ t b 0 0 0 := g_cp_0.symm
  refine ⟨by rcases h0 with e | e <;> rw [e] <;> decide, fun s1 e1 s2 e2 s3 e3 s4 e4 s5 e5 s6 e6 s7 e7 s8 e8 s9 e9 => ⟨by decide, by decide, by decide, by omega, by omega, fun s10 e10 => ⟨by decide, by decide, by decide, by omega, by omega, fun s11 e11 => ⟨by decide, by decide, by decide, by omega, by omega, fun s12 e12 => ⟨by decide, by decide, by decide, by omega, by omega, fun s13 e13 => ⟨by decide, by decide, by decide, by omega, by omega, fun s14 e14 => ?_⟩⟩⟩⟩⟩⟩
  have f1 : s1 = g_cp σ t b 0 0 1 := by rw [e1]; exact (congrArg (fun q => g_up q b 0 (σ t 0)) z).trans (st (by rw [← z]))
  have f2 : s2 = g_cp σ t b 0 0 2 := by rw [e2, f1]; exact st rfl
  have f3 : s3 = g_cp σ t b 0 0 3 := by rw [e3, f2]; exact st rfl
  have f4 : s4 = g_cp σ t b 0 0 4 := by rw [e4, f3]; exact st rfl
  have f5 : s5 = g_cp σ t b 0 0 5 := by rw [e5, f4]; exact st rfl
  have f6 : s6 = g_cp σ t b 0 0 6 := by rw [e6, f5]; exact st rfl
  have f7 : s7 = g_cp σ t b 0 0 7 := by rw [e7, f6]; exact st rfl
  have f8 : s8 = g_cp σ t b 0 0 8 := by rw [e8, f7]; exact st rfl
  have f9 : s9 = g_cp σ t b 0 0 9 := by rw [e9, f8]; exact st rfl
  have : s14 = g_bc σ b t := by rw [e14, e13, e12, e11, e10, f9]; rfl
  rw [this]; exact h
/-- images alone -/
theorem RC.imgs {σ σ' μ μ' : g_S} (w : RC σ μ) (hσ : ∀ a, a < 68 → (a < 28 ∨ 39 < a) → a ≠ 1 → a ≠ 4 → (a < 21 ∨ 27 < a) → (a < 40 ∨ 65 < a) → σ' a = σ a) (hμ : ∀ a, a ≠ 81 → a ≠ 82 → μ' a = μ a) (k9 : ∀ k, k < 2 → (μ' 81 k = 1 → TR σ' (28 + 6 * k) (fun i => μ' 82 (185 * k + i))) ∧ (μ' 81 k = 0 → σ' (28 + 6 * k) 0 = 0)) : RC σ' μ' := by
  unfold RC at w ⊢
  obtain ⟨h1, h2, h3, h4, h5, h6, h7, h8, h9, h10, h11⟩ := w
  have e := hσ
  rw [hμ 69 (by omega) (by omega), hμ 70 (by omega) (by omega), hμ 71 (by omega) (by omega), hμ 74 (by omega) (by omega), hμ 68 (by omega) (by omega), hμ 72 (by omega) (by omega), hμ 83 (by omega) (by omega)]
  rw [e 2 (by omega) (by omega) (by omega) (by omega) (by omega) (by omega), e 3 (by omega) (by omega) (by omega) (by omega) (by omega) (by omega), e 14 (by omega) (by omega) (by omega) (by omega) (by omega) (by omega), e 13 (by omega) (by omega) (by omega) (by omega) (by omega) (by omega), e 0 (by omega) (by omega) (by omega) (by omega) (by omega) (by omega), e 67 (by omega) (by omega) (by omega) (by omega) (by omega) (by omega), e 66 (by omega) (by omega) (by omega) (by omega) (by omega) (by omega)]
  refine ⟨h1, h2, fun r hr i hi => ?_, h4, h5, h6, h7, h8.low (fun a h1 h2 => e a (by omega) (by omega) (by omega) (by omega) (by omega) (by omega)), k9, h10, h11⟩
  rw [e (5 + r) (by omega) (by omega) (by omega) (by omega) (by omega) (by omega)]
  exact h3 r hr i hi
theorem WF.imgs {μ μ' : g_S} (w : WF μ) (hμ : ∀ a, a ≠ 81 → a ≠ 82 → μ' a = μ a) (k9 : ∀ k, k < 2 → μ' 81 k = 0 ∨ (μ' 81 k = 1 ∧ WT (fun i => μ' 82 (185 * k + i)) ∧ μ' 82 (185 * k + 4) ≠ 0)) : WF μ' := by
  unfold WF at w ⊢
  rw [hμ 69 (by omega) (by omega), hμ 70 (by omega) (by omega), hμ 68 (by omega) (by omega), hμ 74 (by omega) (by omega), hμ 72 (by omega) (by omega)]
  obtain ⟨h1, h2, h3, h4, h5, h6, h7⟩ := w
  exact ⟨h1, h2, h3, h4, h5, h6, k9⟩
theorem q_kdi : ∀ k, k < 2 → g_kd (28 + 6 * k) = 5 := by decide
theorem g_Tw.i2 {k : Nat} (h : k < 2) : g_Tw (28 + 6 * k) := by
  rcases (show k = 0 ∨ k = 1 by omega) with rfl | rfl
  · exact Or.inr (Or.inr (Or.inl rfl))
  · exact Or.inr (Or.inr (Or.inr rfl))
section Q67
variable {E : g_E} {d : Nat} {R : g_R} {σ : g_S}
theorem m_image_l {O : g_O} {k : Nat} (hk : k < 2) (h : R (some (.int 1)) (g_up (g_cp σ 72 82 0 (185 * k) 185) 81 k 1)) : ∀ w i, i + w = 185 → g_g E O 172 30 [some (.ref 68), some (.int (nI k)), some (.int (nI i))] [] (g_cp σ 72 82 0 (185 * k) i) R := by
  intro w
  induction w with
  | zero =>
    intro i hi
    have e : i = 185 := by omega
    subst e
    refine t172_30 ⟨fun _ => ⟨vp_in_nI hk (by omega), fun s es => ?_⟩, fun c => absurd (nI_le (a := 185) (b := 185) (by omega) (by omega)) c⟩
    rw [q_cl (by omega)] at es
    rw [es]; exact h
  | succ w ih =>
    intro i hi
    have e : (185 : Int32) * nI k + nI i = nI (185 * k + i) := by
      rw [show (185 : Int32) = nI 185 from rfl, pk_mul, nI_add]
    refine t172_30 ⟨fun c => absurd c (nI_ge (b := 185) (by omega) (by omega)), fun c => ⟨vp_in_nI (by omega) (by omega), by rw [e]; exact vp_in_nI (by omega) (by omega), fun s es => ?_⟩⟩
    rw [e, q_cl (by omega), q_cl (by omega), g_cp_ne (by omega), g_cp_s (by rw [Nat.zero_add])] at es
    rw [es, nI_1]
    exact ih (i + 1) (by omega)
theorem m_restore_l {O : g_O} {k : Nat} (hk : k < 2) (h : R (some (.int 1)) (g_cp σ 82 72 (185 * k) 0 185)) : ∀ w i, i + w = 185 → g_g E O 173 32 [some (.ref 68), some (.int (nI k)), some (.int (nI i))] [] (g_cp σ 82 72 (185 * k) 0 i) R := by
  intro w
  induction w with
  | zero =>
    intro i hi
    have e : i = 185 := by omega
    subst e
    exact t173_32 ⟨fun _ => h, fun c => absurd (nI_le (a := 185) (b := 185) (by omega) (by omega)) c⟩
  | succ w ih =>
    intro i hi
    have e : (185 : Int32) * nI k + nI i = nI (185 * k + i) := by
      rw [show (185 : Int32) = nI 185 from rfl, pk_mul, nI_add]
    refine t173_32 ⟨fun c => absurd c (nI_ge (b := 185) (by omega) (by omega)), fun c => ⟨by rw [e]; exact vp_in_nI (by omega) (by omega), vp_in_nI (by omega) (by omega), fun s es => ?_⟩⟩
    rw [e, q_cl (by omega), q_cl (by omega), g_cp_ne (by omega)] at es
    have := g_cp_s (σ := σ) (s := 82) (d := 72) (sp := 185 * k) (dp := 0) (m := i) rfl
    rw [Nat.zero_add] at this
    rw [this] at es
    rw [es, nI_1]
    exact ih (i + 1) (by omega)
end Q67
theorem p_image {E : g_E} (x1 : Int32) : g_pr E 91 172 [.int x1] := by
  refine ⟨fun μ => if x1.toInt < 0 ∨ 1 < x1.toInt then -1000001 else if (μ 72 4).toInt ≤ 0 then -1000002 else 1, fun μ => if x1.toInt < 0 ∨ 1 < x1.toInt ∨ (μ 72 4).toInt ≤ 0 then μ else g_up (g_cp μ 72 82 0 (185 * x1.toNatClampNeg) 185) 81 x1.toNatClampNeg 1, fun σ μ R hc hw h => ?_, fun σ R hw h => ?_, fun μ h => ?_⟩
  · dsimp only at h
    have ht := q_there hc hw
    refine t91_0 ⟨fun c => ?_, fun c => ⟨fun c2 => ⟨fun c3 => ?_, fun c3 => ?_⟩, fun c2 => ?_⟩⟩
    · simp only [q_lt, q_le, Int32.reduceToInt] at c
      repeat (first | rw [if_pos (by omega)] at h | rw [if_neg (by omega)] at h)
      exact h σ hc (fun _ _ => rfl)
    · rw [ht] at c3
      simp only [q_lt, q_le, Int32.reduceToInt] at c c2
      obtain ⟨k, hk, rfl⟩ := q_ix (x := x1) (n := 2) (by omega) (by omega) (by omega)
      rw [q_cl (by omega)] at h ⊢
      repeat (first | rw [if_pos (by omega)] at h | rw [if_neg (by omega)] at h)
      refine ⟨vp_in_nI hk (by omega), q_kdi k hk, c_become (g_Tw.i2 hk) (Or.inl rfl) (by omega) hc.tr.b01 ⟨rfl, h _ ?_ (fun a ha => g_bc_ne (by omega))⟩⟩
      have kk : ∀ a, a ≠ 81 → a ≠ 82 → g_up (g_cp μ 72 82 0 (185 * k) 185) 81 k 1 a = μ a := fun a q1 q2 => (g_up_ne q1).trans (g_cp_ne q2)
      have k82 : ∀ i, g_up (g_cp μ 72 82 0 (185 * k) 185) 81 k 1 82 i = g_cp μ 72 82 0 (185 * k) 185 82 i := fun i => congrFun (g_up_ne (by omega)) i
      refine hc.imgs (fun a q1 q2 q3 q4 q5 q6 => g_bc_ne (by omega)) kk (fun k' hk' => ?_)
      by_cases e : k' = k
      · subst e
        rw [g_up_s]
        refine ⟨fun _ => TR.eq (fun i hi => ?_) (hc.tr.bc (by omega)), fun q => absurd q (by decide)⟩
        rw [k82, g_cp_in (by omega), show 0 + (185 * k' + i - 185 * k') = i by omega]
      · rw [g_up_n (by omega), congrFun (g_cp_ne (by omega)) k', congrFun (g_bc_ne (by omega)) 0]
        have h9 := hc.2.2.2.2.2.2.2.2.1 k' hk'
        refine ⟨fun q => TR.eq (fun i hi => ?_) ((h9.1 q).low (fun a q1 q2 => g_bc_ne (by omega))), h9.2⟩
        rw [k82, g_cp_out (by omega)]
    · rw [ht] at c3
      simp only [q_lt, q_le, Int32.reduceToInt] at c c2
      repeat (first | rw [if_pos (by omega)] at h | rw [if_neg (by omega)] at h)
      exact h σ hc (fun _ _ => rfl)
    · simp only [q_lt, q_le, Int32.reduceToInt] at c c2
      repeat (first | rw [if_pos (by omega)] at h | rw [if_neg (by omega)] at h)
      exact h σ hc (fun _ _ => rfl)
  · dsimp only at h
    refine t172_0 (fun s es => m_in 0 1 rfl rfl (fun a1 a2 => ⟨_, rfl, n_1 (m_isThere (fun h4 => ⟨_, rfl, n_1 ?_⟩) (fun h4 => ⟨_, rfl, n_0 ?_⟩))⟩) (fun a1 => ⟨_, rfl, n_0 ?_⟩))
    all_goals subst es
    · change 0 < (mo σ 72 4).toInt at h4
      repeat (first | rw [if_pos (by omega)] at h | rw [if_neg (by omega)] at h)
      obtain ⟨k, hk, rfl⟩ := q_ix (x := x1) (n := 2) (by omega) (by omega) (by omega)
      rw [q_cl (by omega)] at h
      have := m_image_l (E := E) (O := g_wp E 19) (σ := g_up σ 68 0 0) (R := R) hk (h _ (lo_up (lo_cp (lo_up (fun _ _ => rfl) (by omega)) (by omega)) (by omega)) (((Sc.rf.up rfl).ce.cp ((Sc.rf.up rfl).ce.e72)).cu _ _ _)) 185 0 (by omega)
      rw [g_cp_0] at this
      exact this
    · change (mo σ 72 4).toInt ≤ 0 at h4
      repeat (first | rw [if_pos (by omega)] at h | rw [if_neg (by omega)] at h)
      exact h _ (lo_up (fun _ _ => rfl) (by omega)) (Sc.rf.up rfl).ce
    · repeat (first | rw [if_pos (by omega)] at h | rw [if_neg (by omega)] at h)
      exact h _ (lo_up (fun _ _ => rfl) (by omega)) (Sc.rf.up rfl).ce
  · dsimp only
    split
    · exact h
    · rename_i c
      obtain ⟨k, hk, rfl⟩ := q_ix (x := x1) (n := 2) (by omega) (by omega) (by omega)
      rw [q_cl (by omega)]
      have kk : ∀ a, a ≠ 81 → a ≠ 82 → g_up (g_cp μ 72 82 0 (185 * k) 185) 81 k 1 a = μ a := fun a q1 q2 => (g_up_ne q1).trans (g_cp_ne q2)
      have k82 : ∀ i, g_up (g_cp μ 72 82 0 (185 * k) 185) 81 k 1 82 i = g_cp μ 72 82 0 (185 * k) 185 82 i := fun i => congrFun (g_up_ne (by omega)) i
      refine h.imgs kk (fun k' hk' => ?_)
      by_cases e : k' = k
      · subst e
        have e2 : ∀ i, i < 185 → g_up (g_cp μ 72 82 0 (185 * k') 185) 81 k' 1 82 (185 * k' + i) = μ 72 i := fun i hi => by
          rw [k82, g_cp_in (by omega), show 0 + (185 * k' + i - 185 * k') = i by omega]
        refine Or.inr ⟨g_up_s, WT.eq e2 h.wt, ?_⟩
        rw [e2 4 (by omega)]
        exact fun q => by rw [q] at c; exact c (Or.inr (Or.inr (by decide)))
      · rw [g_up_n (by omega), congrFun (g_cp_ne (by omega)) k']
        have e2 : ∀ i, i < 185 → g_up (g_cp μ 72 82 0 (185 * k) 185) 81 k 1 82 (185 * k' + i) = μ 82 (185 * k' + i) := fun i hi => by
          rw [k82, g_cp_out (by omega)]
        rcases h.2.2.2.2.2.2 k' hk' with q | ⟨q, q1, q2⟩
        · exact Or.inl q
        · exact Or.inr ⟨q, WT.eq e2 q1, by rw [e2 4 (by omega)]; exact q2⟩
theorem p_restore {E : g_E} (x1 : Int32) : g_pr E 92 173 [.int x1] := by
  refine ⟨fun μ => if x1.toInt < 0 ∨ 1 < x1.toInt then -1000001 else if μ 81 x1.toNatClampNeg = 0 then -1000002 else 1, fun μ => if x1.toInt < 0 ∨ 1 < x1.toInt then μ else if μ 81 x1.toNatClampNeg = 0 then μ else g_cp μ 82 72 (185 * x1.toNatClampNeg) 0 185, fun σ μ R hc hw h => ?_, fun σ R hw h => ?_, fun μ h => ?_⟩
  · dsimp only at h
    refine t92_0 ⟨fun c => ?_, fun c => ⟨fun c2 => ?_, fun c2 => ?_⟩⟩
    · simp only [q_lt, q_le, Int32.reduceToInt] at c
      repeat (first | rw [if_pos (by omega)] at h | rw [if_neg (by omega)] at h)
      exact h σ hc (fun _ _ => rfl)
    · simp only [q_lt, q_le, Int32.reduceToInt] at c c2
      obtain ⟨k, hk, rfl⟩ := q_ix (x := x1) (n := 2) (by omega) (by omega) (by omega)
      rw [q_cl (by omega)] at h ⊢
      have h9 := hc.2.2.2.2.2.2.2.2.1 k hk
      refine ⟨vp_in_nI hk (by omega), q_kdi k hk, ?_⟩
      rcases hw.2.2.2.2.2.2 k hk with q | ⟨q, q1, q2⟩
      · repeat (first | rw [if_pos q] at h | rw [if_neg (by omega)] at h)
        exact ⟨fun c3 => absurd (h9.2 q) c3, fun _ => h σ hc (fun _ _ => rfl)⟩
      · have qn : ¬ μ 81 k = 0 := fun z => absurd (z.symm.trans q) (by decide)
        repeat (first | rw [if_neg qn] at h | rw [if_neg (by omega)] at h)
        have tr := h9.1 q
        refine ⟨fun _ => ⟨vp_in_nI hk (by omega), c_become (Or.inl rfl) (g_Tw.i2 hk) (by omega) tr.b01 ⟨rfl, h _ ?_ (fun a ha => g_bc_ne (by omega))⟩⟩, fun c3 => ?_⟩
        · refine hc.town (fun a q1 q2 q3 q4 q5 q6 => g_bc_ne (by omega)) (fun a q => g_cp_ne q) ?_
          refine TR.eq (fun i hi => ?_) (tr.bc (b := 15) (by omega))
          rw [g_cp_in (by omega), Nat.sub_zero]
        · exfalso
          have e0 := tr.1
          rw [Classical.not_not.mp c3] at e0
          dsimp only at e0
          rw [if_neg q2] at e0
          exact absurd e0 (by decide)
    · simp only [q_lt, q_le, Int32.reduceToInt] at c c2
      repeat (first | rw [if_pos (by omega)] at h | rw [if_neg (by omega)] at h)
      exact h σ hc (fun _ _ => rfl)
  · dsimp only at h
    refine t173_0 (fun s es => m_in 0 1 rfl rfl (fun a1 a2 => ⟨_, rfl, n_1 ?_⟩) (fun a1 => ⟨_, rfl, n_0 ?_⟩))
    all_goals subst es
    · obtain ⟨k, hk, rfl⟩ := q_ix (x := x1) (n := 2) (by omega) (by omega) (by omega)
      rw [q_cl (by omega)] at h ⊢
      refine ⟨vp_in_nI hk (by omega), fun c => ?_, fun c => ?_⟩
      · have c : ¬ mo σ 81 k = 0 := c
        repeat (first | rw [if_neg c] at h | rw [if_neg (by omega)] at h)
        have := m_restore_l (E := E) (O := g_wp E 19) (σ := g_up σ 68 0 0) (R := R) hk (h _ (lo_cp (lo_up (fun _ _ => rfl) (by omega)) (by omega)) ((Sc.rf.up rfl).ce.cp ((Sc.rf.up rfl).ce.e82))) 185 0 (by omega)
        rw [g_cp_0] at this
        exact this
      · have c : mo σ 81 k = 0 := Classical.not_not.mp c
        repeat (first | rw [if_pos c] at h | rw [if_neg (by omega)] at h)
        exact h _ (lo_up (fun _ _ => rfl) (by omega)) (Sc.rf.up rfl).ce
    · repeat (first | rw [if_pos (by omega)] at h | rw [if_neg (by omega)] at h)
      exact h _ (lo_up (fun _ _ => rfl) (by omega)) (Sc.rf.up rfl).ce
  · dsimp only
    split
    · exact h
    · rename_i c
      split
      · exact h
      · rename_i c2
        obtain ⟨k, hk, rfl⟩ := q_ix (x := x1) (n := 2) (by omega) (by omega) (by omega)
        rw [q_cl (by omega)] at c2 ⊢
        rcases h.2.2.2.2.2.2 k hk with q | ⟨q, q1, q2⟩
        · exact absurd q c2
        · refine h.town (fun a q => g_cp_ne q) (WT.eq (fun i hi => ?_) q1)
          rw [g_cp_in (by omega), Nat.sub_zero]
