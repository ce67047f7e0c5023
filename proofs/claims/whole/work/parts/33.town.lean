/-! small changes of a town, on both sides -/
theorem WT.head {τ τ' : Nat → Int32} (w : WT τ) (u : ∀ i, i ≠ 2 → i ≠ 3 → i ≠ 4 → τ' i = τ i) (h2 : -3 ≤ τ' 2 ∧ τ' 2 ≤ 3) (h3 : -3 ≤ τ' 3 ∧ τ' 3 ≤ 3) (h4 : ∃ s, s ≤ 6 ∧ τ' 4 = nI s) (h0 : τ' 4 = 0 ↔ τ 4 = 0) : WT τ' := by
  obtain ⟨w0, w1, w2, w3, w4, w5, w6, w7, w8, w9⟩ := w
  have u' : ∀ i, 5 ≤ i → τ' i = τ i := fun i h => u i (by omega) (by omega) (by omega)
  unfold WT
  rw [u 0 (by omega) (by omega) (by omega), u 1 (by omega) (by omega) (by omega), u' 6 (by omega)]
  refine ⟨w0, w1, h2, h3, h4, ?_, fun c hc => ?_, fun t ht => ?_, fun hx4 c hc => ?_, fun hx4 => ?_⟩
  · obtain ⟨n, n1, n2, n3, n4⟩ := w5
    refine ⟨n, n1, n2, fun k hk => ?_, fun j k hj hk => ?_⟩
    · obtain ⟨a1, ⟨c, c1, c2, c3⟩, a3⟩ := n3 k hk
      rw [u' (88 + 3 * k) (by omega), u' (89 + 3 * k) (by omega), u' (90 + 3 * k) (by omega)]
      exact ⟨a1, ⟨c, c1, c2, by rw [u' _ (by omega)]; exact c3⟩, a3⟩
    · rw [u' _ (by omega), u' _ (by omega)]; exact n4 j k hj hk
  · rw [u' _ (by omega)]; exact w6 c hc
  · rw [u' _ (by omega)]; exact w7 t ht
  · rw [u' _ (by omega)]
    exact w8 (fun q => hx4 (h0.mpr q)) c hc
  · obtain ⟨a1, a2, a3⟩ := w9 (h0.mp hx4)
    exact ⟨a1, fun c hc => by rw [u' _ (by omega)]; exact a2 c hc, fun t ht => by rw [u' _ (by omega)]; exact a3 t ht⟩
theorem WT.cloud {τ τ' : Nat → Int32} (w : WT τ) (u : ∀ i, i < 112 → τ' i = τ i) (hc : ∀ t, t < 73 → τ' (112 + t) = 0 ∨ τ' (112 + t) = 1) (h4 : τ 4 ≠ 0) : WT τ' := by
  obtain ⟨w0, w1, w2, w3, w4, w5, w6, w7, w8, w9⟩ := w
  unfold WT
  rw [u 0 (by omega), u 1 (by omega), u 2 (by omega), u 3 (by omega), u 4 (by omega), u 6 (by omega)]
  refine ⟨w0, w1, w2, w3, w4, ?_, fun c hc => ?_, hc, fun _ c hc => ?_, fun q => absurd q h4⟩
  · obtain ⟨n, n1, n2, n3, n4⟩ := w5
    refine ⟨n, n1, n2, fun k hk => ?_, fun j k hj hk => ?_⟩
    · obtain ⟨a1, ⟨c, c1, c2, c3⟩, a3⟩ := n3 k hk
      rw [u (88 + 3 * k) (by omega), u (89 + 3 * k) (by omega), u (90 + 3 * k) (by omega)]
      exact ⟨a1, ⟨c, c1, c2, by rw [u _ (by omega)]; exact c3⟩, a3⟩
    · rw [u _ (by omega), u _ (by omega)]; exact n4 j k hj hk
  · rw [u _ (by omega)]; exact w6 c hc
  · rw [u _ (by omega)]; exact w8 h4 c hc
theorem TR.cloud {σ σ' : g_S} {b : Nat} {τ τ' : Nat → Int32} (w : TR σ b τ) (hc : ∀ a, a ≠ b + 2 → σ' a = σ a) (u : ∀ i, i < 112 → τ' i = τ i) (h : ∀ t, t < 73 → σ' (b + 2) t = τ' (112 + t)) : TR σ' b τ' := by
  unfold TR at w ⊢
  obtain ⟨w0, w1, w3, w4, w5, w6, w7, w8, w9, w10, w11⟩ := w
  rw [hc b (by omega), hc (b + 1) (by omega), hc (b + 3) (by omega), hc (b + 4) (by omega), hc (b + 5) (by omega), u 4 (by omega), u 0 (by omega), u 1 (by omega), u 2 (by omega), u 3 (by omega), u 6 (by omega)]
  refine ⟨w0, w1, w3, w4, w5, w6, ?_, w8, fun c hcc => ?_, h, fun k hk hs => ?_⟩
  · rw [w7, q_walls.congr 81 (fun c _ => u (7 + c) (by omega))]
  · exact (w9 c hcc).congr (u _ (by omega)) (u 6 (by omega)) (fun k _ => u _ (by omega))
  · rw [u _ (by omega), u _ (by omega), u _ (by omega)]; exact w11 k hk hs
/-- the latest shop is gone -/
theorem WT.pop {τ : Nat → Int32} (w : WT τ) (h0 : τ 6 ≠ 0) : WT (upd τ 6 (τ 6 - 1)) := by
  obtain ⟨w0, w1, w2, w3, w4, w5, w6, w7, w8, w9⟩ := w
  have u : ∀ i, i ≠ 6 → upd τ 6 (τ 6 - 1) i = τ i := fun i q => upd_n q
  unfold WT
  rw [u 0 (by omega), u 1 (by omega), u 2 (by omega), u 3 (by omega), u 4 (by omega), upd_s]
  refine ⟨w0, w1, w2, w3, w4, ?_, fun c hc => by rw [u _ (by omega)]; exact w6 c hc, fun t ht => by rw [u _ (by omega)]; exact w7 t ht, fun q c hc => by rw [u _ (by omega)]; exact w8 q c hc, fun q => absurd (w9 q).1 h0⟩
  obtain ⟨n, n1, n2, n3, n4⟩ := w5
  cases n with
  | zero => exact absurd n2 h0
  | succ n =>
    refine ⟨n, by omega, by rw [n2, nI_pred], fun k hk => ?_, fun j k hj hk => ?_⟩
    · obtain ⟨a1, ⟨c, c1, c2, c3⟩, a3⟩ := n3 k (by omega)
      rw [u (88 + 3 * k) (by omega), u (89 + 3 * k) (by omega), u (90 + 3 * k) (by omega)]
      exact ⟨a1, ⟨c, c1, c2, by rw [u _ (by omega)]; exact c3⟩, a3⟩
    · rw [u _ (by omega), u _ (by omega)]; exact n4 j k hj (by omega)
theorem q_lt8 {k n : Nat} (hk : k < 8) (hn : n ≤ 8) : nI k < nI n ↔ k < n := nI_ltI (by omega) (by omega)
theorem TR.pop {σ σ' : g_S} {b n c : Nat} {τ : Nat → Int32} (w : TR σ b τ) (f : WT τ) (hn : n < 8) (h6 : τ 6 = nI (n + 1)) (hc : τ (89 + 3 * n) = nI c) (hc81 : c < 81) (h1 : ∀ a, a ≠ b → a ≠ b + 1 → σ' a = σ a) (h2 : ∀ k, k ≠ 8 → σ' b k = σ b k) (h3 : σ' b 8 = nI n) (h4 : ∀ k, k ≠ c → σ' (b + 1) k = σ (b + 1) k) (h5 : σ' (b + 1) c = 0) : TR σ' b (upd τ 6 (nI n)) := by
  have u : ∀ i, i ≠ 6 → upd τ 6 (nI n) i = τ i := fun i q => upd_n q
  obtain ⟨n', n1, n2, n3, n4⟩ := f.2.2.2.2.2.1
  have en : n' = n + 1 := (nI_eq (by omega) (by omega)).mp (n2.symm.trans h6)
  subst en
  have tc : τ (7 + c) = 0 := by
    obtain ⟨-, ⟨c', c1, c2, c3⟩, -⟩ := n3 n (by omega)
    have : c' = c := (nI_eq (by omega) (by omega)).mp (c2.symm.trans hc)
    rw [← this]; exact c3
  unfold TR at w ⊢
  obtain ⟨w0, w1, w3, w4, w5, w6, w7, w8, w9, w10, w11⟩ := w
  rw [h2 0 (by omega), h2 1 (by omega), h2 2 (by omega), h2 3 (by omega), h2 4 (by omega), h2 5 (by omega), h2 6 (by omega), h2 7 (by omega), h1 (b + 2) (by omega) (by omega), h1 (b + 3) (by omega) (by omega), h1 (b + 4) (by omega) (by omega), h1 (b + 5) (by omega) (by omega), u 4 (by omega), u 0 (by omega), u 1 (by omega), u 2 (by omega), u 3 (by omega), upd_s]
  refine ⟨w0, w1, w3, w4, w5, w6, ?_, h3, fun c' hc' => ?_, fun t ht => by rw [u _ (by omega)]; exact w10 t ht, fun k hk hs => ?_⟩
  · rw [w7, q_walls.congr 81 (fun c _ => u (7 + c) (by omega))]
  · have sh : q_shopAt (upd τ 6 (nI n)) c' ↔ (q_shopAt τ c' ∧ c' ≠ c) := by
      unfold q_shopAt
      rw [upd_s, h6]
      constructor
      · rintro ⟨k, k1, k2, k3⟩
        rw [q_lt8 k1 (by omega)] at k2
        rw [u _ (by omega)] at k3
        refine ⟨⟨k, k1, (q_lt8 k1 (by omega)).mpr (by omega), k3⟩, fun e => ?_⟩
        subst e
        exact n4 k n k2 (by omega) (k3.trans hc.symm)
      · rintro ⟨⟨k, k1, k2, k3⟩, k4⟩
        rw [q_lt8 k1 (by omega)] at k2
        by_cases e : k = n
        · subst e
          exact absurd ((nI_eq (by omega) (by omega)).mp (k3.symm.trans hc)) k4
        · exact ⟨k, k1, (q_lt8 k1 (by omega)).mpr (by omega), by rw [u _ (by omega)]; exact k3⟩
    by_cases e : c' = c
    · subst e
      rw [h5]
      unfold q_gr
      rw [u _ (by omega), tc, sh]
      exact ⟨fun q => absurd q (by decide), fun q => absurd q (by decide), fun _ q => absurd rfl q.2, fun _ _ => rfl⟩
    · rw [h4 c' e]
      have := w9 c' hc'
      unfold q_gr at this ⊢
      rw [u _ (by omega), sh]
      exact ⟨this.1, this.2.1, fun a q => this.2.2.1 a q.1, fun a q => this.2.2.2 a (fun z => q ⟨z, e⟩)⟩
  · rw [q_lt8 hk (by omega)] at hs
    rw [u _ (by omega), u _ (by omega), u _ (by omega)]
    refine w11 k hk ?_
    rw [h6, q_lt8 hk (by omega)]; omega
