/-! what stays of the relation when little changes -/
def Sc (σ1 σ : g_S) : Prop := ∀ a j, q_can a j = true → σ1 a j = σ a j
theorem Sc.rf {σ : g_S} : Sc σ σ := fun _ _ _ => rfl
theorem Sc.tr {σ σ1 σ2 : g_S} (h2 : Sc σ2 σ1) (h1 : Sc σ1 σ) : Sc σ2 σ := fun a j q => (h2 a j q).trans (h1 a j q)
theorem Sc.up {σ σ1 : g_S} {a j : Nat} {v : Int32} (h : Sc σ1 σ) (q : q_can a j = false) : Sc (g_up σ1 a j v) σ := by
  intro b k hb
  unfold g_up
  by_cases e : b = a ∧ k = j
  · rw [e.1, e.2, q] at hb
    cases hb
  · rw [if_neg e]
    exact h b k hb
theorem q_can68 {a j : Nat} (h : q_can a j = true) : 68 ≤ a := by
  unfold q_can at h
  simp only [Bool.or_eq_true, Bool.and_eq_true, beq_iff_eq] at h
  omega
theorem Sc.ce {σ1 σ : g_S} (h : Sc σ1 σ) : CE σ1 (mo σ) := fun a j q => by rw [mo_at (q_can68 q)]; exact h a j q
/-- a change at one canonical place -/
theorem Sc.cu {σ1 σ : g_S} (h : Sc σ1 σ) (a j : Nat) (v : Int32) (ha : 68 ≤ a) : CE (g_up σ1 a j v) (g_up (mo σ) a j v) := fun b k q => by
  unfold g_up
  by_cases e : b = a ∧ k = j
  · rw [if_pos e, if_pos e]
  · rw [if_neg e, if_neg e]
    exact h.ce b k q
theorem CE.cu {σ μ : g_S} (h : CE σ μ) (a j : Nat) (v : Int32) : CE (g_up σ a j v) (g_up μ a j v) := fun b k q => by
  unfold g_up
  by_cases e : b = a ∧ k = j
  · rw [if_pos e, if_pos e]
  · rw [if_neg e, if_neg e]
    exact h b k q
theorem CE.sc {σ1 σ μ : g_S} (h : Sc σ1 σ) (w : CE σ μ) : CE σ1 μ := fun b k q => (h b k q).trans (w b k q)
theorem lo_up {σ σ1 : g_S} {a j : Nat} {v : Int32} (h : ∀ b, b < 68 → σ1 b = σ b) (ha : 68 ≤ a) : ∀ b, b < 68 → g_up σ1 a j v b = σ b := fun b hb => (g_up_ne (by omega)).trans (h b hb)
theorem hi_up {σ σ1 : g_S} {a j : Nat} {v : Int32} (h : ∀ b, 68 ≤ b → σ1 b = σ b) (ha : a < 68) : ∀ b, 68 ≤ b → g_up σ1 a j v b = σ b := fun b hb => (g_up_ne (by omega)).trans (h b hb)
theorem upd_s {f : Nat → Int32} {k : Nat} {x : Int32} : upd f k x k = x := if_pos rfl
theorem upd_n {f : Nat → Int32} {k j : Nat} {x : Int32} (h : j ≠ k) : upd f k x j = f j := if_neg h
theorem g_up_s {σ : g_S} {a j : Nat} {v : Int32} : g_up σ a j v a j = v := if_pos ⟨rfl, rfl⟩
theorem g_up_n {σ : g_S} {a j b k : Nat} {v : Int32} (h : b ≠ a ∨ k ≠ j) : g_up σ a j v b k = σ b k := if_neg (fun q => by rcases h with h | h; exact h q.1; exact h q.2)
/-- only the town, and what it is held against, change -/
theorem RC.town {σ σ' μ μ' : g_S} (w : RC σ μ) (hσ : ∀ a, a < 68 → (a < 15 ∨ 20 < a) → a ≠ 1 → a ≠ 4 → (a < 21 ∨ 27 < a) → (a < 40 ∨ 65 < a) → σ' a = σ a) (hμ : ∀ a, a ≠ 72 → μ' a = μ a) (ht : TR σ' 15 (μ' 72)) : RC σ' μ' := by
  unfold RC at w ⊢
  obtain ⟨h1, h2, h3, h4, h5, h6, h7, h8, h9, h10, h11⟩ := w
  have e : ∀ a, a < 68 → (a < 15 ∨ 20 < a) → a ≠ 1 → a ≠ 4 → (a < 21 ∨ 27 < a) → (a < 40 ∨ 65 < a) → σ' a = σ a := hσ
  rw [hμ 69 (by omega), hμ 70 (by omega), hμ 71 (by omega), hμ 74 (by omega), hμ 68 (by omega), hμ 81 (by omega), hμ 82 (by omega), hμ 83 (by omega)]
  rw [e 2 (by omega) (by omega) (by omega) (by omega) (by omega) (by omega), e 3 (by omega) (by omega) (by omega) (by omega) (by omega) (by omega), e 14 (by omega) (by omega) (by omega) (by omega) (by omega) (by omega), e 13 (by omega) (by omega) (by omega) (by omega) (by omega) (by omega), e 0 (by omega) (by omega) (by omega) (by omega) (by omega) (by omega), e 67 (by omega) (by omega) (by omega) (by omega) (by omega) (by omega), e 66 (by omega) (by omega) (by omega) (by omega) (by omega) (by omega)]
  refine ⟨h1, h2, fun r hr i hi => ?_, h4, h5, h6, h7, ht, fun k hk => ⟨fun q => ((h9 k hk).1 q).low (fun a h1 h2 => e a (by omega) (by omega) (by omega) (by omega) (by omega) (by omega)), fun q => ?_⟩, h10, h11⟩
  · rw [e (5 + r) (by omega) (by omega) (by omega) (by omega) (by omega) (by omega)]
    exact h3 r hr i hi
  · rw [e (28 + 6 * k) (by omega) (by omega) (by omega) (by omega) (by omega) (by omega)]
    exact (h9 k hk).2 q
theorem WF.town {μ μ' : g_S} (w : WF μ) (hμ : ∀ a, a ≠ 72 → μ' a = μ a) (ht : WT (μ' 72)) : WF μ' := by
  unfold WF at w ⊢
  rw [hμ 69 (by omega), hμ 70 (by omega), hμ 68 (by omega), hμ 74 (by omega), hμ 81 (by omega), hμ 82 (by omega)]
  obtain ⟨h1, h2, h3, h4, h5, h6, h7⟩ := w
  exact ⟨h1, h2, h3, h4, h5, ht, h7⟩
theorem WF.wt {μ : g_S} (w : WF μ) : WT (μ 72) := w.2.2.2.2.2.1
theorem RC.tr {σ μ : g_S} (w : RC σ μ) : TR σ 15 (μ 72) := w.2.2.2.2.2.2.2.1
/-- the status alone -/
theorem RC.stat {σ μ : g_S} (w : RC σ μ) (v : Int32) : RC (g_up σ 0 10 v) (g_up μ 68 1 v) := by
  unfold RC at w ⊢
  obtain ⟨h1, h2, h3, h4, h5, h6, h7, h8, h9, h10, h11⟩ := w
  have e : ∀ a, a ≠ 0 → g_up σ 0 10 v a = σ a := fun a h => g_up_ne h
  have e2 : ∀ a, a ≠ 68 → g_up μ 68 1 v a = μ a := fun a h => g_up_ne h
  rw [e2 69 (by omega), e2 70 (by omega), e2 71 (by omega), e2 74 (by omega), e2 72 (by omega), e2 81 (by omega), e2 82 (by omega), e2 83 (by omega), e 2 (by omega), e 3 (by omega), e 14 (by omega), e 13 (by omega), e 67 (by omega), e 66 (by omega)]
  rw [show g_up μ 68 1 v 68 8 = μ 68 8 from g_up_n (by omega), show g_up σ 0 10 v 0 9 = σ 0 9 from g_up_n (by omega), show g_up μ 68 1 v 68 9 = μ 68 9 from g_up_n (by omega), show g_up σ 0 10 v 0 10 = v from g_up_s, show g_up μ 68 1 v 68 1 = v from g_up_s, show g_up μ 68 1 v 68 26 = μ 68 26 from g_up_n (by omega)]
  refine ⟨h1, h2, fun r hr i hi => ?_, h4, h5, h6, rfl, h8.low (fun a q _ => e a (by omega)), fun k hk => ⟨fun q => ((h9 k hk).1 q).low (fun a q _ => e a (by omega)), fun q => ?_⟩, h10, h11⟩
  · rw [e (5 + r) (by omega)]
    exact h3 r hr i hi
  · rw [e (28 + 6 * k) (by omega)]
    exact (h9 k hk).2 q
theorem WF.stat {μ : g_S} (w : WF μ) (v : Int32) : WF (g_up μ 68 1 v) := by
  unfold WF at w ⊢
  have e2 : ∀ a, a ≠ 68 → g_up μ 68 1 v a = μ a := fun a h => g_up_ne h
  rw [e2 69 (by omega), e2 70 (by omega), e2 74 (by omega), e2 72 (by omega), e2 81 (by omega), e2 82 (by omega), show g_up μ 68 1 v 68 8 = μ 68 8 from g_up_n (by omega), show g_up μ 68 1 v 68 26 = μ 68 26 from g_up_n (by omega)]
  exact w
theorem q_shopAt.congr {τ τ' : Nat → Int32} {c : Nat} (h6 : τ' 6 = τ 6) (h : ∀ k, k < 8 → τ' (89 + 3 * k) = τ (89 + 3 * k)) : q_shopAt τ' c ↔ q_shopAt τ c := by
  unfold q_shopAt
  rw [h6]
  exact ⟨fun ⟨k, h1, h2, h3⟩ => ⟨k, h1, h2, by rw [← h k h1]; exact h3⟩, fun ⟨k, h1, h2, h3⟩ => ⟨k, h1, h2, by rw [h k h1]; exact h3⟩⟩
theorem q_gr.congr {τ τ' : Nat → Int32} {c : Nat} {g : Int32} (hc : τ' (7 + c) = τ (7 + c)) (h6 : τ' 6 = τ 6) (h : ∀ k, k < 8 → τ' (89 + 3 * k) = τ (89 + 3 * k)) (w : q_gr τ c g) : q_gr τ' c g := by
  unfold q_gr at w ⊢
  rw [hc, q_shopAt.congr h6 h]
  exact w
theorem q_walls.congr {τ τ' : Nat → Int32} : ∀ n, (∀ c, c < n → τ' (7 + c) = τ (7 + c)) → q_walls τ' n = q_walls τ n
  | 0, _ => rfl
  | n + 1, h => by
    unfold q_walls
    rw [q_walls.congr n (fun c hc => h c (by omega)), h n (by omega)]
/-- season and lean alone -/
theorem TR.head {σ σ' : g_S} {b : Nat} {τ τ' : Nat → Int32} (w : TR σ b τ) (hc : ∀ a, b < a → a < b + 6 → σ' a = σ a) (h1 : σ' b 1 = σ b 1) (h2 : σ' b 2 = σ b 2) (h3 : σ' b 3 = σ b 3) (h7 : σ' b 7 = σ b 7) (h8 : σ' b 8 = σ b 8) (hτ : ∀ i, i ≠ 2 → i ≠ 3 → i ≠ 4 → τ' i = τ i) (e0 : σ' b 0 = if τ' 4 = 0 then 0 else 1) (e4 : σ' b 4 = τ' 4) (e5 : σ' b 5 = τ' 2) (e6 : σ' b 6 = τ' 3) : TR σ' b τ' := by
  unfold TR at w ⊢
  obtain ⟨w0, w1, w3, w4, w5, w6, w7, w8, w9, w10, w11⟩ := w
  refine ⟨e0, ?_, ?_, e4, e5, e6, ?_, ?_, fun c hcc => ?_, fun t ht => ?_, fun k hk hs => ?_⟩
  · obtain ⟨x, y, hx, hy, a1, a2, a3⟩ := w1
    exact ⟨x, y, hx, hy, h1.trans a1, h2.trans a2, (hτ 0 (by omega) (by omega) (by omega)).trans a3⟩
  · rw [h3, hτ 1 (by omega) (by omega) (by omega)]; exact w3
  · rw [h7, w7, q_walls.congr 81 (fun c _ => hτ (7 + c) (by omega) (by omega) (by omega))]
  · rw [h8, hτ 6 (by omega) (by omega) (by omega)]; exact w8
  · rw [hc (b + 1) (by omega) (by omega)]
    exact (w9 c hcc).congr (hτ _ (by omega) (by omega) (by omega)) (hτ 6 (by omega) (by omega) (by omega)) (fun k _ => hτ _ (by omega) (by omega) (by omega))
  · rw [hc (b + 2) (by omega) (by omega), hτ _ (by omega) (by omega) (by omega)]; exact w10 t ht
  · rw [hτ 6 (by omega) (by omega) (by omega)] at hs
    rw [hc (b + 3) (by omega) (by omega), hc (b + 4) (by omega) (by omega), hc (b + 5) (by omega) (by omega), hτ _ (by omega) (by omega) (by omega), hτ _ (by omega) (by omega) (by omega), hτ _ (by omega) (by omega) (by omega)]
    exact w11 k hk hs
theorem q_there {σ μ : g_S} (w : RC σ μ) (f : WF μ) : (σ 15 0 = 0 ↔ (μ 72 4).toInt ≤ 0) := by
  have h0 := w.tr.1
  obtain ⟨s, hs, e⟩ := f.wt.2.2.2.2.1
  rw [h0, e, nI_toInt (by omega)]
  by_cases h : nI s = 0
  · rw [if_pos h]
    have : s = 0 := (nI_eq (by omega) (by omega)).mp (show nI s = nI 0 from h)
    exact ⟨fun _ => by omega, fun _ => rfl⟩
  · rw [if_neg h]
    have : s ≠ 0 := fun q => h (by rw [q]; rfl)
    exact ⟨fun q => absurd q (by decide), fun q => by omega⟩
