/-! what both hold: the numbers of the reference's own rows are the common measure -/
def mo (σ : g_S) : g_S := fun a j => if 68 ≤ a then σ a j else 0
theorem mo_at {σ : g_S} {a j : Nat} (h : 68 ≤ a) : mo σ a j = σ a j := if_pos h
theorem mo_row {σ : g_S} {a : Nat} (h : 68 ≤ a) : mo σ a = σ a := funext fun _ => if_pos h
theorem mo_eq {σ σ' : g_S} (h : ∀ a, 68 ≤ a → σ' a = σ a) : mo σ' = mo σ := by
  funext a j
  unfold mo
  by_cases q : 68 ≤ a
  · rw [if_pos q, if_pos q, h a q]
  · rw [if_neg q, if_neg q]
/-- the places of the reference that tell the state; the others are scratch -/
def q_can (a j : Nat) : Bool := a == 69 || a == 70 || a == 71 || a == 72 || a == 74 || a == 81 || a == 82 || a == 83 || (a == 68 && (j == 1 || j == 8 || j == 9 || j == 26))
def CE (σ μ : g_S) : Prop := ∀ a j, q_can a j = true → σ a j = μ a j
theorem CE.row {σ μ : g_S} (h : CE σ μ) {a : Nat} (ha : ∀ j, q_can a j = true) : σ a = μ a := funext fun j => h a j (ha j)
theorem CE.e69 {σ μ : g_S} (h : CE σ μ) : σ 69 = μ 69 := h.row (fun _ => rfl)
theorem CE.e70 {σ μ : g_S} (h : CE σ μ) : σ 70 = μ 70 := h.row (fun _ => rfl)
theorem CE.e71 {σ μ : g_S} (h : CE σ μ) : σ 71 = μ 71 := h.row (fun _ => rfl)
theorem CE.e72 {σ μ : g_S} (h : CE σ μ) : σ 72 = μ 72 := h.row (fun _ => rfl)
theorem CE.e74 {σ μ : g_S} (h : CE σ μ) : σ 74 = μ 74 := h.row (fun _ => rfl)
theorem CE.e81 {σ μ : g_S} (h : CE σ μ) : σ 81 = μ 81 := h.row (fun _ => rfl)
theorem CE.e82 {σ μ : g_S} (h : CE σ μ) : σ 82 = μ 82 := h.row (fun _ => rfl)
theorem CE.e83 {σ μ : g_S} (h : CE σ μ) : σ 83 = μ 83 := h.row (fun _ => rfl)
theorem CE.e1 {σ μ : g_S} (h : CE σ μ) : σ 68 1 = μ 68 1 := h 68 1 rfl
theorem CE.e8 {σ μ : g_S} (h : CE σ μ) : σ 68 8 = μ 68 8 := h 68 8 rfl
theorem CE.e9 {σ μ : g_S} (h : CE σ μ) : σ 68 9 = μ 68 9 := h 68 9 rfl
theorem CE.e26 {σ μ : g_S} (h : CE σ μ) : σ 68 26 = μ 68 26 := h 68 26 rfl
/-- a SHOP's sort by its kind -/
def q_sort (k : Int32) : Int32 := if k = 1 then 0 else if k = 4 then 1 else if k = 5 then 4 else k
/-- what stands at a cell: nothing 0, the tower 1, a wall 2, a shop 3 -/
def q_shopAt (τ : Nat → Int32) (c : Nat) : Prop := ∃ k, k < 8 ∧ nI k < τ 6 ∧ τ (89 + 3 * k) = nI c
def q_gr (τ : Nat → Int32) (c : Nat) (g : Int32) : Prop :=
  (τ (7 + c) = 2 → g = 1) ∧ (τ (7 + c) = 1 → g = 2) ∧ (τ (7 + c) = 0 → q_shopAt τ c → g = 3) ∧ (τ (7 + c) = 0 → ¬ q_shopAt τ c → g = 0)
/-- how many of the first n cells are walls -/
def q_walls (τ : Nat → Int32) : Nat → Nat
  | 0 => 0
  | n + 1 => q_walls τ n + (if τ (7 + n) = 1 then 1 else 0)
/-- a town of the class that landed, against the reference's -/
def TR (σ : g_S) (b : Nat) (τ : Nat → Int32) : Prop :=
  (σ b 0 = if τ 4 = 0 then 0 else 1) ∧ (∃ x y, x < 9 ∧ y < 9 ∧ σ b 1 = nI x ∧ σ b 2 = nI y ∧ τ 0 = nI (x + 9 * y)) ∧ σ b 3 = τ 1 ∧ σ b 4 = τ 4 ∧ σ b 5 = τ 2 ∧ σ b 6 = τ 3 ∧ σ b 7 = nI (q_walls τ 81) ∧ σ b 8 = τ 6 ∧
  (∀ c, c < 81 → q_gr τ c (σ (b + 1) c)) ∧ (∀ t, t < 73 → σ (b + 2) t = τ (112 + t)) ∧
  ∀ k, k < 8 → nI k < τ 6 → σ (b + 3) k = q_sort (τ (88 + 3 * k)) ∧ σ (b + 4) k = τ (89 + 3 * k) ∧ σ (b + 5) k = τ (90 + 3 * k)
/-- a town of the reference that can come about -/
def WT (τ : Nat → Int32) : Prop :=
  (∃ x y, x < 9 ∧ y < 9 ∧ τ 0 = nI (x + 9 * y)) ∧ (∃ r, r ≤ 8 ∧ τ 1 = nI r) ∧ (-3 ≤ τ 2 ∧ τ 2 ≤ 3) ∧ (-3 ≤ τ 3 ∧ τ 3 ≤ 3) ∧ (∃ s, s ≤ 6 ∧ τ 4 = nI s) ∧
  (∃ n, n ≤ 8 ∧ τ 6 = nI n ∧ (∀ k, k < n → (∃ i, 1 ≤ i ∧ i ≤ 5 ∧ τ (88 + 3 * k) = nI i) ∧ (∃ c, c < 81 ∧ τ (89 + 3 * k) = nI c ∧ τ (7 + c) = 0) ∧ ∃ r, r ≤ 99 ∧ τ (90 + 3 * k) = nI r) ∧ ∀ j k, j < k → k < n → τ (89 + 3 * j) ≠ τ (89 + 3 * k)) ∧
  (∀ c, c < 81 → τ (7 + c) = 0 ∨ τ (7 + c) = 1 ∨ τ (7 + c) = 2) ∧ (∀ t, t < 73 → τ (112 + t) = 0 ∨ τ (112 + t) = 1) ∧
  (τ 4 ≠ 0 → ∀ c, c < 81 → (τ (7 + c) = 2 ↔ nI c = τ 0)) ∧ (τ 4 = 0 → τ 6 = 0 ∧ (∀ c, c < 81 → τ (7 + c) = 0) ∧ ∀ t, t < 73 → τ (112 + t) = 0)
/-- the reference's rows can come about -/
def WF (μ : g_S) : Prop :=
  (∀ i, i < 8 → μ 69 i = -1 ∨ μ 69 i = 0 ∨ μ 69 i = 1 ∨ μ 69 i = 2) ∧ (∀ i, i < 8 → ∃ n, n ≤ 40 ∧ μ 70 i = nI n) ∧ (∃ n, n ≤ 400 ∧ μ 68 8 = nI n) ∧ (∀ i, i < 400 → ∃ b, b < 256 ∧ μ 74 i = nI b) ∧ (∃ n, n ≤ 16 ∧ μ 68 26 = nI n) ∧
  WT (μ 72) ∧ ∀ k, k < 2 → μ 81 k = 0 ∨ (μ 81 k = 1 ∧ WT (fun i => μ 82 (185 * k + i)) ∧ μ 82 (185 * k + 4) ≠ 0)
/-- the class that landed holds what the reference holds -/
def RC (σ μ : g_S) : Prop :=
  (∀ i, i < 8 → σ 2 i = μ 69 i) ∧ (∀ i, i < 8 → σ 3 i = μ 70 i) ∧ (∀ r, r < 8 → ∀ i, i < 40 → σ (5 + r) i = μ 71 (40 * r + i)) ∧ (∀ i, i < 400 → σ 14 i = μ 74 i) ∧ σ 13 1 = μ 68 8 ∧ σ 0 9 = μ 68 9 ∧ σ 0 10 = μ 68 1 ∧ TR σ 15 (μ 72) ∧
  (∀ k, k < 2 → (μ 81 k = 1 → TR σ (28 + 6 * k) (fun i => μ 82 (185 * k + i))) ∧ (μ 81 k = 0 → σ (28 + 6 * k) 0 = 0)) ∧ (∀ i, i < 16 → σ 67 i = μ 83 i) ∧ σ 66 1 = μ 68 26
def Rel (σ : g_S) : Prop := RC σ (mo σ) ∧ WF (mo σ)
theorem WF.congr {σ μ : g_S} (h : CE σ μ) (w : WF μ) : WF σ := by
  unfold WF at w ⊢
  rw [h.e69, h.e70, h.e8, h.e74, h.e26, h.e72, h.e81, h.e82]
  exact w
theorem RC.congr {σ μ ν : g_S} (h : CE ν μ) (w : RC σ μ) : RC σ ν := by
  unfold RC at w ⊢
  rw [h.e69, h.e70, h.e71, h.e74, h.e8, h.e9, h.e1, h.e72, h.e81, h.e82, h.e83, h.e26]
  exact w
theorem TR.low {σ σ' : g_S} {b : Nat} {τ : Nat → Int32} (h : ∀ a, b ≤ a → a < b + 6 → σ' a = σ a) (w : TR σ b τ) : TR σ' b τ := by
  unfold TR at w ⊢
  rw [h b (by omega) (by omega), h (b + 1) (by omega) (by omega), h (b + 2) (by omega) (by omega), h (b + 3) (by omega) (by omega), h (b + 4) (by omega) (by omega), h (b + 5) (by omega) (by omega)]
  exact w
/-- cells of the class that landed, that tell its state -/
theorem RC.low {σ σ' μ : g_S} (h : ∀ a, a < 68 → a ≠ 1 → a ≠ 4 → (a < 21 ∨ 27 < a) → (a < 40 ∨ 65 < a) → σ' a = σ a) (w : RC σ μ) : RC σ' μ := by
  unfold RC at w ⊢
  obtain ⟨h1, h2, h3, h4, h5, h6, h7, h8, h9, h10, h11⟩ := w
  rw [h 2 (by omega) (by omega) (by omega) (by omega) (by omega), h 3 (by omega) (by omega) (by omega) (by omega) (by omega), h 14 (by omega) (by omega) (by omega) (by omega) (by omega), h 13 (by omega) (by omega) (by omega) (by omega) (by omega), h 0 (by omega) (by omega) (by omega) (by omega) (by omega), h 67 (by omega) (by omega) (by omega) (by omega) (by omega), h 66 (by omega) (by omega) (by omega) (by omega) (by omega)]
  refine ⟨h1, h2, fun r hr i hi => ?_, h4, h5, h6, h7, h8.low (fun a h1 h2 => h a (by omega) (by omega) (by omega) (by omega) (by omega)), fun k hk => ⟨fun q => ((h9 k hk).1 q).low (fun a h1 h2 => h a (by omega) (by omega) (by omega) (by omega) (by omega)), fun q => ?_⟩, h10, h11⟩
  · rw [h (5 + r) (by omega) (by omega) (by omega) (by omega) (by omega)]
    exact h3 r hr i hi
  · rw [h (28 + 6 * k) (by omega) (by omega) (by omega) (by omega) (by omega)]
    exact (h9 k hk).2 q
/-- a method of both: what it answers and what becomes of the state; by the class that landed, by the reference -/
def g_cs (E : g_E) (M : Nat) (as : List Value) (ans : g_S → Int32) (step : g_S → g_S) : Prop :=
  ∀ (σ μ : g_S) (R : g_R), RC σ μ → WF μ → (∀ σ1, RC σ1 (step μ) → (∀ a, 68 ≤ a → σ1 a = σ a) → R (some (.int (ans μ))) σ1) → g_wp E 20 M (.ref 0 :: as) σ R
def g_ms (E : g_E) (M : Nat) (as : List Value) (ans : g_S → Int32) (step : g_S → g_S) : Prop :=
  ∀ (σ : g_S) (R : g_R), WF (mo σ) → (∀ σ1, (∀ a, a < 68 → σ1 a = σ a) → CE σ1 (step (mo σ)) → R (some (.int (ans (mo σ)))) σ1) → g_wp E 20 M (.ref 68 :: as) σ R
def g_pr (E : g_E) (M1 M2 : Nat) (as : List Value) : Prop := ∃ (ans : g_S → Int32) (step : g_S → g_S), g_cs E M1 as ans step ∧ g_ms E M2 as ans step ∧ ∀ μ, WF μ → WF (step μ)
theorem g_pair {E : g_E} {M1 M2 : Nat} {as : List Value} (h : g_pr E M1 M2 as) {σ : g_S} (hr : Rel σ) {k : Int32 → g_S → Prop} {k2 : Int32 → Int32 → g_S → Prop} (hk : ∀ r s, g_wp E 20 M2 (.ref 68 :: as) s (g_ri (k2 r)) → k r s) (hk2 : ∀ r s, Rel s → k2 r r s) : g_wp E 20 M1 (.ref 0 :: as) σ (g_ri k) := by
  obtain ⟨ans, step, hc, hm, hw⟩ := h
  refine hc σ (mo σ) _ hr.1 hr.2 (fun σ1 h1 h2 => ⟨_, rfl, hk _ _ ?_⟩)
  have e := mo_eq h2
  refine hm σ1 _ (by rw [e]; exact hr.2) (fun σ2 h3 h4 => ⟨_, rfl, ?_⟩)
  rw [e] at h4 ⊢
  have hce : CE (mo σ2) (step (mo σ)) := fun a j q => by
    rw [mo_at (σ := σ2) (a := a) (j := j) (by
      unfold q_can at q
      simp only [Bool.or_eq_true, Bool.and_eq_true, beq_iff_eq] at q
      omega)]
    exact h4 a j q
  refine hk2 _ _ ⟨RC.congr hce (RC.low (fun a h _ _ _ _ => h3 a h) h1), WF.congr hce (hw _ hr.2)⟩
