/-! pairs: ask -/
/-- notes of bodies that begin -/
def g_tn (σ : g_S) (t c j : Nat) (l : List Int32) : g_S := g_up (fun b k => if b = t ∧ k < l.length then l.getD k 0 else σ b k) c j (nI l.length)
theorem g_tn_0 {σ : g_S} {t c j : Nat} : g_up σ c j 0 = g_tn σ t c j [] := by
  have e : σ = fun b k => if b = t ∧ k < ([] : List Int32).length then ([] : List Int32).getD k 0 else σ b k := by
    funext b k
    rw [if_neg (fun q => absurd q.2 (Nat.not_lt_zero k))]
  exact congrArg (fun q => g_up q c j 0) e
theorem g_tn_ne {σ : g_S} {t c j a : Nat} {l : List Int32} (h1 : a ≠ t) (h2 : a ≠ c) : g_tn σ t c j l a = σ a := by
  funext k
  unfold g_tn g_up
  rw [if_neg (fun q => h2 q.1)]
  dsimp only
  rw [if_neg (fun q => h1 q.1)]
theorem g_tn_c {σ : g_S} {t c j : Nat} {l : List Int32} : g_tn σ t c j l c j = nI l.length := g_up_s
theorem g_tn_c' {σ : g_S} {t c j k : Nat} {l : List Int32} (h : t ≠ c) (hk : k ≠ j) : g_tn σ t c j l c k = σ c k := by
  unfold g_tn g_up
  rw [if_neg (fun q => hk q.2)]
  dsimp only
  rw [if_neg (fun q => h q.1.symm)]
theorem g_tn_t {σ : g_S} {t c j k : Nat} {l : List Int32} (h : t ≠ c) : g_tn σ t c j l t k = if k < l.length then l.getD k 0 else σ t k := by
  unfold g_tn g_up
  rw [if_neg (fun q => h q.1)]
  dsimp only
  by_cases e : k < l.length
  · rw [if_pos ⟨rfl, e⟩, if_pos e]
  · rw [if_neg (fun q => e q.2), if_neg e]
theorem g_tn_s {σ : g_S} {t c j : Nat} {l : List Int32} {x : Int32} (h : t ≠ c) : g_up (g_up (g_tn σ t c j l) t l.length x) c j (nI (l.length + 1)) = g_tn σ t c j (l ++ [x]) := by
  unfold g_tn
  rw [g_up_cm (Or.inl h.symm), g_up_up]
  have e : g_up (fun b k => if b = t ∧ k < l.length then l.getD k 0 else σ b k) t l.length x = fun b k => if b = t ∧ k < (l ++ [x]).length then (l ++ [x]).getD k 0 else σ b k := by
    funext b k
    unfold g_up
    simp only [List.length_append, List.length_cons, List.length_nil, List.getD_eq_getElem?_getD]
    by_cases h1 : b = t
    · by_cases h2 : k = l.length
      · rw [if_pos ⟨h1, h2⟩, if_pos ⟨h1, by omega⟩, h2, List.getElem?_append_right (Nat.le_refl _), Nat.sub_self]
        rfl
      · rw [if_neg (fun q => h2 q.2)]
        by_cases h3 : k < l.length
        · rw [if_pos ⟨h1, h3⟩, if_pos ⟨h1, by omega⟩, List.getElem?_append_left h3]
        · rw [if_neg (fun q => h3 q.2), if_neg (by omega)]
    · rw [if_neg (fun q => h1 q.1), if_neg (fun q => h1 q.1), if_neg (fun q => h1 q.1)]
  rw [e, List.length_append]
  rfl
theorem CE.tn {σ μ : g_S} {t c j : Nat} {l : List Int32} (h : CE σ μ) : CE (g_tn σ t c j l) (g_tn μ t c j l) := by
  unfold g_tn
  refine CE.cu (fun b k q => ?_) _ _ _
  by_cases e : b = t ∧ k < l.length
  · rw [if_pos e, if_pos e]
  · rw [if_neg e, if_neg e]; exact h b k q
theorem RC.note {σ μ : g_S} (w : RC σ μ) (l : List Int32) : RC (g_tn σ 67 66 1 l) (g_tn μ 83 68 26 l) := by
  unfold RC at w ⊢
  obtain ⟨h1, h2, h3, h4, h5, h6, h7, h8, h9, h10, h11⟩ := w
  have e : ∀ a, a ≠ 67 → a ≠ 66 → g_tn σ 67 66 1 l a = σ a := fun a q1 q2 => g_tn_ne q1 q2
  have e2 : ∀ a, a ≠ 83 → a ≠ 68 → g_tn μ 83 68 26 l a = μ a := fun a q1 q2 => g_tn_ne q1 q2
  rw [e2 69 (by omega) (by omega), e2 70 (by omega) (by omega), e2 71 (by omega) (by omega), e2 74 (by omega) (by omega), e2 72 (by omega) (by omega), e2 81 (by omega) (by omega), e2 82 (by omega) (by omega), e 2 (by omega) (by omega), e 3 (by omega) (by omega), e 14 (by omega) (by omega), e 13 (by omega) (by omega), e 0 (by omega) (by omega)]
  rw [show g_tn μ 83 68 26 l 68 8 = μ 68 8 from g_tn_c' (by omega) (by omega), show g_tn μ 83 68 26 l 68 9 = μ 68 9 from g_tn_c' (by omega) (by omega), show g_tn μ 83 68 26 l 68 1 = μ 68 1 from g_tn_c' (by omega) (by omega), show g_tn σ 67 66 1 l 66 1 = nI l.length from g_tn_c, show g_tn μ 83 68 26 l 68 26 = nI l.length from g_tn_c]
  refine ⟨h1, h2, fun r hr i hi => ?_, h4, h5, h6, h7, h8.low (fun a q _ => e a (by omega) (by omega)), fun k hk => ⟨fun q => ((h9 k hk).1 q).low (fun a q _ => e a (by omega) (by omega)), fun q => ?_⟩, fun i hi => ?_, rfl⟩
  · rw [e (5 + r) (by omega) (by omega)]
    exact h3 r hr i hi
  · rw [e (28 + 6 * k) (by omega) (by omega)]
    exact (h9 k hk).2 q
  · rw [g_tn_t (by omega), g_tn_t (by omega), h10 i hi]
theorem WF.note {μ : g_S} (w : WF μ) {l : List Int32} (hl : l.length ≤ 16) : WF (g_tn μ 83 68 26 l) := by
  unfold WF at w ⊢
  have e2 : ∀ a, a ≠ 83 → a ≠ 68 → g_tn μ 83 68 26 l a = μ a := fun a q1 q2 => g_tn_ne q1 q2
  rw [e2 69 (by omega) (by omega), e2 70 (by omega) (by omega), e2 74 (by omega) (by omega), e2 72 (by omega) (by omega), e2 81 (by omega) (by omega), e2 82 (by omega) (by omega), show g_tn μ 83 68 26 l 68 8 = μ 68 8 from g_tn_c' (by omega) (by omega), show g_tn μ 83 68 26 l 68 26 = nI l.length from g_tn_c]
  obtain ⟨h1, h2, h3, h4, h5, h6, h7⟩ := w
  exact ⟨h1, h2, h3, h4, ⟨_, hl, rfl⟩, h6, h7⟩
section Q72
variable {E : g_E} {d : Nat} {R : g_R} {σ : g_S}
abbrev g_tc (σ : g_S) (l : List Int32) : g_S := g_tn σ 67 66 1 l
abbrev g_tm (σ : g_S) (l : List Int32) : g_S := g_tn σ 83 68 26 l
theorem c_note {l : List Int32} {x : Int32} (hl : l.length < 16) (h : R none (g_tc σ (l ++ [x]))) : g_wp E (d + 1) 4 [.ref 66, .int x] (g_tc σ l) R := by
  have e : g_tc σ l 66 1 = nI l.length := g_tn_c
  refine t4_0 ⟨fun c => absurd c (by rw [e]; exact nI_ge (b := 16) (by omega) (by omega)), fun c => ?_⟩
  rw [e, q_cl (by omega), nI_1]
  refine ⟨vp_in_nI hl (by omega), fun s es s2 es2 => ?_⟩
  rw [es2, es, g_tn_s (by omega)]; exact h
theorem m_note {l : List Int32} {x : Int32} (hl : l.length < 16) (h : R none (g_tm σ (l ++ [x]))) : g_wp E (d + 1) 177 [.ref 68, .int x] (g_tm σ l) R := by
  have e : g_tm σ l 68 26 = nI l.length := g_tn_c
  refine t177_0 ⟨fun c => absurd c (by rw [e]; exact nI_ge (b := 16) (by omega) (by omega)), fun c => ?_⟩
  rw [e, q_cl (by omega), nI_1]
  refine ⟨vp_in_nI hl (by omega), fun s es s2 es2 => ?_⟩
  rw [es2, es, g_tn_s (by omega)]; exact h
/-- the shop that is asked -/
def q_sh1 (σ : g_S) (τ : Nat → Int32) (k : Nat) (c r : Int32) : Prop := TR σ 15 τ ∧ WT τ ∧ nI k < τ 6 ∧ k < 8 ∧ τ (89 + 3 * k) = c ∧ τ (90 + 3 * k) = r
theorem q_sh1.tc {σ : g_S} {τ : Nat → Int32} {k : Nat} {c r : Int32} (h : q_sh1 σ τ k c r) (l : List Int32) : TR (g_tc σ l) 15 τ := h.1.low (fun a q _ => g_tn_ne (by omega) (by omega))
theorem q_sh1.ce {σ : g_S} {τ : Nat → Int32} {k : Nat} {c r : Int32} (h : q_sh1 σ τ k c r) (l : List Int32) : g_tc σ l 19 k = c := ((h.tc l).2.2.2.2.2.2.2.2.2.2 k h.2.2.2.1 h.2.2.1).2.1.trans h.2.2.2.2.1
theorem q_sh1.rt {σ : g_S} {τ : Nat → Int32} {k : Nat} {c r : Int32} (h : q_sh1 σ τ k c r) (l : List Int32) : g_tc σ l 20 k = r := ((h.tc l).2.2.2.2.2.2.2.2.2.2 k h.2.2.2.1 h.2.2.1).2.2.trans h.2.2.2.2.2
variable {τ : Nat → Int32} {k : Nat} {c r : Int32} {l : List Int32}
theorem q_d16 {dp : Nat} (h : dp ≤ 16) : nI dp ≤ 16 := nI_le (b := 16) h (by omega)
theorem a10 (w : q_sh1 σ τ k c r) {dp : Nat} (hd : dp + 1 ≤ 16) (hl : l.length + 1 ≤ 16) (h : R (some (.int (r))) (g_tc σ (l ++ [10]))) : g_wp E (d + 1 + 1) 3 [.ref 66, .ref 15, .int (nI k), .int 10, .int (nI dp)] (g_tc σ l) R := by
  refine t3_0 (Or.inl rfl) ⟨fun _ => c_note (by omega) ⟨rfl, c_kindOf (Or.inl rfl) (w.tc _) w.2.1 w.2.2.1 w.2.2.2.1 ⟨_, rfl, ⟨fun c => absurd c (by decide), fun _ => ?_, fun c => absurd c (by decide), fun c => absurd c (by decide), fun c => absurd c (by decide), fun c => absurd c (by decide), fun c => absurd c (by decide), fun c => absurd c (by decide), fun c => absurd c (by decide), fun c => absurd c (by decide), fun c => absurd c (by decide), fun c => absurd c (by decide), fun c => absurd c (by decide), fun c => absurd c (by decide), fun c => absurd c (by decide), fun c => absurd c (by decide), trivial⟩⟩⟩, fun q => absurd (q_d16 (by omega)) q⟩
  rw [q_cl (by have := w.2.2.2.1; omega), w.rt]
  exact ⟨vp_in_nI w.2.2.2.1 (by omega), h⟩
theorem a20 (w : q_sh1 σ τ k c r) {dp : Nat} (hd : dp + 1 ≤ 16) (hl : l.length + 1 ≤ 16) (h : R (some (.int (nI k))) (g_tc σ (l ++ [20]))) : g_wp E (d + 1 + 1) 3 [.ref 66, .ref 15, .int (nI k), .int 20, .int (nI dp)] (g_tc σ l) R := by
  refine t3_0 (Or.inl rfl) ⟨fun _ => c_note (by omega) ⟨rfl, c_kindOf (Or.inl rfl) (w.tc _) w.2.1 w.2.2.1 w.2.2.2.1 ⟨_, rfl, ⟨fun c => absurd c (by decide), fun c => absurd c (by decide), fun c => absurd c (by decide), fun c => absurd c (by decide), fun c => absurd c (by decide), fun c => absurd c (by decide), fun c => absurd c (by decide), fun c => absurd c (by decide), fun c => absurd c (by decide), fun c => absurd c (by decide), fun c => absurd c (by decide), fun _ => ?_, fun c => absurd c (by decide), fun c => absurd c (by decide), fun c => absurd c (by decide), fun c => absurd c (by decide), trivial⟩⟩⟩, fun q => absurd (q_d16 (by omega)) q⟩
  exact h
theorem a21 (w : q_sh1 σ τ k c r) {dp : Nat} (hd : dp + 2 ≤ 16) (hl : l.length + 2 ≤ 16) (h : R (some (.int (nI k + c))) (g_tc σ (l ++ [21] ++ [20]))) : g_wp E (d + 2 + 1) 3 [.ref 66, .ref 15, .int (nI k), .int 21, .int (nI dp)] (g_tc σ l) R := by
  refine t3_0 (Or.inl rfl) ⟨fun _ => c_note (by omega) ⟨rfl, c_kindOf (Or.inl rfl) (w.tc _) w.2.1 w.2.2.1 w.2.2.2.1 ⟨_, rfl, ⟨fun c => absurd c (by decide), fun c => absurd c (by decide), fun c => absurd c (by decide), fun c => absurd c (by decide), fun c => absurd c (by decide), fun c => absurd c (by decide), fun c => absurd c (by decide), fun c => absurd c (by decide), fun c => absurd c (by decide), fun c => absurd c (by decide), fun c => absurd c (by decide), fun c => absurd c (by decide), fun _ => ?_, fun c => absurd c (by decide), fun c => absurd c (by decide), fun c => absurd c (by decide), trivial⟩⟩⟩, fun q => absurd (q_d16 (by omega)) q⟩
  rw [nI_1]
  refine a20 w (by omega) (by simp only [List.length_append, List.length_cons, List.length_nil]; omega) ⟨_, rfl, vp_in_nI w.2.2.2.1 (by omega), ?_⟩
  rw [q_cl (by have := w.2.2.2.1; omega), w.ce]
  exact h
theorem a22 (w : q_sh1 σ τ k c r) {dp : Nat} (hd : dp + 3 ≤ 16) (hl : l.length + 3 ≤ 16) (h : R (some (.int (nI k + c - 1000))) (g_tc σ (l ++ [22] ++ [21] ++ [20]))) : g_wp E (d + 3 + 1) 3 [.ref 66, .ref 15, .int (nI k), .int 22, .int (nI dp)] (g_tc σ l) R := by
  refine t3_0 (Or.inl rfl) ⟨fun _ => c_note (by omega) ⟨rfl, c_kindOf (Or.inl rfl) (w.tc _) w.2.1 w.2.2.1 w.2.2.2.1 ⟨_, rfl, ⟨fun c => absurd c (by decide), fun c => absurd c (by decide), fun c => absurd c (by decide), fun c => absurd c (by decide), fun c => absurd c (by decide), fun c => absurd c (by decide), fun c => absurd c (by decide), fun c => absurd c (by decide), fun c => absurd c (by decide), fun c => absurd c (by decide), fun c => absurd c (by decide), fun c => absurd c (by decide), fun c => absurd c (by decide), fun _ => ?_, fun c => absurd c (by decide), fun c => absurd c (by decide), trivial⟩⟩⟩, fun q => absurd (q_d16 (by omega)) q⟩
  rw [nI_1]
  exact a21 w (by omega) (by simp only [List.length_append, List.length_cons, List.length_nil]; omega) ⟨_, rfl, h⟩
theorem a24 (w : q_sh1 σ τ k c r) {dp : Nat} (hd : dp + 4 ≤ 16) (hl : l.length + 4 ≤ 16) (h : R (some (.int (2 * (nI k + c - 1000)))) (g_tc σ (l ++ [24] ++ [22] ++ [21] ++ [20]))) : g_wp E (d + 4 + 1) 3 [.ref 66, .ref 15, .int (nI k), .int 24, .int (nI dp)] (g_tc σ l) R := by
  refine t3_0 (Or.inl rfl) ⟨fun _ => c_note (by omega) ⟨rfl, c_kindOf (Or.inl rfl) (w.tc _) w.2.1 w.2.2.1 w.2.2.2.1 ⟨_, rfl, ⟨fun c => absurd c (by decide), fun c => absurd c (by decide), fun c => absurd c (by decide), fun c => absurd c (by decide), fun c => absurd c (by decide), fun c => absurd c (by decide), fun c => absurd c (by decide), fun c => absurd c (by decide), fun c => absurd c (by decide), fun c => absurd c (by decide), fun c => absurd c (by decide), fun c => absurd c (by decide), fun c => absurd c (by decide), fun c => absurd c (by decide), fun c => absurd c (by decide), fun _ => ?_, trivial⟩⟩⟩, fun q => absurd (q_d16 (by omega)) q⟩
  rw [nI_1]
  exact a22 w (by omega) (by simp only [List.length_append, List.length_cons, List.length_nil]; omega) ⟨_, rfl, h⟩
theorem a13 (w : q_sh1 σ τ k c r) {dp : Nat} (hd : dp + 2 ≤ 16) (hl : l.length + 2 ≤ 16) (h : R (some (.int (r - 100))) (g_tc σ (l ++ [13] ++ [10]))) : g_wp E (d + 2 + 1) 3 [.ref 66, .ref 15, .int (nI k), .int 13, .int (nI dp)] (g_tc σ l) R := by
  refine t3_0 (Or.inl rfl) ⟨fun _ => c_note (by omega) ⟨rfl, c_kindOf (Or.inl rfl) (w.tc _) w.2.1 w.2.2.1 w.2.2.2.1 ⟨_, rfl, ⟨fun c => absurd c (by decide), fun c => absurd c (by decide), fun c => absurd c (by decide), fun c => absurd c (by decide), fun _ => ?_, fun c => absurd c (by decide), fun c => absurd c (by decide), fun c => absurd c (by decide), fun c => absurd c (by decide), fun c => absurd c (by decide), fun c => absurd c (by decide), fun c => absurd c (by decide), fun c => absurd c (by decide), fun c => absurd c (by decide), fun c => absurd c (by decide), fun c => absurd c (by decide), trivial⟩⟩⟩, fun q => absurd (q_d16 (by omega)) q⟩
  rw [nI_1]
  exact a10 w (by omega) (by simp only [List.length_append, List.length_cons, List.length_nil]; omega) ⟨_, rfl, h⟩
theorem a14 (w : q_sh1 σ τ k c r) {dp : Nat} (hd : dp + 3 ≤ 16) (hl : l.length + 3 ≤ 16) (h : R (some (.int (2 * (r - 100)))) (g_tc σ (l ++ [14] ++ [13] ++ [10]))) : g_wp E (d + 3 + 1) 3 [.ref 66, .ref 15, .int (nI k), .int 14, .int (nI dp)] (g_tc σ l) R := by
  refine t3_0 (Or.inl rfl) ⟨fun _ => c_note (by omega) ⟨rfl, c_kindOf (Or.inl rfl) (w.tc _) w.2.1 w.2.2.1 w.2.2.2.1 ⟨_, rfl, ⟨fun c => absurd c (by decide), fun c => absurd c (by decide), fun c => absurd c (by decide), fun c => absurd c (by decide), fun c => absurd c (by decide), fun _ => ?_, fun c => absurd c (by decide), fun c => absurd c (by decide), fun c => absurd c (by decide), fun c => absurd c (by decide), fun c => absurd c (by decide), fun c => absurd c (by decide), fun c => absurd c (by decide), fun c => absurd c (by decide), fun c => absurd c (by decide), fun c => absurd c (by decide), trivial⟩⟩⟩, fun q => absurd (q_d16 (by omega)) q⟩
  rw [nI_1]
  exact a13 w (by omega) (by simp only [List.length_append, List.length_cons, List.length_nil]; omega) ⟨_, rfl, h⟩
theorem a11_1 (w : q_sh1 σ τ k c r) (e : τ (88 + 3 * k) = 1) {dp : Nat} (hd : dp + 5 ≤ 16) (hl : l.length + 4 ≤ 16) (h : R (some (.int (r + (nI k + c)))) (g_tc σ (l ++ [11] ++ [10] ++ [21] ++ [20]))) : g_wp E (d + 5 + 1) 3 [.ref 66, .ref 15, .int (nI k), .int 11, .int (nI dp)] (g_tc σ l) R := by
  refine t3_0 (Or.inl rfl) ⟨fun _ => c_note (by omega) ⟨rfl, c_kindOf (Or.inl rfl) (w.tc _) w.2.1 w.2.2.1 w.2.2.2.1 ⟨_, rfl, ⟨fun c => absurd c (by decide), fun c => absurd c (by decide), fun _ => ?_, fun c => absurd c (by decide), fun c => absurd c (by decide), fun c => absurd c (by decide), fun c => absurd c (by decide), fun c => absurd c (by decide), fun c => absurd c (by decide), fun c => absurd c (by decide), fun c => absurd c (by decide), fun c => absurd c (by decide), fun c => absurd c (by decide), fun c => absurd c (by decide), fun c => absurd c (by decide), fun c => absurd c (by decide), trivial⟩⟩⟩, fun q => absurd (q_d16 (by omega)) q⟩
  rw [nI_1, e]
  exact a10 w (by omega) (by simp only [List.length_append, List.length_cons, List.length_nil]; omega) ⟨_, rfl, vp_in_nI (n := 1) (by omega) (by omega), a21 w (by omega) (by simp only [List.length_append, List.length_cons, List.length_nil]; omega) ⟨_, rfl, h⟩⟩
theorem a11_2 (w : q_sh1 σ τ k c r) (e : τ (88 + 3 * k) = 2) {dp : Nat} (hd : dp + 5 ≤ 16) (hl : l.length + 5 ≤ 16) (h : R (some (.int (r + (nI k + c - 1000)))) (g_tc σ (l ++ [11] ++ [10] ++ [22] ++ [21] ++ [20]))) : g_wp E (d + 5 + 1) 3 [.ref 66, .ref 15, .int (nI k), .int 11, .int (nI dp)] (g_tc σ l) R := by
  refine t3_0 (Or.inl rfl) ⟨fun _ => c_note (by omega) ⟨rfl, c_kindOf (Or.inl rfl) (w.tc _) w.2.1 w.2.2.1 w.2.2.2.1 ⟨_, rfl, ⟨fun c => absurd c (by decide), fun c => absurd c (by decide), fun _ => ?_, fun c => absurd c (by decide), fun c => absurd c (by decide), fun c => absurd c (by decide), fun c => absurd c (by decide), fun c => absurd c (by decide), fun c => absurd c (by decide), fun c => absurd c (by decide), fun c => absurd c (by decide), fun c => absurd c (by decide), fun c => absurd c (by decide), fun c => absurd c (by decide), fun c => absurd c (by decide), fun c => absurd c (by decide), trivial⟩⟩⟩, fun q => absurd (q_d16 (by omega)) q⟩
  rw [nI_1, e]
  exact a10 w (by omega) (by simp only [List.length_append, List.length_cons, List.length_nil]; omega) ⟨_, rfl, vp_in_nI (n := 2) (by omega) (by omega), a22 w (by omega) (by simp only [List.length_append, List.length_cons, List.length_nil]; omega) ⟨_, rfl, h⟩⟩
theorem a11_3 (w : q_sh1 σ τ k c r) (e : τ (88 + 3 * k) = 3) {dp : Nat} (hd : dp + 5 ≤ 16) (hl : l.length + 6 ≤ 16) (h : R (some (.int (r + (2 * (nI k + c - 1000))))) (g_tc σ (l ++ [11] ++ [10] ++ [24] ++ [22] ++ [21] ++ [20]))) : g_wp E (d + 5 + 1) 3 [.ref 66, .ref 15, .int (nI k), .int 11, .int (nI dp)] (g_tc σ l) R := by
  refine t3_0 (Or.inl rfl) ⟨fun _ => c_note (by omega) ⟨rfl, c_kindOf (Or.inl rfl) (w.tc _) w.2.1 w.2.2.1 w.2.2.2.1 ⟨_, rfl, ⟨fun c => absurd c (by decide), fun c => absurd c (by decide), fun _ => ?_, fun c => absurd c (by decide), fun c => absurd c (by decide), fun c => absurd c (by decide), fun c => absurd c (by decide), fun c => absurd c (by decide), fun c => absurd c (by decide), fun c => absurd c (by decide), fun c => absurd c (by decide), fun c => absurd c (by decide), fun c => absurd c (by decide), fun c => absurd c (by decide), fun c => absurd c (by decide), fun c => absurd c (by decide), trivial⟩⟩⟩, fun q => absurd (q_d16 (by omega)) q⟩
  rw [nI_1, e]
  exact a10 w (by omega) (by simp only [List.length_append, List.length_cons, List.length_nil]; omega) ⟨_, rfl, vp_in_nI (n := 3) (by omega) (by omega), a24 w (by omega) (by simp only [List.length_append, List.length_cons, List.length_nil]; omega) ⟨_, rfl, h⟩⟩
theorem a12 (w : q_sh1 σ τ k c r) (e : τ (88 + 3 * k) = 3) {dp : Nat} (hd : dp + 6 ≤ 16) (hl : l.length + 7 ≤ 16) (h : R (some (.int (-(r + 2 * (nI k + c - 1000))))) (g_tc σ (l ++ [12] ++ [11] ++ [10] ++ [24] ++ [22] ++ [21] ++ [20]))) : g_wp E (d + 6 + 1) 3 [.ref 66, .ref 15, .int (nI k), .int 12, .int (nI dp)] (g_tc σ l) R := by
  refine t3_0 (Or.inl rfl) ⟨fun _ => c_note (by omega) ⟨rfl, c_kindOf (Or.inl rfl) (w.tc _) w.2.1 w.2.2.1 w.2.2.2.1 ⟨_, rfl, ⟨fun c => absurd c (by decide), fun c => absurd c (by decide), fun c => absurd c (by decide), fun _ => ?_, fun c => absurd c (by decide), fun c => absurd c (by decide), fun c => absurd c (by decide), fun c => absurd c (by decide), fun c => absurd c (by decide), fun c => absurd c (by decide), fun c => absurd c (by decide), fun c => absurd c (by decide), fun c => absurd c (by decide), fun c => absurd c (by decide), fun c => absurd c (by decide), fun c => absurd c (by decide), trivial⟩⟩⟩, fun q => absurd (q_d16 (by omega)) q⟩
  rw [nI_1]
  exact a11_3 w e (by omega) (by simp only [List.length_append, List.length_cons, List.length_nil]; omega) ⟨_, rfl, h⟩
theorem a23_4 (w : q_sh1 σ τ k c r) (e : τ (88 + 3 * k) = 4) {dp : Nat} (hd : dp + 5 ≤ 16) (hl : l.length + 4 ≤ 16) (h : R (some (.int (nI k - (r - 100)))) (g_tc σ (l ++ [23] ++ [20] ++ [13] ++ [10]))) : g_wp E (d + 5 + 1) 3 [.ref 66, .ref 15, .int (nI k), .int 23, .int (nI dp)] (g_tc σ l) R := by
  refine t3_0 (Or.inl rfl) ⟨fun _ => c_note (by omega) ⟨rfl, c_kindOf (Or.inl rfl) (w.tc _) w.2.1 w.2.2.1 w.2.2.2.1 ⟨_, rfl, ⟨fun c => absurd c (by decide), fun c => absurd c (by decide), fun c => absurd c (by decide), fun c => absurd c (by decide), fun c => absurd c (by decide), fun c => absurd c (by decide), fun c => absurd c (by decide), fun c => absurd c (by decide), fun c => absurd c (by decide), fun c => absurd c (by decide), fun c => absurd c (by decide), fun c => absurd c (by decide), fun c => absurd c (by decide), fun c => absurd c (by decide), fun _ => ?_, fun c => absurd c (by decide), trivial⟩⟩⟩, fun q => absurd (q_d16 (by omega)) q⟩
  rw [nI_1, e]
  exact a20 w (by omega) (by simp only [List.length_append, List.length_cons, List.length_nil]; omega) ⟨_, rfl, vp_in_nI (n := 4) (by omega) (by omega), a13 w (by omega) (by simp only [List.length_append, List.length_cons, List.length_nil]; omega) ⟨_, rfl, h⟩⟩
theorem a23_5 (w : q_sh1 σ τ k c r) (e : τ (88 + 3 * k) = 5) {dp : Nat} (hd : dp + 5 ≤ 16) (hl : l.length + 5 ≤ 16) (h : R (some (.int (nI k - (2 * (r - 100))))) (g_tc σ (l ++ [23] ++ [20] ++ [14] ++ [13] ++ [10]))) : g_wp E (d + 5 + 1) 3 [.ref 66, .ref 15, .int (nI k), .int 23, .int (nI dp)] (g_tc σ l) R := by
  refine t3_0 (Or.inl rfl) ⟨fun _ => c_note (by omega) ⟨rfl, c_kindOf (Or.inl rfl) (w.tc _) w.2.1 w.2.2.1 w.2.2.2.1 ⟨_, rfl, ⟨fun c => absurd c (by decide), fun c => absurd c (by decide), fun c => absurd c (by decide), fun c => absurd c (by decide), fun c => absurd c (by decide), fun c => absurd c (by decide), fun c => absurd c (by decide), fun c => absurd c (by decide), fun c => absurd c (by decide), fun c => absurd c (by decide), fun c => absurd c (by decide), fun c => absurd c (by decide), fun c => absurd c (by decide), fun c => absurd c (by decide), fun _ => ?_, fun c => absurd c (by decide), trivial⟩⟩⟩, fun q => absurd (q_d16 (by omega)) q⟩
  rw [nI_1, e]
  exact a20 w (by omega) (by simp only [List.length_append, List.length_cons, List.length_nil]; omega) ⟨_, rfl, vp_in_nI (n := 5) (by omega) (by omega), a14 w (by omega) (by simp only [List.length_append, List.length_cons, List.length_nil]; omega) ⟨_, rfl, h⟩⟩
end Q72
section Q72m
variable {E : g_E} {d : Nat} {R : g_R} {σ : g_S} {k : Nat} {c r : Int32} {l : List Int32}
theorem m_cellOf {k : Nat} (hk : k < 8) (h : R (some (.int (σ 72 (89 + 3 * k)))) σ) : g_wp E (d + 1) 153 [.ref 68, .int (nI k)] σ R := by
  have e : (88 : Int32) + (3 : Int32) * nI k + 1 = nI (89 + 3 * k) := by
    rw [show (88 : Int32) = nI 88 from rfl, show (3 : Int32) = nI 3 from rfl, pk_mul, nI_add, nI_1, show 88 + 3 * k + 1 = 89 + 3 * k by omega]
  refine t153_0 ?_
  rw [e, q_cl (by omega)]
  exact ⟨vp_in_nI (by omega) (by omega), h⟩
theorem g_tm72 {j : Nat} : g_tm σ l 72 j = σ 72 j := congrFun (g_tn_ne (by omega) (by omega)) j
theorem m_plain (hk : k < 8) (er : σ 72 (90 + 3 * k) = r) (hl : l.length + 1 ≤ 16) (h : R (some (.int r)) (g_tm σ (l ++ [10]))) : g_wp E (d + 2) 178 [.ref 68, .int (nI k)] (g_tm σ l) R := by
  have e : (88 : Int32) + (3 : Int32) * nI k + 2 = nI (90 + 3 * k) := by
    rw [show (88 : Int32) = nI 88 from rfl, show (3 : Int32) = nI 3 from rfl, show (2 : Int32) = nI 2 from rfl, pk_mul, nI_add, nI_add, show 88 + 3 * k + 2 = 90 + 3 * k by omega]
  refine t178_0 (m_note (by omega) ⟨rfl, ?_⟩)
  dsimp only
  rw [e, q_cl (by omega), g_tm72, er]
  exact ⟨vp_in_nI (by omega) (by omega), h⟩
theorem m_kind {i : Int32} (hk : k < 8) (e : σ 72 (88 + 3 * k) = i) (h : R (some (.int i)) (g_tm σ l)) : g_wp E (d + 1) 152 [.ref 68, .int (nI k)] (g_tm σ l) R :=
  m_kind0 hk (by rw [g_tm72, e]; exact h)
theorem m_sunny4 (hk : k < 8) (er : σ 72 (90 + 3 * k) = r) (e : σ 72 (88 + 3 * k) = 4) (hl : l.length + 2 ≤ 16) (h : R (some (.int (r - 100))) (g_tm σ (l ++ [13] ++ [10]))) : g_wp E (d + 3) 179 [.ref 68, .int (nI k)] (g_tm σ l) R :=
  t179_0 (m_kind hk e ⟨_, rfl, fun _ => t179_15 (m_note (by omega) ⟨rfl, m_plain hk er (by simp only [List.length_append, List.length_cons, List.length_nil]; omega) ⟨_, rfl, m_kind hk e ⟨_, rfl, fun _ => h, fun q => absurd (by decide) q⟩⟩⟩), fun q => absurd (by decide) q⟩)
theorem m_sunny5 (hk : k < 8) (er : σ 72 (90 + 3 * k) = r) (e : σ 72 (88 + 3 * k) = 5) (hl : l.length + 3 ≤ 16) (h : R (some (.int (2 * (r - 100)))) (g_tm σ (l ++ [14] ++ [13] ++ [10]))) : g_wp E (d + 3) 179 [.ref 68, .int (nI k)] (g_tm σ l) R :=
  t179_0 (m_kind hk e ⟨_, rfl, fun q => absurd rfl q, fun _ => m_note (by omega) ⟨rfl, t179_15 (m_note (by simp only [List.length_append, List.length_cons, List.length_nil]; omega) ⟨rfl, m_plain hk er (by simp only [List.length_append, List.length_cons, List.length_nil]; omega) ⟨_, rfl, m_kind hk e ⟨_, rfl, fun q => absurd rfl q, fun _ => h⟩⟩⟩)⟩⟩)
theorem m_mark1 (hk : k < 8) (ec : σ 72 (89 + 3 * k) = c) (e : σ 72 (88 + 3 * k) = 1) (hl : l.length + 2 ≤ 16) (h : R (some (.int (nI k + c))) (g_tm σ (l ++ [21] ++ [20]))) : g_wp E (d + 3) 180 [.ref 68, .int (nI k)] (g_tm σ l) R :=
  t180_0 (m_kind hk e ⟨_, rfl, fun _ => ⟨fun _ => ⟨fun _ => t180_53 (m_note (by omega) ⟨rfl, m_note (by simp only [List.length_append, List.length_cons, List.length_nil]; omega) ⟨rfl, m_cellOf hk ⟨_, rfl, by
    rw [g_tm72, ec]
    exact ⟨fun q => absurd rfl q, fun _ => ⟨fun _ => by rw [Int32.sub_zero]; exact h, fun q => absurd (by decide) q⟩⟩⟩⟩⟩), fun q => absurd rfl q⟩, fun q => absurd (by decide) q⟩, fun q => absurd (by decide) q⟩)
theorem m_mark2 (hk : k < 8) (ec : σ 72 (89 + 3 * k) = c) (e : σ 72 (88 + 3 * k) = 2) (hl : l.length + 3 ≤ 16) (h : R (some (.int (nI k + c - 1000))) (g_tm σ (l ++ [22] ++ [21] ++ [20]))) : g_wp E (d + 3) 180 [.ref 68, .int (nI k)] (g_tm σ l) R :=
  t180_0 (m_kind hk e ⟨_, rfl, fun _ => ⟨fun _ => ⟨fun q => absurd q (by decide), fun _ => m_note (by omega) ⟨rfl, t180_53 (m_note (by simp only [List.length_append, List.length_cons, List.length_nil]; omega) ⟨rfl, m_note (by simp only [List.length_append, List.length_cons, List.length_nil]; omega) ⟨rfl, m_cellOf hk ⟨_, rfl, by
    rw [g_tm72, ec]
    exact ⟨fun _ => ⟨fun _ => h, fun q => absurd (by decide) q⟩, fun q => absurd (by decide) q⟩⟩⟩⟩)⟩⟩, fun q => absurd (by decide) q⟩, fun q => absurd (by decide) q⟩)
theorem m_mark3 (hk : k < 8) (ec : σ 72 (89 + 3 * k) = c) (e : σ 72 (88 + 3 * k) = 3) (hl : l.length + 4 ≤ 16) (h : R (some (.int (2 * (nI k + c - 1000)))) (g_tm σ (l ++ [24] ++ [22] ++ [21] ++ [20]))) : g_wp E (d + 3) 180 [.ref 68, .int (nI k)] (g_tm σ l) R :=
  t180_0 (m_kind hk e ⟨_, rfl, fun _ => ⟨fun q => absurd rfl q, fun _ => m_note (by omega) ⟨rfl, fun q => absurd q (by decide), fun _ => m_note (by simp only [List.length_append, List.length_cons, List.length_nil]; omega) ⟨rfl, t180_53 (m_note (by simp only [List.length_append, List.length_cons, List.length_nil]; omega) ⟨rfl, m_note (by simp only [List.length_append, List.length_cons, List.length_nil]; omega) ⟨rfl, m_cellOf hk ⟨_, rfl, by
    rw [g_tm72, ec]
    exact ⟨fun _ => ⟨fun q => absurd rfl q, fun _ => h⟩, fun q => absurd (by decide) q⟩⟩⟩⟩)⟩⟩⟩, fun q => absurd (by decide) q⟩)
theorem m_mark4 (hk : k < 8) (er : σ 72 (90 + 3 * k) = r) (e : σ 72 (88 + 3 * k) = 4) (hl : l.length + 4 ≤ 16) (h : R (some (.int (nI k - (r - 100)))) (g_tm σ (l ++ [23] ++ [20] ++ [13] ++ [10]))) : g_wp E (d + 4) 180 [.ref 68, .int (nI k)] (g_tm σ l) R :=
  t180_0 (m_kind hk e ⟨_, rfl, fun q => absurd q (by decide), fun _ => m_note (by omega) ⟨rfl, m_note (by simp only [List.length_append, List.length_cons, List.length_nil]; omega) ⟨rfl, m_sunny4 hk er e (by simp only [List.length_append, List.length_cons, List.length_nil]; omega) ⟨_, rfl, h⟩⟩⟩⟩)
theorem m_mark5 (hk : k < 8) (er : σ 72 (90 + 3 * k) = r) (e : σ 72 (88 + 3 * k) = 5) (hl : l.length + 5 ≤ 16) (h : R (some (.int (nI k - 2 * (r - 100)))) (g_tm σ (l ++ [23] ++ [20] ++ [14] ++ [13] ++ [10]))) : g_wp E (d + 4) 180 [.ref 68, .int (nI k)] (g_tm σ l) R :=
  t180_0 (m_kind hk e ⟨_, rfl, fun q => absurd q (by decide), fun _ => m_note (by omega) ⟨rfl, m_note (by simp only [List.length_append, List.length_cons, List.length_nil]; omega) ⟨rfl, m_sunny5 hk er e (by simp only [List.length_append, List.length_cons, List.length_nil]; omega) ⟨_, rfl, h⟩⟩⟩⟩)
theorem m_size1 (hk : k < 8) (ec : σ 72 (89 + 3 * k) = c) (er : σ 72 (90 + 3 * k) = r) (e : σ 72 (88 + 3 * k) = 1) (hl : l.length + 4 ≤ 16) (h : R (some (.int (r + (nI k + c)))) (g_tm σ (l ++ [11] ++ [10] ++ [21] ++ [20]))) : g_wp E (d + 4) 181 [.ref 68, .int (nI k)] (g_tm σ l) R :=
  t181_0 (m_kind hk e ⟨_, rfl, fun _ => ⟨fun _ => t181_28 (m_note (by omega) ⟨rfl, m_plain hk er (by simp only [List.length_append, List.length_cons, List.length_nil]; omega) ⟨_, rfl, m_mark1 hk ec e (by simp only [List.length_append, List.length_cons, List.length_nil]; omega) ⟨_, rfl, fun _ => h, fun q => absurd (by decide) q⟩⟩⟩), fun q => absurd (by decide) q⟩, fun q => absurd (by decide) q⟩)
theorem m_size2 (hk : k < 8) (ec : σ 72 (89 + 3 * k) = c) (er : σ 72 (90 + 3 * k) = r) (e : σ 72 (88 + 3 * k) = 2) (hl : l.length + 5 ≤ 16) (h : R (some (.int (r + (nI k + c - 1000)))) (g_tm σ (l ++ [11] ++ [10] ++ [22] ++ [21] ++ [20]))) : g_wp E (d + 4) 181 [.ref 68, .int (nI k)] (g_tm σ l) R :=
  t181_0 (m_kind hk e ⟨_, rfl, fun _ => ⟨fun _ => t181_28 (m_note (by omega) ⟨rfl, m_plain hk er (by simp only [List.length_append, List.length_cons, List.length_nil]; omega) ⟨_, rfl, m_mark2 hk ec e (by simp only [List.length_append, List.length_cons, List.length_nil]; omega) ⟨_, rfl, fun _ => h, fun q => absurd (by decide) q⟩⟩⟩), fun q => absurd (by decide) q⟩, fun q => absurd (by decide) q⟩)
theorem m_size3 (hk : k < 8) (ec : σ 72 (89 + 3 * k) = c) (er : σ 72 (90 + 3 * k) = r) (e : σ 72 (88 + 3 * k) = 3) (hl : l.length + 7 ≤ 16) (h : R (some (.int (-(r + 2 * (nI k + c - 1000))))) (g_tm σ (l ++ [12] ++ [11] ++ [10] ++ [24] ++ [22] ++ [21] ++ [20]))) : g_wp E (d + 4) 181 [.ref 68, .int (nI k)] (g_tm σ l) R :=
  t181_0 (m_kind hk e ⟨_, rfl, fun _ => ⟨fun q => absurd rfl q, fun _ => m_note (by omega) ⟨rfl, t181_28 (m_note (by simp only [List.length_append, List.length_cons, List.length_nil]; omega) ⟨rfl, m_plain hk er (by simp only [List.length_append, List.length_cons, List.length_nil]; omega) ⟨_, rfl, m_mark3 hk ec e (by simp only [List.length_append, List.length_cons, List.length_nil]; omega) ⟨_, rfl, fun q => absurd rfl q, fun _ => h⟩⟩⟩)⟩⟩, fun q => absurd (by decide) q⟩)
theorem m_size4 (hk : k < 8) (er : σ 72 (90 + 3 * k) = r) (e : σ 72 (88 + 3 * k) = 4) (hl : l.length + 2 ≤ 16) (h : R (some (.int (r - 100))) (g_tm σ (l ++ [13] ++ [10]))) : g_wp E (d + 4) 181 [.ref 68, .int (nI k)] (g_tm σ l) R :=
  t181_0 (m_kind hk e ⟨_, rfl, fun q => absurd q (by decide), fun _ => m_sunny4 hk er e hl ⟨_, rfl, h⟩⟩)
theorem m_size5 (hk : k < 8) (er : σ 72 (90 + 3 * k) = r) (e : σ 72 (88 + 3 * k) = 5) (hl : l.length + 3 ≤ 16) (h : R (some (.int (2 * (r - 100)))) (g_tm σ (l ++ [14] ++ [13] ++ [10]))) : g_wp E (d + 4) 181 [.ref 68, .int (nI k)] (g_tm σ l) R :=
  t181_0 (m_kind hk e ⟨_, rfl, fun q => absurd q (by decide), fun _ => m_sunny5 hk er e hl ⟨_, rfl, h⟩⟩)
end Q72m
def q_askV (i k c r w : Int32) : Int32 := if w = 0 then if i = 1 then r + (k + c) else if i = 2 then r + (k + c - 1000) else if i = 3 then -(r + 2 * (k + c - 1000)) else if i = 4 then r - 100 else 2 * (r - 100) else if i = 1 then k + c else if i = 2 then k + c - 1000 else if i = 3 then 2 * (k + c - 1000) else if i = 4 then k - (r - 100) else k - 2 * (r - 100)
def q_askL (i w : Int32) : List Int32 := if w = 0 then if i = 1 then [11, 10, 21, 20] else if i = 2 then [11, 10, 22, 21, 20] else if i = 3 then [12, 11, 10, 24, 22, 21, 20] else if i = 4 then [13, 10] else [14, 13, 10] else if i = 1 then [21, 20] else if i = 2 then [22, 21, 20] else if i = 3 then [24, 22, 21, 20] else if i = 4 then [23, 20, 13, 10] else [23, 20, 14, 13, 10]
theorem q_askL_n {i w : Int32} : (q_askL i w).length ≤ 16 := by
  unfold q_askL
  repeat' split
  all_goals exact (by decide)
section Q72p
variable {E : g_E} {d : Nat} {R : g_R} {σ : g_S} {k : Nat} {c r : Int32} {τ : Nat → Int32}
theorem c_answer {i w : Nat} (h1 : q_sh1 σ τ k c r) (hi : 1 ≤ i ∧ i ≤ 5) (ei : τ (88 + 3 * k) = nI i) (hw : w < 2) (h : R (some (.int (q_askV (nI i) (nI k) c r (nI w)))) (g_tc σ (q_askL (nI i) (nI w)))) : g_wp E 19 2 [.ref 66, .ref 15, .int (nI k), .int (nI w)] σ R := by
  refine t2_0 (Or.inl rfl) (fun s es => ?_)
  rw [g_tn_0 (t := 67)] at es
  subst es
  refine c_kindOf (Or.inl rfl) (h1.tc _) h1.2.1 h1.2.2.1 h1.2.2.2.1 ⟨_, rfl, ?_⟩
  rw [ei]
  refine ⟨fun q => ⟨vp_in_nI (by omega) (by omega), ?_⟩, fun q => ⟨vp_in_nI (by omega) (by omega), ?_⟩⟩
  · have ew : w = 1 := by
      rcases (show w = 0 ∨ w = 1 by omega) with e | e
      · subst e; exact absurd rfl q
      · exact e
    subst ew
    rcases (show i = 1 ∨ i = 2 ∨ i = 3 ∨ i = 4 ∨ i = 5 by omega) with e | e | e | e | e <;> subst e
    · exact a21 (d := 15) (dp := 1) h1 (by omega) (by decide) ⟨_, rfl, h⟩
    · exact a22 (d := 14) (dp := 1) h1 (by omega) (by decide) ⟨_, rfl, h⟩
    · exact a24 (d := 13) (dp := 1) h1 (by omega) (by decide) ⟨_, rfl, h⟩
    · exact a23_4 (d := 12) (dp := 1) h1 ei (by omega) (by decide) ⟨_, rfl, h⟩
    · exact a23_5 (d := 12) (dp := 1) h1 ei (by omega) (by decide) ⟨_, rfl, h⟩
  · have ew : w = 0 := by
      rcases (show w = 0 ∨ w = 1 by omega) with e | e
      · exact e
      · subst e; exact absurd (fun z => absurd z (by decide)) q
    subst ew
    rcases (show i = 1 ∨ i = 2 ∨ i = 3 ∨ i = 4 ∨ i = 5 by omega) with e | e | e | e | e <;> subst e
    · exact a11_1 (d := 12) (dp := 1) h1 ei (by omega) (by decide) ⟨_, rfl, h⟩
    · exact a11_2 (d := 12) (dp := 1) h1 ei (by omega) (by decide) ⟨_, rfl, h⟩
    · exact a12 (d := 11) (dp := 1) h1 ei (by omega) (by decide) ⟨_, rfl, h⟩
    · exact a13 (d := 15) (dp := 1) h1 (by omega) (by decide) ⟨_, rfl, h⟩
    · exact a14 (d := 14) (dp := 1) h1 (by omega) (by decide) ⟨_, rfl, h⟩
theorem m_answer {i : Nat} (hk : k < 8) (hi : 1 ≤ i ∧ i ≤ 5) (ei : σ 72 (88 + 3 * k) = nI i) (ec : σ 72 (89 + 3 * k) = c) (er : σ 72 (90 + 3 * k) = r) : (R (some (.int (q_askV (nI i) (nI k) c r 1))) (g_tm σ (q_askL (nI i) 1)) → g_wp E 19 180 [.ref 68, .int (nI k)] (g_tm σ []) R) ∧ (R (some (.int (q_askV (nI i) (nI k) c r 0))) (g_tm σ (q_askL (nI i) 0)) → g_wp E 19 181 [.ref 68, .int (nI k)] (g_tm σ []) R) := by
  rcases (show i = 1 ∨ i = 2 ∨ i = 3 ∨ i = 4 ∨ i = 5 by omega) with e | e | e | e | e <;> subst e
  · exact ⟨fun h => m_mark1 (d := 16) hk ec ei (by decide) h, fun h => m_size1 (d := 15) hk ec er ei (by decide) h⟩
  · exact ⟨fun h => m_mark2 (d := 16) hk ec ei (by decide) h, fun h => m_size2 (d := 15) hk ec er ei (by decide) h⟩
  · exact ⟨fun h => m_mark3 (d := 16) hk ec ei (by decide) h, fun h => m_size3 (d := 15) hk ec er ei (by decide) h⟩
  · exact ⟨fun h => m_mark4 (d := 15) hk er ei (by decide) h, fun h => m_size4 (d := 15) hk er ei (by decide) h⟩
  · exact ⟨fun h => m_mark5 (d := 15) hk er ei (by decide) h, fun h => m_size5 (d := 15) hk er ei (by decide) h⟩
end Q72p
theorem p_ask {E : g_E} (x1 x2 : Int32) : g_pr E 95 182 [.int x1, .int x2] := by
  refine ⟨fun μ => if x1.toInt < 0 ∨ (μ 72 6).toInt ≤ x1.toInt ∨ x2.toInt < 0 ∨ 1 < x2.toInt then -1000001 else q_askV (μ 72 (88 + 3 * x1.toNatClampNeg)) x1 (μ 72 (89 + 3 * x1.toNatClampNeg)) (μ 72 (90 + 3 * x1.toNatClampNeg)) x2, fun μ => if x1.toInt < 0 ∨ (μ 72 6).toInt ≤ x1.toInt ∨ x2.toInt < 0 ∨ 1 < x2.toInt then μ else g_tm μ (q_askL (μ 72 (88 + 3 * x1.toNatClampNeg)) x2), fun σ μ R hc hw h => ?_, fun σ R hw h => ?_, fun μ h => ?_⟩
  · dsimp only at h
    have e8 := hc.tr.2.2.2.2.2.2.2.1
    obtain ⟨n, n1, n2, n3, n4⟩ := hw.wt.2.2.2.2.2.1
    have e6 : (μ 72 6).toInt = n := by rw [n2, nI_toInt (by omega)]
    refine t95_0 (c_hasShop (Or.inl rfl) (fun a1 a2 => ⟨_, rfl, q_1 ⟨fun c1 => ?_, fun c1 => ⟨fun c2 => ?_, fun c2 => ?_⟩⟩⟩) (fun a1 => ⟨_, rfl, q_0 ?_⟩))
    · simp only [q_lt, q_le, Int32.reduceToInt] at c1
      repeat (first | rw [if_pos (by omega)] at h | rw [if_neg (by omega)] at h)
      exact h σ hc (fun _ _ => rfl)
    · simp only [q_lt, q_le, Int32.reduceToInt] at c1 c2
      rw [e8] at a2
      repeat (first | rw [if_pos (by omega)] at h | rw [if_neg (by omega)] at h)
      obtain ⟨k, hk, rfl⟩ := q_ix (x := x1) (n := 8) (by omega) (by omega) (by omega)
      obtain ⟨w, hw2, rfl⟩ := q_ix (x := x2) (n := 2) (by omega) (by omega) (by omega)
      have hk' := q_lt.mpr a2
      have hkn : k < n := by rw [n2, q_lt8 hk n1] at hk'; exact hk'
      obtain ⟨⟨i, i1, i2, i3⟩, -, -⟩ := n3 k hkn
      rw [q_cl (by omega), i3] at h
      exact c_answer ⟨hc.tr, hw.wt, hk', hk, rfl, rfl⟩ ⟨i1, i2⟩ i3 hw2 ⟨_, rfl, h _ (hc.note _) (fun a ha => g_tn_ne (by omega) (by omega))⟩
    · simp only [q_lt, q_le, Int32.reduceToInt] at c1 c2
      repeat (first | rw [if_pos (by omega)] at h | rw [if_neg (by omega)] at h)
      exact h σ hc (fun _ _ => rfl)
    · rw [e8] at a1
      repeat (first | rw [if_pos (by omega)] at h | rw [if_neg (by omega)] at h)
      exact h σ hc (fun _ _ => rfl)
  · dsimp only at h
    obtain ⟨n, n1, n2, n3, n4⟩ := hw.wt.2.2.2.2.2.1
    have e6 : (mo σ 72 6).toInt = n := by rw [n2, nI_toInt (by omega)]
    refine t182_0 (fun s es => m_isShop ⟨n, n1, by rw [es]; exact n2⟩ (fun a1 a2 => ⟨_, rfl, q_1 (m_in 0 1 rfl rfl (fun a3 a4 => ⟨_, rfl, n_1 (fun s2 es2 => ?_)⟩) (fun a3 => ⟨_, rfl, n_0 ?_⟩))⟩) (fun a1 => ⟨_, rfl, q_0 ?_⟩))
    · subst es
      change x1.toInt < (mo σ 72 6).toInt at a2
      repeat (first | rw [if_pos (by omega)] at h | rw [if_neg (by omega)] at h)
      obtain ⟨k, hk, rfl⟩ := q_ix (x := x1) (n := 8) (by omega) (by omega) (by omega)
      obtain ⟨w, hw2, rfl⟩ := q_ix (x := x2) (n := 2) (by omega) (by omega) (by omega)
      have hk' := q_lt.mpr a2
      have hkn : k < n := by rw [n2, q_lt8 hk n1] at hk'; exact hk'
      obtain ⟨⟨i, i1, i2, i3⟩, -, -⟩ := n3 k hkn
      rw [q_cl (by omega), i3] at h
      rw [g_tn_0 (t := 83)] at es2
      subst es2
      have ans := m_answer (E := E) (R := R) (σ := g_up σ 68 0 0) (c := mo σ 72 (89 + 3 * k)) (r := mo σ 72 (90 + 3 * k)) hk ⟨i1, i2⟩ i3 rfl rfl
      have hh : ∀ l, CE (g_tm (g_up σ 68 0 0) l) (g_tm (mo σ) l) := fun l => (Sc.rf.up rfl).ce.tn
      have hlo : ∀ l, ∀ a, a < 68 → g_tm (g_up σ 68 0 0) l a = σ a := fun l a ha => (g_tn_ne (by omega) (by omega)).trans (g_up_ne (by omega))
      refine ⟨fun q => ?_, fun q => ?_⟩
      · have ew : w = 1 := by
          rcases (show w = 0 ∨ w = 1 by omega) with e | e
          · subst e; exact absurd rfl q
          · exact e
        subst ew
        have z := h _ (hlo _) (hh _)
        exact (m_answer (E := E) (σ := g_up σ 68 0 0) (c := mo σ 72 (89 + 3 * k)) (r := mo σ 72 (90 + 3 * k)) hk ⟨i1, i2⟩ i3 rfl rfl).1 ⟨_, rfl, z⟩
      · have ew : w = 0 := by
          rcases (show w = 0 ∨ w = 1 by omega) with e | e
          · exact e
          · subst e; exact absurd (fun z => absurd z (by decide)) q
        subst ew
        have z := h _ (hlo _) (hh _)
        exact (m_answer (E := E) (σ := g_up σ 68 0 0) (c := mo σ 72 (89 + 3 * k)) (r := mo σ 72 (90 + 3 * k)) hk ⟨i1, i2⟩ i3 rfl rfl).2 ⟨_, rfl, z⟩
    · subst es
      repeat (first | rw [if_pos (by omega)] at h | rw [if_neg (by omega)] at h)
      exact h _ (lo_up (fun _ _ => rfl) (by omega)) (Sc.rf.up rfl).ce
    · subst es
      change x1.toInt < 0 ∨ (mo σ 72 6).toInt ≤ x1.toInt at a1
      repeat (first | rw [if_pos (by omega)] at h | rw [if_neg (by omega)] at h)
      exact h _ (lo_up (fun _ _ => rfl) (by omega)) (Sc.rf.up rfl).ce
  · dsimp only
    split
    · exact h
    · exact h.note q_askL_n
