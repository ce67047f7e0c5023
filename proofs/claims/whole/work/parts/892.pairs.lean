/-! soonest: ways back -/
def q_geo (c w : Nat) : Option Nat := if 0 ≤ (q_nx c w).toInt ∧ (q_nx c w).toInt ≤ 8 ∧ 0 ≤ (q_ny c w).toInt ∧ (q_ny c w).toInt ≤ 8 then some ((q_nx c w).toNatClampNeg + 9 * (q_ny c w).toNatClampNeg) else none
theorem q_nbr_geo {τ : Nat → Int32} {c w c' : Nat} : q_nbr τ c w = some c' ↔ q_geo c w = some c' ∧ τ (7 + c') = 0 := by
  unfold q_nbr q_geo
  by_cases q : 0 ≤ (q_nx c w).toInt ∧ (q_nx c w).toInt ≤ 8 ∧ 0 ≤ (q_ny c w).toInt ∧ (q_ny c w).toInt ≤ 8
  · rw [if_pos q, if_pos q]
    by_cases z : τ (7 + ((q_nx c w).toNatClampNeg + 9 * (q_ny c w).toNatClampNeg)) = 0
    · rw [if_pos z]
      constructor
      · intro h
        cases h
        exact ⟨rfl, z⟩
      · exact fun h => h.1
    · rw [if_neg z]
      constructor
      · intro h
        cases h
      · rintro ⟨h, k⟩
        cases h
        exact absurd k z
  · rw [if_neg q, if_neg q]
    constructor
    · intro h
      cases h
    · rintro ⟨h, -⟩
      cases h
set_option maxRecDepth 20000 in
theorem q_geo_b : ∀ c, c < 81 → ∀ w, w < 5 → ((q_geo c w).all (fun c' => decide (q_geo c' ((w + 2) % 4) = some c) || decide (w = 4) && decide (c' = c))) = true := by decide
theorem q_ed_b {τ : Nat → Int32} {c c' : Nat} (hc : c < 81) (w0 : τ (7 + c) = 0) (h : q_ed τ c c') : q_ed τ c' c := by
  obtain ⟨w, hw, e⟩ := h
  have e2 := q_nbr_geo.mp e
  have b := q_geo_b c hc w hw
  rw [e2.1] at b
  rw [Option.all_some, Bool.or_eq_true, Bool.and_eq_true, decide_eq_true_eq, decide_eq_true_eq, decide_eq_true_eq] at b
  rcases b with b | ⟨b1, b2⟩
  · exact ⟨(w + 2) % 4, by omega, q_nbr_geo.mpr ⟨b, w0⟩⟩
  · subst b2
    exact ⟨w, hw, e⟩
