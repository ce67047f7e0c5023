/-! soonest: the reference's states, purely -/
def q_rs (τ : Nat → Int32) (W c t : Nat) : Nat → Nat → Nat → Prop
  | 0, x, S => x = c ∧ S = q_sa τ c &&& q_at τ t &&& W
  | n + 1, x, S => ∃ y S0, y < 81 ∧ q_rs τ W c t n y S0 ∧ q_ed τ y x ∧ S = S0 ||| (q_sa τ x &&& (q_at τ (t + n + 1) &&& W))
/-- the states go on: a way of m steps, and what was had stays -/
theorem q_rs_go {τ : Nat → Int32} {W c t n x S : Nat} (hx : x < 81) (h : q_rs τ W c t n x S) : ∀ {m x' : Nat}, q_rc τ x m x' → ∃ S', q_rs τ W c t (n + m) x' S' ∧ ∀ k, S.testBit k = true → S'.testBit k = true
  | 0, x', h' => by
    have e : x' = x := h'
    subst e
    exact ⟨S, h, fun _ z => z⟩
  | m + 1, x', h' => by
    obtain ⟨y, hy, r, e⟩ := h'
    obtain ⟨S0, s1, s2⟩ := q_rs_go hx h (m := m) r
    exact ⟨_, ⟨y, S0, hy, s1, e, rfl⟩, fun k z => by rw [Nat.testBit_or, s2 k z, Bool.true_or]⟩
/-- what is had where he stands -/
theorem q_rs_in {τ : Nat → Int32} {W c t x S k N : Nat} (e6 : τ 6 = nI N) (hN : N ≤ 8) (hk : k < N) (ec : τ (89 + 3 * k) = nI x) (hw : W.testBit k = true) : ∀ {n : Nat}, q_rs τ W c t n x S → (q_at τ (t + n)).testBit k = true → S.testBit k = true := by
  have sa : (q_sa τ x).testBit k = true := by
    unfold q_sa
    rw [q_bs_t, e6, q_cl (by omega), decide_eq_true hk, decide_eq_true ec]; rfl
  intro n
  cases n with
  | zero =>
    intro h o
    obtain ⟨h1, h2⟩ := h
    subst h1
    rw [h2, Nat.testBit_and, Nat.testBit_and, sa, hw]
    rw [show t + 0 = t from rfl] at o
    rw [o]; rfl
  | succ n =>
    intro h o
    obtain ⟨y, S0, hy, s1, e, s2⟩ := h
    rw [s2, Nat.testBit_or, Nat.testBit_and, Nat.testBit_and, sa, hw]
    rw [show t + (n + 1) = t + n + 1 from rfl] at o
    rw [o, Bool.and_true, Bool.and_true, Bool.or_true]
