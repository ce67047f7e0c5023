/-! thief: the reference's sum -/
def q_acc (τ : Nat → Int32) (a s b t N u c S : Nat) : Prop := ∀ k, S.testBit k = q_pd (k < N ∧ ∃ v x, (v < u ∨ (v = u ∧ x < c)) ∧ s ≤ v ∧ v ≤ t ∧ x < 81 ∧ q_rc τ a (v - s) x ∧ q_rc τ b (t - v) x ∧ τ (89 + 3 * k) = nI x ∧ (q_at τ v).testBit k = true)
theorem q_acc.no {τ : Nat → Int32} {a s b t N u c S : Nat} (h : q_acc τ a s b t N u c S) (n : ¬ (q_rc τ a (u - s) c ∧ q_rc τ b (t - u) c)) : q_acc τ a s b t N u (c + 1) S := fun k => by
  rw [h k]
  exact q_pd_c ⟨fun ⟨p0, v, x, p1, p2, p3, p4, p5, p6, p7, p8⟩ => ⟨p0, v, x, by omega, p2, p3, p4, p5, p6, p7, p8⟩, fun ⟨p0, v, x, p1, p2, p3, p4, p5, p6, p7, p8⟩ => ⟨p0, v, x, by
    by_cases z : v = u ∧ x = c
    · obtain ⟨z1, z2⟩ := z
      subst z1; subst z2
      exact absurd ⟨p5, p6⟩ n
    · omega, p2, p3, p4, p5, p6, p7, p8⟩⟩
theorem q_acc.row {τ : Nat → Int32} {a s b t N u S : Nat} (h : q_acc τ a s b t N u 81 S) : q_acc τ a s b t N (u + 1) 0 S := fun k => by
  rw [h k]
  exact q_pd_c ⟨fun ⟨p0, v, x, p1, p2, p3, p4, p5, p6, p7, p8⟩ => ⟨p0, v, x, by omega, p2, p3, p4, p5, p6, p7, p8⟩, fun ⟨p0, v, x, p1, p2, p3, p4, p5, p6, p7, p8⟩ => ⟨p0, v, x, by omega, p2, p3, p4, p5, p6, p7, p8⟩⟩
theorem q_acc.yes {τ : Nat → Int32} {a s b t N u c S : Nat} (h : q_acc τ a s b t N u c S) (e6 : τ 6 = nI N) (hN : N ≤ 8) (hs : s ≤ u ∧ u ≤ t) (hc : c < 81) (y : q_rc τ a (u - s) c ∧ q_rc τ b (t - u) c) : q_acc τ a s b t N u (c + 1) (S ||| (q_sa τ c &&& q_at τ u)) := fun k => by
  rw [Nat.testBit_or, Nat.testBit_and, h k]
  unfold q_sa
  rw [q_bs_t, e6, q_cl (by omega)]
  by_cases z : k < N ∧ τ (89 + 3 * k) = nI c ∧ (q_at τ u).testBit k = true
  · obtain ⟨z1, z2, z3⟩ := z
    rw [decide_eq_true z1, decide_eq_true z2, z3, q_pd_t (P := k < N ∧ ∃ v x, (v < u ∨ (v = u ∧ x < c + 1)) ∧ s ≤ v ∧ v ≤ t ∧ x < 81 ∧ q_rc τ a (v - s) x ∧ q_rc τ b (t - v) x ∧ τ (89 + 3 * k) = nI x ∧ (q_at τ v).testBit k = true) ⟨z1, u, c, by omega, hs.1, hs.2, hc, y.1, y.2, z2, z3⟩]
    simp only [Bool.and_true, Bool.or_true]
  · have e : (decide (k < N) && decide (τ (89 + 3 * k) = nI c) && (q_at τ u).testBit k) = false := by
      cases q : (decide (k < N) && decide (τ (89 + 3 * k) = nI c) && (q_at τ u).testBit k)
      · rfl
      · rw [Bool.and_eq_true, Bool.and_eq_true, decide_eq_true_eq, decide_eq_true_eq] at q
        exact absurd ⟨q.1.1, q.1.2, q.2⟩ z
    rw [e, Bool.or_false]
    exact q_pd_c ⟨fun ⟨p0, v, x, p1, p2, p3, p4, p5, p6, p7, p8⟩ => ⟨p0, v, x, by omega, p2, p3, p4, p5, p6, p7, p8⟩, fun ⟨p0, v, x, p1, p2, p3, p4, p5, p6, p7, p8⟩ => ⟨p0, v, x, by
      by_cases w : v = u ∧ x = c
      · obtain ⟨z1, z2⟩ := w
        subst z1; subst z2
        exact absurd ⟨p0, p7, p8⟩ z
      · omega, p2, p3, p4, p5, p6, p7, p8⟩⟩
theorem q_acc.fin {τ : Nat → Int32} {a s b t N S : Nat} (f : WT τ) (e6 : τ 6 = nI N) (hN : N ≤ 8) (h : q_acc τ a s b t N (t + 1) 0 S) : S = q_bs (q_thf τ a s b t) N := by
  obtain ⟨N', n1, n2, n3, n4⟩ := f.2.2.2.2.2.1
  have eN : N' = N := (nI_eq (by omega) (by omega)).mp (n2.symm.trans e6)
  subst eN
  apply Nat.eq_of_testBit_eq
  intro k
  rw [h k, q_bs_t]
  by_cases z : k < N'
  · obtain ⟨-, ⟨A, c1, c2, c3⟩, -⟩ := n3 k z
    rw [decide_eq_true z, Bool.true_and]
    unfold q_thf
    rw [c2, q_cl (by omega)]
    exact q_pd_c ⟨fun ⟨p0, v, x, p1, p2, p3, p4, p5, p6, p7, p8⟩ => by
      have ex : A = x := (nI_eq (by omega) (by omega)).mp p7
      subst ex
      exact ⟨v, p2, p3, p5, p6, p8⟩, fun ⟨v, p1, p2, p3, p4, p5⟩ => ⟨z, v, A, by omega, p1, p2, c1, p3, p4, rfl, p5⟩⟩
  · rw [decide_eq_false z, Bool.false_and]
    exact q_pd_f (fun y => z y.1)
section Q87
variable {E : g_E} {d : Nat} {R : g_R} {σ : g_S} {τ : Nat → Int32}
theorem m_sum_in {a s b t N u : Nat} (et : σ 72 = τ) (e6 : τ 6 = nI N) (hN : N ≤ 8) (hs : s ≤ u ∧ u ≤ t) (ht : t < 73) (fw : q_fwd σ τ a s t) (bw : q_bwd σ τ b t s) (h : ∀ S, q_acc τ a s b t N (u + 1) 0 S → g_g E (g_wp E (d + 2)) 168 220 [some (.ref 68), none, none, none, some (.int (nI t)), some (.int (nI S)), some (.int (nI (u + 1))), none, none] [] σ R) : ∀ g c S, c + g = 81 → q_acc τ a s b t N u c S → g_g E (g_wp E (d + 2)) 168 238 [some (.ref 68), none, none, none, some (.int (nI t)), some (.int (nI S)), some (.int (nI u)), some (.int (nI (q_at τ u))), some (.int (nI c))] [] σ R := by
  intro g
  induction g with
  | zero =>
    intro c S hc ac
    have e : c = 81 := by omega
    subst e
    refine t168_238 ⟨fun _ => ?_, fun q => absurd (nI_le (a := 81) (b := 81) (by omega) (by omega)) q⟩
    rw [nI_1]
    exact h S ac.row
  | succ g ih =>
    intro c S hc ac
    have e1 : (81 : Int32) * nI u + nI c = nI (81 * u + c) := by
      rw [show (81 : Int32) = nI 81 from rfl, pk_mul, nI_add]
    refine t168_238 ⟨fun q => absurd q (nI_ge (b := 81) (by omega) (by omega)), fun _ => ?_⟩
    rw [e1, q_cl (by omega), fw u c (by omega) (by omega), bw u c (by omega) (by omega), nI_1, show (0 : Int32) = nI 0 from rfl, nI_or, Nat.or_zero]
    refine ⟨vp_in_nI (by omega) (by omega), fun q => ?_, fun q => ⟨vp_in_nI (by omega) (by omega), fun q2 => ?_, fun q2 => ?_⟩⟩
    · exact ih (c + 1) S (by omega) (ac.no (fun z => absurd q (q_ne0.mpr ⟨hs.1, hs.2, z.1⟩)))
    · exact ih (c + 1) S (by omega) (ac.no (fun z => absurd q2 (q_ne0.mpr ⟨hs.1, hs.2, z.2⟩)))
    · have y1 := q_ne0.mp q
      have y2 := q_ne0.mp q2
      refine m_shopsAt et (by omega) hN e6 ⟨_, rfl, ?_⟩
      dsimp only
      rw [nI_and, nI_or]
      exact ih (c + 1) _ (by omega) (ac.yes e6 hN hs (by omega) ⟨y1.2.2, y2.2.2⟩)
theorem m_sum {a s b t N : Nat} (et : σ 72 = τ) (f : WT τ) (e6 : τ 6 = nI N) (hN : N ≤ 8) (hst : s ≤ t) (ht : t < 73) (fw : q_fwd σ τ a s t) (bw : q_bwd σ τ b t s) (h : ∀ s', (∀ x, x ≠ 75 → s' x = σ x) → R (some (.int (nI (q_bs (q_thf τ a s b t) N)))) s') : ∀ g u st S, u + g = t + 1 → s ≤ u → (∀ x, x ≠ 75 → st x = σ x) → q_acc τ a s b t N u 0 S → g_g E (g_wp E (d + 4)) 168 220 [some (.ref 68), none, none, none, some (.int (nI t)), some (.int (nI S)), some (.int (nI u)), none, none] [] st R := by
  intro g
  induction g with
  | zero =>
    intro u st S hu hs fr ac
    have e : u = t + 1 := by omega
    subst e
    have z := h st fr
    rw [← ac.fin f e6 hN] at z
    exact t168_220 ⟨fun _ => z, fun q => absurd (nI_lt (a := t) (b := t + 1) (by omega) (by omega)) q⟩
  | succ g ih =>
    intro u st S hu hs fr ac
    refine t168_220 ⟨fun q => absurd q (nI_nlt (a := t) (b := u) (by omega) (by omega)), fun _ => m_openAt f ((fr 72 (by omega)).trans et) (by omega) (fun s2 k2 => ⟨_, rfl, ?_⟩)⟩
    have fr2 : ∀ x, x ≠ 75 → s2 x = σ x := fun x q => (k2 x q).trans (fr x q)
    have fw2 : q_fwd s2 τ a s t := by unfold q_fwd at fw ⊢; rw [fr2 78 (by omega)]; exact fw
    have bw2 : q_bwd s2 τ b t s := by unfold q_bwd at bw ⊢; rw [fr2 79 (by omega)]; exact bw
    exact m_sum_in (d := d + 2) ((fr2 72 (by omega)).trans et) e6 hN ⟨hs, by omega⟩ ht fw2 bw2 (fun S2 ac2 => ih (u + 1) s2 S2 (by omega) (by omega) fr2 ac2) 81 0 S (by omega) ac
end Q87
