/-! soonest: when a shop is open next -/
def q_isn (B : Nat → Bool) (a v : Nat) : Prop := (v = 1000 ∧ ∀ u, a ≤ u → u ≤ 72 → B u = false) ∨ (a ≤ v ∧ v ≤ 72 ∧ B v = true ∧ ∀ u, a ≤ u → u < v → B u = false)
theorem g_o57 : ∀ k, k < 8 → g_kd (57 + k) = 100 ∧ g_ln (57 + k) = 73 := by decide
section Q91
variable {E : g_E} {d : Nat} {R : g_R} {σ : g_S} {τ : Nat → Int32}
theorem c_tellOpen_l {O : g_O} {k : Nat} (hk : k < 8) (f : WT τ) (h43 : ∀ t, t < 73 → σ 43 t = nI (q_at τ t)) (h : ∀ s, (∀ x, x ≠ 57 + k → s x = σ x) → (∀ a, a < 73 → ∃ v, s (57 + k) a = nI v ∧ q_isn (fun t => (q_at τ t).testBit k) a v) → R none s) : ∀ r v s, r ≤ 73 → (∀ x, x ≠ 57 + k → s x = σ x) → q_isn (fun t => (q_at τ t).testBit k) r v → (∀ a, r ≤ a → a < 73 → ∃ v, s (57 + k) a = nI v ∧ q_isn (fun t => (q_at τ t).testBit k) a v) → g_g E O 66 8 [some (.ref 45), some (.ref 43), some (.int (nI k)), some (.int (nI v)), some (.int (nI r - 1))] [] s R := by
  have kd := g_o57 k hk
  intro r
  induction r with
  | zero =>
    intro v s hr fr hv hs
    exact t66_8 ⟨fun _ => h s fr (fun a ha => hs a (Nat.zero_le a) ha), fun c => absurd (by decide) c⟩
  | succ r ih =>
    intro v s hr fr hv hs
    refine t66_8 ⟨fun c => absurd c (by rw [nI_pred]; exact nI_nlt (a := r) (b := 0) (by omega) (by omega)), fun _ => ⟨rfl, ?_⟩⟩
    rw [nI_pred, q_cl (by omega), q_cl (by omega), kd.1, kd.2, fr 43 (by omega), h43 r (by omega), q_bit _ (q_at_l f) k hk, q_m1]
    refine ⟨vp_in_nI (N := 73) (by omega) (by omega), fun c => ⟨vp_in_nI hk (by omega), rfl, vp_in_nI (by omega) (by omega), fun s2 es => ?_⟩, fun c => ⟨vp_in_nI hk (by omega), rfl, vp_in_nI (by omega) (by omega), fun s2 es => ?_⟩⟩
    · have b0 : (q_at τ r).testBit k = false := by
        cases y : (q_at τ r).testBit k
        · rfl
        · rw [y] at c; exact absurd rfl c
      have nv : q_isn (fun t => (q_at τ t).testBit k) r v := by
        rcases hv with ⟨v1, v2⟩ | ⟨v1, v2, v3, v4⟩
        · refine Or.inl ⟨v1, fun u u1 u2 => ?_⟩
          by_cases e : u = r
          · subst e; exact b0
          · exact v2 u (by omega) u2
        · refine Or.inr ⟨by omega, v2, v3, fun u u1 u2 => ?_⟩
          by_cases e : u = r
          · subst e; exact b0
          · exact v4 u (by omega) u2
      refine ih v s2 (by omega) (fun x q => by rw [es]; exact (g_up_ne q).trans (fr x q)) nv (fun a a1 a2 => ?_)
      rw [es]
      by_cases e : a = r
      · subst e; exact ⟨v, g_up_s, nv⟩
      · rw [g_up_n (by omega)]; exact hs a (by omega) a2
    · have b1 : (q_at τ r).testBit k = true := by
        cases y : (q_at τ r).testBit k
        · rw [y] at c; exact absurd (fun z => absurd z (by decide)) c
        · rfl
      have nv : q_isn (fun t => (q_at τ t).testBit k) r r := Or.inr ⟨Nat.le_refl r, by omega, b1, fun u u1 u2 => by omega⟩
      refine ih r s2 (by omega) (fun x q => by rw [es]; exact (g_up_ne q).trans (fr x q)) nv (fun a a1 a2 => ?_)
      rw [es]
      by_cases e : a = r
      · subst e; exact ⟨a, g_up_s, nv⟩
      · rw [g_up_n (by omega)]; exact hs a (by omega) a2
theorem c_tellOpen {k : Nat} (hk : k < 8) (f : WT τ) (h43 : ∀ t, t < 73 → σ 43 t = nI (q_at τ t)) (h : ∀ s, (∀ x, x ≠ 57 + k → s x = σ x) → (∀ a, a < 73 → ∃ v, s (57 + k) a = nI v ∧ q_isn (fun t => (q_at τ t).testBit k) a v) → R none s) : g_wp E (d + 1) 66 [.ref 45, .ref 43, .int (nI k)] σ R :=
  t66_0 (c_tellOpen_l hk f h43 h 73 1000 σ (by omega) (fun _ _ => rfl) (Or.inl ⟨rfl, fun u u1 u2 => by omega⟩) (fun a a1 a2 => by omega))
end Q91
