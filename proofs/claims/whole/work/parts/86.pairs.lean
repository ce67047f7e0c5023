/-! thief: the reference's rows of where he can be -/
theorem q_spr.at' {σ s : g_S} {a1 u u' v c : Nat} {τ : Nat → Int32} {Z : Nat → Prop} (h : q_spr σ s a1 u u' τ 81 0) (hz : ∀ y, y < 81 → (σ a1 (81 * u + y) ≠ 0 ↔ Z y)) (hv : v < 73) (hc : c < 81) : s a1 (81 * v + c) = if v = u' then (if q_pd (∃ y, y < 81 ∧ Z y ∧ q_ed τ y c) = true then 1 else σ a1 (81 * v + c)) else σ a1 (81 * v + c) := by
  rw [h _ (by omega)]
  by_cases e : v = u'
  · subst e
    rw [if_pos (show v = v from rfl)]
    have e2 : q_pd (81 * v ≤ 81 * v + c ∧ 81 * v + c < 81 * v + 81 ∧ ∃ y w, (y < 81 ∨ (y = 81 ∧ w < 0)) ∧ w < 5 ∧ y < 81 ∧ σ a1 (81 * u + y) ≠ 0 ∧ q_nbr τ y w = some (81 * v + c - 81 * v)) = q_pd (∃ y, y < 81 ∧ Z y ∧ q_ed τ y c) := q_pd_c (by
      rw [Nat.add_sub_cancel_left]
      constructor
      · rintro ⟨-, -, y, w, -, w5, y81, nz, ee⟩
        exact ⟨y, y81, (hz y y81).mp nz, w, w5, ee⟩
      · rintro ⟨y, y81, zy, w, w5, ee⟩
        exact ⟨by omega, by omega, y, w, Or.inl y81, w5, y81, (hz y y81).mpr zy, ee⟩)
    rw [e2]
  · rw [if_neg e, if_neg (fun z => by have := q_pd_iff.mp z; omega)]
/-- he is at a in s: where he can be by slot u; he must be at b in t: where he may be from slot u on -/
def q_fwd (st : g_S) (τ : Nat → Int32) (a s u : Nat) : Prop := ∀ v c, v < 73 → c < 81 → st 78 (81 * v + c) = if q_pd (s ≤ v ∧ v ≤ u ∧ q_rc τ a (v - s) c) = true then 1 else 0
def q_bwd (st : g_S) (τ : Nat → Int32) (b t u : Nat) : Prop := ∀ v c, v < 73 → c < 81 → st 79 (81 * v + c) = if q_pd (u ≤ v ∧ v ≤ t ∧ q_rc τ b (t - v) c) = true then 1 else 0
theorem q_ne0 {P : Prop} : (if q_pd P = true then (1 : Int32) else 0) ≠ 0 ↔ P := by
  by_cases q : P
  · rw [if_pos (q_pd_t q)]; exact ⟨fun _ => q, fun _ => by decide⟩
  · rw [if_neg (fun z => q (q_pd_iff.mp z))]; exact ⟨fun z => absurd rfl z, fun z => absurd z q⟩
theorem q_fwd.step {st s2 : g_S} {τ : Nat → Int32} {a s u : Nat} (h : q_fwd st τ a s u) (hs : s ≤ u) (hu : u < 72) (p : q_spr st s2 78 u (u + 1) τ 81 0) : q_fwd s2 τ a s (u + 1) := fun v c hv hc => by
  rw [p.at' (Z := fun y => q_rc τ a (u - s) y) (fun y hy => by
    rw [h u y (by omega) hy, q_ne0]
    exact ⟨fun z => z.2.2, fun z => ⟨hs, Nat.le_refl u, z⟩⟩) hv hc, h v c hv hc]
  by_cases e : v = u + 1
  · subst e
    have e3 : (if q_pd (s ≤ u + 1 ∧ u + 1 ≤ u ∧ q_rc τ a (u + 1 - s) c) = true then (1 : Int32) else 0) = 0 := if_neg (fun z => by have := q_pd_iff.mp z; omega)
    rw [if_pos rfl, e3]
    have e2 : q_pd (∃ y, y < 81 ∧ q_rc τ a (u - s) y ∧ q_ed τ y c) = q_pd (s ≤ u + 1 ∧ u + 1 ≤ u + 1 ∧ q_rc τ a (u + 1 - s) c) := q_pd_c (by
      rw [show u + 1 - s = (u - s) + 1 by omega]
      exact ⟨fun z => ⟨by omega, Nat.le_refl _, z⟩, fun z => z.2.2⟩)
    rw [e2]
  · rw [if_neg e]
    have e2 : q_pd (s ≤ v ∧ v ≤ u ∧ q_rc τ a (v - s) c) = q_pd (s ≤ v ∧ v ≤ u + 1 ∧ q_rc τ a (v - s) c) := q_pd_c ⟨fun z => ⟨z.1, by omega, z.2.2⟩, fun z => ⟨z.1, by omega, z.2.2⟩⟩
    rw [e2]
theorem q_bwd.step {st s2 : g_S} {τ : Nat → Int32} {b t u : Nat} (h : q_bwd st τ b t (u + 1)) (hu : u + 1 ≤ t) (ht : t < 73) (p : q_spr st s2 79 (u + 1) u τ 81 0) : q_bwd s2 τ b t u := fun v c hv hc => by
  rw [p.at' (Z := fun y => q_rc τ b (t - (u + 1)) y) (fun y hy => by
    rw [h (u + 1) y (by omega) hy, q_ne0]
    exact ⟨fun z => z.2.2, fun z => ⟨Nat.le_refl _, hu, z⟩⟩) hv hc, h v c hv hc]
  by_cases e : v = u
  · subst e
    have e3 : (if q_pd (v + 1 ≤ v ∧ v ≤ t ∧ q_rc τ b (t - v) c) = true then (1 : Int32) else 0) = 0 := if_neg (fun z => by have := q_pd_iff.mp z; omega)
    rw [if_pos rfl, e3]
    have e2 : q_pd (∃ y, y < 81 ∧ q_rc τ b (t - (v + 1)) y ∧ q_ed τ y c) = q_pd (v ≤ v ∧ v ≤ t ∧ q_rc τ b (t - v) c) := q_pd_c (by
      rw [show t - v = (t - (v + 1)) + 1 by omega]
      exact ⟨fun z => ⟨Nat.le_refl _, by omega, z⟩, fun z => z.2.2⟩)
    rw [e2]
  · rw [if_neg e]
    have e2 : q_pd (u + 1 ≤ v ∧ v ≤ t ∧ q_rc τ b (t - v) c) = q_pd (u ≤ v ∧ v ≤ t ∧ q_rc τ b (t - v) c) := q_pd_c ⟨fun z => ⟨by omega, z.2.1, z.2.2⟩, fun z => ⟨by omega, z.2.1, z.2.2⟩⟩
    rw [e2]
