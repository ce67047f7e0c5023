/-! thief: the class's half -/
noncomputable def q_pd (P : Prop) : Bool := @decide P (Classical.propDecidable P)
theorem q_pd_iff {P : Prop} : q_pd P = true ↔ P := by
  unfold q_pd
  exact @decide_eq_true_iff P (Classical.propDecidable P)
theorem q_pd_f {P : Prop} (h : ¬ P) : q_pd P = false := by
  cases e : q_pd P
  · rfl
  · exact absurd (q_pd_iff.mp e) h
theorem q_pd_t {P : Prop} (h : P) : q_pd P = true := q_pd_iff.mpr h
/-- the thief was at a in s, at b in t: whether he can have been in shop k while it was open -/
noncomputable def q_thf (τ : Nat → Int32) (a s b t k : Nat) : Bool := q_pd (∃ u, s ≤ u ∧ u ≤ t ∧ q_rc τ a (u - s) (τ (89 + 3 * k)).toNatClampNeg ∧ q_rc τ b (t - u) (τ (89 + 3 * k)).toNatClampNeg ∧ (q_at τ u).testBit k = true)
theorem q_and2 {m k : Nat} : m &&& 2 ^ k = if m.testBit k = true then 2 ^ k else 0 := by
  apply Nat.eq_of_testBit_eq
  intro i
  rw [Nat.testBit_and]
  by_cases e : i = k
  · subst e
    rw [Nat.testBit_two_pow_self, Bool.and_true]
    by_cases z : m.testBit i = true
    · rw [if_pos z, Nat.testBit_two_pow_self, z]
    · rw [if_neg z, Nat.zero_testBit, Bool.eq_false_iff.mpr z]
  · rw [Nat.testBit_two_pow_of_ne (fun y => e y.symm), Bool.and_false]
    by_cases z : m.testBit k = true
    · rw [if_pos z, Nat.testBit_two_pow_of_ne (fun y => e y.symm)]
    · rw [if_neg z, Nat.zero_testBit]
section Q83
variable {E : g_E} {d : Nat} {R : g_R} {σ : g_S} {τ : Nat → Int32}
theorem c_tellDay {b : Nat} (hb : g_Tw b) (w0 : TR σ b τ) (f : WT τ) (h : ∀ s, (∀ x, x ≠ 41 → x ≠ 42 → x ≠ 43 → s x = σ x) → (∀ t, t < 73 → s 43 t = nI (q_at τ t)) → R none s) : g_wp E (d + 4) 9 [.ref 41, .ref b] σ R := by
  have hb' := hb.rg
  have l : ∀ w i s, i + w = 73 → (∀ x, x ≠ 41 → x ≠ 42 → x ≠ 43 → s x = σ x) → (∀ t, t < i → s 43 t = nI (q_at τ t)) → g_g E (g_wp E (d + 3)) 9 2 [some (.ref 41), some (.ref b), some (.int (nI i))] [] s R := by
    intro w
    induction w with
    | zero =>
      intro i s hi fr hd
      have e : i = 73 := by omega
      subst e
      exact t9_2 hb ⟨fun _ => h s fr hd, fun c => absurd (nI_le (a := 73) (b := 73) (by omega) (by omega)) c⟩
    | succ w ih =>
      intro i s hi fr hd
      refine t9_2 hb ⟨fun c => absurd c (nI_ge (b := 73) (by omega) (by omega)), fun _ => c_openShops hb (w0.low (fun x q1 q2 => fr x (by omega) (by omega) (by omega))) f (by omega) (fun s2 k2 => ⟨_, rfl, vp_in_nI (by omega) (by omega), fun s3 es3 => ?_⟩)⟩
      rw [q_cl (by omega)] at es3
      rw [nI_1]
      refine ih (i + 1) s3 (by omega) (fun x q1 q2 q3 => by rw [es3]; exact (g_up_ne q3).trans ((k2 x q1 q2).trans (fr x q1 q2 q3))) (fun t ht => ?_)
      rw [es3]
      by_cases e : t = i
      · subst e; exact g_up_s
      · rw [g_up_n (by omega), k2 43 (by omega) (by omega)]; exact hd t (by omega)
  exact t9_0 hb (l 73 0 σ (by omega) (fun _ _ _ _ => rfl) (fun t ht => absurd ht (Nat.not_lt_zero t)))
theorem c_thf_in {O : g_O} {b s t k A : Nat} {D0 D1 : Nat → Nat} {x5 : Int32} {P : Nat} (hb : g_Tw b) (hst : t < 73) (hk : k < 8) (hA : A < 81) (h43 : ∀ u, u < 73 → σ 43 u = nI (q_at τ u)) (h49 : σ 49 A = nI (D1 A)) (hD1 : D1 A ≤ 80 ∨ D1 A = 1000) (h : ∀ Q, (Q = if q_pd (∃ u, s + D0 A ≤ u ∧ u + D1 A ≤ t ∧ (q_at τ u).testBit k = true) = true then P ||| 2 ^ k else P) → g_g E O 62 51 [some (.ref 45), some (.ref b), some (.ref 43), none, some (.int (nI s)), none, some (.int (nI t)), some (.int (nI Q)), some (.int (nI (k + 1))), none, none] [] σ R) : ∀ w u Q, u + w = t + 2000 → s + D0 A ≤ u → (Q = if q_pd (∃ v, s + D0 A ≤ v ∧ v < u ∧ v + D1 A ≤ t ∧ (q_at τ v).testBit k = true) = true then P ||| 2 ^ k else P) → g_g E O 62 83 [some (.ref 45), some (.ref b), some (.ref 43), none, some (.int (nI s)), none, some (.int (nI t)), some (.int (nI Q)), some (.int (nI k)), some (.int (nI A)), some (.int (nI u))] [] σ R := by
  intro w
  induction w with
  | zero =>
    intro u Q hu hs hQ
    refine t62_83 hb ⟨vp_in_nI hA (by omega), ?_⟩
    rw [q_cl (by omega), h49, nI_1]
    have e1 : (nI t - nI (D1 A)).toInt = (t : Int) - D1 A := pk_sub_toInt (by omega) (by omega)
    have e2 : nI t - nI (D1 A) < nI u := by rw [q_lt, e1, nI_toInt (by omega)]; omega
    refine ⟨fun _ => h Q ?_, fun c => absurd e2 c⟩
    rw [hQ]
    congr 1
    apply propext
    rw [q_pd_iff, q_pd_iff]
    exact ⟨fun ⟨v, v1, v2, v3, v4⟩ => ⟨v, v1, v3, v4⟩, fun ⟨v, v1, v3, v4⟩ => ⟨v, v1, by omega, v3, v4⟩⟩
  | succ w ih =>
    intro u Q hu hs hQ
    refine t62_83 hb ⟨vp_in_nI hA (by omega), ?_⟩
    rw [q_cl (by omega), h49, nI_1]
    have e1 : (nI t - nI (D1 A)).toInt = (t : Int) - D1 A := pk_sub_toInt (by omega) (by omega)
    refine ⟨fun c => h Q ?_, fun c => ⟨rfl, ?_, ?_⟩⟩
    · rw [q_lt, e1, nI_toInt (by omega)] at c
      rw [hQ]
      congr 1
      apply propext
      rw [q_pd_iff, q_pd_iff]
      exact ⟨fun ⟨v, v1, v2, v3, v4⟩ => ⟨v, v1, v3, v4⟩, fun ⟨v, v1, v3, v4⟩ => ⟨v, v1, by omega, v3, v4⟩⟩
    · rw [q_lt, e1, nI_toInt (by omega)] at c
      exact vp_in_nI (N := 73) (by omega) (by omega)
    · rw [q_lt, e1, nI_toInt (by omega)] at c
      rw [q_cl (by omega), h43 u (by omega), q_sh1k k (by omega), nI_and, nI_or, nI_1, q_and2]
      refine ih (u + 1) _ (by omega) (by omega) ?_
      rw [hQ]
      by_cases z : (q_at τ u).testBit k = true
      · have h2 : (if q_pd (∃ v, s + D0 A ≤ v ∧ v < u + 1 ∧ v + D1 A ≤ t ∧ (q_at τ v).testBit k = true) = true then P ||| 2 ^ k else P) = P ||| 2 ^ k := if_pos (q_pd_t ⟨u, hs, by omega, by omega, z⟩)
        rw [if_pos z, h2]
        split
        · rw [Nat.or_assoc, Nat.or_self]
        · rfl
      · rw [if_neg z, Nat.or_zero]
        congr 1
        apply propext
        rw [q_pd_iff, q_pd_iff]
        refine ⟨fun ⟨v, v1, v2, v3, v4⟩ => ⟨v, v1, by omega, v3, v4⟩, fun ⟨v, v1, v2, v3, v4⟩ => ⟨v, v1, ?_, v3, v4⟩⟩
        have : v ≠ u := fun y => by subst y; exact z v4
        omega
end Q83
