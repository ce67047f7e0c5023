/-! thief: the class's half, whole -/
noncomputable def q_tha (τ : Nat → Int32) (a s b t : Nat) : Int32 := if q_pd (q_rc τ a (t - s) b) = true then nI (q_bs (q_thf τ a s b t) (τ 6).toNatClampNeg) else -1000000
section Q84
variable {E : g_E} {d : Nat} {R : g_R} {σ : g_S} {τ : Nat → Int32}
theorem q_thf_d {a s b t k A : Nat} {D0 D1 : Nat → Nat} (h0 : q_dist τ a D0) (h1 : q_dist τ b D1) (hA : A < 81) (eA : τ (89 + 3 * k) = nI A) (hst : s ≤ t) (ht : t < 73) : q_pd (∃ u, s + D0 A ≤ u ∧ u + D1 A ≤ t ∧ (q_at τ u).testBit k = true) = q_thf τ a s b t k := by
  have e : (∃ u, s + D0 A ≤ u ∧ u + D1 A ≤ t ∧ (q_at τ u).testBit k = true) ↔ (∃ u, s ≤ u ∧ u ≤ t ∧ q_rc τ a (u - s) (τ (89 + 3 * k)).toNatClampNeg ∧ q_rc τ b (t - u) (τ (89 + 3 * k)).toNatClampNeg ∧ (q_at τ u).testBit k = true) := by
    rw [eA, q_cl (by omega)]
    constructor
    · rintro ⟨u, u1, u2, u3⟩
      exact ⟨u, by omega, by omega, ((h0 A hA).2 (u - s) (by omega)).mpr (by omega), ((h1 A hA).2 (t - u) (by omega)).mpr (by omega), u3⟩
    · rintro ⟨u, u1, u2, u3, u4, u5⟩
      have := ((h0 A hA).2 (u - s) (by omega)).mp u3
      have := ((h1 A hA).2 (t - u) (by omega)).mp u4
      exact ⟨u, by omega, by omega, u5⟩
  unfold q_thf
  cases q : q_pd (∃ u, s + D0 A ≤ u ∧ u + D1 A ≤ t ∧ (q_at τ u).testBit k = true)
  · rw [q_pd_f (fun z => by rw [q_pd_t (e.mpr z)] at q; cases q)]
  · rw [q_pd_t (e.mp (q_pd_iff.mp q))]
theorem c_thf_l {O : g_O} {b a s b' t N : Nat} {D0 D1 : Nat → Nat} (hb : g_Tw b) (w0 : TR σ b τ) (f : WT τ) (hN : N ≤ 8) (e6 : τ 6 = nI N) (h0 : q_dist τ a D0) (h1 : q_dist τ b' D1) (hst : s ≤ t) (ht : t < 73) (h43 : ∀ u, u < 73 → σ 43 u = nI (q_at τ u)) (h48 : ∀ c, c < 81 → σ 48 c = nI (D0 c)) (h49 : ∀ c, c < 81 → σ 49 c = nI (D1 c)) (h : R (some (.int (nI (q_bs (q_thf τ a s b' t) N)))) σ) : ∀ w k, k + w = N → g_g E O 62 51 [some (.ref 45), some (.ref b), some (.ref 43), none, some (.int (nI s)), none, some (.int (nI t)), some (.int (nI (q_bs (q_thf τ a s b' t) k))), some (.int (nI k)), none, none] [] σ R := by
  have e8 : σ b 8 = nI N := w0.2.2.2.2.2.2.2.1.trans e6
  obtain ⟨N', n1, n2, n3, n4⟩ := f.2.2.2.2.2.1
  have eN : N' = N := (nI_eq (by omega) (by omega)).mp (n2.symm.trans e6)
  subst eN
  intro w
  induction w with
  | zero =>
    intro k hk
    have ek : k = N' := by omega
    subst ek
    exact t62_51 hb ⟨fun _ => h, fun q => absurd (by rw [e8]; exact nI_le (Nat.le_refl _) (by omega)) q⟩
  | succ w ih =>
    intro k hk
    have kN : nI k < τ 6 := by rw [e6]; exact nI_lt (by omega) (by omega)
    obtain ⟨-, ⟨A, c1, c2, c3⟩, -⟩ := n3 k (by omega)
    obtain ⟨r1, r2, r3⟩ := w0.2.2.2.2.2.2.2.2.2.2 k (by omega) kN
    have d0 := (h0 A c1).1
    have d1 := (h1 A c1).1
    refine t62_51 hb ⟨fun q => absurd q (by rw [e8]; exact nI_ge (by omega) (by omega)), fun _ => ⟨vp_in_nI (by omega) (by omega), ?_⟩⟩
    rw [q_cl (by omega), r2, c2, q_cl (by omega), h48 A c1, nI_add]
    refine ⟨vp_in_nI c1 (by omega), ?_⟩
    refine c_thf_in (D0 := D0) (D1 := D1) (x5 := 0) (P := q_bs (q_thf τ a s b' t) k) hb ht (by omega) c1 h43 (h49 A c1) d1 (fun Q eQ => ?_) (t + 2000 - (s + D0 A)) (s + D0 A) _ (by omega) (Nat.le_refl _) ?_
    · rw [eQ, q_thf_d h0 h1 c1 c2 hst ht]
      have z := ih (k + 1) (by omega)
      rw [show q_bs (q_thf τ a s b' t) (k + 1) = q_bs (q_thf τ a s b' t) k ||| (if q_thf τ a s b' t k = true then 2 ^ k else 0) from rfl] at z
      by_cases y : q_thf τ a s b' t k = true
      · rw [if_pos y] at z ⊢; exact z
      · rw [if_neg y, Nat.or_zero] at z
        rw [if_neg y]; exact z
    · rw [if_neg (fun y => by
        obtain ⟨v, v1, v2, -⟩ := q_pd_iff.mp y
        omega)]
theorem c_between {b a s b' t N : Nat} (hb : g_Tw b) (w0 : TR σ b τ) (f : WT τ) (hN : N ≤ 8) (e6 : τ 6 = nI N) (ha : a < 81 ∧ τ (7 + a) = 0) (hb' : b' < 81 ∧ τ (7 + b') = 0) (hst : s ≤ t) (ht : t < 73) (h43 : ∀ u, u < 73 → σ 43 u = nI (q_at τ u)) (h : ∀ s', (∀ x, x ≠ 46 → x ≠ 48 → x ≠ 49 → s' x = σ x) → R (some (.int (q_tha τ a s b' t))) s') : g_wp E (d + 5) 62 [.ref 45, .ref b, .ref 43, .int (nI a), .int (nI s), .int (nI b'), .int (nI t)] σ R := by
  have hb2 := hb.rg
  refine t62_0 hb (c_measure (row := 48) hb w0 f ha (by omega) rfl rfl (fun s1 D0 f1 r1 h0 => ⟨rfl, c_measure (row := 49) hb (w0.low (fun x q1 q2 => f1 x (by omega) (by omega))) f hb' (by omega) rfl rfl (fun s2 D1 f2 r2 h1 => ⟨rfl, vp_in_nI hb'.1 (by omega), ?_⟩)⟩))
  have fr : ∀ x, x ≠ 46 → x ≠ 48 → x ≠ 49 → s2 x = σ x := fun x q1 q2 q3 => (f2 x q1 q3).trans (f1 x q1 q2)
  have r48 : ∀ c, c < 81 → s2 48 c = nI (D0 c) := fun c hc => by rw [f2 48 (by omega) (by omega)]; exact r1 c hc
  have z := h s2 fr
  unfold q_tha at z
  have d0 := h0 b' hb'.1
  rw [q_cl (by have := hb'.1; omega), r48 b' hb'.1, q_nsub hst, nI_leI (by have := d0.1; omega) (by omega), ← d0.2 (t - s) (by omega)]
  refine ⟨fun q => ?_, fun q => ?_⟩
  · rw [if_pos (q_pd_t q), e6, q_cl (by omega)] at z
    exact c_thf_l hb (w0.low (fun x q1 q2 => fr x (by omega) (by omega) (by omega))) f hN e6 h0 h1 hst ht (fun u hu => by rw [fr 43 (by omega) (by omega) (by omega)]; exact h43 u hu) r48 r2 z N 0 (by omega)
  · rw [if_neg (fun y => q (q_pd_iff.mp y))] at z
    exact z
end Q84
