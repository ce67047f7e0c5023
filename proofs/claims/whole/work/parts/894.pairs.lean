/-! soonest: what both reckon, purely -/
def q_leas (Q : Nat → Prop) (v : Nat) : Prop := (v = 1000 ∧ ∀ u, u ≤ 72 → ¬ Q u) ∨ (v ≤ 72 ∧ Q v ∧ ∀ u, u < v → ¬ Q u)
theorem q_lv_u {Q : Nat → Prop} {v w : Nat} (h : q_leas Q v) (h2 : q_leas Q w) : v = w := by
  rcases h with ⟨a1, a2⟩ | ⟨a1, a2, a3⟩
  · rcases h2 with ⟨b1, b2⟩ | ⟨b1, b2, b3⟩
    · omega
    · exact absurd b2 (a2 w b1)
  · rcases h2 with ⟨b1, b2⟩ | ⟨b1, b2, b3⟩
    · exact absurd a2 (b2 v a1)
    · rcases Nat.lt_trichotomy v w with q | q | q
      · exact absurd a2 (b3 v q)
      · exact q
      · exact absurd b2 (a3 w q)
theorem q_lv_c {Q Q' : Nat → Prop} {v : Nat} (h : ∀ u, u ≤ 72 → (Q u ↔ Q' u)) (w : q_leas Q v) : q_leas Q' v := by
  rcases w with ⟨a1, a2⟩ | ⟨a1, a2, a3⟩
  · exact Or.inl ⟨a1, fun u hu q => a2 u hu ((h u hu).mpr q)⟩
  · exact Or.inr ⟨a1, (h v a1).mp a2, fun u hu q => a3 u hu ((h u (by omega)).mpr q)⟩
theorem q_lv_n {Q : Nat → Prop} (h : ∀ u, u ≤ 72 → ¬ Q u) : q_leas Q 1000 := Or.inl ⟨rfl, h⟩
theorem q_lv_r {Q : Nat → Prop} {v : Nat} (h : q_leas Q v) : v ≤ 1000 := by
  rcases h with ⟨a1, a2⟩ | ⟨a1, a2, a3⟩
  · omega
  · omega
theorem q_lv_or {Q Q' : Nat → Prop} {v w : Nat} (h : q_leas Q v) (h2 : q_leas Q' w) : q_leas (fun u => Q u ∨ Q' u) (min v w) := by
  by_cases q : v ≤ w
  · rw [Nat.min_eq_left q]
    rcases h with ⟨a1, a2⟩ | ⟨a1, a2, a3⟩
    · rcases h2 with ⟨b1, b2⟩ | ⟨b1, b2, b3⟩
      · exact Or.inl ⟨a1, fun u hu z => z.elim (a2 u hu) (b2 u hu)⟩
      · omega
    · refine Or.inr ⟨a1, Or.inl a2, fun u hu z => z.elim (a3 u hu) (fun z2 => ?_)⟩
      rcases h2 with ⟨b1, b2⟩ | ⟨b1, b2, b3⟩
      · exact b2 u (by omega) z2
      · exact b3 u (by omega) z2
  · rw [Nat.min_eq_right (by omega)]
    rcases h2 with ⟨b1, b2⟩ | ⟨b1, b2, b3⟩
    · have := q_lv_r h
      omega
    · refine Or.inr ⟨b1, Or.inr b2, fun u hu z => z.elim (fun z2 => ?_) (b3 u hu)⟩
      rcases h with ⟨a1, a2⟩ | ⟨a1, a2, a3⟩
      · exact a2 u (by omega) z2
      · exact a3 u (by omega) z2
theorem q_lv_m {Q Q' : Nat → Prop} {v : Nat} (h1 : ∀ u, Q' u → Q u) (h2 : ∀ u, Q u → ∃ u0, u0 ≤ u ∧ Q' u0) (h : q_leas Q' v) : q_leas Q v := by
  rcases h with ⟨a1, a2⟩ | ⟨a1, a2, a3⟩
  · refine Or.inl ⟨a1, fun u hu q => ?_⟩
    obtain ⟨u0, l, z⟩ := h2 u q
    exact a2 u0 (by omega) z
  · refine Or.inr ⟨a1, h1 v a2, fun u hu q => ?_⟩
    obtain ⟨u0, l, z⟩ := h2 u q
    exact a3 u0 (by omega) z
theorem q_lv_ex (Q : Nat → Prop) : ∃ v, q_leas Q v := by
  have l : ∀ n, (∀ u, u < n → ¬ Q u) ∨ ∃ v, v < n ∧ Q v ∧ ∀ u, u < v → ¬ Q u := by
    intro n
    induction n with
    | zero => exact Or.inl (fun u hu => absurd hu (Nat.not_lt_zero u))
    | succ n ih =>
      rcases ih with i | ⟨v, v1, v2, v3⟩
      · by_cases q : Q n
        · exact Or.inr ⟨n, by omega, q, i⟩
        · refine Or.inl (fun u hu z => ?_)
          by_cases e : u = n
          · subst e; exact q z
          · exact i u (by omega) z
      · exact Or.inr ⟨v, by omega, v2, v3⟩
  rcases l 73 with i | ⟨v, v1, v2, v3⟩
  · exact ⟨1000, Or.inl ⟨rfl, fun u hu => i u (by omega)⟩⟩
  · exact ⟨v, Or.inr ⟨by omega, v2, v3⟩⟩
noncomputable def q_leaf (Q : Nat → Prop) : Nat := Classical.choose (q_lv_ex Q)
theorem q_lf_l {Q : Nat → Prop} : q_leas Q (q_leaf Q) := Classical.choose_spec (q_lv_ex Q)
theorem q_lf_e {Q : Nat → Prop} {v : Nat} (h : q_leas Q v) : q_leaf Q = v := q_lv_u q_lf_l h
theorem q_isn_lv {B : Nat → Bool} {a v : Nat} (h : q_isn B a v) : q_leas (fun u => a ≤ u ∧ B u = true) v := by
  rcases h with ⟨v1, v2⟩ | ⟨v1, v2, v3, v4⟩
  · refine Or.inl ⟨v1, fun u hu z => ?_⟩
    have := v2 u z.1 hu
    rw [z.2] at this
    cases this
  · refine Or.inr ⟨v2, ⟨v1, v3⟩, fun u hu z => ?_⟩
    have := v4 u z.1 hu
    rw [z.2] at this
    cases this
/-- ways turned round -/
theorem q_rc_f {τ : Nat → Int32} {a x : Nat} (ha : a < 81) (e : q_ed τ a x) : ∀ {n b : Nat}, q_rc τ x n b → q_rc τ a (n + 1) b
  | 0, b, h => by
    have : b = x := h
    subst this
    exact ⟨a, ha, rfl, e⟩
  | n + 1, b, h => by
    obtain ⟨y, hy, r, e2⟩ := h
    exact ⟨y, hy, q_rc_f ha e r, e2⟩
theorem q_rc_b {τ : Nat → Int32} {a : Nat} (ha : a < 81 ∧ τ (7 + a) = 0) : ∀ {n b : Nat}, q_rc τ a n b → q_rc τ b n a
  | 0, b, h => by
    have : b = a := h
    subst this
    rfl
  | n + 1, b, h => by
    obtain ⟨x, hx, r, e⟩ := h
    have w := q_rc_w ha r
    have hb := q_rc_w ha (show q_rc τ a (n + 1) b from ⟨x, hx, r, e⟩)
    exact q_rc_f hb.1 (q_ed_b hx w.2 e) (q_rc_b ha r)
/-- a state's cell can be come to, its shops are wanted ones -/
theorem q_rs_rc {τ : Nat → Int32} {W c t : Nat} : ∀ {n x S : Nat}, q_rs τ W c t n x S → q_rc τ c n x
  | 0, x, S, h => h.1
  | n + 1, x, S, h => by
    obtain ⟨y, S0, hy, s1, e, -⟩ := h
    exact ⟨y, hy, q_rs_rc s1, e⟩
theorem q_rs_sub {τ : Nat → Int32} {W c t : Nat} : ∀ {n x S : Nat}, q_rs τ W c t n x S → ∀ j, S.testBit j = true → W.testBit j = true
  | 0, x, S, h, j, z => by
    rw [h.2, Nat.testBit_and, Bool.and_eq_true] at z
    exact z.2
  | n + 1, x, S, h, j, z => by
    obtain ⟨y, S0, hy, s1, e, e2⟩ := h
    rw [e2, Nat.testBit_or, Nat.testBit_and, Nat.testBit_and, Bool.or_eq_true, Bool.and_eq_true, Bool.and_eq_true] at z
    rcases z with z | z
    · exact q_rs_sub s1 j z
    · exact z.2.2
theorem q_rs_l {τ : Nat → Int32} {W c t : Nat} (hW : W < 256) : ∀ {n x S : Nat}, q_rs τ W c t n x S → S < 256
  | 0, x, S, h => by
    rw [h.2]
    exact Nat.and_lt_two_pow (n := 8) _ hW
  | n + 1, x, S, h => by
    obtain ⟨y, S0, hy, s1, e, e2⟩ := h
    rw [e2]
    exact Nat.or_lt_two_pow (n := 8) (q_rs_l hW s1) (Nat.and_lt_two_pow _ (Nat.and_lt_two_pow _ hW))
/-- shop k's cell -/
def q_ce (τ : Nat → Int32) (k : Nat) : Nat := (τ (89 + 3 * k)).toNatClampNeg
theorem q_sa_ce {τ : Nat → Int32} {x k : Nat} (hx : x < 81) (h : (q_sa τ x).testBit k = true) : q_ce τ k = x := by
  unfold q_sa at h
  rw [q_bs_t, Bool.and_eq_true, decide_eq_true_eq, decide_eq_true_eq] at h
  unfold q_ce
  rw [h.2, q_cl (by omega)]
/-- the last of the shops B that was had: where it was, and the way from it -/
theorem q_rs_last {τ : Nat → Int32} {W c t B : Nat} (hc : c < 81) (h0 : ∃ l, B.testBit l = true) : ∀ {n x S : Nat}, q_rs τ W c t n x S → (∀ j, B.testBit j = true → S.testBit j = true) → ∃ l m S0, B.testBit l = true ∧ m ≤ n ∧ q_rs τ W c t m (q_ce τ l) S0 ∧ (∀ j, B.testBit j = true → S0.testBit j = true) ∧ (q_at τ (t + m)).testBit l = true ∧ q_rc τ (q_ce τ l) (n - m) x
  | 0, x, S, h, hB => by
    obtain ⟨l, hl⟩ := h0
    have z := hB l hl
    rw [h.2, Nat.testBit_and, Nat.testBit_and, Bool.and_eq_true, Bool.and_eq_true] at z
    have ex : q_ce τ l = c := q_sa_ce hc z.1.1
    have e1 : x = c := h.1
    refine ⟨l, 0, S, hl, Nat.le_refl 0, ?_, hB, z.1.2, ?_⟩
    · rw [ex]; rw [e1] at h; exact h
    · rw [ex, e1]; rfl
  | n + 1, x, S, h, hB => by
    obtain ⟨y, S0, hy, s1, e, e2⟩ := h
    by_cases q : ∀ j, B.testBit j = true → S0.testBit j = true
    · obtain ⟨l, m, S1, p1, p2, p3, p4, p5, p6⟩ := q_rs_last hc h0 s1 q
      refine ⟨l, m, S1, p1, by omega, p3, p4, p5, ?_⟩
      rw [show n + 1 - m = (n - m) + 1 by omega]
      exact ⟨y, hy, p6, e⟩
    · obtain ⟨l, q2⟩ := Classical.not_forall.mp q
      have hl : B.testBit l = true := Classical.byContradiction (fun z => q2 (fun y => absurd y z))
      have hn : ¬ S0.testBit l = true := fun z => q2 (fun _ => z)
      have z := hB l hl
      rw [e2, Nat.testBit_or, Nat.testBit_and, Nat.testBit_and, Bool.or_eq_true, Bool.and_eq_true, Bool.and_eq_true] at z
      have z2 := z.resolve_left hn
      obtain ⟨w, hw, ew⟩ := id e
      have ex : q_ce τ l = x := q_sa_ce (q_nbr_l ew).1 z2.1
      refine ⟨l, n + 1, S, hl, Nat.le_refl _, ?_, hB, z2.2.1, ?_⟩
      · rw [ex]; exact ⟨y, S0, hy, s1, e, e2⟩
      · rw [ex, Nat.sub_self]; rfl
/-- the shops T were all had by slot v, and in v he is at shop k, which is open -/
def q_so (τ : Nat → Int32) (W c t T k v : Nat) : Prop := ∃ n S, v = t + n ∧ q_rs τ W c t n (q_ce τ k) S ∧ (∀ j, T.testBit j = true → S.testBit j = true) ∧ (q_at τ v).testBit k = true
/-- the same, by the shop before -/
def q_rl (τ : Nat → Int32) (W c t B k l u : Nat) : Prop := ∃ u0, u0 ≤ u ∧ q_so τ W c t B l u0 ∧ q_rc τ (q_ce τ l) (u - u0) (q_ce τ k) ∧ (q_at τ u).testBit k = true
/-- where shops are -/
theorem q_ce_w {τ : Nat → Int32} {N k : Nat} (f : WT τ) (e6 : τ 6 = nI N) (hN : N ≤ 8) (hk : k < N) : (q_ce τ k < 81 ∧ τ (7 + q_ce τ k) = 0) ∧ τ (89 + 3 * k) = nI (q_ce τ k) := by
  obtain ⟨N', n1, n2, n3, n4⟩ := f.2.2.2.2.2.1
  have eN : N' = N := (nI_eq (by omega) (by omega)).mp (n2.symm.trans e6)
  subst eN
  obtain ⟨-, ⟨A, c1, c2, c3⟩, -⟩ := n3 k hk
  have e : q_ce τ k = A := by
    unfold q_ce
    rw [c2, q_cl (by omega)]
  rw [e]
  exact ⟨⟨c1, c3⟩, c2⟩
theorem q_so_step {τ : Nat → Int32} {W c t T B k N u : Nat} (f : WT τ) (e6 : τ 6 = nI N) (hN : N ≤ 8) (hc : c < 81) (hk : k < N) (hkW : W.testBit k = true) (hT : ∀ j, T.testBit j = true ↔ (B.testBit j = true ∨ j = k)) (h0 : ∃ l, B.testBit l = true) (hB : ∀ j, B.testBit j = true → j < N) : q_so τ W c t T k u ↔ ∃ l, l < N ∧ B.testBit l = true ∧ q_rl τ W c t B k l u := by
  constructor
  · rintro ⟨n, S, e, rs, sub, op⟩
    obtain ⟨l, m, S1, p1, p2, p3, p4, p5, p6⟩ := q_rs_last hc h0 rs (fun j hj => sub j ((hT j).mpr (Or.inl hj)))
    refine ⟨l, hB l p1, p1, t + m, by omega, ⟨m, S1, rfl, p3, p4, p5⟩, ?_, op⟩
    rw [show u - (t + m) = n - m by omega]
    exact p6
  · rintro ⟨l, hl, bl, u0, hu0, ⟨n0, S0, e0, rs0, sub0, op0⟩, rc, op⟩
    have wl := q_ce_w f e6 hN hl
    have wk := q_ce_w f e6 hN hk
    obtain ⟨S', rs', in'⟩ := q_rs_go wl.1.1 rs0 rc
    have eu : u = t + (n0 + (u - u0)) := by omega
    have kin : S'.testBit k = true := q_rs_in e6 hN hk wk.2 hkW rs' (by rw [← eu]; exact op)
    refine ⟨n0 + (u - u0), S', eu, rs', fun j hj => ?_, op⟩
    rcases (hT j).mp hj with z | z
    · exact in' j (sub0 j z)
    · rw [z]; exact kin
theorem q_so_one {τ : Nat → Int32} {W c t T k N u : Nat} {D : Nat → Nat} (f : WT τ) (e6 : τ 6 = nI N) (hN : N ≤ 8) (hc : c < 81 ∧ τ (7 + c) = 0) (hk : k < N) (hkW : W.testBit k = true) (hT : ∀ j, T.testBit j = true ↔ j = k) (hu : u ≤ 72) (dd : q_dist τ (q_ce τ k) D) : q_so τ W c t T k u ↔ (t + D c ≤ u ∧ (q_at τ u).testBit k = true) := by
  have wk := q_ce_w f e6 hN hk
  constructor
  · rintro ⟨n, S, e, rs, sub, op⟩
    have := ((dd c hc.1).2 n (by omega)).mp (q_rc_b hc (q_rs_rc rs))
    exact ⟨by omega, op⟩
  · rintro ⟨l, op⟩
    have r := q_rc_b wk.1 (((dd c hc.1).2 (u - t) (by omega)).mpr (by omega))
    obtain ⟨S', rs', in'⟩ := q_rs_go (τ := τ) (W := W) (c := c) (t := t) (n := 0) hc.1 ⟨rfl, rfl⟩ r
    have eu : u = t + (0 + (u - t)) := by omega
    have kin : S'.testBit k = true := q_rs_in e6 hN hk wk.2 hkW rs' (by rw [← eu]; exact op)
    refine ⟨0 + (u - t), S', eu, rs', fun j hj => ?_, op⟩
    rw [(hT j).mp hj]; exact kin
/-- from the soonest of the shop before to the soonest of this one by it -/
theorem q_lv_way {τ : Nat → Int32} {W c t B k l N v0 r : Nat} {D : Nat → Nat} (f : WT τ) (e6 : τ 6 = nI N) (hN : N ≤ 8) (hk : k < N) (hl : l < N) (dd : q_dist τ (q_ce τ k) D) (h0 : q_leas (q_so τ W c t B l) v0) (h : q_leas (fun u => v0 + D (q_ce τ l) ≤ u ∧ (q_at τ u).testBit k = true) r) : q_leas (q_rl τ W c t B k l) r := by
  have wl := q_ce_w f e6 hN hl
  have wk := q_ce_w f e6 hN hk
  refine q_lv_c (fun u hu => ?_) h
  constructor
  · rintro ⟨z1, z2⟩
    rcases h0 with ⟨a1, a2⟩ | ⟨a1, a2, a3⟩
    · omega
    · exact ⟨v0, by omega, a2, q_rc_b wk.1 (((dd _ wl.1.1).2 (u - v0) (by omega)).mpr (by omega)), z2⟩
  · rintro ⟨u0, z1, z2, z3, z4⟩
    have hv : v0 ≤ u0 := by
      rcases h0 with ⟨a1, a2⟩ | ⟨a1, a2, a3⟩
      · exact absurd z2 (a2 u0 (by omega))
      · exact Nat.le_of_not_lt (fun q => a3 u0 q z2)
    have := ((dd _ wl.1.1).2 (u - u0) (by omega)).mp (q_rc_b wl.1 z3)
    exact ⟨by omega, z4⟩
/-- all is had -/
def q_all (τ : Nat → Int32) (W c t u : Nat) : Prop := ∃ n x, u = t + n ∧ x < 81 ∧ q_rs τ W c t n x W
theorem q_all_lv {τ : Nat → Int32} {W c t N v : Nat} (f : WT τ) (e6 : τ 6 = nI N) (hN : N ≤ 8) (hc : c < 81) (h0 : ∃ l, W.testBit l = true) (hW : ∀ j, W.testBit j = true → j < N) (h : q_leas (fun u => ∃ l, l < N ∧ W.testBit l = true ∧ q_so τ W c t W l u) v) : q_leas (q_all τ W c t) v := by
  refine q_lv_m (fun u z => ?_) (fun u z => ?_) h
  · obtain ⟨l, hl, wl, n, S, e, rs, sub, op⟩ := z
    have eS : S = W := Nat.eq_of_testBit_eq (fun j => by
      cases z : W.testBit j
      · cases y : S.testBit j
        · rfl
        · rw [q_rs_sub rs j y] at z; cases z
      · exact sub j z)
    subst eS
    exact ⟨n, _, e, (q_ce_w f e6 hN hl).1.1, rs⟩
  · obtain ⟨n, x, e, hx, rs⟩ := z
    obtain ⟨l, m, S1, p1, p2, p3, p4, p5, p6⟩ := q_rs_last hc h0 rs (fun j hj => hj)
    exact ⟨t + m, by omega, l, hW l p1, p1, m, S1, rfl, p3, p4, p5⟩
