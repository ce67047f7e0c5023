/-! pairs: kind, as, count -/
theorem q_kind : ∀ i, i < 6 → 1 ≤ i → (0 ≤ (q_sort (nI i)).toInt ∧ (q_sort (nI i)).toInt < 5) ∧ g_at0 (g_roL 2) (q_sort (nI i)).toNatClampNeg 0 = nI i := by decide
def q_isOf (is of : Int32) : Bool := decide (of = 0) || decide (is = of) || (decide (of = 1) && decide (is < 4)) || (decide (of = 2) && decide (is = 3)) || (decide (of = 4) && decide (is = 5))
theorem q_isOf_c : ∀ i, i < 6 → 1 ≤ i → ∀ j, j < 6 → (((g_at0 (g_roL 3) i 0) >>> (nI j &&& 31)) &&& 1 = 1 ↔ q_isOf (nI i) (nI j) = true) := by decide
section Q66
variable {E : g_E} {d : Nat} {R : g_R} {σ : g_S}
theorem c_hasShop {b : Nat} {x : Int32} (hb : g_Tw b) (hp : 0 ≤ x.toInt → x.toInt < (σ b 8).toInt → R (some (.int 1)) σ) (hn : x.toInt < 0 ∨ (σ b 8).toInt ≤ x.toInt → R (some (.int 0)) σ) : g_wp E (d + 1) 56 [.ref b, .int x] σ R :=
  t56_0 hb ⟨fun c => hn (Or.inl (by simp only [q_lt, q_le, Int32.reduceToInt] at c; omega)), fun c => ⟨fun c2 => hn (Or.inr (by simp only [q_lt, q_le, Int32.reduceToInt] at c2; omega)), fun c2 => hp (by simp only [q_lt, q_le, Int32.reduceToInt] at c; omega) (by simp only [q_lt, q_le, Int32.reduceToInt] at c2; omega)⟩⟩
theorem c_kindOf {b k : Nat} {τ : Nat → Int32} (hb : g_Tw b) (w : TR σ b τ) (f : WT τ) (hk : nI k < τ 6) (hk8 : k < 8) (h : R (some (.int (τ (88 + 3 * k)))) σ) : g_wp E (d + 1) 59 [.ref b, .int (nI k)] σ R := by
  obtain ⟨n, n1, n2, n3, n4⟩ := f.2.2.2.2.2.1
  have hkn : k < n := by rw [n2, q_lt8 hk8 n1] at hk; exact hk
  obtain ⟨⟨i, i1, i2, i3⟩, -, -⟩ := n3 k hkn
  have e := (w.2.2.2.2.2.2.2.2.2.2 k hk8 hk).1
  have q := q_kind i (by omega) i1
  refine t59_0 hb ⟨vp_in_nI hk8 (by omega), ?_⟩
  rw [q_cl (by omega), e, i3]
  refine ⟨vp_in_iff.mpr ⟨q.1.1, q.1.2⟩, ?_⟩
  rw [show g_ro E 2 (q_sort (nI i)).toNatClampNeg = nI i from q.2, ← i3]
  exact h
theorem m_kind0 {k : Nat} (hk : k < 8) (h : R (some (.int (σ 72 (88 + 3 * k)))) σ) : g_wp E (d + 1) 152 [.ref 68, .int (nI k)] σ R := by
  have e : (88 : Int32) + (3 : Int32) * nI k = nI (88 + 3 * k) := by
    rw [show (88 : Int32) = nI 88 from rfl, show (3 : Int32) = nI 3 from rfl, pk_mul, nI_add]
  refine t152_0 ?_
  rw [e, q_cl (by omega)]
  exact ⟨vp_in_nI (by omega) (by omega), h⟩
theorem c_isOfKind {i j : Nat} (hi : i < 6) (i1 : 1 ≤ i) (hj : j < 6) (hp : q_isOf (nI i) (nI j) = true → R (some (.int 1)) σ) (hn : ¬ q_isOf (nI i) (nI j) = true → R (some (.int 0)) σ) : g_wp E (d + 1) 1 [.int (nI i), .int (nI j)] σ R := by
  have q := q_isOf_c i hi i1 j hj
  refine t1_0 ⟨vp_in_nI hi (by omega), ?_⟩
  rw [q_cl (by omega)]
  exact ⟨fun c => hn (fun z => c (q.mpr z)), fun c => hp (q.mp (Classical.not_not.mp c))⟩
theorem m_isOf_l {O : g_O} {x y : Int32} (h0 : ¬ y = 0) (h1 : ¬ x = y) (h2 : ¬ (y = 1 ∧ x < 4)) (hp : q_isOf x y = true → R (some (.int 1)) σ) (hn : ¬ q_isOf x y = true → R (some (.int 0)) σ) : g_g E O 174 19 [some (.int x), some (.int y)] [] σ R := by
  unfold q_isOf at hp hn
  simp only [Bool.or_eq_true, Bool.and_eq_true, decide_eq_true_eq] at hp hn
  refine t174_19 ⟨fun c => ⟨fun c2 => hn (fun z => ?_), fun c2 => ⟨fun c3 => hn (fun z => ?_), fun c3 => hp (Or.inr ⟨Classical.not_not.mp c2, Classical.not_not.mp c3⟩)⟩⟩, fun c => ⟨fun c2 => hp (Or.inl (Or.inr ⟨Classical.not_not.mp c, c2⟩)), fun c2 => ⟨fun c3 => hn (fun z => ?_), fun c3 => absurd ((Classical.not_not.mp c).symm.trans (Classical.not_not.mp c3)) (by decide)⟩⟩⟩
  · rcases z with (((z | z) | z) | z) | z
    · exact h0 z
    · exact h1 z
    · exact h2 z
    · exact c z.1
    · exact c2 z.1
  · rcases z with (((z | z) | z) | z) | z
    · exact h0 z
    · exact h1 z
    · exact h2 z
    · exact c z.1
    · exact c3 z.2
  · rcases z with (((z | z) | z) | z) | z
    · exact h0 z
    · exact h1 z
    · exact h2 z
    · exact c2 z.2
    · exact c3 z.1
theorem m_isOf {x y : Int32} (hp : q_isOf x y = true → R (some (.int 1)) σ) (hn : ¬ q_isOf x y = true → R (some (.int 0)) σ) : g_wp E (d + 1) 174 [.int x, .int y] σ R := by
  have hp' := hp
  unfold q_isOf at hp'
  simp only [Bool.or_eq_true, Bool.and_eq_true, decide_eq_true_eq] at hp'
  refine t174_0 ⟨fun c => hp' (Or.inl (Or.inl (Or.inl (Or.inl c)))), fun c => ⟨fun c2 => hp' (Or.inl (Or.inl (Or.inl (Or.inr c2)))), fun c2 => ⟨fun c3 => m_isOf_l c c2 (fun z => c3 z.1) hp hn, fun c3 => ⟨fun c4 => hp' (Or.inl (Or.inl (Or.inr ⟨Classical.not_not.mp c3, c4⟩))), fun c4 => m_isOf_l c c2 (fun z => c4 z.2) hp hn⟩⟩⟩⟩
theorem c_present_l {O : g_O} (h : R (some (.int (q_sm (fun i => if σ 2 i = -1 then 0 else 1) 8))) σ) : ∀ k i, i + k = 8 → g_g E O 33 13 [none, some (.int (q_sm (fun i => if σ 2 i = -1 then 0 else 1) i)), some (.ref 2), some (.int 8), some (.int (nI i)), none] [] σ R := by
  intro k
  induction k with
  | zero =>
    intro i hi
    have e : i = 8 := by omega
    subst e
    exact t33_13 ⟨fun _ => h, fun c => absurd (nI_le (a := 8) (b := 8) (by omega) (by omega)) c⟩
  | succ k ih =>
    intro i hi
    refine t33_13 ⟨fun c => absurd c (nI_ge (b := 8) (by omega) (by omega)), fun c => ⟨vp_in_nI (by omega) (by omega), ?_⟩⟩
    rw [q_cl (by omega), nI_1]
    have e := ih (i + 1) (by omega)
    unfold q_sm at e
    refine ⟨fun c => ?_, fun c => ?_⟩
    · rw [if_neg c] at e; exact e
    · rw [if_pos (Classical.not_not.mp c)] at e; exact e
theorem c_present (h : R (some (.int (q_sm (fun i => if σ 2 i = -1 then 0 else 1) 8))) σ) : g_wp E (d + 1) 33 [.ref 1] σ R :=
  t33_0 (c_present_l h 8 0 (by omega))
theorem m_present_l {O : g_O} (hl : ∀ i, i < 8 → σ 69 i = -1 ∨ σ 69 i = 0 ∨ σ 69 i = 1 ∨ σ 69 i = 2) (h : R (some (.int (q_sm (fun i => if σ 69 i = -1 then 0 else 1) 8))) σ) : ∀ k i, i + k = 8 → g_g E O 184 50 [some (.ref 68), none, some (.int (q_sm (fun i => if σ 69 i = -1 then 0 else 1) i)), some (.int (nI i))] [] σ R := by
  intro k
  induction k with
  | zero =>
    intro i hi
    have e : i = 8 := by omega
    subst e
    exact t184_50 ⟨fun _ => h, fun c => absurd (nI_le (a := 8) (b := 8) (by omega) (by omega)) c⟩
  | succ k ih =>
    intro i hi
    refine t184_50 ⟨fun c => absurd c (nI_ge (b := 8) (by omega) (by omega)), fun c => ⟨vp_in_nI (by omega) (by omega), ?_⟩⟩
    rw [q_cl (by omega), nI_1]
    have e := ih (i + 1) (by omega)
    unfold q_sm at e
    have q := q_lane (hl i (by omega))
    refine ⟨fun c => ?_, fun c => ?_⟩
    · rw [if_pos (q.2.mp c)] at e; exact e
    · rw [if_neg (fun z => c (q.2.mpr z))] at e; exact e
theorem m_walls_l {O : g_O} (h : R (some (.int (nI (q_walls (σ 72) 81)))) σ) : ∀ k i, i + k = 81 → g_g E O 184 91 [some (.ref 68), none, some (.int (nI (q_walls (σ 72) i))), some (.int (nI i))] [] σ R := by
  intro k
  induction k with
  | zero =>
    intro i hi
    have e : i = 81 := by omega
    subst e
    exact t184_91 ⟨fun _ => h, fun c => absurd (nI_le (a := 81) (b := 81) (by omega) (by omega)) c⟩
  | succ k ih =>
    intro i hi
    have e7 : (7 : Int32) + nI i = nI (7 + i) := nI_add 7 i
    refine t184_91 ⟨fun c => absurd c (nI_ge (b := 81) (by omega) (by omega)), fun c => ⟨by rw [e7]; exact vp_in_nI (by omega) (by omega), ?_⟩⟩
    rw [e7, q_cl (by omega), nI_1, nI_1, show (0 : Int32) = nI 0 from rfl, nI_add]
    have e := ih (i + 1) (by omega)
    unfold q_walls at e
    refine ⟨fun c => ?_, fun c => ?_⟩
    · rw [if_neg c] at e; exact e
    · rw [if_pos (Classical.not_not.mp c)] at e; exact e
end Q66
theorem p_kind {E : g_E} (x1 : Int32) : g_pr E 93 175 [.int x1] := by
  refine ⟨fun μ => if x1.toInt < 0 ∨ (μ 72 6).toInt ≤ x1.toInt then -1000001 else μ 72 (88 + 3 * x1.toNatClampNeg), fun μ => μ, fun σ μ R hc hw h => ?_, fun σ R hw h => ?_, fun μ h => h⟩
  · dsimp only at h
    have e8 := hc.tr.2.2.2.2.2.2.2.1
    obtain ⟨n, n1, n2, n3, n4⟩ := hw.wt.2.2.2.2.2.1
    have e6 : (μ 72 6).toInt = n := by rw [n2, nI_toInt (by omega)]
    refine t93_0 (c_hasShop (Or.inl rfl) (fun a1 a2 => ⟨_, rfl, q_1 ?_⟩) (fun a1 => ⟨_, rfl, q_0 ?_⟩))
    · rw [e8] at a2
      rw [if_neg (by omega)] at h
      obtain ⟨k, hk, rfl⟩ := q_ix (x := x1) (n := 8) (by omega) (by omega) (by omega)
      rw [q_cl (by omega)] at h
      exact c_kindOf (Or.inl rfl) hc.tr hw.wt (q_lt.mpr a2) hk ⟨_, rfl, h σ hc (fun _ _ => rfl)⟩
    · rw [e8] at a1
      rw [if_pos (by omega)] at h
      exact h σ hc (fun _ _ => rfl)
  · dsimp only at h
    obtain ⟨n, n1, n2, n3, n4⟩ := hw.wt.2.2.2.2.2.1
    have e6 : (mo σ 72 6).toInt = n := by rw [n2, nI_toInt (by omega)]
    refine t175_0 (fun s es => m_isShop ⟨n, n1, by rw [es]; exact n2⟩ (fun a1 a2 => ⟨_, rfl, q_1 ?_⟩) (fun a1 => ⟨_, rfl, q_0 ?_⟩))
    · subst es
      change x1.toInt < (mo σ 72 6).toInt at a2
      rw [if_neg (by omega)] at h
      obtain ⟨k, hk, rfl⟩ := q_ix (x := x1) (n := 8) (by omega) (by omega) (by omega)
      rw [q_cl (by omega)] at h
      exact m_kind0 hk ⟨_, rfl, h _ (lo_up (fun _ _ => rfl) (by omega)) (Sc.rf.up rfl).ce⟩
    · subst es
      change x1.toInt < 0 ∨ (mo σ 72 6).toInt ≤ x1.toInt at a1
      rw [if_pos a1] at h
      exact h _ (lo_up (fun _ _ => rfl) (by omega)) (Sc.rf.up rfl).ce
theorem p_as {E : g_E} (x1 x2 : Int32) : g_pr E 94 176 [.int x1, .int x2] := by
  refine ⟨fun μ => if x1.toInt < 0 ∨ (μ 72 6).toInt ≤ x1.toInt ∨ x2.toInt < 0 ∨ 5 < x2.toInt then -1000001 else if q_isOf (μ 72 (88 + 3 * x1.toNatClampNeg)) x2 = true then x1 else -1000010 - 3, fun μ => if x1.toInt < 0 ∨ (μ 72 6).toInt ≤ x1.toInt ∨ x2.toInt < 0 ∨ 5 < x2.toInt then μ else g_up μ 68 1 (if q_isOf (μ 72 (88 + 3 * x1.toNatClampNeg)) x2 = true then 0 else 3), fun σ μ R hc hw h => ?_, fun σ R hw h => ?_, fun μ h => ?_⟩
  · dsimp only at h
    have e8 := hc.tr.2.2.2.2.2.2.2.1
    obtain ⟨n, n1, n2, n3, n4⟩ := hw.wt.2.2.2.2.2.1
    have e6 : (μ 72 6).toInt = n := by rw [n2, nI_toInt (by omega)]
    refine t94_0 (c_hasShop (Or.inl rfl) (fun a1 a2 => ⟨_, rfl, q_1 ⟨fun c1 => ?_, fun c1 => ⟨fun c2 => ?_, fun c2 => ?_⟩⟩⟩) (fun a1 => ⟨_, rfl, q_0 ?_⟩))
    · simp only [q_lt, q_le, Int32.reduceToInt] at c1
      repeat (first | rw [if_pos (by omega)] at h | rw [if_neg (by omega)] at h)
      exact h σ hc (fun _ _ => rfl)
    · simp only [q_lt, q_le, Int32.reduceToInt] at c1 c2
      rw [e8] at a2
      obtain ⟨k, hk, rfl⟩ := q_ix (x := x1) (n := 8) (by omega) (by omega) (by omega)
      obtain ⟨j, hj, rfl⟩ := q_ix (x := x2) (n := 6) (by omega) (by omega) (by omega)
      rw [q_cl (by omega)] at h
      have hk' := q_lt.mpr a2
      have hkn : k < n := by rw [n2, q_lt8 hk n1] at hk'; exact hk'
      obtain ⟨⟨i, i1, i2, i3⟩, -, -⟩ := n3 k hkn
      rw [i3] at h
      refine c_kindOf (Or.inl rfl) hc.tr hw.wt hk' hk ⟨_, rfl, ?_⟩
      rw [i3]
      refine c_isOfKind (by omega) i1 hj (fun q => ⟨_, rfl, q_1 (c_fine ⟨_, rfl, ?_⟩)⟩) (fun q => ⟨_, rfl, q_0 (c_found ⟨_, rfl, ?_⟩)⟩)
      · repeat (first | rw [if_pos q] at h | rw [if_neg (by omega)] at h)
        exact h _ (hc.stat 0) (hi_up (fun _ _ => rfl) (by omega))
      · repeat (first | rw [if_neg q] at h | rw [if_neg (by omega)] at h)
        exact h _ (hc.stat 3) (hi_up (fun _ _ => rfl) (by omega))
    · simp only [q_lt, q_le, Int32.reduceToInt] at c1 c2
      repeat (first | rw [if_pos (by omega)] at h | rw [if_neg (by omega)] at h)
      exact h σ hc (fun _ _ => rfl)
    · rw [e8] at a1
      repeat (first | rw [if_pos (by omega)] at h | rw [if_neg (by omega)] at h)
      exact h σ hc (fun _ _ => rfl)
  · dsimp only at h
    obtain ⟨n, n1, n2, n3, n4⟩ := hw.wt.2.2.2.2.2.1
    have e6 : (mo σ 72 6).toInt = n := by rw [n2, nI_toInt (by omega)]
    refine t176_0 (fun s es => m_isShop ⟨n, n1, by rw [es]; exact n2⟩ (fun a1 a2 => ⟨_, rfl, q_1 (m_in 0 5 rfl rfl (fun a3 a4 => ⟨_, rfl, n_1 (fun s2 es2 => ?_)⟩) (fun a3 => ⟨_, rfl, n_0 ?_⟩))⟩) (fun a1 => ⟨_, rfl, q_0 ?_⟩))
    · subst es; subst es2
      change x1.toInt < (mo σ 72 6).toInt at a2
      obtain ⟨k, hk, rfl⟩ := q_ix (x := x1) (n := 8) (by omega) (by omega) (by omega)
      rw [q_cl (by omega)] at h
      refine m_kind0 hk ⟨_, rfl, m_isOf (fun q => ⟨_, rfl, q_1 ?_⟩) (fun q => ⟨_, rfl, q_0 (m_found ⟨_, rfl, ?_⟩)⟩)⟩
      · change q_isOf (mo σ 72 (88 + 3 * k)) x2 = true at q
        repeat (first | rw [if_pos q] at h | rw [if_neg (by omega)] at h)
        exact h _ (lo_up (lo_up (fun _ _ => rfl) (by omega)) (by omega)) CE.st
      · change ¬ q_isOf (mo σ 72 (88 + 3 * k)) x2 = true at q
        repeat (first | rw [if_neg q] at h | rw [if_neg (by omega)] at h)
        exact h _ (lo_up (lo_up (lo_up (fun _ _ => rfl) (by omega)) (by omega)) (by omega)) CE.st2
    · subst es
      repeat (first | rw [if_pos (by omega)] at h | rw [if_neg (by omega)] at h)
      exact h _ (lo_up (fun _ _ => rfl) (by omega)) (Sc.rf.up rfl).ce
    · subst es
      change x1.toInt < 0 ∨ (mo σ 72 6).toInt ≤ x1.toInt at a1
      repeat (first | rw [if_pos (by omega)] at h | rw [if_neg (by omega)] at h)
      exact h _ (lo_up (fun _ _ => rfl) (by omega)) (Sc.rf.up rfl).ce
  · dsimp only
    split
    · exact h
    · exact h.stat _
theorem p_count {E : g_E} (x1 : Int32) : g_pr E 97 184 [.int x1] := by
  refine ⟨fun μ => if x1.toInt < 0 ∨ 5 < x1.toInt then -1000001 else if x1 = 0 then q_sm (fun i => if μ 69 i = -1 then 0 else 1) 8 else if x1 = 1 then μ 72 6 else if x1 = 2 then nI (q_walls (μ 72) 81) else if x1 = 3 then q_sm (fun t => μ 72 (112 + t)) 73 else if x1 = 4 then μ 72 4 else μ 68 8, fun μ => μ, fun σ μ R hc hw h => ?_, fun σ R hw h => ?_, fun μ h => h⟩
  · dsimp only at h
    have t := hc.tr
    refine t97_0 ⟨fun c => ?_, fun c => ?_, fun c => ?_, fun c => ?_, fun c => ?_, fun c => ?_, fun c => ?_, trivial⟩
    · rw [if_pos c] at h; exact h σ hc (fun _ _ => rfl)
    · subst c
      rw [if_neg (by decide), if_pos rfl] at h
      refine c_present ⟨_, rfl, q_R (h σ hc (fun _ _ => rfl)) (q_sm_c (fun i hi => ?_))⟩
      rw [hc.1 i hi]
    · subst c
      rw [if_neg (by decide), if_neg (by decide), if_pos rfl] at h
      exact q_R (h σ hc (fun _ _ => rfl)) t.2.2.2.2.2.2.2.1
    · subst c
      rw [if_neg (by decide), if_neg (by decide), if_neg (by decide), if_pos rfl] at h
      exact q_R (h σ hc (fun _ _ => rfl)) t.2.2.2.2.2.2.1
    · subst c
      rw [if_neg (by decide), if_neg (by decide), if_neg (by decide), if_neg (by decide), if_pos rfl] at h
      exact c_cloudy (Or.inl rfl) ⟨_, rfl, q_R (h σ hc (fun _ _ => rfl)) (q_sm_c (fun i hi => t.2.2.2.2.2.2.2.2.2.1 i hi))⟩
    · subst c
      rw [if_neg (by decide), if_neg (by decide), if_neg (by decide), if_neg (by decide), if_neg (by decide), if_pos rfl] at h
      exact q_R (h σ hc (fun _ _ => rfl)) t.2.2.2.1
    · subst c
      rw [if_neg (by decide), if_neg (by decide), if_neg (by decide), if_neg (by decide), if_neg (by decide), if_neg (by decide)] at h
      exact q_R (h σ hc (fun _ _ => rfl)) hc.2.2.2.2.1
  · dsimp only at h
    refine t184_0 (fun s es => ?_)
    subst es
    have g := h _ (lo_up (v := 0) (j := 0) (fun _ _ => rfl) (show 68 ≤ 68 by omega)) (Sc.rf.up rfl).ce
    refine ⟨fun c => ?_, fun c => ?_, fun c => ?_, fun c => ?_, fun c => ?_, fun c => ?_, fun c => ?_, trivial⟩
    · rw [if_pos c] at g; exact g
    · subst c
      rw [if_neg (by decide), if_pos rfl] at g
      exact m_present_l (σ := g_up σ 68 0 0) (fun i hi => hw.1 i hi) g 8 0 (by omega)
    · subst c
      rw [if_neg (by decide), if_neg (by decide), if_pos rfl] at g
      exact g
    · subst c
      rw [if_neg (by decide), if_neg (by decide), if_neg (by decide), if_pos rfl] at g
      exact m_walls_l g 81 0 (by omega)
    · subst c
      rw [if_neg (by decide), if_neg (by decide), if_neg (by decide), if_neg (by decide), if_pos rfl] at g
      exact m_clouds ⟨_, rfl, g⟩
    · subst c
      rw [if_neg (by decide), if_neg (by decide), if_neg (by decide), if_neg (by decide), if_neg (by decide), if_pos rfl] at g
      exact g
    · subst c
      rw [if_neg (by decide), if_neg (by decide), if_neg (by decide), if_neg (by decide), if_neg (by decide), if_neg (by decide)] at g
      exact g
