/-! pairs: bills -/
def q_blf (τ : Nat → Int32) (t : Nat) (w : Int32) (s : Nat) : Bool := decide (1 ≤ s) && decide (nI (q_os τ (q_te t τ) (nI s + τ 3) t) = w)
theorem q_blf1 {τ : Nat → Int32} {t : Nat} {w : Int32} : q_bs (q_blf τ t w) 1 = 0 := by
  rw [show q_bs (q_blf τ t w) 1 = 0 ||| (if q_blf τ t w 0 = true then 2 ^ 0 else 0) from rfl]
  unfold q_blf
  rw [decide_eq_false (show ¬ 1 ≤ 0 by omega), Bool.false_and, if_neg (by decide)]
  rfl
theorem q_2p {N : Nat} (h : N ≤ 8) : 1 ≤ 2 ^ N ∧ 2 ^ N ≤ 256 := ⟨Nat.one_le_two_pow, (Nat.pow_le_pow_right (by omega) h : 2 ^ N ≤ 2 ^ 8)⟩
section Q78
variable {E : g_E} {d : Nat} {R : g_R} {σ : g_S} {τ : Nat → Int32}
theorem c_hasShops {b N : Nat} {x : Int32} (hb : g_Tw b) (e8 : σ b 8 = nI N) (hN : N ≤ 8) (hp : 0 ≤ x.toInt → x.toInt < ((2 ^ N : Nat) : Int) → R (some (.int 1)) σ) (hn : x.toInt < 0 ∨ ((2 ^ N : Nat) : Int) ≤ x.toInt → R (some (.int 0)) σ) : g_wp E (d + 1) 57 [.ref b, .int x] σ R := by
  have p := q_2p hN
  refine t57_0 hb ⟨fun c => hn (Or.inl ?_), fun c => ?_⟩
  · simp only [q_lt, Int32.reduceToInt] at c; exact c
  · rw [e8, q_sh1k N (by omega)]
    simp only [q_lt, q_le, Int32.reduceToInt] at c ⊢
    rw [nI_toInt (by omega)]
    exact ⟨fun c2 => hn (Or.inr c2), fun c2 => hp (by omega) (by omega)⟩
theorem m_hasShops {N : Nat} {x : Int32} (hN : N ≤ 8) (hp : 0 ≤ x.toInt → x.toInt < ((2 ^ N : Nat) : Int) → R (some (.int 1)) σ) (hn : x.toInt < 0 ∨ ((2 ^ N : Nat) : Int) ≤ x.toInt → R (some (.int 0)) σ) : g_wp E (d + 1) 107 [.long x.toInt64, .long 0, .long ((((1 : Int32) <<< (nI N &&& 31)) - 1).toInt64)] σ R := by
  have p := q_2p hN
  refine m_in 0 (((2 ^ N : Nat) : Int) - 1) rfl ?_ (fun c1 c2 => hp c1 (by omega)) (fun c => hn (by omega))
  rw [Int32.toInt_toInt64, q_sh1k N (by omega), show (1 : Int32) = nI 1 from rfl, q_nsub (by omega), nI_toInt (by omega)]
  omega
theorem c_bills_l {t : Nat} {w : Int32} (f : WT τ) (h4 : τ 4 ≠ 0) (ht : t < 73) (h : ∀ σ', (∀ a, (a < 21 ∨ 26 < a) → a ≠ 41 → a ≠ 42 → σ' a = σ a) → R (some (.int (nI (q_bs (q_blf τ t w) 7)))) σ') : ∀ u m s, m + u = 7 → 1 ≤ m → q_inv s τ → (∀ a, (a < 21 ∨ 26 < a) → a ≠ 41 → a ≠ 42 → s a = σ a) → g_g E (g_wp E (d + 3)) 89 57 [some (.ref 0), some (.int (nI t)), some (.int w), some (.int (nI (q_bs (q_blf τ t w) m))), some (.int (nI m))] [] s R := by
  intro u
  induction u with
  | zero =>
    intro m s hm m1 hi hs
    have e : m = 7 := by omega
    subst e
    exact t89_57 ⟨fun _ => h s hs, fun c => absurd (nI_lt (a := 6) (b := 7) (by omega) (by omega)) c⟩
  | succ u ih =>
    intro m s hm m1 hi hs
    refine t89_57 ⟨fun c => absurd c (nI_nlt (a := 6) (b := m) (by omega) (by omega)), fun _ s' es => ?_⟩
    have tr : TR s' 21 (q_yt τ m) := by rw [es]; exact hi.seas (by omega)
    refine c_openShops (Or.inr (Or.inl rfl)) tr (f.yt h4 (by omega)) ht (fun s2 k2 => ⟨_, rfl, ?_⟩)
    have z := ih (m + 1) s2 (by omega) (by omega) (q_inv.of (tr.low (fun a q1 q2 => k2 a (by omega) (by omega))) (by omega)) (fun a q1 q2 q3 => (k2 a q2 q3).trans (by rw [es]; exact (g_up_ne (by omega)).trans (hs a q1 q2 q3)))
    have e1 : q_at (q_yt τ m) t = q_os τ (q_te t τ) (nI m + τ 3) t := by
      unfold q_at
      rw [q_yt_c, if_neg (by decide), q_os_c q_yt_e f]
      unfold q_te q_tn
      rw [q_yt_4, q_yt_n (i := 1) (by omega) (by omega), q_yt_n (i := 2) (by omega) (by omega), q_yt_n (i := 3) (by omega) (by omega)]
    rw [show q_bs (q_blf τ t w) (m + 1) = q_bs (q_blf τ t w) m ||| (if q_blf τ t w m = true then 2 ^ m else 0) from rfl] at z
    unfold q_blf at z
    rw [decide_eq_true m1, Bool.true_and] at z
    dsimp only
    rw [e1, q_sh1k m (by omega), nI_or, nI_1]
    refine ⟨fun c => ?_, fun c => ?_⟩
    · rw [decide_eq_false c, if_neg (by decide), Nat.or_zero] at z
      exact z
    · rw [decide_eq_true (Classical.not_not.mp c), if_pos rfl] at z
      exact z
theorem m_bills_l {t : Nat} {w : Int32} (f : WT τ) (et : σ 72 = τ) (ht : t < 73) (h : ∀ σ', (∀ a, a ≠ 75 → σ' a = σ a) → R (some (.int (nI (q_bs (q_blf τ t w) 7)))) σ') : ∀ u m s, m + u = 7 → 1 ≤ m → (∀ a, a ≠ 75 → s a = σ a) → g_g E (g_wp E (d + 3)) 170 51 [some (.ref 68), some (.int (nI t)), some (.int w), some (.int (nI (q_bs (q_blf τ t w) m))), some (.int (nI m))] [] s R := by
  intro u
  induction u with
  | zero =>
    intro m s hm m1 hs
    have e : m = 7 := by omega
    subst e
    exact t170_51 ⟨fun _ => h s hs, fun c => absurd (nI_lt (a := 6) (b := 7) (by omega) (by omega)) c⟩
  | succ u ih =>
    intro m s hm m1 hs
    have s72 : s 72 = τ := (hs 72 (by omega)).trans et
    refine t170_51 ⟨fun c => absurd c (nI_nlt (a := 6) (b := m) (by omega) (by omega)), fun _ => ?_⟩
    rw [s72]
    refine m_lay s72 f (q_rg_s f ht (by omega)) ⟨rfl, m_openBy f ((g_dk_ne (by omega)).trans s72) ht q_lad_dk ⟨_, rfl, ?_⟩⟩
    have z := ih (m + 1) (g_dk s (q_cell τ (q_e t (τ 1) (τ 2)) (nI m + τ 3) (q_m (q_e t (τ 1) (τ 2)) (nI m + τ 3))) (q_L τ (q_e t (τ 1) (τ 2)) (nI m + τ 3))) (by omega) (by omega) (fun a q => (g_dk_ne q).trans (hs a q))
    rw [show q_bs (q_blf τ t w) (m + 1) = q_bs (q_blf τ t w) m ||| (if q_blf τ t w m = true then 2 ^ m else 0) from rfl] at z
    unfold q_blf at z
    rw [decide_eq_true m1, Bool.true_and] at z
    dsimp only
    rw [q_sh1k m (by omega), nI_or, nI_1, show (0 : Int32) = nI 0 from rfl, nI_or, Nat.or_zero]
    refine ⟨fun c => ?_, fun c => ?_⟩
    · rw [decide_eq_false c, if_neg (by decide), Nat.or_zero] at z
      exact z
    · rw [decide_eq_true (Classical.not_not.mp c), if_pos rfl] at z
      exact z
end Q78
theorem p_bills {E : g_E} (x1 x2 : Int32) : g_pr E 89 170 [.int x1, .int x2] := by
  refine ⟨fun μ => if (μ 72 4).toInt ≤ 0 then -1000002 else if x1.toInt < 0 ∨ 72 < x1.toInt ∨ x2.toInt < 0 ∨ ((2 ^ (μ 72 6).toNatClampNeg : Nat) : Int) ≤ x2.toInt then -1000001 else nI (q_bs (q_blf (μ 72) x1.toNatClampNeg x2) 7), fun μ => μ, fun σ μ R hc hw h => ?_, fun σ R hw h => ?_, fun μ h => h⟩
  · have ht := q_there hc hw
    dsimp only at h
    have e8 := hc.tr.2.2.2.2.2.2.2.1
    obtain ⟨n, n1, n2, n3, n4⟩ := hw.wt.2.2.2.2.2.1
    rw [n2, q_cl (by omega)] at h
    refine t89_0 ⟨fun c => c_isSlot (fun a1 a2 => ⟨_, rfl, q_1 (c_hasShops (Or.inl rfl) (e8.trans n2) n1 (fun a3 a4 => ⟨_, rfl, n_1 ?_⟩) (fun a3 => ⟨_, rfl, n_0 ?_⟩))⟩) (fun a1 => ⟨_, rfl, q_0 ?_⟩), fun c => ?_⟩
    · rw [ht] at c
      obtain ⟨t, ht', rfl⟩ := q_ix (x := x1) (n := 73) (by omega) (by omega) (by omega)
      rw [q_cl (by omega)] at h
      have h4 : μ 72 4 ≠ 0 := fun z => by rw [z] at c; exact c (by decide)
      repeat (first | rw [if_neg (by omega)] at h)
      refine c_tryClear (d := 16) hc.tr ⟨rfl, ?_⟩
      have z := c_bills_l (E := E) (d := 16) (σ := g_tc0 σ) (τ := μ 72) (R := R) (t := t) (w := x2) hw.wt h4 ht' (fun σ' k' => h σ' (hc.low (fun a q1 q2 q3 q4 q5 => (k' a (by omega) (by omega) (by omega)).trans (g_tc0_ne (by omega)))) (fun a ha => (k' a (by omega) (by omega) (by omega)).trans (g_tc0_ne (by omega)))) 6 1 _ (by omega) (by omega) (q_inv.ini hc.tr h4) (fun _ _ _ _ => rfl)
      rw [q_blf1] at z
      exact z
    · rw [ht] at c
      repeat (first | rw [if_pos (by omega)] at h | rw [if_neg (by omega)] at h)
      exact h σ hc (fun _ _ => rfl)
    · rw [ht] at c
      repeat (first | rw [if_pos (by omega)] at h | rw [if_neg (by omega)] at h)
      exact h σ hc (fun _ _ => rfl)
    · rw [ht] at c
      repeat (first | rw [if_pos (by omega)] at h | rw [if_neg (by omega)] at h)
      exact h σ hc (fun _ _ => rfl)
  · dsimp only at h
    obtain ⟨n, n1, n2, n3, n4⟩ := hw.wt.2.2.2.2.2.1
    rw [n2, q_cl (by omega)] at h
    refine t170_0 (fun s es => m_isThere (fun h4 => ⟨_, rfl, n_1 (m_isSlot (fun a1 a2 => ⟨_, rfl, q_1 ?_⟩) (fun a1 => ⟨_, rfl, q_0 ?_⟩))⟩) (fun h4 => ⟨_, rfl, n_0 ?_⟩))
    all_goals subst es
    · change 0 < (mo σ 72 4).toInt at h4
      have e72 : g_up σ 68 0 0 72 = mo σ 72 := rfl
      rw [e72, n2]
      refine m_hasShops n1 (fun a3 a4 => ⟨_, rfl, n_1 ?_⟩) (fun a3 => ⟨_, rfl, n_0 ?_⟩)
      · obtain ⟨t, ht', rfl⟩ := q_ix (x := x1) (n := 73) (by omega) (by omega) (by omega)
        rw [q_cl (by omega)] at h
        repeat (first | rw [if_neg (by omega)] at h)
        have z := m_bills_l (E := E) (d := 16) (σ := g_up σ 68 0 0) (τ := mo σ 72) (R := R) (t := t) (w := x2) hw.wt e72 ht' (fun σ' k' => h σ' (fun a ha => (k' a (by omega)).trans (g_up_ne (by omega))) (((Sc.rf.up rfl).d75 k').ce)) 6 1 _ (by omega) (by omega) (fun _ _ => rfl)
        rw [q_blf1] at z
        exact z
      · repeat (first | rw [if_pos (by omega)] at h | rw [if_neg (by omega)] at h)
        exact h _ (lo_up (fun _ _ => rfl) (by omega)) (Sc.rf.up rfl).ce
    · change 0 < (mo σ 72 4).toInt at h4
      repeat (first | rw [if_pos (by omega)] at h | rw [if_neg (by omega)] at h)
      exact h _ (lo_up (fun _ _ => rfl) (by omega)) (Sc.rf.up rfl).ce
    · change (mo σ 72 4).toInt ≤ 0 at h4
      repeat (first | rw [if_pos (by omega)] at h | rw [if_neg (by omega)] at h)
      exact h _ (lo_up (fun _ _ => rfl) (by omega)) (Sc.rf.up rfl).ce
