/-! pairs: thief -/
section Q88
variable {E : g_E} {d : Nat} {R : g_R} {σ : g_S} {τ : Nat → Int32}
theorem m_thf_bwd {a s b t N : Nat} (et : σ 72 = τ) (f : WT τ) (e6 : τ 6 = nI N) (hN : N ≤ 8) (hb : b < 81) (hst : s ≤ t) (ht : t < 73) (h : ∀ s', (∀ x, x ≠ 75 → x ≠ 78 → x ≠ 79 → s' x = σ x) → R (some (.int (q_tha τ a s b t))) s') : ∀ g u st, u = s + g → u ≤ t → (∀ x, x ≠ 78 → x ≠ 79 → st x = σ x) → q_fwd st τ a s t → q_bwd st τ b t u → g_g E (g_wp E (d + 4)) 168 170 [some (.ref 68), none, some (.int (nI s)), some (.int (nI b)), some (.int (nI t)), some (.int (nI u)), none, none, none] [] st R := by
  intro g
  induction g with
  | zero =>
    intro u st hu hut fr fw bw
    have eu : u = s := by omega
    subst eu
    have e1 : (81 : Int32) * nI t + nI b = nI (81 * t + b) := by
      rw [show (81 : Int32) = nI 81 from rfl, pk_mul, nI_add]
    refine t168_170 ⟨fun _ => ?_, fun q => absurd (nI_le (Nat.le_refl u) (by omega)) q⟩
    rw [e1, q_cl (by omega), fw t b (by omega) hb]
    refine ⟨vp_in_nI (by omega) (by omega), fun q => ?_, fun q => ?_⟩
    · have y := q_ne0.mp q
      refine m_sum (d := d) (σ := st) ((fr 72 (by omega) (by omega)).trans et) f e6 hN hst ht fw bw (fun s' k' => ?_) (t + 1 - u) u st 0 (by omega) (Nat.le_refl u) (fun _ _ => rfl) (fun k => ?_)
      · have z := h s' (fun x q1 q2 q3 => (k' x q1).trans (fr x q2 q3))
        unfold q_tha at z
        rw [if_pos (q_pd_t y.2.2), e6, q_cl (by omega)] at z
        exact z
      · rw [Nat.zero_testBit]
        refine (q_pd_f (fun w => ?_)).symm
        obtain ⟨-, v, x, p1, p2, -⟩ := w
        omega
    · have z := h st (fun x q1 q2 q3 => fr x q2 q3)
      unfold q_tha at z
      rw [if_neg (fun y => q (q_ne0.mpr ⟨hst, Nat.le_refl t, q_pd_iff.mp y⟩))] at z
      exact z
  | succ g ih =>
    intro u st hu hut fr fw bw
    cases u with
    | zero => omega
    | succ u =>
      refine t168_170 ⟨fun q => absurd q (nI_ge (by omega) (by omega)), fun _ => ?_⟩
      rw [nI_pred, q_m1, nI_pred]
      refine m_spread (d := d + 1) ((fr 72 (by omega) (by omega)).trans et) (Or.inr rfl) (by omega) (by omega) (by omega) (fun s2 k2 p2 => ⟨rfl, ?_⟩)
      refine ih u s2 (by omega) (by omega) (fun x q1 q2 => (k2 x q2).trans (fr x q1 q2)) ?_ (bw.step (by omega) ht p2)
      unfold q_fwd at fw ⊢
      rw [k2 78 (by omega)]; exact fw
theorem m_thf_fwd {a s b t : Nat} (et : σ 72 = τ) (hst : s ≤ t) (ht : t < 73) (h : ∀ s', (∀ x, x ≠ 78 → x ≠ 79 → s' x = σ x) → q_fwd s' τ a s t → q_bwd s' τ b t t → g_g E (g_wp E (d + 3)) 168 170 [some (.ref 68), none, some (.int (nI s)), some (.int (nI b)), some (.int (nI t)), some (.int (nI t)), none, none, none] [] s' R) : ∀ g u st, u + g = t → s ≤ u → (∀ x, x ≠ 78 → x ≠ 79 → st x = σ x) → q_fwd st τ a s u → q_bwd st τ b t t → g_g E (g_wp E (d + 3)) 168 139 [some (.ref 68), none, some (.int (nI s)), some (.int (nI b)), some (.int (nI t)), some (.int (nI u)), none, none, none] [] st R := by
  intro g
  induction g with
  | zero =>
    intro u st hu hs fr fw bw
    have eu : u = t := by omega
    subst eu
    exact t168_139 ⟨fun _ => h st fr fw bw, fun q => absurd (nI_le (Nat.le_refl u) (by omega)) q⟩
  | succ g ih =>
    intro u st hu hs fr fw bw
    refine t168_139 ⟨fun q => absurd q (nI_ge (by omega) (by omega)), fun _ => ?_⟩
    rw [nI_1]
    refine m_spread (d := d) ((fr 72 (by omega) (by omega)).trans et) (Or.inl rfl) (by omega) (by omega) (by omega) (fun s2 k2 p2 => ⟨rfl, ?_⟩)
    refine ih (u + 1) s2 (by omega) (by omega) (fun x q1 q2 => (k2 x q1).trans (fr x q1 q2)) (fw.step hs (by omega) p2) ?_
    unfold q_bwd at bw ⊢
    rw [k2 79 (by omega)]; exact bw
theorem m_thf_ini {O : g_O} {a s b t : Nat} (ha : a < 81) (hs : s < 73) (hb : b < 81) (ht : t < 73) (h : ∀ st, (∀ x, x ≠ 78 → x ≠ 79 → st x = σ x) → (∀ j, j < 5913 → st 78 j = if j = 81 * s + a then 1 else 0) → (∀ j, j < 5913 → st 79 j = if j = 81 * t + b then 1 else 0) → g_g E O 168 139 [some (.ref 68), none, some (.int (nI s)), some (.int (nI b)), some (.int (nI t)), some (.int (nI s)), none, none, none] [] st R) : ∀ g k st, k + g = 5913 → (∀ x, x ≠ 78 → x ≠ 79 → st x = σ x) → (∀ j, j < k → st 78 j = if j = 81 * s + a then 1 else 0) → (∀ j, j < k → st 79 j = if j = 81 * t + b then 1 else 0) → g_g E O 168 75 [some (.ref 68), some (.int (nI a)), some (.int (nI s)), some (.int (nI b)), some (.int (nI t)), some (.int (nI k)), none, none, none] [] st R := by
  intro g
  induction g with
  | zero =>
    intro k st hk fr f8 f9
    have e : k = 5913 := by omega
    subst e
    exact t168_75 ⟨fun _ => h st fr f8 f9, fun q => absurd (nI_le (a := 5913) (b := 5913) (by omega) (by omega)) q⟩
  | succ g ih =>
    intro k st hk fr f8 f9
    have e1 : (81 : Int32) * nI s + nI a = nI (81 * s + a) := by
      rw [show (81 : Int32) = nI 81 from rfl, pk_mul, nI_add]
    have e2 : (81 : Int32) * nI t + nI b = nI (81 * t + b) := by
      rw [show (81 : Int32) = nI 81 from rfl, pk_mul, nI_add]
    have nx : ∀ v w : Int32, v = (if k = 81 * s + a then 1 else 0) → w = (if k = 81 * t + b then 1 else 0) → g_g E O 168 75 [some (.ref 68), some (.int (nI a)), some (.int (nI s)), some (.int (nI b)), some (.int (nI t)), some (.int (nI (k + 1))), none, none, none] [] (g_up (g_up st 78 k v) 79 k w) R := fun v w ev ew => by
      refine ih (k + 1) _ (by omega) (fun x q1 q2 => (g_up_ne q2).trans ((g_up_ne q1).trans (fr x q1 q2))) (fun j hj => ?_) (fun j hj => ?_)
      · rw [congrFun (g_up_ne (by omega)) j]
        by_cases z : j = k
        · subst z; rw [g_up_s, ev]
        · rw [g_up_n (by omega)]; exact f8 j (by omega)
      · by_cases z : j = k
        · subst z; rw [g_up_s, ew]
        · rw [g_up_n (by omega), congrFun (g_up_ne (by omega)) j]; exact f9 j (by omega)
    have st5 : ∀ v : Int32, v = (if k = 81 * s + a then 1 else 0) → narrow .boolean (.int v) = .int v → g_g E O 168 105 [some (.ref 68), some (.int (nI a)), some (.int (nI s)), some (.int (nI b)), some (.int (nI t)), some (.int (nI k)), none, none, none] [.int v, .int (nI k), .ref 78] st R := fun v ev nv => by
      refine t168_105 ⟨vp_in_nI (by omega) (by omega), nv, fun s36 es => ?_⟩
      rw [q_cl (by omega)] at es
      rw [e2, q_cl (by omega), nI_1]
      refine ⟨fun q => ⟨vp_in_nI (by omega) (by omega), fun s38 es2 => ?_⟩, fun q => ⟨vp_in_nI (by omega) (by omega), fun s38 es2 => ?_⟩⟩
      · rw [es2, es]
        exact nx v 0 ev (by rw [if_neg (fun z => q (by rw [z]))])
      · rw [es2, es]
        exact nx v 1 ev (by rw [if_pos ((nI_eq (by omega) (by omega)).mp (Classical.not_not.mp q))])
    refine t168_75 ⟨fun q => absurd q (nI_ge (b := 5913) (by omega) (by omega)), fun _ => ?_⟩
    rw [e1]
    refine ⟨fun q => st5 0 (by rw [if_neg (fun z => q (by rw [z]))]) (by decide), fun q => st5 1 (by rw [if_pos ((nI_eq (by omega) (by omega)).mp (Classical.not_not.mp q))]) (by decide)⟩
end Q88
theorem p_thief {E : g_E} (x1 x2 x3 x4 : Int32) : g_pr E 87 168 [.int x1, .int x2, .int x3, .int x4] := by
  refine ⟨fun μ => if (μ 72 4).toInt ≤ 0 then -1000002 else if x1.toInt < 0 ∨ 80 < x1.toInt ∨ x2.toInt < 0 ∨ 72 < x2.toInt ∨ x3.toInt < 0 ∨ 80 < x3.toInt ∨ x4.toInt < 0 ∨ 72 < x4.toInt ∨ x4.toInt < x2.toInt then -1000001 else if μ 72 (7 + x1.toNatClampNeg) = 0 ∧ μ 72 (7 + x3.toNatClampNeg) = 0 then q_tha (μ 72) x1.toNatClampNeg x2.toNatClampNeg x3.toNatClampNeg x4.toNatClampNeg else -1000000, fun μ => μ, fun σ μ R hc hw h => ?_, fun σ R hw h => ?_, fun μ h => h⟩
  · have ht := q_there hc hw
    dsimp only at h
    obtain ⟨N, n1, n2, -⟩ := id hw.wt.2.2.2.2.2.1
    refine t87_0 ⟨fun c => ?_, fun c => ?_⟩
    · rw [ht] at c
      have bad : (x1.toInt < 0 ∨ 80 < x1.toInt ∨ x2.toInt < 0 ∨ 72 < x2.toInt ∨ x3.toInt < 0 ∨ 80 < x3.toInt ∨ x4.toInt < 0 ∨ 72 < x4.toInt ∨ x4.toInt < x2.toInt) → R (some (.int (-1000001))) σ := fun b => by
        repeat (first | rw [if_pos b] at h | rw [if_neg (by omega)] at h)
        exact h σ hc (fun _ _ => rfl)
      refine c_isCell (fun a1 a2 => ⟨_, rfl, q_1 (c_isSlot (fun a3 a4 => ⟨_, rfl, q_1 (c_isCell (fun a5 a6 => ⟨_, rfl, q_1 (c_isSlot (fun a7 a8 => ⟨_, rfl, q_1 ⟨fun c1 => ?_, fun c1 => bad ?_⟩⟩) (fun a7 => ⟨_, rfl, q_0 (bad (by omega))⟩))⟩) (fun a5 => ⟨_, rfl, q_0 (bad (by omega))⟩))⟩) (fun a3 => ⟨_, rfl, q_0 (bad (by omega))⟩))⟩) (fun a1 => ⟨_, rfl, q_0 (bad (by omega))⟩)
      · rw [q_le] at c1
        obtain ⟨a, ha, rfl⟩ := q_ix (x := x1) (n := 81) (by omega) (by omega) (by omega)
        obtain ⟨s, hs, rfl⟩ := q_ix (x := x2) (n := 73) (by omega) (by omega) (by omega)
        obtain ⟨b, hb, rfl⟩ := q_ix (x := x3) (n := 81) (by omega) (by omega) (by omega)
        obtain ⟨t, ht', rfl⟩ := q_ix (x := x4) (n := 73) (by omega) (by omega) (by omega)
        rw [if_neg (by omega), if_neg (by omega), q_cl (by omega), q_cl (by omega), q_cl (by omega), q_cl (by omega)] at h
        rw [nI_toInt (by omega), nI_toInt (by omega)] at c1
        refine c_isWalkable (d := 17) (Or.inl rfl) hc.tr hw.wt ha (fun q => ⟨_, rfl, q_1 (c_isWalkable (d := 17) (Or.inl rfl) hc.tr hw.wt hb (fun q2 => ⟨_, rfl, n_1 ?_⟩) (fun q2 => ⟨_, rfl, n_0 ?_⟩))⟩) (fun q => ⟨_, rfl, q_0 ?_⟩)
        · rw [if_pos ⟨q, q2⟩] at h
          refine c_tellDay (d := 15) (Or.inl rfl) hc.tr hw.wt (fun s1 k1 d1 => ⟨rfl, c_between (d := 14) (Or.inl rfl) (hc.tr.low (fun x q1 q2 => k1 x (by omega) (by omega) (by omega))) hw.wt n1 n2 ⟨ha, q⟩ ⟨hb, q2⟩ (by omega) ht' d1 (fun s2 k2 => ⟨_, rfl, ?_⟩)⟩)
          exact h s2 (hc.low (fun x q1 q2 q3 q4 q5 => (k2 x (by omega) (by omega) (by omega)).trans (k1 x (by omega) (by omega) (by omega)))) (fun x hx => (k2 x (by omega) (by omega) (by omega)).trans (k1 x (by omega) (by omega) (by omega)))
        · rw [if_neg (fun z => q2 z.2)] at h
          exact h σ hc (fun _ _ => rfl)
        · rw [if_neg (fun z => q z.1)] at h
          exact h σ hc (fun _ _ => rfl)
      · rw [q_le] at c1; omega
    · rw [ht] at c
      repeat (first | rw [if_pos (by omega)] at h | rw [if_neg (by omega)] at h)
      exact h σ hc (fun _ _ => rfl)
  · dsimp only at h
    obtain ⟨N, n1, n2, -⟩ := id hw.wt.2.2.2.2.2.1
    have e72 : g_up σ 68 0 0 72 = mo σ 72 := rfl
    refine t168_0 (fun s0 es => m_isThere (fun h4 => ⟨_, rfl, n_1 ?_⟩) (fun h4 => ⟨_, rfl, n_0 ?_⟩))
    all_goals subst es
    · change 0 < (mo σ 72 4).toInt at h4
      have lo0 : ∀ b, b < 68 → g_up σ 68 0 0 b = σ b := lo_up (fun _ _ => rfl) (by omega)
      have bad : (x1.toInt < 0 ∨ 80 < x1.toInt ∨ x2.toInt < 0 ∨ 72 < x2.toInt ∨ x3.toInt < 0 ∨ 80 < x3.toInt ∨ x4.toInt < 0 ∨ 72 < x4.toInt ∨ x4.toInt < x2.toInt) → R (some (.int (-1000001))) (g_up σ 68 0 0) := fun b => by
        repeat (first | rw [if_pos b] at h | rw [if_neg (by omega)] at h)
        exact h _ lo0 (Sc.rf.up rfl).ce
      refine m_isCell (fun a1 a2 => ⟨_, rfl, q_1 (m_isSlot (fun a3 a4 => ⟨_, rfl, q_1 (m_isCell (fun a5 a6 => ⟨_, rfl, q_1 (m_isSlot (fun a7 a8 => ⟨_, rfl, q_1 ⟨fun c1 => ?_, fun c1 => bad ?_⟩⟩) (fun a7 => ⟨_, rfl, q_0 (bad (by omega))⟩))⟩) (fun a5 => ⟨_, rfl, q_0 (bad (by omega))⟩))⟩) (fun a3 => ⟨_, rfl, q_0 (bad (by omega))⟩))⟩) (fun a1 => ⟨_, rfl, q_0 (bad (by omega))⟩)
      · rw [q_le] at c1
        obtain ⟨a, ha, rfl⟩ := q_ix (x := x1) (n := 81) (by omega) (by omega) (by omega)
        obtain ⟨s, hs, rfl⟩ := q_ix (x := x2) (n := 73) (by omega) (by omega) (by omega)
        obtain ⟨b, hb, rfl⟩ := q_ix (x := x3) (n := 81) (by omega) (by omega) (by omega)
        obtain ⟨t, ht', rfl⟩ := q_ix (x := x4) (n := 73) (by omega) (by omega) (by omega)
        rw [if_neg (by omega), if_neg (by omega), q_cl (by omega), q_cl (by omega), q_cl (by omega), q_cl (by omega)] at h
        rw [nI_toInt (by omega), nI_toInt (by omega)] at c1
        refine m_mayBe ha (fun q => ⟨_, rfl, q_1 (m_mayBe hb (fun q2 => ⟨_, rfl, n_1 ?_⟩) (fun q2 => ⟨_, rfl, n_0 ?_⟩))⟩) (fun q => ⟨_, rfl, q_0 ?_⟩)
        · rw [if_pos ⟨q, q2⟩] at h
          refine m_thf_ini (σ := g_up σ 68 0 0) ha hs hb ht' (fun s1 k1 i8 i9 => ?_) 5913 0 _ (by omega) (fun _ _ _ => rfl) (fun j hj => absurd hj (Nat.not_lt_zero j)) (fun j hj => absurd hj (Nat.not_lt_zero j))
          have fw : q_fwd s1 (mo σ 72) a s s := fun v c hv hc => by
            rw [i8 _ (by omega)]
            by_cases z : v = s ∧ c = a
            · obtain ⟨z1, z2⟩ := z
              subst z1; subst z2
              rw [if_pos rfl, if_pos (q_pd_t ⟨Nat.le_refl v, Nat.le_refl v, by rw [Nat.sub_self]; rfl⟩)]
            · rw [if_neg (by omega), if_neg (fun y => by
                obtain ⟨y1, y2, y3⟩ := q_pd_iff.mp y
                have : v = s := by omega
                subst this
                rw [Nat.sub_self] at y3
                exact z ⟨rfl, y3⟩)]
          have bw : q_bwd s1 (mo σ 72) b t t := fun v c hv hc => by
            rw [i9 _ (by omega)]
            by_cases z : v = t ∧ c = b
            · obtain ⟨z1, z2⟩ := z
              subst z1; subst z2
              rw [if_pos rfl, if_pos (q_pd_t ⟨Nat.le_refl v, Nat.le_refl v, by rw [Nat.sub_self]; rfl⟩)]
            · rw [if_neg (by omega), if_neg (fun y => by
                obtain ⟨y1, y2, y3⟩ := q_pd_iff.mp y
                have : v = t := by omega
                subst this
                rw [Nat.sub_self] at y3
                exact z ⟨rfl, y3⟩)]
          refine m_thf_fwd (d := 16) (σ := g_up σ 68 0 0) e72 (by omega) ht' (fun s2 k2 fw2 bw2 => ?_) (t - s) s s1 (by omega) (Nat.le_refl s) k1 fw bw
          refine m_thf_bwd (d := 15) (σ := g_up σ 68 0 0) e72 hw.wt n2 n1 hb (by omega) ht' (fun s3 k3 => ?_) (t - s) t s2 (by omega) (Nat.le_refl t) k2 fw2 bw2
          exact h s3 (fun x hx => (k3 x (by omega) (by omega) (by omega)).trans (g_up_ne (by omega))) (fun x j qq => by
            have : x ≠ 75 ∧ x ≠ 78 ∧ x ≠ 79 := by
              have q' := qq
              unfold q_can at q'
              simp only [Bool.or_eq_true, Bool.and_eq_true, beq_iff_eq] at q'
              omega
            rw [k3 x this.1 this.2.1 this.2.2]
            exact (Sc.rf.up rfl).ce x j qq)
        · rw [if_neg (fun z => q2 z.2)] at h
          exact h _ lo0 (Sc.rf.up rfl).ce
        · rw [if_neg (fun z => q z.1)] at h
          exact h _ lo0 (Sc.rf.up rfl).ce
      · rw [q_le] at c1; omega
    · change (mo σ 72 4).toInt ≤ 0 at h4
      repeat (first | rw [if_pos (by omega)] at h | rw [if_neg (by omega)] at h)
      exact h _ (lo_up (fun _ _ => rfl) (by omega)) (Sc.rf.up rfl).ce
