/-! soonest: the class's half -/
theorem nI_xor (a b : Nat) : nI a ^^^ nI b = nI (a ^^^ b) := by
  apply Int32.toBitVec_inj.mp
  show BitVec.ofNat 32 a ^^^ BitVec.ofNat 32 b = BitVec.ofNat 32 (a ^^^ b)
  apply BitVec.eq_of_getLsbD_eq
  intro i hi
  simp only [BitVec.getLsbD_xor, BitVec.getLsbD_ofNat, Nat.testBit_xor, hi, decide_true, Bool.true_and]
theorem g_o48 : ∀ k, k < 8 → g_kd (48 + k) = 100 ∧ g_ln (48 + k) = 81 := by decide
theorem q_min {r m : Nat} (hr : r ≤ 1000) (hm : m ≤ 1000) : (if nI r < nI m then nI r else nI m) = nI (min r m) := by
  by_cases q : r < m
  · rw [if_pos (nI_lt q (by omega)), Nat.min_eq_left (by omega)]
  · rw [if_neg (nI_nlt (by omega) (by omega)), Nat.min_eq_right (by omega)]
theorem q_8t {T k : Nat} : nI T * (8 : Int32) + nI k = nI (8 * T + k) := by
  rw [show (8 : Int32) = nI 8 from rfl, pk_mul, nI_add, Nat.mul_comm]
/-- what row 65 holds: the sets below T, and of T the shops below k -/
def q_tab (s : g_S) (τ : Nat → Int32) (W c t N T k : Nat) : Prop := ∀ B j, (B < T ∨ (B = T ∧ j < k)) → 1 ≤ B → B ||| W = W → j < N → B.testBit j = true → ∃ v, s 65 (8 * B + j) = nI v ∧ q_leas (q_so τ W c t B j) v
/-- of shop k: how far each cell is, when it is open next -/
def q_fo (s : g_S) (τ : Nat → Int32) (k : Nat) : Prop := (∃ D, q_dist τ (q_ce τ k) D ∧ ∀ c, c < 81 → s (48 + k) c = nI (D c)) ∧ ∀ a, a < 73 → ∃ v, s (57 + k) a = nI v ∧ q_isn (fun u => (q_at τ u).testBit k) a v
theorem q_fo.low {s s2 : g_S} {τ : Nat → Int32} {k : Nat} (h : q_fo s τ k) (h1 : s2 (48 + k) = s (48 + k)) (h2 : s2 (57 + k) = s (57 + k)) : q_fo s2 τ k := by
  unfold q_fo
  rw [h1, h2]
  exact h
theorem q_sub_b {B W j : Nat} (h : B ||| W = W) (hj : B.testBit j = true) : W.testBit j = true := by
  rw [← h, Nat.testBit_or, hj, Bool.true_or]
theorem q_xor_b {T k j : Nat} (hk : T.testBit k = true) : T.testBit j = true ↔ ((T ^^^ 2 ^ k).testBit j = true ∨ j = k) := by
  rw [Nat.testBit_xor]
  by_cases e : j = k
  · subst e
    exact ⟨fun _ => Or.inr rfl, fun _ => hk⟩
  · rw [Nat.testBit_two_pow_of_ne (fun y => e y.symm), Bool.xor_false]
    exact ⟨fun z => Or.inl z, fun z => z.resolve_right e⟩
theorem q_xor_lt {T k : Nat} (hk : T.testBit k = true) : T ^^^ 2 ^ k < T := by
  have h1 : T ^^^ 2 ^ k ≤ T := Nat.le_of_testBit (fun i hi => (q_xor_b hk).mpr (Or.inl hi))
  have h2 : T ^^^ 2 ^ k ≠ T := fun e => by
    have z : (T ^^^ 2 ^ k).testBit k = false := by
      rw [Nat.testBit_xor, hk, Nat.testBit_two_pow_self]; rfl
    rw [e, hk] at z
    cases z
  omega
section Q95
variable {E : g_E} {d : Nat} {R : g_R} {σ : g_S} {τ : Nat → Int32}
theorem c_opfr {k a : Nat} (hk : k < 8) (ha : a < 2 ^ 31) (op : ∀ a, a < 73 → ∃ v, σ (57 + k) a = nI v ∧ q_isn (fun u => (q_at τ u).testBit k) a v) (h : ∀ r, q_leas (fun u => a ≤ u ∧ (q_at τ u).testBit k = true) r → R (some (.int (nI r))) σ) : g_wp E (d + 1) 65 [.ref 45, .int (nI k), .int (nI a)] σ R := by
  refine t65_0 ⟨fun q => h 1000 (q_lv_n (fun u hu z => ?_)), fun q => ?_⟩
  · rw [show (72 : Int32) = nI 72 from rfl, nI_ltI (by omega) ha] at q
    omega
  · rw [show (72 : Int32) = nI 72 from rfl, nI_ltI (by omega) ha] at q
    obtain ⟨v, e, i⟩ := op a (by omega)
    rw [q_cl (by omega), q_cl ha, (g_o57 k hk).1, (g_o57 k hk).2, e]
    exact ⟨vp_in_nI hk (by omega), rfl, vp_in_nI (by omega) (by omega), h v (q_isn_lv i)⟩
theorem c_eos_l {b B k N W c t : Nat} (hb : g_Tw b) (w0 : TR σ b τ) (f : WT τ) (hN : N ≤ 8) (e6 : τ 6 = nI N) (hk : k < N) (hB : B < 256) (fo : q_fo σ τ k) (tab : ∀ l, l < N → B.testBit l = true → ∃ v, σ 65 (8 * B + l) = nI v ∧ q_leas (q_so τ W c t B l) v) (h : ∀ r, q_leas (fun u => ∃ l, l < N ∧ B.testBit l = true ∧ q_rl τ W c t B k l u) r → R (some (.int (nI r))) σ) : ∀ g l m, l + g = N → q_leas (fun u => ∃ l', l' < l ∧ B.testBit l' = true ∧ q_rl τ W c t B k l' u) m → g_g E (g_wp E (d + 1)) 64 38 [some (.ref 45), some (.ref b), none, some (.int (nI k)), none, none, some (.int (nI B)), some (.int (nI m)), some (.int (nI l)), none] [] σ R := by
  have e8 : σ b 8 = nI N := w0.2.2.2.2.2.2.2.1.trans e6
  intro g
  induction g with
  | zero =>
    intro l m hl hm
    have e : l = N := by omega
    subst e
    exact t64_38 hb ⟨fun _ => h m hm, fun q => absurd (by rw [e8]; exact nI_le (Nat.le_refl _) (by omega)) q⟩
  | succ g ih =>
    intro l m hl hm
    have lN : nI l < τ 6 := by rw [e6]; exact nI_lt (by omega) (by omega)
    have wl := q_ce_w f e6 hN (show l < N by omega)
    obtain ⟨r1, r2, r3⟩ := w0.2.2.2.2.2.2.2.2.2.2 l (by omega) lN
    refine t64_38 hb ⟨fun q => absurd q (by rw [e8]; exact nI_ge (by omega) (by omega)), fun _ => ?_⟩
    rw [q_bit B hB l (by omega), nI_1, q_8t, q_cl (show 8 * B + l < 2 ^ 31 by omega), q_cl (show k < 2 ^ 31 by omega), q_cl (show l < 2 ^ 31 by omega), r2, wl.2, q_cl (by omega), (g_o48 k (by omega)).1, (g_o48 k (by omega)).2]
    refine ⟨fun q => ?_, fun q => ⟨vp_in_nI (by omega) (by omega), vp_in_nI (by omega) (by omega), vp_in_nI (by omega) (by omega), rfl, vp_in_nI wl.1.1 (by omega), ?_⟩⟩
    · refine ih (l + 1) m (by omega) (q_lv_c (fun u hu => ⟨fun ⟨l', z1, z2⟩ => ⟨l', by omega, z2⟩, fun ⟨l', z1, z2, z3⟩ => ⟨l', ?_, z2, z3⟩⟩) hm)
      by_cases e : l' = l
      · subst e
        rw [z2] at q
        exact absurd rfl q
      · omega
    · have bl : B.testBit l = true := by
        cases y : B.testBit l
        · rw [y] at q; exact absurd (fun z => absurd z (by decide)) q
        · rfl
      obtain ⟨v, ev, lv⟩ := tab l (by omega) bl
      obtain ⟨⟨D, dd, rD⟩, op⟩ := fo
      have dr := (dd _ wl.1.1).1
      have vr := q_lv_r lv
      rw [ev, rD _ wl.1.1, nI_add]
      refine c_opfr (by omega) (by omega) op (fun r hr => ⟨_, rfl, ?_⟩)
      have hr2 := q_lv_way (k := k) f e6 hN hk (by omega) dd lv hr
      dsimp only
      rw [q_min (q_lv_r hr) (q_lv_r hm)]
      refine ih (l + 1) _ (by omega) (q_lv_c (fun u hu => ⟨?_, ?_⟩) (q_lv_or hr2 hm))
      · rintro (z | ⟨l', z1, z2⟩)
        · exact ⟨l, by omega, bl, z⟩
        · exact ⟨l', by omega, z2⟩
      · rintro ⟨l', z1, z2, z3⟩
        by_cases e : l' = l
        · subst e; exact Or.inl z3
        · exact Or.inr ⟨l', by omega, z2, z3⟩
theorem c_eos {b T k N W c t : Nat} (hb : g_Tw b) (w0 : TR σ b τ) (f : WT τ) (hN : N ≤ 8) (e6 : τ 6 = nI N) (hc : c < 81 ∧ τ (7 + c) = 0) (ht : t < 73) (hk : k < N) (hW : W < 2 ^ N) (hT : T ||| W = W) (hTk : T.testBit k = true) (fo : q_fo σ τ k) (tab : q_tab σ τ W c t N T 0) (h : ∀ r, q_leas (q_so τ W c t T k) r → R (some (.int (nI r))) σ) : g_wp E (d + 2) 64 [.ref 45, .ref b, .int (nI T), .int (nI k), .int (nI c), .int (nI t)] σ R := by
  have p := q_2p hN
  have T256 : T < 256 := by
    have : T ≤ W := by rw [← hT]; exact Nat.left_le_or
    omega
  have Blt := q_xor_lt hTk
  have BT : ∀ j, T.testBit j = true ↔ ((T ^^^ 2 ^ k).testBit j = true ∨ j = k) := fun j => q_xor_b hTk
  have kW : W.testBit k = true := q_sub_b hT hTk
  have WN : ∀ j, W.testBit j = true → j < N := fun j hj => Nat.lt_of_not_le (fun q => by
    have : W < 2 ^ j := Nat.lt_of_lt_of_le hW (Nat.pow_le_pow_right (by omega) q)
    rw [Nat.testBit_lt_two_pow this] at hj
    cases hj)
  have BW : (T ^^^ 2 ^ k) ||| W = W := by
    apply Nat.eq_of_testBit_eq
    intro i
    rw [Nat.testBit_or]
    cases y : (T ^^^ 2 ^ k).testBit i
    · rw [Bool.false_or]
    · rw [q_sub_b hT ((BT i).mpr (Or.inl y))]; rfl
  refine t64_0 hb ?_
  rw [q_sh1k k (by omega), nI_xor]
  refine ⟨fun q => ?_, fun q => ?_⟩
  · have nz : T ^^^ 2 ^ k ≠ 0 := fun z => by rw [z] at q; exact q rfl
    obtain ⟨i, hi⟩ := Nat.exists_testBit_of_ne_zero nz
    refine c_eos_l (d := d) (W := W) (c := c) (t := t) hb w0 f hN e6 hk (by omega) fo (fun l hl bl => tab _ l (Or.inl Blt) (by omega) BW hl bl) (fun r hr => h r (q_lv_c (fun u hu => ?_) hr)) N 0 1000 (by omega) (q_lv_n (fun u hu z => ?_))
    · exact (q_so_step f e6 hN hc.1 hk kW BT ⟨i, hi⟩ (fun j hj => WN j (q_sub_b hT ((BT j).mpr (Or.inl hj))))).symm
    · obtain ⟨l', z1, -⟩ := z
      omega
  · have z0 : T ^^^ 2 ^ k = 0 := by
      have := Classical.not_not.mp q
      exact (nI_eq (b := 0) (by omega) (by omega)).mp this
    obtain ⟨⟨D, dd, rD⟩, op⟩ := fo
    have dr := (dd c hc.1).1
    rw [q_cl (show k < 2 ^ 31 by omega), q_cl (show c < 2 ^ 31 by omega), (g_o48 k (by omega)).1, (g_o48 k (by omega)).2, rD c hc.1, nI_add]
    refine ⟨vp_in_nI (by omega) (by omega), rfl, vp_in_nI hc.1 (by omega), c_opfr (by omega) (by omega) op (fun r hr => ⟨_, rfl, h r (q_lv_c (fun u hu => ?_) hr)⟩)⟩
    refine (q_so_one f e6 hN hc hk kW (fun j => ?_) hu dd).symm
    rw [BT j, z0, Nat.zero_testBit]
    exact ⟨fun z => z.resolve_left (by decide), Or.inr⟩
/-- of the set T the shops, one by one -/
theorem c_errs_in {b T N W c t : Nat} (hb : g_Tw b) (w0 : TR σ b τ) (f : WT τ) (hN : N ≤ 8) (e6 : τ 6 = nI N) (hc : c < 81 ∧ τ (7 + c) = 0) (ht : t < 73) (hW : W < 2 ^ N) (hT : T ||| W = W) (hT1 : 1 ≤ T) (fo : ∀ k, k < N → q_fo σ τ k) (h : ∀ s m, (∀ x, x ≠ 65 → s x = σ x) → q_tab s τ W c t N T N → m ≤ 1000 → (T ≠ W → m = 1000) → (T = W → q_leas (fun u => ∃ l, l < N ∧ W.testBit l = true ∧ q_so τ W c t W l u) m) → g_g E (g_wp E (d + 2)) 63 60 [some (.ref 45), some (.ref b), none, some (.int (nI c)), some (.int (nI t)), some (.int (nI W)), some (.int (nI m)), some (.int (nI (T + 1))), none, none] [] s R) : ∀ g k s m, k + g = N → (∀ x, x ≠ 65 → s x = σ x) → q_tab s τ W c t N T k → m ≤ 1000 → (T ≠ W → m = 1000) → (T = W → q_leas (fun u => ∃ l, l < k ∧ W.testBit l = true ∧ q_so τ W c t W l u) m) → g_g E (g_wp E (d + 2)) 63 83 [some (.ref 45), some (.ref b), none, some (.int (nI c)), some (.int (nI t)), some (.int (nI W)), some (.int (nI m)), some (.int (nI T)), some (.int (nI k)), none] [] s R := by
  have hb' := hb.rg
  have p := q_2p hN
  have T256 : T < 256 := by
    have : T ≤ W := by rw [← hT]; exact Nat.left_le_or
    omega
  intro g
  induction g with
  | zero =>
    intro k s m hk fr tab hm hn hl
    have e : k = N := by omega
    subst e
    have e8 : s b 8 = nI k := (congrFun (fr b (by omega)) 8).trans (w0.2.2.2.2.2.2.2.1.trans e6)
    refine t63_83 hb ⟨fun _ => ?_, fun q => absurd (by rw [e8]; exact nI_le (Nat.le_refl _) (by omega)) q⟩
    rw [nI_1]
    exact h s m fr tab hm hn hl
  | succ g ih =>
    intro k s m hk fr tab hm hn hl
    have e8 : s b 8 = nI N := (congrFun (fr b (by omega)) 8).trans (w0.2.2.2.2.2.2.2.1.trans e6)
    have tr : TR s b τ := w0.low (fun x q1 q2 => fr x (by omega))
    have put : ∀ v, v ≤ 1000 → (T.testBit k = true → q_leas (q_so τ W c t T k) v) → (T.testBit k = false → v = 1000) → g_g E (g_wp E (d + 2)) 63 121 [some (.ref 45), some (.ref b), none, some (.int (nI c)), some (.int (nI t)), some (.int (nI W)), some (.int (nI m)), some (.int (nI T)), some (.int (nI k)), none] [.int (nI v)] s R := fun v v1 v2 v3 => by
      refine t63_121 hb ?_
      rw [q_8t, q_cl (by omega), nI_1]
      refine ⟨vp_in_nI (by omega) (by omega), fun s14 es => ?_⟩
      have fr2 : ∀ x, x ≠ 65 → s14 x = σ x := fun x q => by rw [es]; exact (g_up_ne q).trans (fr x q)
      have tab2 : q_tab s14 τ W c t N T (k + 1) := fun B j hB b1 b2 b3 b4 => by
        rw [es]
        by_cases e : B = T ∧ j = k
        · obtain ⟨e1, e2⟩ := e
          subst e1; subst e2
          exact ⟨v, g_up_s, v2 b4⟩
        · rw [g_up_n (by omega)]
          exact tab B j (by omega) b1 b2 b3 b4
      refine ⟨fun q => ih (k + 1) s14 m (by omega) fr2 tab2 hm hn (fun z => absurd (by rw [z]) q), fun q => ?_⟩
      have eT : T = W := (nI_eq (by omega) (by omega)).mp (Classical.not_not.mp q)
      rw [q_min v1 hm]
      refine ih (k + 1) s14 _ (by omega) fr2 tab2 (by omega) (fun z => absurd eT z) (fun _ => ?_)
      have hm2 := hl eT
      by_cases y : W.testBit k = true
      · refine q_lv_c (fun u hu => ⟨?_, ?_⟩) (q_lv_or (v2 (by rw [eT]; exact y)) hm2)
        · rintro (z | ⟨l', z1, z2⟩)
          · exact ⟨k, by omega, y, by rw [← eT] at z ⊢; exact z⟩
          · exact ⟨l', by omega, z2⟩
        · rintro ⟨l', z1, z2, z3⟩
          by_cases e : l' = k
          · subst e; exact Or.inl (by rw [← eT] at z3 ⊢; exact z3)
          · exact Or.inr ⟨l', by omega, z2, z3⟩
      · have v1000 : v = 1000 := v3 (by rw [eT]; exact Bool.eq_false_iff.mpr y)
        rw [v1000, Nat.min_eq_right hm]
        refine q_lv_c (fun u hu => ⟨fun ⟨l', z1, z2⟩ => ⟨l', by omega, z2⟩, fun ⟨l', z1, z2, z3⟩ => ⟨l', ?_, z2, z3⟩⟩) hm2
        by_cases e : l' = k
        · subst e; exact absurd z2 y
        · omega
    refine t63_83 hb ⟨fun q => absurd q (by rw [e8]; exact nI_ge (by omega) (by omega)), fun _ => ?_⟩
    rw [q_bit T T256 k (by omega)]
    refine ⟨fun q => ?_, fun q => ?_⟩
    · have z : T.testBit k = false := by
        cases y : T.testBit k
        · rfl
        · rw [y] at q; exact absurd rfl q
      exact put 1000 (Nat.le_refl _) (fun y => by rw [z] at y; cases y) (fun _ => rfl)
    · have z : T.testBit k = true := by
        cases y : T.testBit k
        · rw [y] at q; exact absurd (fun z => absurd z (by decide)) q
        · rfl
      refine c_eos (d := d) (W := W) hb tr f hN e6 hc ht (by omega) hW hT z ((fo k (by omega)).low (fr _ (by omega)) (fr _ (by omega))) (fun B j hB => tab B j (by omega)) (fun r hr => ⟨_, rfl, put r (q_lv_r hr) (fun _ => hr) (fun y => by rw [z] at y; cases y)⟩)
/-- the sets, one by one -/
theorem c_errs_l {b N W c t : Nat} (hb : g_Tw b) (w0 : TR σ b τ) (f : WT τ) (hN : N ≤ 8) (e6 : τ 6 = nI N) (hc : c < 81 ∧ τ (7 + c) = 0) (ht : t < 73) (hW : W < 2 ^ N) (fo : ∀ k, k < N → q_fo σ τ k) (h : ∀ s m, (∀ x, x ≠ 65 → s x = σ x) → q_leas (fun u => ∃ l, l < N ∧ W.testBit l = true ∧ q_so τ W c t W l u) m → R (some (.int (nI m))) s) : ∀ g T s m, T + g = W + 1 → 1 ≤ T → (∀ x, x ≠ 65 → s x = σ x) → q_tab s τ W c t N T 0 → m ≤ 1000 → (T = W + 1 → q_leas (fun u => ∃ l, l < N ∧ W.testBit l = true ∧ q_so τ W c t W l u) m) → (T ≤ W → m = 1000) → g_g E (g_wp E (d + 2)) 63 60 [some (.ref 45), some (.ref b), none, some (.int (nI c)), some (.int (nI t)), some (.int (nI W)), some (.int (nI m)), some (.int (nI T)), none, none] [] s R := by
  have hb' := hb.rg
  have p := q_2p hN
  intro g
  induction g with
  | zero =>
    intro T s m hT h1 fr tab hm hl h0
    exact t63_60 hb ⟨fun _ => h s m fr (hl (by omega)), fun q => absurd (nI_lt (by omega) (by omega)) q⟩
  | succ g ih =>
    intro T s m hT h1 fr tab hm hl h0
    have em := h0 (by omega)
    subst em
    refine t63_60 hb ⟨fun q => absurd q (nI_nlt (by omega) (by omega)), fun _ => ?_⟩
    rw [nI_or, nI_1]
    refine ⟨fun q => ?_, fun q => ?_⟩
    · have hTW : T ||| W = W := (nI_eq (by
        have := Nat.or_lt_two_pow (n := 8) (x := T) (y := W) (by omega) (by omega)
        omega) (by omega)).mp q
      refine c_errs_in (d := d) (σ := s) hb (w0.low (fun x q1 q2 => fr x (by omega))) f hN e6 hc ht hW hTW h1 (fun k hk => (fo k hk).low (fr _ (by omega)) (fr _ (by omega))) (fun s2 m2 fr2 tab2 hm2 hn2 hl2 => ?_) N 0 s 1000 (by omega) (fun _ _ => rfl) tab (Nat.le_refl _) (fun _ => rfl) (fun _ => q_lv_n (fun u hu z => ?_))
      · exact ih (T + 1) s2 m2 (by omega) (by omega) (fun x q1 => (fr2 x q1).trans (fr x q1)) (fun B j hB b1 b2 b3 b4 => tab2 B j (by omega) b1 b2 b3 b4) hm2 (fun z => hl2 (by omega)) (fun z => hn2 (by omega))
      · obtain ⟨l', z1, -⟩ := z
        omega
    · have hTW : ¬ T ||| W = W := fun z => q (by rw [z])
      have nTW : T ≠ W := fun z => hTW (by rw [z]; exact Nat.or_self W)
      refine ih (T + 1) s 1000 (by omega) (by omega) fr (fun B j hB b1 b2 b3 b4 => tab B j ?_ b1 b2 b3 b4) (Nat.le_refl _) (fun z => absurd (by omega) nTW) (fun _ => rfl)
      by_cases e : B = T
      · subst e; exact absurd b2 hTW
      · omega
/-- of the shops, one by one, the ways and the openings -/
theorem c_errs_f {b N W c t : Nat} (hb : g_Tw b) (w0 : TR σ b τ) (f : WT τ) (hN : N ≤ 8) (e6 : τ 6 = nI N) (hc : c < 81 ∧ τ (7 + c) = 0) (ht : t < 73) (hW : W < 2 ^ N) (hW1 : 1 ≤ W) (h43 : ∀ u, u < 73 → σ 43 u = nI (q_at τ u)) (h : ∀ s m, (∀ x, x < 46 ∨ 65 < x → s x = σ x) → q_leas (fun u => ∃ l, l < N ∧ W.testBit l = true ∧ q_so τ W c t W l u) m → R (some (.int (nI m))) s) : ∀ g k s, k + g = N → (∀ x, x < 46 ∨ 65 < x → s x = σ x) → (∀ j, j < k → q_fo s τ j) → g_g E (g_wp E (d + 4)) 63 11 [some (.ref 45), some (.ref b), some (.ref 43), some (.int (nI c)), some (.int (nI t)), some (.int (nI W)), some (.int (nI k)), none, none, none] [] s R := by
  have hb' := hb.rg
  intro g
  induction g with
  | zero =>
    intro k s hk fr fo
    have e : k = N := by omega
    subst e
    have e8 : s b 8 = nI k := (congrFun (fr b (by omega)) 8).trans (w0.2.2.2.2.2.2.2.1.trans e6)
    refine t63_11 hb ⟨fun _ => ?_, fun q => absurd (by rw [e8]; exact nI_le (Nat.le_refl _) (by omega)) q⟩
    exact c_errs_l (d := d + 2) (σ := s) hb (w0.low (fun x q1 q2 => fr x (by omega))) f hN e6 hc ht hW fo (fun s2 m fr2 hm => h s2 m (fun x q => (fr2 x (by omega)).trans (fr x q)) hm) W 1 s 1000 (by omega) (Nat.le_refl 1) (fun _ _ => rfl) (fun B j hB b1 => by omega) (Nat.le_refl _) (fun z => by omega) (fun _ => rfl)
  | succ g ih =>
    intro k s hk fr fo
    have e8 : s b 8 = nI N := (congrFun (fr b (by omega)) 8).trans (w0.2.2.2.2.2.2.2.1.trans e6)
    have tr : TR s b τ := w0.low (fun x q1 q2 => fr x (by omega))
    have kN : nI k < τ 6 := by rw [e6]; exact nI_lt (by omega) (by omega)
    have wk := q_ce_w f e6 hN (show k < N by omega)
    obtain ⟨r1, r2, r3⟩ := tr.2.2.2.2.2.2.2.2.2.2 k (by omega) kN
    refine t63_11 hb ⟨fun q => absurd q (by rw [e8]; exact nI_ge (by omega) (by omega)), fun _ => ⟨vp_in_nI (by omega) (by omega), vp_in_nI (by omega) (by omega), ?_⟩⟩
    rw [q_cl (show k < 2 ^ 31 by omega), r2, wk.2, nI_1]
    refine c_measure (d := d) hb tr f wk.1 (by omega) (g_o48 k (by omega)).1 (g_o48 k (by omega)).2 (fun s1 D f1 rD dd => ⟨rfl, ?_⟩)
    have fr1 : ∀ x, x < 46 ∨ 65 < x → s1 x = σ x := fun x q => (f1 x (by omega) (by omega)).trans (fr x q)
    refine c_tellOpen (d := d + 3) (by omega) f (fun u hu => by rw [fr1 43 (by omega)]; exact h43 u hu) (fun s2 f2 op => ⟨rfl, ?_⟩)
    refine ih (k + 1) s2 (by omega) (fun x q => (f2 x (by omega)).trans (fr1 x q)) (fun j hj => ?_)
    by_cases e : j = k
    · subst e
      exact ⟨⟨D, dd, fun c' hc' => by rw [f2 (48 + j) (by omega)]; exact rD c' hc'⟩, op⟩
    · exact (fo j (by omega)).low ((f2 _ (by omega)).trans (f1 _ (by omega) (by omega))) ((f2 _ (by omega)).trans (f1 _ (by omega) (by omega)))
theorem c_errs {b N W c t : Nat} (hb : g_Tw b) (w0 : TR σ b τ) (f : WT τ) (hN : N ≤ 8) (e6 : τ 6 = nI N) (hc : c < 81 ∧ τ (7 + c) = 0) (ht : t < 73) (hW : W < 2 ^ N) (h43 : ∀ u, u < 73 → σ 43 u = nI (q_at τ u)) (h : ∀ s m, (∀ x, x < 46 ∨ 65 < x → s x = σ x) → q_leas (q_all τ W c t) m → R (some (.int (nI m))) s) : g_wp E (d + 5) 63 [.ref 45, .ref b, .ref 43, .int (nI c), .int (nI t), .int (nI W)] σ R := by
  have p := q_2p hN
  refine t63_0 hb ⟨fun q => ?_, fun q => ?_⟩
  · have W1 : W ≠ 0 := fun z => by rw [z] at q; exact q rfl
    obtain ⟨i, hi⟩ := Nat.exists_testBit_of_ne_zero W1
    exact c_errs_f (d := d) hb w0 f hN e6 hc ht hW (by omega) h43 (fun s m fr hm => h s m fr (q_all_lv f e6 hN hc.1 ⟨i, hi⟩ (fun j hj => Nat.lt_of_not_le (fun q => by
      have : W < 2 ^ j := Nat.lt_of_lt_of_le hW (Nat.pow_le_pow_right (by omega) q)
      rw [Nat.testBit_lt_two_pow this] at hj
      cases hj)) hm)) N 0 σ (by omega) (fun _ _ => rfl) (fun j hj => absurd hj (Nat.not_lt_zero j))
  · have W0 : W = 0 := (nI_eq (b := 0) (by omega) (by omega)).mp (Classical.not_not.mp q)
    subst W0
    refine h σ t (fun _ _ => rfl) (Or.inr ⟨by omega, ⟨0, c, rfl, hc.1, rfl, (Nat.and_zero _).symm⟩, fun u hu z => ?_⟩)
    obtain ⟨n, x, e, -⟩ := z
    omega
end Q95
