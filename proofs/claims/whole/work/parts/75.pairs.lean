/-! what is open: both; pairs: open -/
theorem nI_or (a b : Nat) : nI a ||| nI b = nI (a ||| b) := by
  apply Int32.toBitVec_inj.mp
  show BitVec.ofNat 32 a ||| BitVec.ofNat 32 b = BitVec.ofNat 32 (a ||| b)
  apply BitVec.eq_of_getLsbD_eq
  intro i hi
  simp only [BitVec.getLsbD_or, BitVec.getLsbD_ofNat, Nat.testBit_or, hi, decide_true, Bool.true_and]
theorem nI_and (a b : Nat) : nI a &&& nI b = nI (a &&& b) := by
  apply Int32.toBitVec_inj.mp
  show BitVec.ofNat 32 a &&& BitVec.ofNat 32 b = BitVec.ofNat 32 (a &&& b)
  apply BitVec.eq_of_getLsbD_eq
  intro i hi
  simp only [BitVec.getLsbD_and, BitVec.getLsbD_ofNat, Nat.testBit_and, hi, decide_true, Bool.true_and]
theorem q_sh1k : ∀ k, k < 9 → (1 : Int32) <<< (nI k &&& 31) = nI (2 ^ k) := by decide
/-- a set of numbers below n as bits -/
def q_bs (f : Nat → Bool) : Nat → Nat
  | 0 => 0
  | n + 1 => q_bs f n ||| (if f n = true then 2 ^ n else 0)
theorem q_bs_t {f : Nat → Bool} {k : Nat} : ∀ {n : Nat}, (q_bs f n).testBit k = (decide (k < n) && f k)
  | 0 => by
    rw [show q_bs f 0 = 0 from rfl, Nat.zero_testBit, decide_eq_false (Nat.not_lt_zero k), Bool.false_and]
  | n + 1 => by
    rw [show q_bs f (n + 1) = q_bs f n ||| (if f n = true then 2 ^ n else 0) from rfl, Nat.testBit_or, q_bs_t (n := n)]
    by_cases e : k = n
    · subst e
      rw [decide_eq_false (Nat.lt_irrefl k), decide_eq_true (Nat.lt_succ_self k), Bool.false_and, Bool.false_or, Bool.true_and]
      by_cases q : f k = true
      · rw [if_pos q, Nat.testBit_two_pow_self, q]
      · rw [if_neg q, Nat.zero_testBit, Bool.eq_false_iff.mpr q]
    · have z : (if f n = true then 2 ^ n else 0).testBit k = false := by
        by_cases q : f n = true
        · rw [if_pos q, Nat.testBit_two_pow_of_ne (fun y => e y.symm)]
        · rw [if_neg q, Nat.zero_testBit]
      rw [z, Bool.or_false]
      by_cases l : k < n
      · rw [decide_eq_true l, decide_eq_true (show k < n + 1 by omega)]
      · rw [decide_eq_false l, decide_eq_false (show ¬ k < n + 1 by omega)]
theorem q_bs_l {f : Nat → Bool} {n : Nat} : q_bs f n < 2 ^ n := by
  apply Nat.lt_pow_two_of_testBit
  intro i hi
  rw [q_bs_t, decide_eq_false (by omega), Bool.false_and]
theorem q_bs_c {f g : Nat → Bool} : ∀ {n : Nat}, (∀ k, k < n → f k = g k) → q_bs f n = q_bs g n
  | 0, _ => rfl
  | n + 1, h => by
    rw [show q_bs f (n + 1) = q_bs f n ||| (if f n = true then 2 ^ n else 0) from rfl, show q_bs g (n + 1) = q_bs g n ||| (if g n = true then 2 ^ n else 0) from rfl, q_bs_c (n := n) (fun k hk => h k (by omega)), h n (by omega)]
def q_noon (t : Nat) : Bool := decide (30 ≤ t) && decide (t ≤ 42)
def q_open (kind : Int32) (dk : Bool) (t : Nat) : Bool := if kind = 1 then dk else if kind = 2 then dk && q_noon t else if kind = 3 then dk && q_noon t || decide (t = 36) else if kind = 4 then !dk else !dk && !(decide (12 ≤ t) && decide (t ≤ 60))
def q_b (x : Bool) : Int32 := if x = true then 1 else 0
theorem q_b1 : q_b true = 1 := rfl
theorem q_b0 : q_b false = 0 := rfl
/-- the shadow that the class has thrown -/
def q_shd (σ : g_S) (τ : Nat → Int32) (e n : Int32) : Prop := (q_x τ < 9 ∧ q_y τ < 9 ∧ q_rg e n) ∧ σ 41 1 = nI (q_L τ e n) ∧ ∀ j, j < q_L τ e n → σ 42 j = nI (q_cell τ e n (q_m e n) j)
/-- the shadow that the reference has laid -/
def q_lad (σ : g_S) (τ : Nat → Int32) (e n : Int32) : Prop := ∀ c, c < 81 → σ 75 c = q_b (q_dark τ e n c)
section Q75
variable {E : g_E} {d : Nat} {R : g_R} {σ : g_S} {τ : Nat → Int32} {e n : Int32}
theorem c_open24 {O : g_O} {i t : Nat} {dk : Bool} (hi : 1 ≤ i ∧ i ≤ 5) (ht : t < 73) (h : R (some (.int (q_b (q_open (nI i) dk t)))) σ) : g_g E O 12 24 [none, some (.int (q_sort (nI i))), none, some (.int (nI t)), some (.int (q_b dk)), none] [.int (q_b (q_noon t))] σ R := by
  rcases (show i = 1 ∨ i = 2 ∨ i = 3 ∨ i = 4 ∨ i = 5 by omega) with e | e | e | e | e <;> subst e
  · refine t12_24 ⟨fun c => absurd c (by decide), fun _ => ?_, fun c => absurd c (by decide), fun c => absurd c (by decide), fun c => absurd c (by decide), trivial⟩
    cases dk
    · exact ⟨by decide, h⟩
    · exact ⟨by decide, h⟩
  · refine t12_24 ⟨fun c => absurd c (by decide), fun c => absurd c (by decide), fun c => absurd c (by decide), fun _ => ?_, fun c => absurd c (by decide), trivial⟩
    change R (some (.int (q_b (dk && q_noon t)))) σ at h
    cases dk
    · exact ⟨fun _ => h, fun c => absurd rfl c⟩
    · refine ⟨fun c => absurd c (by decide), fun _ => ?_⟩
      rw [Bool.true_and] at h
      cases q : q_noon t
      all_goals rw [q] at h
      · exact ⟨fun _ => h, fun c => absurd rfl c⟩
      · exact ⟨fun c => absurd c (by decide), fun _ => h⟩
  · refine t12_24 ⟨fun c => absurd c (by decide), fun c => absurd c (by decide), fun c => absurd c (by decide), fun c => absurd c (by decide), fun _ => ?_, trivial⟩
    change R (some (.int (q_b (dk && q_noon t || decide (t = 36))))) σ at h
    have z : q_b (false || decide (t = 36)) = q_b (dk && q_noon t || decide (t = 36)) → ((¬ nI t = 36 → R (some (.int 0)) σ) ∧ (¬ ¬ nI t = 36 → R (some (.int 1)) σ)) := fun y => by
      rw [← y, Bool.false_or] at h
      refine ⟨fun c => ?_, fun c => ?_⟩
      · rw [decide_eq_false (fun w => c (by rw [w]; rfl))] at h; exact h
      · rw [decide_eq_true ((nI_eq (b := 36) (by omega) (by omega)).mp (Classical.not_not.mp c))] at h; exact h
    cases dk
    · exact ⟨fun _ => z rfl, fun c => absurd rfl c⟩
    · refine ⟨fun c => absurd c (by decide), fun _ => ?_⟩
      cases q : q_noon t
      · rw [q] at z
        exact ⟨fun c => absurd rfl c, fun _ => z rfl⟩
      · rw [q] at h
        exact ⟨fun _ => h, fun c => absurd (fun y => absurd y (by decide)) c⟩
  · refine t12_24 ⟨fun c => absurd c (by decide), fun c => absurd c (by decide), fun _ => ?_, fun c => absurd c (by decide), fun c => absurd c (by decide), trivial⟩
    change R (some (.int (q_b (!dk)))) σ at h
    cases dk
    · exact ⟨fun c => absurd rfl c, fun _ => h⟩
    · exact ⟨fun _ => h, fun c => absurd (fun y => absurd y (by decide)) c⟩
  · refine t12_24 ⟨fun _ => ?_, fun c => absurd c (by decide), fun c => absurd c (by decide), fun c => absurd c (by decide), fun c => absurd c (by decide), trivial⟩
    change R (some (.int (q_b (!dk && !(decide (12 ≤ t) && decide (t ≤ 60)))))) σ at h
    cases dk
    · refine ⟨fun c => absurd rfl c, fun _ => ?_⟩
      rw [show (12 : Int32) = nI 12 from rfl, show (60 : Int32) = nI 60 from rfl, nI_ltI (by omega) (by omega), nI_leI (by omega) (by omega)]
      refine ⟨fun c => ?_, fun c => ⟨fun c2 => ?_, fun c2 => ?_⟩⟩
      · rw [decide_eq_false (show ¬ 12 ≤ t by omega)] at h; exact h
      · rw [decide_eq_true (show 12 ≤ t by omega), decide_eq_true c2] at h; exact h
      · rw [decide_eq_false c2, Bool.and_false] at h; exact h
    · exact ⟨fun _ => h, fun c => absurd (fun y => absurd y (by decide)) c⟩
theorem c_isOpen {i c t : Nat} (hi : 1 ≤ i ∧ i ≤ 5) (ht : t < 73) (hc : c < 81) (s : q_shd σ τ e n) (h : R (some (.int (q_b (q_open (nI i) (q_dark τ e n c) t)))) σ) : g_wp E (d + 2) 12 [.ref 41, .int (q_sort (nI i)), .int (nI c), .int (nI t)] σ R := by
  obtain ⟨⟨hx, hy, g⟩, s1, s2⟩ := s
  have z : ∀ dk, q_dark τ e n c = dk → (((nI t < 30 → g_g E (g_wp E (d + 1)) 12 24 [none, some (.int (q_sort (nI i))), none, some (.int (nI t)), some (.int (q_b dk)), none] [.int 0] σ R) ∧ (¬ (nI t < 30) → ((42 < nI t → g_g E (g_wp E (d + 1)) 12 24 [none, some (.int (q_sort (nI i))), none, some (.int (nI t)), some (.int (q_b dk)), none] [.int 0] σ R) ∧ (¬ (42 < nI t) → g_g E (g_wp E (d + 1)) 12 24 [none, some (.int (q_sort (nI i))), none, some (.int (nI t)), some (.int (q_b dk)), none] [.int 1] σ R))))) := fun dk e => by
    rw [e] at h
    have y := c_open24 (E := E) (O := g_wp E (d + 1)) (R := R) hi ht h
    unfold q_noon at y
    rw [show (30 : Int32) = nI 30 from rfl, show (42 : Int32) = nI 42 from rfl, nI_ltI (by omega) (by omega), nI_ltI (by omega) (by omega)]
    refine ⟨fun c => ?_, fun c => ⟨fun c2 => ?_, fun c2 => ?_⟩⟩
    · rw [decide_eq_false (show ¬ 30 ≤ t by omega), Bool.false_and] at y; exact y
    · rw [decide_eq_false (show ¬ t ≤ 42 by omega), Bool.and_false] at y; exact y
    · rw [decide_eq_true (show 30 ≤ t by omega), decide_eq_true (show t ≤ 42 by omega)] at y; exact y
  refine t12_0 (c_isIn (q_L9 hx hy g) hc (fun j hj => q_cell81 hx hy hj) s1 s2 (fun q => ⟨_, rfl, z true q⟩) (fun q => ⟨_, rfl, z false (Bool.eq_false_iff.mpr q)⟩))
theorem m_isOpen {i c t : Nat} (hi : 1 ≤ i ∧ i ≤ 5) (ht : t < 73) (hc : c < 81) (s : q_lad σ τ e n) (h : R (some (.int (q_b (q_open (nI i) (q_dark τ e n c) t)))) σ) : g_wp E (d + 2) 151 [.ref 68, .int (nI i), .int (nI c), .int (nI t)] σ R := by
  have z : ∀ dk y0, q_dark τ e n c = dk → y0 = q_b (dk && q_noon t) → g_g E (g_wp E (d + 1)) 151 28 [some (.ref 68), some (.int (nI i)), some (.int (nI c)), some (.int (nI t)), none] [.int y0] σ R := fun dk y0 e ey => by
    have s75 := s c hc
    rw [e] at h s75
    rcases (show i = 1 ∨ i = 2 ∨ i = 3 ∨ i = 4 ∨ i = 5 by omega) with e | e | e | e | e <;> subst e
    · refine t151_28 ⟨fun c => absurd c (by decide), fun _ => ?_, fun c => absurd c (by decide), fun c => absurd c (by decide), fun c => absurd c (by decide), trivial⟩
      rw [q_cl (by omega), s75]
      refine ⟨vp_in_nI hc (by omega), ?_, h⟩
      cases dk <;> decide
    · refine t151_28 ⟨fun c => absurd c (by decide), fun c => absurd c (by decide), fun _ => ?_, fun c => absurd c (by decide), fun c => absurd c (by decide), trivial⟩
      subst ey
      refine ⟨?_, h⟩
      cases (dk && q_noon t) <;> decide
    · refine t151_28 ⟨fun c => absurd c (by decide), fun c => absurd c (by decide), fun c => absurd c (by decide), fun _ => ?_, fun c => absurd c (by decide), trivial⟩
      change R (some (.int (q_b (dk && q_noon t || decide (t = 36))))) σ at h
      subst ey
      cases q : (dk && q_noon t)
      · rw [q, Bool.false_or] at h
        refine ⟨fun c => absurd rfl c, fun _ => ⟨fun c => ?_, fun c => ?_⟩⟩
        · rw [decide_eq_false (fun w => c (by rw [w]; rfl))] at h; exact h
        · rw [decide_eq_true ((nI_eq (b := 36) (by omega) (by omega)).mp (Classical.not_not.mp c))] at h; exact h
      · rw [q] at h
        exact ⟨fun _ => h, fun c => absurd (fun y => absurd y (by decide)) c⟩
    · refine t151_28 ⟨fun c => absurd c (by decide), fun c => absurd c (by decide), fun c => absurd c (by decide), fun c => absurd c (by decide), fun _ => ?_, trivial⟩
      change R (some (.int (q_b (!dk)))) σ at h
      rw [q_cl (by omega), s75]
      refine ⟨vp_in_nI hc (by omega), ?_⟩
      cases dk
      · exact ⟨fun c => absurd rfl c, fun _ => h⟩
      · exact ⟨fun _ => h, fun c => absurd (fun y => absurd y (by decide)) c⟩
    · refine t151_28 ⟨fun _ => ?_, fun c => absurd c (by decide), fun c => absurd c (by decide), fun c => absurd c (by decide), fun c => absurd c (by decide), trivial⟩
      change R (some (.int (q_b (!dk && !(decide (12 ≤ t) && decide (t ≤ 60)))))) σ at h
      rw [q_cl (by omega), s75]
      refine ⟨vp_in_nI hc (by omega), ?_⟩
      cases dk
      · refine ⟨fun c => absurd rfl c, fun _ => m_in 12 60 rfl rfl (fun a1 a2 => ⟨_, rfl, n_1 ?_⟩) (fun a1 => ⟨_, rfl, n_0 ?_⟩)⟩
        · rw [nI_toInt (by omega)] at a1 a2
          rw [decide_eq_true (show 12 ≤ t by omega), decide_eq_true (show t ≤ 60 by omega)] at h; exact h
        · rw [nI_toInt (by omega)] at a1
          by_cases q : 12 ≤ t
          · rw [decide_eq_false (show ¬ t ≤ 60 by omega), Bool.and_false] at h; exact h
          · rw [decide_eq_false q, Bool.false_and] at h; exact h
      · exact ⟨fun _ => h, fun c => absurd (fun y => absurd y (by decide)) c⟩
  refine t151_0 ⟨vp_in_nI hc (by omega), ?_⟩
  rw [q_cl (by omega), s c hc]
  cases q : q_dark τ e n c
  · exact ⟨fun _ => z false 0 q rfl, fun c => absurd rfl c⟩
  · refine ⟨fun c => absurd c (by decide), fun _ => m_in 30 42 rfl rfl (fun a1 a2 => ⟨_, rfl, q_1 (z true 1 q ?_)⟩) (fun a1 => ⟨_, rfl, q_0 (z true 0 q ?_)⟩)⟩
    · rw [nI_toInt (by omega)] at a1 a2
      unfold q_noon
      rw [decide_eq_true (show 30 ≤ t by omega), decide_eq_true (show t ≤ 42 by omega)]; rfl
    · rw [nI_toInt (by omega)] at a1
      unfold q_noon
      by_cases q : 30 ≤ t
      · rw [decide_eq_false (show ¬ t ≤ 42 by omega), Bool.and_false]; rfl
      · rw [decide_eq_false q]; rfl
/-- the shops that are open by a shadow -/
def q_os (τ : Nat → Int32) (e n : Int32) (t : Nat) : Nat := q_bs (fun k => q_open (τ (88 + 3 * k)) (q_dark τ e n (τ (89 + 3 * k)).toNatClampNeg) t) (τ 6).toNatClampNeg
def q_at (τ : Nat → Int32) (t : Nat) : Nat := if τ (112 + t) = 1 then 0 else q_os τ (q_te t τ) (q_tn τ) t
theorem c_os_l {b t N : Nat} (hb : g_Tw b) (w : TR σ b τ) (f : WT τ) (ht : t < 73) (hN : N ≤ 8) (e6 : τ 6 = nI N) (s : q_shd σ τ e n) (h : R (some (.int (nI (q_os τ e n t)))) σ) : ∀ w k, k + w = N → g_g E (g_wp E (d + 2)) 7 23 [some (.ref 41), some (.ref b), some (.int (nI t)), some (.int (nI (q_bs (fun k => q_open (τ (88 + 3 * k)) (q_dark τ e n (τ (89 + 3 * k)).toNatClampNeg) t) k))), some (.int (nI k))] [] σ R := by
  have e8 : σ b 8 = nI N := w.2.2.2.2.2.2.2.1.trans e6
  obtain ⟨N', n1, n2, n3, n4⟩ := f.2.2.2.2.2.1
  have eN : N' = N := (nI_eq (by omega) (by omega)).mp (n2.symm.trans e6)
  subst eN
  intro w'
  induction w' with
  | zero =>
    intro k hk
    have ek : k = N' := by omega
    subst ek
    refine t7_23 hb ⟨fun _ => ?_, fun c => absurd (by rw [e8]; exact nI_le (Nat.le_refl _) (by omega)) c⟩
    unfold q_os at h
    rw [e6, q_cl (by omega)] at h
    exact h
  | succ w' ih =>
    intro k hk
    have kN : nI k < τ 6 := by rw [e6]; exact nI_lt (by omega) (by omega)
    obtain ⟨⟨i, i1, i2, i3⟩, ⟨c, c1, c2, c3⟩, -⟩ := n3 k (by omega)
    obtain ⟨r1, r2, r3⟩ := w.2.2.2.2.2.2.2.2.2.2 k (by omega) kN
    refine t7_23 hb ⟨fun q => absurd q (by rw [e8]; exact nI_ge (by omega) (by omega)), fun _ => ⟨vp_in_nI (by omega) (by omega), vp_in_nI (by omega) (by omega), ?_⟩⟩
    rw [q_cl (by omega), r1, r2, i3, c2, q_sh1k k (by omega), nI_or, nI_1, show (0 : Int32) = nI 0 from rfl, nI_or]
    have z := ih (k + 1) (by omega)
    rw [show q_bs (fun k => q_open (τ (88 + 3 * k)) (q_dark τ e n (τ (89 + 3 * k)).toNatClampNeg) t) (k + 1) = q_bs (fun k => q_open (τ (88 + 3 * k)) (q_dark τ e n (τ (89 + 3 * k)).toNatClampNeg) t) k ||| (if q_open (τ (88 + 3 * k)) (q_dark τ e n (τ (89 + 3 * k)).toNatClampNeg) t = true then 2 ^ k else 0) from rfl, i3, c2, q_cl (by omega)] at z
    refine c_isOpen ⟨i1, i2⟩ ht c1 s ⟨_, rfl, ?_⟩
    cases q : q_open (nI i) (q_dark τ e n c) t
    · rw [q, if_neg (by decide)] at z
      exact ⟨fun _ => z, fun y => absurd rfl y⟩
    · rw [q, if_pos rfl] at z
      exact ⟨fun y => absurd y (by decide), fun _ => z⟩
theorem c_openShops {b t : Nat} (hb : g_Tw b) (w : TR σ b τ) (f : WT τ) (ht : t < 73) (h : ∀ σ', (∀ a, a ≠ 41 → a ≠ 42 → σ' a = σ a) → R (some (.int (nI (q_at τ t)))) σ') : g_wp E (d + 3) 7 [.ref 41, .ref b, .int (nI t)] σ R := by
  have hb' := hb.rg
  obtain ⟨N, n1, n2, -⟩ := id f.2.2.2.2.2.1
  obtain ⟨hx, hy, -⟩ := q_xy f
  refine t7_0 hb ⟨vp_in_nI ht (by omega), ?_⟩
  rw [q_cl (by omega), w.2.2.2.2.2.2.2.2.2.1 t ht]
  unfold q_at at h
  refine ⟨fun c => c_throw hb w f ht ⟨rfl, ?_⟩, fun c => ?_⟩
  · have z := h (g_sh σ (q_cell τ (q_te t τ) (q_tn τ) (q_m (q_te t τ) (q_tn τ))) (q_L τ (q_te t τ) (q_tn τ))) (fun a h1 h2 => g_sh_ne h1 h2)
    rw [if_neg c] at z
    exact c_os_l hb (w.low (fun a h1 h2 => g_sh_ne (by omega) (by omega))) f ht n1 n2 ⟨⟨hx, hy, q_rg_t f ht⟩, g_sh_41, fun j hj => g_sh_42 hj⟩ z N 0 (by omega)
  · have z := h σ (fun _ _ _ => rfl)
    rw [if_pos (Classical.not_not.mp c)] at z
    exact z
theorem m_os_l {t N : Nat} (f : WT τ) (et : σ 72 = τ) (ht : t < 73) (hN : N ≤ 8) (e6 : τ 6 = nI N) (s : q_lad σ τ e n) (h : R (some (.int (nI (q_os τ e n t)))) σ) : ∀ w k, k + w = N → g_g E (g_wp E (d + 2)) 154 4 [some (.ref 68), some (.int (nI t)), some (.int (nI (q_bs (fun k => q_open (τ (88 + 3 * k)) (q_dark τ e n (τ (89 + 3 * k)).toNatClampNeg) t) k))), some (.int (nI k))] [] σ R := by
  have e8 : σ 72 6 = nI N := by rw [et]; exact e6
  obtain ⟨N', n1, n2, n3, n4⟩ := f.2.2.2.2.2.1
  have eN : N' = N := (nI_eq (by omega) (by omega)).mp (n2.symm.trans e6)
  subst eN
  intro w'
  induction w' with
  | zero =>
    intro k hk
    have ek : k = N' := by omega
    subst ek
    refine t154_4 ⟨fun _ => ?_, fun c => absurd (by rw [e8]; exact nI_le (Nat.le_refl _) (by omega)) c⟩
    unfold q_os at h
    rw [e6, q_cl (by omega)] at h
    exact h
  | succ w' ih =>
    intro k hk
    obtain ⟨⟨i, i1, i2, i3⟩, ⟨c, c1, c2, c3⟩, -⟩ := n3 k (by omega)
    refine t154_4 ⟨fun q => absurd q (by rw [e8]; exact nI_ge (by omega) (by omega)), fun _ => m_kind0 (by omega) ⟨_, rfl, m_cellOf (by omega) ⟨_, rfl, ?_⟩⟩⟩
    rw [show σ 72 (88 + 3 * k) = nI i by rw [et]; exact i3, show σ 72 (89 + 3 * k) = nI c by rw [et]; exact c2, q_sh1k k (by omega), nI_or, nI_1, show (0 : Int32) = nI 0 from rfl, nI_or]
    have z := ih (k + 1) (by omega)
    rw [show q_bs (fun k => q_open (τ (88 + 3 * k)) (q_dark τ e n (τ (89 + 3 * k)).toNatClampNeg) t) (k + 1) = q_bs (fun k => q_open (τ (88 + 3 * k)) (q_dark τ e n (τ (89 + 3 * k)).toNatClampNeg) t) k ||| (if q_open (τ (88 + 3 * k)) (q_dark τ e n (τ (89 + 3 * k)).toNatClampNeg) t = true then 2 ^ k else 0) from rfl, i3, c2, q_cl (by omega)] at z
    refine m_isOpen ⟨i1, i2⟩ ht c1 s ⟨_, rfl, ?_⟩
    cases q : q_open (nI i) (q_dark τ e n c) t
    · rw [q, if_neg (by decide)] at z
      exact ⟨fun _ => z, fun y => absurd rfl y⟩
    · rw [q, if_pos rfl] at z
      exact ⟨fun y => absurd y (by decide), fun _ => z⟩
theorem m_openBy {t : Nat} (f : WT τ) (et : σ 72 = τ) (ht : t < 73) (s : q_lad σ τ e n) (h : R (some (.int (nI (q_os τ e n t)))) σ) : g_wp E (d + 3) 154 [.ref 68, .int (nI t)] σ R := by
  obtain ⟨N, n1, n2, -⟩ := id f.2.2.2.2.2.1
  exact t154_0 (m_os_l f et ht n1 n2 s h N 0 (by omega))
theorem q_lad_dk : q_lad (g_dk σ (q_cell τ e n (q_m e n)) (q_L τ e n)) τ e n := fun c hc => g_dk_75 hc
theorem m_openAt {t : Nat} (f : WT τ) (et : σ 72 = τ) (ht : t < 73) (h : ∀ σ', (∀ a, a ≠ 75 → σ' a = σ a) → R (some (.int (nI (q_at τ t)))) σ') : g_wp E (d + 4) 155 [.ref 68, .int (nI t)] σ R := by
  have e : (112 : Int32) + nI t = nI (112 + t) := nI_add 112 t
  have z := h (g_dk σ (q_cell τ (q_te t τ) (q_tn τ) (q_m (q_te t τ) (q_tn τ))) (q_L τ (q_te t τ) (q_tn τ))) (fun a h1 => g_dk_ne h1)
  have e72 : g_dk σ (q_cell τ (q_te t τ) (q_tn τ) (q_m (q_te t τ) (q_tn τ))) (q_L τ (q_te t τ) (q_tn τ)) 72 = τ := (g_dk_ne (by omega)).trans et
  unfold q_at at z
  refine t155_0 (m_layNow et f ht ⟨rfl, ?_⟩)
  dsimp only
  rw [e, q_cl (by omega), e72]
  refine ⟨vp_in_nI (by omega) (by omega), fun c => m_openBy f e72 ht q_lad_dk ⟨_, rfl, ?_⟩, fun c => ?_⟩
  · rw [if_neg c] at z; exact z
  · rw [if_pos (Classical.not_not.mp c)] at z; exact z
end Q75
theorem Sc.d75 {σ σ1 σ' : g_S} (h : Sc σ1 σ) (k : ∀ a, a ≠ 75 → σ' a = σ1 a) : Sc σ' σ := fun a j q => by
  have : a ≠ 75 := by
    have q' := q
    unfold q_can at q'
    simp only [Bool.or_eq_true, Bool.and_eq_true, beq_iff_eq] at q'
    omega
  rw [k a this]
  exact h a j q
theorem p_open {E : g_E} (x1 : Int32) : g_pr E 83 156 [.int x1] := by
  refine ⟨fun μ => if (μ 72 4).toInt ≤ 0 then -1000002 else if x1.toInt < 0 ∨ 72 < x1.toInt then -1000001 else nI (q_at (μ 72) x1.toNatClampNeg), fun μ => μ, fun σ μ R hc hw h => ?_, fun σ R hw h => ?_, fun μ h => h⟩
  · have ht := q_there hc hw
    dsimp only at h
    refine t83_0 ⟨fun c => c_isSlot (fun a1 a2 => ⟨_, rfl, q_1 ?_⟩) (fun a1 => ⟨_, rfl, q_0 ?_⟩), fun c => ?_⟩
    · rw [ht] at c
      obtain ⟨t, ht', rfl⟩ := q_ix (x := x1) (n := 73) (by omega) (by omega) (by omega)
      rw [q_cl (by omega)] at h
      repeat (first | rw [if_neg (by omega)] at h)
      exact c_openShops (d := 16) (Or.inl rfl) hc.tr hw.wt ht' (fun σ' k => ⟨_, rfl, h σ' (hc.low (fun a _ _ _ _ _ => k a (by omega) (by omega))) (fun a ha => k a (by omega) (by omega))⟩)
    · rw [ht] at c
      repeat (first | rw [if_pos (by omega)] at h | rw [if_neg (by omega)] at h)
      exact h σ hc (fun _ _ => rfl)
    · rw [ht] at c
      repeat (first | rw [if_pos (by omega)] at h | rw [if_neg (by omega)] at h)
      exact h σ hc (fun _ _ => rfl)
  · dsimp only at h
    refine t156_0 (fun s es => m_isThere (fun h4 => ⟨_, rfl, n_1 (m_isSlot (fun a1 a2 => ⟨_, rfl, q_1 ?_⟩) (fun a1 => ⟨_, rfl, q_0 ?_⟩))⟩) (fun h4 => ⟨_, rfl, n_0 ?_⟩))
    all_goals subst es
    · change 0 < (mo σ 72 4).toInt at h4
      obtain ⟨t, ht', rfl⟩ := q_ix (x := x1) (n := 73) (by omega) (by omega) (by omega)
      rw [q_cl (by omega)] at h
      repeat (first | rw [if_neg (by omega)] at h)
      have e72 : g_up σ 68 0 0 72 = mo σ 72 := rfl
      exact m_openAt (d := 15) hw.wt e72 ht' (fun σ' k => ⟨_, rfl, h σ' (fun a ha => (k a (by omega)).trans (g_up_ne (by omega))) (((Sc.rf.up rfl).d75 k).ce)⟩)
    · change 0 < (mo σ 72 4).toInt at h4
      repeat (first | rw [if_pos (by omega)] at h | rw [if_neg (by omega)] at h)
      exact h _ (lo_up (fun _ _ => rfl) (by omega)) (Sc.rf.up rfl).ce
    · change (mo σ 72 4).toInt ≤ 0 at h4
      repeat (first | rw [if_pos (by omega)] at h | rw [if_neg (by omega)] at h)
      exact h _ (lo_up (fun _ _ => rfl) (by omega)) (Sc.rf.up rfl).ce
