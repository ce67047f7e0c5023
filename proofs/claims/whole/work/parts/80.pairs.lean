/-! a way from a cell; shops in a cell: both -/
def q_nx (c w : Nat) : Int32 := nI (c % 9) + g_at0 (g_roL 0) w 0
def q_ny (c w : Nat) : Int32 := nI (c / 9) + g_at0 (g_roL 1) w 0
def q_nbr (τ : Nat → Int32) (c w : Nat) : Option Nat := if 0 ≤ (q_nx c w).toInt ∧ (q_nx c w).toInt ≤ 8 ∧ 0 ≤ (q_ny c w).toInt ∧ (q_ny c w).toInt ≤ 8 then (if τ (7 + ((q_nx c w).toNatClampNeg + 9 * (q_ny c w).toNatClampNeg)) = 0 then some ((q_nx c w).toNatClampNeg + 9 * (q_ny c w).toNatClampNeg) else none) else none
theorem q_nbr_l {τ : Nat → Int32} {c w c' : Nat} (h : q_nbr τ c w = some c') : c' < 81 ∧ τ (7 + c') = 0 := by
  unfold q_nbr at h
  by_cases q : 0 ≤ (q_nx c w).toInt ∧ (q_nx c w).toInt ≤ 8 ∧ 0 ≤ (q_ny c w).toInt ∧ (q_ny c w).toInt ≤ 8
  · rw [if_pos q] at h
    obtain ⟨a, ha, ea⟩ := q_ix (x := q_nx c w) (n := 9) (by omega) (by omega) (by omega)
    obtain ⟨b, hb, eb⟩ := q_ix (x := q_ny c w) (n := 9) (by omega) (by omega) (by omega)
    rw [ea, eb, q_cl (by omega), q_cl (by omega)] at h
    by_cases z : τ (7 + (a + 9 * b)) = 0
    · rw [if_pos z] at h
      cases h
      exact ⟨by omega, z⟩
    · rw [if_neg z] at h
      cases h
  · rw [if_neg q] at h
    cases h
def q_sa (τ : Nat → Int32) (c : Nat) : Nat := q_bs (fun k => decide (τ (89 + 3 * k) = nI c)) (τ 6).toNatClampNeg
theorem q_gr_walk {τ : Nat → Int32} {c : Nat} {g : Int32} (w : WT τ) (hc : c < 81) (h : q_gr τ c g) : (g ≠ 1 ∧ g ≠ 2) ↔ τ (7 + c) = 0 := by
  obtain ⟨h1, h2, h3, h4⟩ := h
  rcases w.2.2.2.2.2.2.1 c hc with q | q | q
  · by_cases s : q_shopAt τ c
    · rw [h3 q s, q]; decide
    · rw [h4 q s, q]; decide
  · rw [h2 q, q]; decide
  · rw [h1 q, q]; decide
section Q80
variable {E : g_E} {d : Nat} {R : g_R} {σ : g_S} {τ : Nat → Int32}
theorem c_isWalkable {b c : Nat} (hb : g_Tw b) (w0 : TR σ b τ) (f : WT τ) (hc : c < 81) (hp : τ (7 + c) = 0 → R (some (.int 1)) σ) (hn : τ (7 + c) ≠ 0 → R (some (.int 0)) σ) : g_wp E (d + 2) 55 [.ref b, .int (nI c)] σ R := by
  have g := q_gr_walk f hc (w0.2.2.2.2.2.2.2.2.1 c hc)
  refine t55_0 hb (t53_0 hb ⟨vp_in_nI hc (by omega), ?_⟩)
  rw [q_cl (by omega)]
  refine ⟨fun q => ⟨_, rfl, n_0 (c_isWall hb hc (fun q2 => ⟨_, rfl, n_1 (hn (fun z => (g.mpr z).2 q2))⟩) (fun q2 => ⟨_, rfl, n_0 (hp (g.mp ⟨q, q2⟩))⟩))⟩, fun q => ⟨_, rfl, n_1 (hn (fun z => (g.mpr z).1 (Classical.not_not.mp q)))⟩⟩
theorem m_mayBe {c : Nat} (hc : c < 81) (hp : σ 72 (7 + c) = 0 → R (some (.int 1)) σ) (hn : σ 72 (7 + c) ≠ 0 → R (some (.int 0)) σ) : g_wp E (d + 1) 161 [.ref 68, .int (nI c)] σ R := by
  have e : (7 : Int32) + nI c = nI (7 + c) := nI_add 7 c
  refine t161_0 ?_
  rw [e, q_cl (by omega)]
  exact ⟨vp_in_nI (by omega) (by omega), hn, fun q => hp (Classical.not_not.mp q)⟩
theorem q_none {c : Nat} (h : c < 81) : ¬ nI c = -1000000 := fun z => by
  have := congrArg Int32.toInt z
  rw [nI_toInt (by omega), show ((-1000000 : Int32)).toInt = (-1000000 : Int) from by decide] at this
  omega
theorem c_beside {b c w : Nat} (hb : g_Tw b) (w0 : TR σ b τ) (f : WT τ) (hc : c < 81) (hw : w < 5) (hp : ∀ c', q_nbr τ c w = some c' → R (some (.int (nI c'))) σ) (hn : q_nbr τ c w = none → R (some (.int (-1000000))) σ) : g_wp E (d + 3) 68 [.ref b, .int (nI c), .int (nI w)] σ R := by
  refine t68_0 hb ⟨fun q => absurd q (nI_nlt (a := w) (b := 0) (by omega) (by omega)), fun _ => ⟨Or.inl (by omega), fun _ => ⟨vp_in_nI hw (by omega), vp_in_nI hw (by omega), ?_⟩, fun q => absurd (nI_lt (a := w) (b := 5) (by omega) (by omega)) q⟩⟩
  rw [q_cl (by omega)]
  have ex : nI c - nI c / 9 * 9 = nI (c % 9) := by
    rw [show (9 : Int32) = nI 9 from rfl, pk_rem (by omega) (by omega) (by omega)]
  have ey : nI c / 9 = nI (c / 9) := by
    rw [show (9 : Int32) = nI 9 from rfl, pk_div (by omega) (by omega) (by omega)]
  rw [ex, ey]
  change g_wp E (d + 2) 106 [.int (q_nx c w), .int (q_ny c w)] σ _
  unfold q_nbr at hp hn
  refine c_cellAt (fun a b' ha hb2 eX eY => ⟨_, rfl, fun q => absurd q (q_none (by omega)), fun _ => ?_⟩) (fun q => ⟨_, rfl, fun _ => ?_, fun q => absurd rfl q⟩)
  · rw [eX, eY, nI_toInt (by omega), nI_toInt (by omega), q_cl (by omega), q_cl (by omega), if_pos (by omega)] at hp hn
    refine c_isWalkable hb w0 f (by omega) (fun q => ⟨_, rfl, q_1 ?_⟩) (fun q => ⟨_, rfl, q_0 ?_⟩)
    · rw [if_pos q] at hp
      exact hp _ rfl
    · rw [if_neg q] at hn
      exact hn rfl
  · rw [if_neg (by omega)] at hn
    exact hn rfl
theorem c_beside_no {b c : Nat} {x : Int32} (hb : g_Tw b) (hx : x.toInt < 0 ∨ 4 < x.toInt) (h : R (some (.int (-1000000))) σ) : g_wp E (d + 1) 68 [.ref b, .int (nI c), .int x] σ R := by
  refine t68_0 hb ⟨fun _ => h, fun q => ⟨Or.inl (by omega), fun q2 => ?_, fun _ => h⟩⟩
  exfalso
  change x < nI 5 at q2
  simp only [q_lt, Int32.reduceToInt] at q q2
  rw [nI_toInt (by omega)] at q2
  omega
theorem m_next47 {O : g_O} {c w : Nat} {y0 : Int32} (hO : ∀ (M : Nat) (as : List Value) (s : g_S) (Q : g_R), g_wp E (d + 1) M as s Q → O M as s Q) (e1 : nI (c / 9) + y0 = q_ny c w) (hp : ∀ c', q_nbr (σ 72) c w = some c' → R (some (.int (nI c'))) σ) (hn : q_nbr (σ 72) c w = none → R (some (.int (-1000000))) σ) : g_g E O 160 47 [some (.ref 68), none, none, some (.int (q_nx c w)), none] [.int y0, .int (nI (c / 9))] σ R := by
  unfold q_nbr at hp hn
  refine t160_47 (hO _ _ _ _ (m_in 0 8 rfl rfl (fun a1 a2 => ⟨_, rfl, q_1 (hO _ _ _ _ ?_)⟩) (fun a1 => ⟨_, rfl, q_0 ?_⟩)))
  · rw [e1]
    refine m_in 0 8 rfl rfl (fun a3 a4 => ⟨_, rfl, q_1 ?_⟩) (fun a3 => ⟨_, rfl, q_0 ?_⟩)
    · obtain ⟨a, ha, ea⟩ := q_ix (x := q_nx c w) (n := 9) (by omega) (by omega) (by omega)
      obtain ⟨b, hb, eb⟩ := q_ix (x := q_ny c w) (n := 9) (by omega) (by omega) (by omega)
      have e7 : (7 : Int32) + nI a + 9 * nI b = nI (7 + (a + 9 * b)) := by
        rw [show (7 : Int32) = nI 7 from rfl, show (9 : Int32) = nI 9 from rfl, pk_mul, nI_add, nI_add, Nat.add_assoc]
      have e8 : nI a + 9 * nI b = nI (a + 9 * b) := by
        rw [show (9 : Int32) = nI 9 from rfl, pk_mul, nI_add]
      rw [ea, eb, nI_toInt (by omega), nI_toInt (by omega), q_cl (by omega), q_cl (by omega), if_pos (by omega)] at hp hn
      rw [ea, eb, e7, e8, q_cl (by omega)]
      refine ⟨vp_in_nI (by omega) (by omega), fun q => ?_, fun q => ?_⟩
      · rw [if_neg q] at hn; exact hn rfl
      · rw [if_pos (Classical.not_not.mp q)] at hp; exact hp _ rfl
    · rw [if_neg (by omega)] at hn
      exact hn rfl
  · rw [if_neg (by omega)] at hn
    exact hn rfl
theorem m_next {c w : Nat} (hc : c < 81) (hw : w < 5) (hp : ∀ c', q_nbr (σ 72) c w = some c' → R (some (.int (nI c'))) σ) (hn : q_nbr (σ 72) c w = none → R (some (.int (-1000000))) σ) : g_wp E (d + 2) 160 [.ref 68, .int (nI c), .int (nI w)] σ R := by
  have ex : nI c - nI c / 9 * 9 = nI (c % 9) := by
    rw [show (9 : Int32) = nI 9 from rfl, pk_rem (by omega) (by omega) (by omega)]
  have ey : nI c / 9 = nI (c / 9) := by
    rw [show (9 : Int32) = nI 9 from rfl, pk_div (by omega) (by omega) (by omega)]
  have fin : ∀ y0, nI (c / 9) + y0 = q_ny c w → g_g E (g_wp E (d + 1)) 160 47 [some (.ref 68), none, none, some (.int (q_nx c w)), none] [.int y0, .int (nI (c / 9))] σ R := fun y0 e => m_next47 (d := d) (fun _ _ _ _ y => y) e hp hn
  refine t160_0 ?_
  rw [ex]
  rcases (show w = 0 ∨ w = 1 ∨ w = 2 ∨ w = 3 ∨ w = 4 by omega) with e | e | e | e | e <;> subst e
  · refine ⟨fun _ => ⟨fun _ => t160_23 ?_, fun q => absurd (by decide) q⟩, fun q => absurd (by decide) q⟩
    rw [ey]
    exact ⟨fun q => absurd rfl q, fun _ => fin (-1) rfl⟩
  · refine ⟨fun q => absurd rfl q, fun _ => t160_23 ?_⟩
    rw [ey]
    exact ⟨fun _ => ⟨fun _ => fin 0 rfl, fun q => absurd (by decide) q⟩, fun q => absurd (by decide) q⟩
  · refine ⟨fun _ => ⟨fun _ => t160_23 ?_, fun q => absurd (by decide) q⟩, fun q => absurd (by decide) q⟩
    rw [ey]
    exact ⟨fun _ => ⟨fun q => absurd rfl q, fun _ => fin 1 rfl⟩, fun q => absurd (by decide) q⟩
  · refine ⟨fun _ => ⟨fun q => absurd rfl q, fun _ => t160_23 ?_⟩, fun q => absurd (by decide) q⟩
    rw [ey]
    exact ⟨fun _ => ⟨fun _ => fin 0 rfl, fun q => absurd (by decide) q⟩, fun q => absurd (by decide) q⟩
  · refine ⟨fun _ => ⟨fun _ => t160_23 ?_, fun q => absurd (by decide) q⟩, fun q => absurd (by decide) q⟩
    rw [ey]
    exact ⟨fun _ => ⟨fun _ => fin 0 rfl, fun q => absurd (by decide) q⟩, fun q => absurd (by decide) q⟩
theorem c_shopIn {b c N : Nat} (hb : g_Tw b) (w0 : TR σ b τ) (hc : c < 81) (hN : N ≤ 8) (e6 : τ 6 = nI N) (h : R (some (.int (nI (q_sa τ c)))) σ) : g_wp E (d + 1) 58 [.ref b, .int (nI c)] σ R := by
  have e8 : σ b 8 = nI N := w0.2.2.2.2.2.2.2.1.trans e6
  unfold q_sa at h
  rw [e6, q_cl (by omega)] at h
  have l : ∀ w k, k + w = N → g_g E (g_wp E d) 58 4 [some (.ref b), some (.int (nI c)), some (.int (nI (q_bs (fun k => decide (τ (89 + 3 * k) = nI c)) k))), some (.int (nI k))] [] σ R := by
    intro w
    induction w with
    | zero =>
      intro k hk
      have ek : k = N := by omega
      subst ek
      exact t58_4 hb ⟨fun _ => h, fun q => absurd (by rw [e8]; exact nI_le (Nat.le_refl _) (by omega)) q⟩
    | succ w ih =>
      intro k hk
      have kN : nI k < τ 6 := by rw [e6]; exact nI_lt (by omega) (by omega)
      obtain ⟨r1, r2, r3⟩ := w0.2.2.2.2.2.2.2.2.2.2 k (by omega) kN
      refine t58_4 hb ⟨fun q => absurd q (by rw [e8]; exact nI_ge (by omega) (by omega)), fun _ => ⟨vp_in_nI (by omega) (by omega), ?_⟩⟩
      have z := ih (k + 1) (by omega)
      rw [show q_bs (fun k => decide (τ (89 + 3 * k) = nI c)) (k + 1) = q_bs (fun k => decide (τ (89 + 3 * k) = nI c)) k ||| (if decide (τ (89 + 3 * k) = nI c) = true then 2 ^ k else 0) from rfl] at z
      rw [q_cl (by omega), r2, q_sh1k k (by omega), nI_or, nI_1, show (0 : Int32) = nI 0 from rfl, nI_or]
      refine ⟨fun q => ?_, fun q => ?_⟩
      · rw [decide_eq_false q, if_neg (by decide)] at z; exact z
      · rw [decide_eq_true (Classical.not_not.mp q), if_pos rfl] at z; exact z
  exact t58_0 hb (l N 0 (by omega))
theorem m_shopsAt {c N : Nat} (et : σ 72 = τ) (hc : c < 81) (hN : N ≤ 8) (e6 : τ 6 = nI N) (h : R (some (.int (nI (q_sa τ c)))) σ) : g_wp E (d + 2) 162 [.ref 68, .int (nI c)] σ R := by
  have e8 : σ 72 6 = nI N := by rw [et]; exact e6
  unfold q_sa at h
  rw [e6, q_cl (by omega)] at h
  have l : ∀ w k, k + w = N → g_g E (g_wp E (d + 1)) 162 4 [some (.ref 68), some (.int (nI c)), some (.int (nI (q_bs (fun k => decide (τ (89 + 3 * k) = nI c)) k))), some (.int (nI k))] [] σ R := by
    intro w
    induction w with
    | zero =>
      intro k hk
      have ek : k = N := by omega
      subst ek
      exact t162_4 ⟨fun _ => h, fun q => absurd (by rw [e8]; exact nI_le (Nat.le_refl _) (by omega)) q⟩
    | succ w ih =>
      intro k hk
      refine t162_4 ⟨fun q => absurd q (by rw [e8]; exact nI_ge (by omega) (by omega)), fun _ => m_cellOf (by omega) ⟨_, rfl, ?_⟩⟩
      have z := ih (k + 1) (by omega)
      rw [show q_bs (fun k => decide (τ (89 + 3 * k) = nI c)) (k + 1) = q_bs (fun k => decide (τ (89 + 3 * k) = nI c)) k ||| (if decide (τ (89 + 3 * k) = nI c) = true then 2 ^ k else 0) from rfl] at z
      rw [et, q_sh1k k (by omega), nI_or, nI_1, show (0 : Int32) = nI 0 from rfl, nI_or]
      refine ⟨fun q => ?_, fun q => ?_⟩
      · rw [decide_eq_false q, if_neg (by decide)] at z; exact z
      · rw [decide_eq_true (Classical.not_not.mp q), if_pos rfl] at z; exact z
  exact t162_0 (l N 0 (by omega))
end Q80
