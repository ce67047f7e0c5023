/-! soonest: the reference's half -/
/-- where the step (y, v) leads: the cell and the shops, as a place of the row -/
def q_gf (τ : Nat → Int32) (P y v : Nat) : Option Nat := (q_nbr τ (y % 81) v).map (fun c' => c' + 81 * (y / 81 ||| (q_sa τ c' &&& P)))
theorem q_gf_s {τ : Nat → Int32} {P y v c' : Nat} (h : q_nbr τ (y % 81) v = some c') : q_gf τ P y v = some (c' + 81 * (y / 81 ||| (q_sa τ c' &&& P))) := by
  unfold q_gf
  rw [h]; rfl
theorem q_gf_n {τ : Nat → Int32} {P y v : Nat} (h : q_nbr τ (y % 81) v = none) : q_gf τ P y v = none := by
  unfold q_gf
  rw [h]; rfl
/-- what was put by the steps ahead of (k, w), and by them as j -/
def q_gp (τ : Nat → Int32) (Z : Nat → Prop) (P k w j : Nat) : Prop := ∃ y v, (y < k ∨ (y = k ∧ v < w)) ∧ y < 20736 ∧ v < 5 ∧ Z y ∧ q_gf τ P y v = some j
theorem q_gp_same {τ : Nat → Int32} {Z : Nat → Prop} {P k w k' w' j : Nat} (h : ∀ y v, v < 5 → Z y → q_gf τ P y v = some j → ((y < k ∨ (y = k ∧ v < w)) ↔ (y < k' ∨ (y = k' ∧ v < w')))) : q_gp τ Z P k w j ↔ q_gp τ Z P k' w' j :=
  ⟨fun ⟨y, v, p1, p2, p3, p4, p5⟩ => ⟨y, v, (h y v p3 p4 p5).mp p1, p2, p3, p4, p5⟩, fun ⟨y, v, p1, p2, p3, p4, p5⟩ => ⟨y, v, (h y v p3 p4 p5).mpr p1, p2, p3, p4, p5⟩⟩
theorem q_gp_put {τ : Nat → Int32} {Z : Nat → Prop} {P k w j i : Nat} (hk : k < 20736) (hw : w < 5) (hz : Z k) (e : q_gf τ P k w = some i) : q_gp τ Z P k (w + 1) j ↔ (q_gp τ Z P k w j ∨ j = i) := by
  constructor
  · rintro ⟨y, v, p1, p2, p3, p4, p5⟩
    by_cases q : y = k ∧ v = w
    · obtain ⟨q1, q2⟩ := q
      subst q1; subst q2
      rw [e] at p5
      cases p5
      exact Or.inr rfl
    · exact Or.inl ⟨y, v, by omega, p2, p3, p4, p5⟩
  · rintro (⟨y, v, p1, p2, p3, p4, p5⟩ | q)
    · exact ⟨y, v, by omega, p2, p3, p4, p5⟩
    · subst q
      exact ⟨k, w, Or.inr ⟨rfl, by omega⟩, hk, hw, hz, e⟩
theorem q_gp_all {τ : Nat → Int32} {W c t n j : Nat} (hW : W < 256) (hj : j < 20736) : q_gp τ (fun y => q_rs τ W c t n (y % 81) (y / 81)) (q_at τ (t + n + 1) &&& W) 20736 0 j ↔ q_rs τ W c t (n + 1) (j % 81) (j / 81) := by
  constructor
  · rintro ⟨y, v, -, p2, p3, p4, p5⟩
    cases q : q_nbr τ (y % 81) v with
    | none =>
      rw [q_gf_n q] at p5
      cases p5
    | some c' =>
      rw [q_gf_s q] at p5
      have c81 := (q_nbr_l q).1
      have e := (Option.some.inj p5).symm
      generalize hG : y / 81 ||| (q_sa τ c' &&& (q_at τ (t + n + 1) &&& W)) = G at e
      rw [show j % 81 = c' by omega, show j / 81 = G by omega]
      exact ⟨y % 81, y / 81, by omega, p4, ⟨v, p3, q⟩, hG.symm⟩
  · rintro ⟨y, S0, hy, s1, ⟨v, hv, e⟩, e2⟩
    have l := q_rs_l hW s1
    have m1 : (y + 81 * S0) % 81 = y := by omega
    have m2 : (y + 81 * S0) / 81 = S0 := by omega
    refine ⟨y + 81 * S0, v, Or.inl (by omega), by omega, hv, by dsimp only; rw [m1, m2]; exact s1, ?_⟩
    rw [q_gf_s (c' := j % 81) (by rw [m1]; exact e), m2, ← e2]
    congr 1
    omega
/-- the row of the states after n slots -/
def q_ri (s : g_S) (τ : Nat → Int32) (W c t n : Nat) : Prop := ∀ j, j < 20736 → s 76 j = if q_pd (q_rs τ W c t n (j % 81) (j / 81)) = true then 1 else 0
section Q96
variable {E : g_E} {d : Nat} {R : g_R} {σ : g_S} {τ : Nat → Int32}
/-- the inner ways -/
theorem m_go_in {W P N k : Nat} {Z : Nat → Prop} (et : σ 72 = τ) (hN : N ≤ 8) (e6 : τ 6 = nI N) (hW : W < 256) (hP : P < 256) (hk : k < 20736) (hz : ∀ y, y < 20736 → (σ 76 y ≠ 0 ↔ Z y)) (h : ∀ s, (∀ x, x ≠ 77 → s x = σ x) → (∀ j, j < 20736 → s 77 j = if q_pd (q_gp τ Z P (k + 1) 0 j) = true then 1 else 0) → ∀ a : Int32, a = (if q_pd (∃ j, q_gp τ Z P (k + 1) 0 j ∧ j / 81 = W) = true then 1 else 0) → g_g E (g_wp E (d + 2)) 163 39 [some (.ref 68), none, some (.int (nI W)), some (.int (nI P)), some (.int a), some (.int (nI (k + 1))), none, none, none] [] s R) : ∀ g w s, w + g = 5 → (∀ x, x ≠ 77 → s x = σ x) → (∀ j, j < 20736 → s 77 j = if q_pd (q_gp τ Z P k w j) = true then 1 else 0) → ∀ a : Int32, a = (if q_pd (∃ j, q_gp τ Z P k w j ∧ j / 81 = W) = true then 1 else 0) → g_g E (g_wp E (d + 2)) 163 50 [some (.ref 68), none, some (.int (nI W)), some (.int (nI P)), some (.int a), some (.int (nI k)), some (.int (nI w)), none, none] [] s R := by
  have nx : ∀ w s, (∀ x, x ≠ 77 → s x = σ x) → (∀ j, j < 20736 → s 77 j = if q_pd (q_gp τ Z P k w j) = true then 1 else 0) → ∀ a : Int32, a = (if q_pd (∃ j, q_gp τ Z P k w j ∧ j / 81 = W) = true then 1 else 0) → (∀ j, q_gp τ Z P k w j ↔ q_gp τ Z P (k + 1) 0 j) → g_g E (g_wp E (d + 2)) 163 39 [some (.ref 68), none, some (.int (nI W)), some (.int (nI P)), some (.int a), some (.int (nI (k + 1))), none, none, none] [] s R := fun w s fr sp a ha same => by
    refine h s fr (fun j hj => ?_) a ?_
    · rw [sp j hj, q_pd_c (same j)]
    · have e : (∃ j, q_gp τ Z P k w j ∧ j / 81 = W) ↔ (∃ j, q_gp τ Z P (k + 1) 0 j ∧ j / 81 = W) := ⟨fun ⟨j, z1, z2⟩ => ⟨j, (same j).mp z1, z2⟩, fun ⟨j, z1, z2⟩ => ⟨j, (same j).mpr z1, z2⟩⟩
      rw [ha, q_pd_c e]
  intro g
  induction g with
  | zero =>
    intro w s hw fr sp a ha
    have e : w = 5 := by omega
    subst e
    refine t163_50 ⟨fun _ => ?_, fun q => absurd (nI_le (a := 5) (b := 5) (by omega) (by omega)) q⟩
    rw [nI_1]
    exact nx 5 s fr sp a ha (fun j => q_gp_same (fun y v v5 _ _ => by omega))
  | succ g ih =>
    intro w s hw fr sp a ha
    have e1 : nI k - nI k / 81 * 81 = nI (k % 81) := by
      rw [show (81 : Int32) = nI 81 from rfl, pk_rem (by omega) (by omega) (by omega)]
    have e2 : nI k / 81 = nI (k / 81) := by
      rw [show (81 : Int32) = nI 81 from rfl, pk_div (by omega) (by omega) (by omega)]
    have r76 : s 76 k = σ 76 k := congrFun (fr 76 (by omega)) k
    refine t163_50 ⟨fun q => absurd q (nI_ge (b := 5) (by omega) (by omega)), fun _ => ⟨vp_in_nI hk (by omega), ?_⟩⟩
    rw [q_cl (by omega), r76, e1, e2, nI_1, nI_1]
    refine ⟨fun q => ?_, fun q => ?_⟩
    · refine nx w s fr sp a ha (fun j => q_gp_same (fun y v v5 zy _ => ?_))
      have : y ≠ k := fun e => by
        subst e
        exact (hz y hk).mpr zy q
      omega
    · have zk := (hz k hk).mp q
      have s72 : s 72 = τ := (fr 72 (by omega)).trans et
      refine m_next (by omega) (by omega) (fun c' ec => ⟨_, rfl, fun z => absurd z (q_none (q_nbr_l ec).1), fun _ => ?_⟩) (fun ec => ⟨_, rfl, fun _ => ?_, fun z => absurd rfl z⟩)
      · have c81 := (q_nbr_l ec).1
        rw [s72] at ec
        have eg := q_gf_s (P := P) ec
        refine m_shopsAt s72 c81 hN e6 ⟨_, rfl, ?_⟩
        have l1 : k / 81 ||| (q_sa τ c' &&& P) < 256 := Nat.or_lt_two_pow (n := 8) (by omega) (Nat.and_lt_two_pow _ hP)
        have e3 : nI c' + (81 : Int32) * (nI (k / 81) ||| (nI (q_sa τ c') &&& nI P)) = nI (c' + 81 * (k / 81 ||| (q_sa τ c' &&& P))) := by
          rw [nI_and, nI_or, show (81 : Int32) = nI 81 from rfl, pk_mul, nI_add]
        dsimp only
        rw [e3, nI_and, nI_or]
        generalize hG : k / 81 ||| (q_sa τ c' &&& P) = G at eg l1 ⊢
        rw [q_cl (by omega)]
        refine ⟨vp_in_nI (by omega) (by omega), fun s18 es => ?_⟩
        have fr2 : ∀ x, x ≠ 77 → s18 x = σ x := fun x q => by rw [es]; exact (g_up_ne q).trans (fr x q)
        have put := fun j => q_gp_put (j := j) (τ := τ) (Z := Z) (P := P) hk (show w < 5 by omega) zk eg
        have sp2 : ∀ j, j < 20736 → s18 77 j = if q_pd (q_gp τ Z P k (w + 1) j) = true then 1 else 0 := fun j hj => by
          rw [es, q_pd_c (put j)]
          by_cases y : j = c' + 81 * G
          · subst y
            rw [g_up_s, if_pos (q_pd_t (Or.inr rfl))]
          · rw [g_up_n (by omega), sp j hj, q_pd_c (show q_gp τ Z P k w j ↔ (q_gp τ Z P k w j ∨ j = c' + 81 * G) from ⟨Or.inl, fun z => z.resolve_right y⟩)]
        have al2 : q_pd (∃ j, q_gp τ Z P k (w + 1) j ∧ j / 81 = W) = q_pd ((∃ j, q_gp τ Z P k w j ∧ j / 81 = W) ∨ G = W) := q_pd_c (by
          constructor
          · rintro ⟨j, z1, z2⟩
            rcases (put j).mp z1 with z | z
            · exact Or.inl ⟨j, z, z2⟩
            · subst z
              exact Or.inr (by omega)
          · rintro (⟨j, z1, z2⟩ | z)
            · exact ⟨j, (put j).mpr (Or.inl z1), z2⟩
            · exact ⟨c' + 81 * G, (put _).mpr (Or.inr rfl), by omega⟩)
        refine ⟨fun q2 => ?_, fun q2 => ⟨fun q3 => ?_, fun q3 => ?_⟩⟩
        · refine ih (w + 1) s18 (by omega) fr2 sp2 _ ?_
          rw [ha] at q2
          rw [al2, if_pos (q_pd_t (Or.inl (q_ne0.mp q2)))]
        · refine ih (w + 1) s18 (by omega) fr2 sp2 _ ?_
          rw [ha] at q2
          rw [al2, if_neg (fun z => ?_)]
          rcases q_pd_iff.mp z with z | z
          · exact q2 (q_ne0.mpr z)
          · exact q3 (by rw [z])
        · refine ih (w + 1) s18 (by omega) fr2 sp2 _ ?_
          rw [al2, if_pos (q_pd_t (Or.inr ((nI_eq (by omega) (by omega)).mp (Classical.not_not.mp q3))))]
      · rw [s72] at ec
        have same : ∀ j, q_gp τ Z P k w j ↔ q_gp τ Z P k (w + 1) j := fun j => q_gp_same (fun y v v5 _ ej => by
          have : ¬ (y = k ∧ v = w) := fun z => by
            obtain ⟨z1, z2⟩ := z
            subst z1; subst z2
            rw [q_gf_n ec] at ej
            cases ej
          omega)
        refine ih (w + 1) s (by omega) fr (fun j hj => by rw [sp j hj, q_pd_c (same j)]) a ?_
        have e : (∃ j, q_gp τ Z P k w j ∧ j / 81 = W) ↔ (∃ j, q_gp τ Z P k (w + 1) j ∧ j / 81 = W) := ⟨fun ⟨j, z1, z2⟩ => ⟨j, (same j).mp z1, z2⟩, fun ⟨j, z1, z2⟩ => ⟨j, (same j).mpr z1, z2⟩⟩
        rw [ha, q_pd_c e]
/-- the copy of the row -/
theorem m_go_cp {O : g_O} {a : Int32} {V : Nat → Prop} (ha : a = 0 ∨ a = 1) (h77 : ∀ j, j < 20736 → σ 77 j = if q_pd (V j) = true then 1 else 0) (h : ∀ s, (∀ x, x ≠ 76 → s x = σ x) → (∀ j, j < 20736 → s 76 j = if q_pd (V j) = true then 1 else 0) → R (some (.int a)) s) : ∀ g k s, k + g = 20736 → (∀ x, x ≠ 76 → s x = σ x) → (∀ j, j < k → s 76 j = if q_pd (V j) = true then 1 else 0) → g_g E O 163 149 [some (.ref 68), none, none, none, some (.int a), some (.int (nI k)), none, none, none] [] s R := by
  have nb : ∀ v : Int32, (v = 0 ∨ v = 1) → narrow .boolean (.int v) = .int v := fun v hv => by
    rcases hv with e | e <;> subst e <;> decide
  intro g
  induction g with
  | zero =>
    intro k s hk fr sp
    have e : k = 20736 := by omega
    subst e
    exact t163_149 ⟨fun _ => ⟨nb a ha, h s fr sp⟩, fun q => absurd (nI_le (a := 20736) (b := 20736) (by omega) (by omega)) q⟩
  | succ g ih =>
    intro k s hk fr sp
    have e : s 77 k = if q_pd (V k) = true then 1 else 0 := (congrFun (fr 77 (by omega)) k).trans (h77 k (by omega))
    refine t163_149 ⟨fun q => absurd q (nI_ge (b := 20736) (by omega) (by omega)), fun _ => ⟨vp_in_nI (by omega) (by omega), vp_in_nI (by omega) (by omega), ?_, fun s8 es => ?_⟩⟩
    · rw [q_cl (by omega)]
      refine nb _ ?_
      rw [e]
      by_cases q : q_pd (V k) = true
      · rw [if_pos q]; exact Or.inr rfl
      · rw [if_neg q]; exact Or.inl rfl
    · rw [q_cl (by omega), e] at es
      rw [nI_1]
      refine ih (k + 1) s8 (by omega) (fun x q => by rw [es]; exact (g_up_ne q).trans (fr x q)) (fun j hj => ?_)
      rw [es]
      by_cases y : j = k
      · subst y; exact g_up_s
      · rw [g_up_n (by omega)]; exact sp j (by omega)
theorem m_go_out {W P N : Nat} {Z : Nat → Prop} (et : σ 72 = τ) (hN : N ≤ 8) (e6 : τ 6 = nI N) (hW : W < 256) (hP : P < 256) (hz : ∀ y, y < 20736 → (σ 76 y ≠ 0 ↔ Z y)) (h : ∀ s, (∀ x, x ≠ 76 → x ≠ 77 → s x = σ x) → (∀ j, j < 20736 → s 76 j = if q_pd (q_gp τ Z P 20736 0 j) = true then 1 else 0) → ∀ a : Int32, a = (if q_pd (∃ j, q_gp τ Z P 20736 0 j ∧ j / 81 = W) = true then 1 else 0) → R (some (.int a)) s) : ∀ g k s, k + g = 20736 → (∀ x, x ≠ 77 → s x = σ x) → (∀ j, j < 20736 → s 77 j = if q_pd (q_gp τ Z P k 0 j) = true then 1 else 0) → ∀ a : Int32, a = (if q_pd (∃ j, q_gp τ Z P k 0 j ∧ j / 81 = W) = true then 1 else 0) → g_g E (g_wp E (d + 2)) 163 39 [some (.ref 68), none, some (.int (nI W)), some (.int (nI P)), some (.int a), some (.int (nI k)), none, none, none] [] s R := by
  intro g
  induction g with
  | zero =>
    intro k s hk fr sp a ha
    have e : k = 20736 := by omega
    subst e
    refine t163_39 ⟨fun _ => ?_, fun q => absurd (nI_le (a := 20736) (b := 20736) (by omega) (by omega)) q⟩
    refine m_go_cp (σ := s) ?_ sp (fun s2 f2 r2 => h s2 (fun x q1 q2 => (f2 x q1).trans (fr x q2)) r2 a ha) 20736 0 s (by omega) (fun _ _ => rfl) (fun j hj => absurd hj (Nat.not_lt_zero j))
    rw [ha]
    by_cases q : q_pd (∃ j, q_gp τ Z P 20736 0 j ∧ j / 81 = W) = true
    · rw [if_pos q]; exact Or.inr rfl
    · rw [if_neg q]; exact Or.inl rfl
  | succ g ih =>
    intro k s hk fr sp a ha
    refine t163_39 ⟨fun q => absurd q (nI_ge (b := 20736) (by omega) (by omega)), fun _ => ?_⟩
    exact m_go_in (d := d) et hN e6 hW hP (by omega) hz (fun s2 f2 p2 a2 h2 => ih (k + 1) s2 (by omega) f2 p2 a2 h2) 5 0 s (by omega) fr sp a ha
theorem m_zero77 {O : g_O} {W P : Int32} (h : ∀ s, (∀ x, x ≠ 77 → s x = σ x) → (∀ j, j < 20736 → s 77 j = 0) → g_g E O 163 39 [some (.ref 68), none, some (.int W), some (.int P), some (.int 0), some (.int 0), none, none, none] [] s R) : ∀ g k s, k + g = 20736 → (∀ x, x ≠ 77 → s x = σ x) → (∀ j, j < k → s 77 j = 0) → g_g E O 163 14 [some (.ref 68), none, some (.int W), some (.int P), some (.int 0), some (.int (nI k)), none, none, none] [] s R := by
  intro g
  induction g with
  | zero =>
    intro k s hk fr sp
    have e : k = 20736 := by omega
    subst e
    exact t163_14 ⟨fun _ => h s fr sp, fun q => absurd (nI_le (a := 20736) (b := 20736) (by omega) (by omega)) q⟩
  | succ g ih =>
    intro k s hk fr sp
    refine t163_14 ⟨fun q => absurd q (nI_ge (b := 20736) (by omega) (by omega)), fun _ => ⟨vp_in_nI (by omega) (by omega), fun s5 es => ?_⟩⟩
    rw [q_cl (by omega)] at es
    rw [nI_1]
    refine ih (k + 1) s5 (by omega) (fun x q => by rw [es]; exact (g_up_ne q).trans (fr x q)) (fun j hj => ?_)
    rw [es]
    by_cases y : j = k
    · subst y; exact g_up_s
    · rw [g_up_n (by omega)]; exact sp j (by omega)
theorem m_goOn {W c t n N : Nat} (et : σ 72 = τ) (f : WT τ) (hN : N ≤ 8) (e6 : τ 6 = nI N) (hW : W < 256) (ht : t + n + 1 < 73) (ri : q_ri σ τ W c t n) (h : ∀ s, (∀ x, x ≠ 75 → x ≠ 76 → x ≠ 77 → s x = σ x) → q_ri s τ W c t (n + 1) → ∀ a : Int32, a = (if q_pd (q_all τ W c t (t + n + 1)) = true then 1 else 0) → R (some (.int a)) s) : g_wp E (d + 5) 163 [.ref 68, .int (nI (t + n + 1)), .int (nI W)] σ R := by
  refine t163_0 (m_openAt f et ht (fun s1 k1 => ⟨_, rfl, ?_⟩))
  dsimp only
  rw [nI_and]
  have hP : q_at τ (t + n + 1) &&& W < 256 := Nat.and_lt_two_pow (n := 8) _ hW
  refine m_zero77 (σ := s1) (fun s2 k2 z2 => ?_) 20736 0 s1 (by omega) (fun _ _ => rfl) (fun j hj => absurd hj (Nat.not_lt_zero j))
  have fr2 : ∀ x, x ≠ 75 → x ≠ 77 → s2 x = σ x := fun x q1 q2 => (k2 x q2).trans (k1 x q1)
  have none0 : ∀ j, ¬ q_gp τ (fun y => q_rs τ W c t n (y % 81) (y / 81)) (q_at τ (t + n + 1) &&& W) 0 0 j := fun j z => by
    obtain ⟨y, v, p1, -⟩ := z
    omega
  refine m_go_out (d := d + 2) (σ := s2) (Z := fun y => q_rs τ W c t n (y % 81) (y / 81)) ((fr2 72 (by omega) (by omega)).trans et) hN e6 hW hP (fun y hy => ?_) (fun s3 k3 r3 a ha => h s3 (fun x q1 q2 q3 => (k3 x q2 q3).trans (fr2 x q1 q3)) (fun j hj => by rw [r3 j hj, q_pd_c (q_gp_all hW hj)]) a ?_) 20736 0 s2 (by omega) (fun _ _ => rfl) (fun j hj => ?_) 0 ?_
  · rw [fr2 76 (by omega) (by omega), ri y hy, q_ne0]
  · rw [ha]
    have e : (∃ j, q_gp τ (fun y => q_rs τ W c t n (y % 81) (y / 81)) (q_at τ (t + n + 1) &&& W) 20736 0 j ∧ j / 81 = W) ↔ q_all τ W c t (t + n + 1) := by
      constructor
      · rintro ⟨j, z1, z2⟩
        have j2 : j < 20736 := by omega
        have z3 := (q_gp_all hW j2).mp z1
        rw [z2] at z3
        exact ⟨n + 1, j % 81, rfl, by omega, z3⟩
      · rintro ⟨m, x, em, hx, rs⟩
        have em2 : m = n + 1 := by omega
        subst em2
        have m1 : (x + 81 * W) % 81 = x := by omega
        have m2 : (x + 81 * W) / 81 = W := by omega
        exact ⟨x + 81 * W, (q_gp_all hW (by omega)).mpr (by rw [m1, m2]; exact rs), m2⟩
    rw [q_pd_c e]
  · rw [z2 j hj, if_neg (fun z => none0 j (q_pd_iff.mp z))]
  · rw [if_neg (fun z => by
      obtain ⟨j, z1, -⟩ := q_pd_iff.mp z
      exact none0 j z1)]
end Q96
