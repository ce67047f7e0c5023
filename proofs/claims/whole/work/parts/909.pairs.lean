/-! town: the reference's reader -/
theorem q_J.z {s : g_S} {β : Nat → Int32} {L p : Nat} {a : Nat × Nat} (h : q_J s β L p a) (h0 : a.1 = 0) : q_J s β L p (0, 0) := by
  obtain ⟨h1, h2, h3, h4, p', h5, h6, h7⟩ := h
  exact ⟨by rw [h1, h0], by dsimp only; omega, fun y => absurd rfl y, h4, p', h5, h6, fun _ => h7 h0⟩
theorem q_free_c {τ τ' : Nat → Int32} {c n : Nat} (h : ∀ i, i < 185 → τ' i = τ i) (hc : c < 81) (hn : n ≤ 8) (e6 : τ 6 = nI n) : q_free τ' c = true ↔ q_free τ c = true := by
  rw [q_free_iff hn e6, q_free_iff hn ((h 6 (by omega)).trans e6), h (7 + c) (by omega), q_shopAt.congr (h 6 (by omega)) (fun k hk => h _ (by omega))]
/-- the rows that a text's reading changes -/
def q_fk (s σ : g_S) : Prop := (∀ x, x ≠ 68 → x ≠ 73 → s x = σ x) ∧ ∀ j, j < 11 ∨ 16 < j → s 68 j = σ 68 j
theorem q_fk.rf {s : g_S} : q_fk s s := ⟨fun _ _ _ => rfl, fun _ _ => rfl⟩
theorem q_fk.fj {s s2 σ : g_S} (h2 : q_fj s2 s) (h : q_fk s σ) : q_fk s2 σ := ⟨fun x q q2 => (h2.1 x q).trans (h.1 x q q2), fun j q => (h2.2 j q).trans (h.2 j q)⟩
theorem q_fk.up {s σ : g_S} {j : Nat} {v : Int32} (h : q_fk s σ) : q_fk (g_up s 73 j v) σ := ⟨fun x q q2 => (g_up_ne q2).trans (h.1 x q q2), fun j q => (g_up_n (by omega)).trans (h.2 j q)⟩
def q_fe (s : g_S) (τ : Nat → Int32) : Prop := ∀ i, i < 185 → s 73 i = τ i
theorem q_fe.fj {s s2 : g_S} {τ : Nat → Int32} (h : q_fe s τ) (k : q_fj s2 s) : q_fe s2 τ := fun i hi => (congrFun (k.1 73 (by omega)) i).trans (h i hi)
theorem q_fe.up {s : g_S} {τ : Nat → Int32} {j : Nat} {v : Int32} (h : q_fe s τ) : q_fe (g_up s 73 j v) (upd τ j v) := fun i hi => by
  by_cases e : i = j
  · subst e; rw [g_up_s, upd_s]
  · rw [g_up_n (by omega), upd_n e]; exact h i hi
section Q909
variable {E : g_E} {d : Nat} {R : g_R} {σ : g_S} {β : Nat → Int32} {L : Nat}
theorem m_rtower {p : Nat} {s : g_S} (hL : L ≤ 400) (hβ : ∀ i, i < 400 → σ 74 i = β i) (by' : q_by β) (fk : q_fk s σ) (J : q_J s β L p (0, 0)) (fe : q_fe s q_t0) (h : ∀ s2, q_fk s2 σ → q_J s2 β L (q_ne β L 5 p) (q_aT β L p) → ((q_aT β L p).1 = 0 → q_fe s2 (q_t1 (q_cc β L (q_ne β L 1 p)) (q_tV β L (q_ne β L 3 p)))) → R none s2) : g_wp E (d + 5) 129 [.ref 68] s R := by
  have hb : ∀ s2, q_fk s2 σ → ∀ i, i < 400 → s2 74 i = β i := fun s2 k i hi => (congrFun (k.1 74 (by omega) (by omega)) i).trans (hβ i hi)
  refine t129_0 (m_name (d := d + 3) hL (hb s fk) by' J (fun r hr => ⟨_, rfl, ?_⟩))
  have hw := hr 20 (by omega) (by omega)
  rw [q_wk_v.1] at hw
  have go : ∀ y0 : Int32, (y0 = 0 → q_wf β L p 20 = 1) → (¬ y0 = 0 → q_wf β L p 20 = 0) → g_g E (g_wp E (d + 4)) 129 17 [some (.ref 68), none, none, none] [.int y0, .ref 68] s R := fun y0 z1 z0 => by
    refine t129_17 (m_must (d := d + 1) (f := q_wf β L p 20) hL (hb s fk) by' J z1 z0 (fun s1 j1 J1 => ⟨rfl, ?_⟩))
    have k1 := fk.fj j1
    refine m_number (d := d) (lo := 0) (hi := 8) (by omega) (by omega) hL (hb s1 k1) by' J1 (fun r2 s2 j2 J2 v2 => ⟨_, rfl, ?_⟩)
    have k2 := k1.fj j2
    refine m_number (d := d) (lo := 0) (hi := 8) (by omega) (by omega) hL (hb s2 k2) by' J2 (fun r3 s3 j3 J3 v3 => ⟨_, rfl, ?_⟩)
    have k3 := k2.fj j3
    refine m_number (d := d) (lo := 1) (hi := 8) (by omega) (by omega) hL (hb s3 k3) by' J3 (fun r4 s4 j4 J4 v4 => ⟨_, rfl, ?_⟩)
    have k4 := k3.fj j4
    refine m_mustEnd (d := d) hL (hb s4 k4) by' J4 (fun s5 j5 J5 => ⟨rfl, ?_⟩)
    have k5 := k4.fj j5
    have J5' : q_J s5 β L (q_ne β L 5 p) (q_aT β L p) := J5
    dsimp only
    rw [J5'.nz]
    refine ⟨fun z => h s5 k5 J5' (fun y => absurd y z), fun z => ?_⟩
    have z' := Classical.not_not.mp z
    obtain ⟨n0, n1, n2, n3, n4⟩ := q_aT_0 z'
    obtain ⟨x, y, hx, hy, ex, ey, ec⟩ := q_cc_l n1 n2
    have w5 := q_an_z z'
    have w4 := q_an_z w5.1
    have w3 := q_an_z w4.1
    have e2 : r2 = nI x := (v2 w3.1).trans ex
    have e3 : r3 = nI y := (v3 w4.1).trans ey
    have e4 : r4 = q_tV β L (q_ne β L 3 p) := v4 w5.1
    subst e2; subst e3; subst e4
    have m1 : nI x + 9 * nI y = nI (x + 9 * y) := by rw [show (9 : Int32) = nI 9 from rfl, pk_mul, nI_add]
    have m2 : (7 : Int32) + nI x + 9 * nI y = nI (7 + (x + 9 * y)) := by rw [show (7 : Int32) = nI 7 from rfl, show (9 : Int32) = nI 9 from rfl, pk_mul, nI_add, nI_add, Nat.add_assoc]
    rw [m1, m2, q_cl (by omega)]
    intro s19 e19 s20 e20
    refine ⟨vp_in_nI (by omega) (by omega), fun s21 e21 => h s21 ?_ ?_ (fun _ => ?_)⟩
    · rw [e21, e20, e19]; exact k5.up.up.up
    · refine J5'.same ?_
      rw [e21, e20, e19]; exact (g_up_ne (by omega)).trans ((g_up_ne (by omega)).trans (g_up_ne (by omega)))
    · rw [e21, e20, e19, show q_cc β L (q_ne β L 1 p) = x + 9 * y from ec]
      exact (((((fe.fj j1).fj j2).fj j3).fj j4).fj j5).up.up.up
  refine ⟨fun z => go 0 (fun _ => ?_) (fun y => absurd rfl y), fun z => go 1 (fun y => absurd y (by decide)) (fun _ => ?_)⟩
  · exact q_wf_1 (fun y => z (hw.mpr ⟨rfl, y⟩))
  · exact q_wf_0.mpr (hw.mp (Classical.not_not.mp z)).2
theorem m_rwall {p g : Nat} {s : g_S} {τ : Nat → Int32} (hL : L ≤ 400) (hβ : ∀ i, i < 400 → σ 74 i = β i) (by' : q_by β) (fk : q_fk s σ) (J : q_J s β L p (0, 0)) (fe : q_fe s τ) (i : q_in τ (g + 1)) (h : ∀ s2, q_fk s2 σ → q_J s2 β L (q_ne β L 4 p) (q_aW β L τ p) → ((q_aW β L τ p).1 = 0 → q_fe s2 (q_tw τ (q_cc β L (q_ne β L 1 p)))) → R none s2) : g_wp E (d + 5) 130 [.ref 68] s R := by
  have hb : ∀ s2, q_fk s2 σ → ∀ i, i < 400 → s2 74 i = β i := fun s2 k i hi => (congrFun (k.1 74 (by omega) (by omega)) i).trans (hβ i hi)
  refine t130_0 (m_begins (d := d) (i := 5) (v := 20) (by omega) hL (hb s fk) by' J (fun s1 j1 J1 => ⟨rfl, ?_⟩))
  rw [fe 5 (by omega)] at J1
  have k1 := fk.fj j1
  have fe1 := fe.fj j1
  refine m_number (d := d) (lo := 0) (hi := 8) (by omega) (by omega) hL (hb s1 k1) by' J1 (fun r2 s2 j2 J2 v2 => ⟨_, rfl, ?_⟩)
  have k2 := k1.fj j2
  have fe2 := fe1.fj j2
  have p2l : q_ne β L 2 p ≤ L := q_ne_l J.2.2.2.1
  generalize hA2 : q_an (q_an (0, 0) (if τ 5 = 20 then 3 else 0) (q_tS β L p)) (q_nf β L (q_ne β L 1 p) 0 8) (q_tS β L (q_ne β L 1 p)) = A2
  have J2' : q_J s2 β L (q_ne β L 2 p) A2 := by rw [← hA2]; exact J2
  have v2' : A2.1 = 0 → r2 = q_tV β L (q_ne β L 1 p) := fun z => v2 (by rw [← hA2] at z; exact z)
  have n2' : A2.1 = 0 → q_nf β L (q_ne β L 1 p) 0 8 = 0 := fun z => by rw [← hA2] at z; exact (q_an_z z).2
  -- behind the tower's test
  have go : ∀ s3, q_fj s3 s2 → q_J s3 β L (q_ne β L 2 p) (q_an A2 (q_fw β L τ (q_ne β L 1 p)) (q_tS β L (q_ne β L 2 p))) → g_g E (g_wp E (d + 4)) 130 67 [some (.ref 68), some (.int r2), none] [] s3 R := fun s3 j3 J3 => by
    have k3 := k2.fj j3
    have fe3 := fe2.fj j3
    refine t130_67 (m_number (d := d) (lo := 0) (hi := 8) (by omega) (by omega) hL (hb s3 k3) by' J3 (fun r4 s4 j4 J4 v4 => ⟨_, rfl, ?_⟩))
    have k4 := k3.fj j4
    refine m_mustEnd (d := d) hL (hb s4 k4) by' J4 (fun s5 j5 J5 => ⟨rfl, ?_⟩)
    have k5 := k4.fj j5
    have J5' : q_J s5 β L (q_ne β L 4 p) (q_aW β L τ p) := by
      unfold q_aW
      rw [hA2]; exact J5
    have fe5 := (fe3.fj j4).fj j5
    dsimp only
    rw [J5'.nz]
    refine ⟨fun z => h s5 k5 J5' (fun y => absurd y z), fun z => ?_⟩
    have z' := Classical.not_not.mp z
    obtain ⟨n0, n1, n2, n3, n4⟩ := q_aW_0 z'
    obtain ⟨x, y, hx, hy, ex, ey, ec⟩ := q_cc_l n1 n3
    have z2 := z'
    unfold q_aW at z2
    rw [hA2] at z2
    have w5 := q_an_z z2
    have w4 := q_an_z w5.1
    have w3 := q_an_z w4.1
    have e2 : r2 = nI x := (v2' w3.1).trans ex
    have e4 : r4 = nI y := (v4 w5.1).trans ey
    subst e2; subst e4
    have m2 : (7 : Int32) + nI x + 9 * nI y = nI (7 + (x + 9 * y)) := by rw [show (7 : Int32) = nI 7 from rfl, show (9 : Int32) = nI 9 from rfl, pk_mul, nI_add, nI_add, Nat.add_assoc]
    rw [m2, q_cl (by omega)]
    refine ⟨vp_in_nI (by omega) (by omega), fun s24 e24 s25 e25 => h s25 ?_ ?_ (fun _ => ?_)⟩
    · rw [e25, e24]; exact k5.up.up
    · refine J5'.same ?_
      rw [e25, e24]; exact (g_up_ne (by omega)).trans (g_up_ne (by omega))
    · have e5 : s24 73 5 = τ 5 := by rw [e24, g_up_n (by omega)]; exact fe5 5 (by omega)
      rw [e25, e5, e24, show q_cc β L (q_ne β L 1 p) = x + 9 * y from ec]
      exact fe5.up.up
  obtain ⟨g1, g2, g3, g4, p', g5, g6, g7⟩ := id J2'
  have kl := q_rk_e (q_tK_l (β := β) (L := L) (p := p'))
  refine m_figs (d := d + 3) hL g5 (hb s2 k2) g6 ⟨_, rfl, ?_⟩
  dsimp only
  rw [J2'.nz, g6.2.2.1]
  refine ⟨fun z => go s2 q_fj.rf (by rw [q_an_k z]; exact J2'), fun z => ?_⟩
  have z0 := Classical.not_not.mp z
  have ep := g7 z0
  subst ep
  have nofw : ¬ (q_nf β L (q_ne β L 2 p) 0 8 = 0 ∧ τ 0 = nI (q_cc β L (q_ne β L 1 p))) → g_g E (g_wp E (d + 4)) 130 67 [some (.ref 68), some (.int r2), none] [] s2 R := fun no => go s2 q_fj.rf (by
    have e : q_fw β L τ (q_ne β L 1 p) = 0 := if_neg no
    rw [e, q_an_0 z0]
    obtain ⟨a1, a2, a3, a4, a5⟩ := J2'
    exact ⟨by rw [a1, z0], by dsimp only; omega, fun y => absurd rfl y, a4, q_ne β L 2 p, p2l, g6, fun _ => rfl⟩)
  refine ⟨fun y => nofw (fun y2 => y ?_), fun y => ?_⟩
  · have k2 : q_tK β L (q_ne β L 2 p) = 2 := by
      have w := y2.1
      unfold q_nf at w
      by_cases k : q_tK β L (q_ne β L 2 p) = 2
      · exact k
      · rw [if_neg k] at w; cases w
    rw [kl.2.2.1.mpr k2]; rfl
  · have k2 : q_tK β L (q_ne β L 2 p) = 2 := kl.2.2.1.mp ((nI_eq (b := 3) (by omega) (by omega)).mp (Classical.not_not.mp y))
    refine m_in (d := d + 3) 0 8 rfl rfl (fun y1 y2 => ⟨_, rfl, fun x => absurd x (by decide), fun _ => ?_⟩) (fun y1 => ⟨_, rfl, fun _ => nofw (fun y2 => ?_), fun x => absurd rfl x⟩)
    · have nf : q_nf β L (q_ne β L 2 p) 0 8 = 0 := by
        unfold q_nf
        rw [if_pos k2, if_pos (by omega)]
      obtain ⟨x, y, hx, hy, ex, ey, ec⟩ := q_cc_l (n2' z0) nf
      have e2 : r2 = nI x := (v2' z0).trans ex
      have m1 : nI x + 9 * nI y = nI (x + 9 * y) := by rw [show (9 : Int32) = nI 9 from rfl, pk_mul, nI_add]
      rw [fe2 0 (by omega), e2, show q_tV β L (q_ne β L 2 p) = nI y from ey, m1, ← show q_cc β L (q_ne β L 1 p) = x + 9 * y from ec, ← e2]
      refine ⟨fun w => nofw (fun w2 => w w2.2), fun w => ?_⟩
      have e : q_fw β L τ (q_ne β L 1 p) = 2 := if_pos ⟨nf, Classical.not_not.mp w⟩
      exact m_bad (d := d + 3) (f := 2) J2' ⟨by omega, by omega⟩ (fun s3 j3 J3 => ⟨rfl, go s3 j3 (by rw [e]; exact J3)⟩)
    · have w := y2.1
      unfold q_nf at w
      rw [if_pos k2, if_neg (by omega)] at w
      cases w
end Q909
