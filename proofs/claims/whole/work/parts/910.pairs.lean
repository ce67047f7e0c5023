/-! town: the reference's reader: shops -/
section Q910
variable {E : g_E} {d : Nat} {R : g_R} {σ : g_S} {β : Nat → Int32} {L : Nat}
theorem m_kindBy {p : Nat} {a : Nat × Nat} {r : Int64} (hr : ∀ q, 20 ≤ q → q < 28 → (lg_cmp r (Int64.ofNat (q_wk q)) = 0 ↔ (a.1 = 0 ∧ q_wd β L p q))) (h : ∀ v : Int32, (a.1 = 0 → q_srt β L p = 5 → v = -1000000) → (a.1 = 0 → q_srt β L p ≠ 5 → v = q_kos (nI (q_srt β L p))) → R (some (.int v)) σ) : g_wp E (d + 1) 125 [.long r] σ R := by
  obtain ⟨-, -, -, w23, w24, w25, w26, w27⟩ := q_wk_v
  have h23 := hr 23 (by omega) (by omega)
  have h24 := hr 24 (by omega) (by omega)
  have h25 := hr 25 (by omega) (by omega)
  have h26 := hr 26 (by omega) (by omega)
  have h27 := hr 27 (by omega) (by omega)
  rw [w23] at h23
  rw [w24] at h24
  rw [w25] at h25
  rw [w26] at h26
  rw [w27] at h27
  have yes : ∀ q, a.1 = 0 ∧ q_wd β L p q → q_wf β L p q = 0 := fun q y => q_wf_0.mpr y.2
  have no : ∀ q, ¬ (a.1 = 0 ∧ q_wd β L p q) → a.1 = 0 → ¬ q_wf β L p q = 0 := fun q y z x => y ⟨z, q_wf_0.mp x⟩
  refine t125_0 ?_
  rw [h23, h24, h25, h26, h27]
  refine ⟨fun n3 => ⟨fun n4 => ⟨fun n5 => ⟨fun n6 => ⟨fun n7 => ?_, fun y => ?_⟩, fun y => ?_⟩, fun y => ?_⟩, fun y => ?_⟩, fun y => ?_⟩
  · refine h (-1000000) (fun _ _ => rfl) (fun z k => absurd ?_ k)
    unfold q_srt
    rw [if_neg (no _ n3 z), if_neg (no _ n4 z), if_neg (no _ n5 z), if_neg (no _ n6 z), if_neg (no _ n7 z)]
  · have y' := Classical.not_not.mp y
    have e : q_srt β L p = 4 := by
      unfold q_srt
      rw [if_neg (no _ n3 y'.1), if_neg (no _ n4 y'.1), if_neg (no _ n5 y'.1), if_neg (no _ n6 y'.1), if_pos (yes _ y')]
    exact h 5 (fun _ k => absurd k (by omega)) (fun _ _ => by rw [e]; rfl)
  · have y' := Classical.not_not.mp y
    have e : q_srt β L p = 3 := by
      unfold q_srt
      rw [if_neg (no _ n3 y'.1), if_neg (no _ n4 y'.1), if_neg (no _ n5 y'.1), if_pos (yes _ y')]
    exact h 3 (fun _ k => absurd k (by omega)) (fun _ _ => by rw [e]; rfl)
  · have y' := Classical.not_not.mp y
    have e : q_srt β L p = 2 := by
      unfold q_srt
      rw [if_neg (no _ n3 y'.1), if_neg (no _ n4 y'.1), if_pos (yes _ y')]
    exact h 2 (fun _ k => absurd k (by omega)) (fun _ _ => by rw [e]; rfl)
  · have y' := Classical.not_not.mp y
    have e : q_srt β L p = 1 := by
      unfold q_srt
      rw [if_neg (no _ n3 y'.1), if_pos (yes _ y')]
    exact h 4 (fun _ k => absurd k (by omega)) (fun _ _ => by rw [e]; rfl)
  · have y' := Classical.not_not.mp y
    have e : q_srt β L p = 0 := by
      unfold q_srt
      rw [if_pos (yes _ y')]
    exact h 1 (fun _ k => absurd k (by omega)) (fun _ _ => by rw [e]; rfl)
theorem m_rshop {p g : Nat} {s : g_S} {τ : Nat → Int32} (hL : L ≤ 400) (hβ : ∀ i, i < 400 → σ 74 i = β i) (by' : q_by β) (fk : q_fk s σ) (J : q_J s β L p (0, 0)) (fe : q_fe s τ) (i : q_in τ (g + 1)) (h : ∀ s2, q_fk s2 σ → q_J s2 β L (q_ne β L 6 p) (q_aS β L τ p) → ((q_aS β L τ p).1 = 0 → q_fe s2 (q_tsh β L τ p)) → R none s2) : g_wp E (d + 5) 131 [.ref 68] s R := by
  have hb : ∀ s2, q_fk s2 σ → ∀ i, i < 400 → s2 74 i = β i := fun s2 k i hi => (congrFun (k.1 74 (by omega) (by omega)) i).trans (hβ i hi)
  obtain ⟨w, f4, kk, n, k1', n1, e5, e6, sm⟩ := id i
  refine t131_0 (m_begins (d := d) (i := 6) (v := 8) (by omega) hL (hb s fk) by' J (fun s1 j1 J1 => ⟨rfl, ?_⟩))
  rw [fe 6 (by omega)] at J1
  have k1 := fk.fj j1
  have fe1 := fe.fj j1
  generalize hA1 : q_an (0, 0) (if τ 6 = 8 then 3 else 0) (q_tS β L p) = A1 at J1
  refine m_name (d := d + 3) hL (hb s1 k1) by' J1 (fun r hr => ⟨_, rfl, m_kindBy (d := d + 3) hr (fun v v1 v2 => ⟨_, rfl, ?_⟩)⟩)
  dsimp only
  rw [J1.nz]
  -- behind the sort
  have go38 : ∀ s2, q_fj s2 s1 → q_J s2 β L (q_ne β L 2 p) (q_an A1 (if q_srt β L (q_ne β L 1 p) = 5 then 1 else 0) (q_tS β L (q_ne β L 1 p))) → g_g E (g_wp E (d + 4)) 131 38 [some (.ref 68), some (.int v), none, none, none, none] [] s2 R := fun s2 j2 J2 => by
    have k2 := k1.fj j2
    have fe2 := fe1.fj j2
    generalize hA2 : q_an A1 (if q_srt β L (q_ne β L 1 p) = 5 then 1 else 0) (q_tS β L (q_ne β L 1 p)) = A2 at J2
    refine t131_38 (m_number (d := d) (lo := 0) (hi := 8) (by omega) (by omega) hL (hb s2 k2) by' J2 (fun r3 s3 j3 J3 v3 => ⟨_, rfl, ?_⟩))
    have k3 := k2.fj j3
    have fe3 := fe2.fj j3
    have p3l : q_ne β L 3 p ≤ L := q_ne_l J.2.2.2.1
    generalize hA3 : q_an A2 (q_nf β L (q_ne β L 2 p) 0 8) (q_tS β L (q_ne β L 2 p)) = A3 at J3 v3
    have J3' : q_J s3 β L (q_ne β L 3 p) A3 := J3
    have v3' : A3.1 = 0 → r3 = q_tV β L (q_ne β L 2 p) := v3
    have n3' : A3.1 = 0 → q_nf β L (q_ne β L 2 p) 0 8 = 0 := fun z => by rw [← hA3] at z; exact (q_an_z z).2
    -- behind the test of the cell
    have go99 : ∀ s4, q_fj s4 s3 → q_J s4 β L (q_ne β L 3 p) (q_an A3 (q_fs β L τ (q_ne β L 2 p)) (q_tS β L (q_ne β L 3 p))) → g_g E (g_wp E (d + 4)) 131 99 [some (.ref 68), some (.int v), some (.int r3), none, none, none] [] s4 R := fun s4 j4 J4 => by
      have k4 := k3.fj j4
      have fe4 := fe3.fj j4
      refine t131_99 (m_number (d := d) (lo := 0) (hi := 8) (by omega) (by omega) hL (hb s4 k4) by' J4 (fun r5 s5 j5 J5 v5 => ⟨_, rfl, ?_⟩))
      have k5 := k4.fj j5
      refine m_number (d := d) (lo := 0) (hi := 99) (by omega) (by omega) hL (hb s5 k5) by' J5 (fun r6 s6 j6 J6 v6 => ⟨_, rfl, ?_⟩)
      have k6 := k5.fj j6
      refine m_mustEnd (d := d) hL (hb s6 k6) by' J6 (fun s7 j7 J7 => ⟨rfl, ?_⟩)
      have k7 := k6.fj j7
      have fe7 := ((fe4.fj j5).fj j6).fj j7
      have J7' : q_J s7 β L (q_ne β L 6 p) (q_aS β L τ p) := by
        unfold q_aS
        rw [hA1, hA2, hA3]; exact J7
      dsimp only
      rw [J7'.nz]
      refine ⟨fun z => h s7 k7 J7' (fun y => absurd y z), fun z => ?_⟩
      have z' := Classical.not_not.mp z
      obtain ⟨m0, m1, m2, m3, m4, m5, m6⟩ := q_aS_0 z'
      obtain ⟨x, y, hx, hy, ex, ey, ec⟩ := q_cc_l m2 m4
      have z2 := z'
      unfold q_aS at z2
      rw [hA1, hA2, hA3] at z2
      have w7 := q_an_z z2
      have w6 := q_an_z w7.1
      have w5 := q_an_z w6.1
      have w4 := q_an_z w5.1
      have w3 := w4.1
      rw [← hA3] at w3
      have w3' := q_an_z w3
      have w2 := w3'.1
      rw [← hA2] at w2
      have w2' := q_an_z w2
      have e3 : r3 = nI x := (v3' w4.1).trans ex
      have e5' : r5 = nI y := (v5 w6.1).trans ey
      have e6' : r6 = q_tV β L (q_ne β L 4 p) := v6 w7.1
      have ev : v = q_kos (nI (q_srt β L (q_ne β L 1 p))) := v2 w2'.1 m1
      have n8 : n ≠ 8 := fun z => m0 (by rw [e6, z]; rfl)
      have s76 : s7 73 6 = nI n := (fe7 6 (by omega)).trans e6
      subst e3; subst e5'; subst e6'; subst ev
      have a1 : (88 : Int32) + 3 * nI n = nI (88 + 3 * n) := by rw [show (88 : Int32) = nI 88 from rfl, show (3 : Int32) = nI 3 from rfl, pk_mul, nI_add]
      have a2 : nI (88 + 3 * n) + (1 : Int32) = nI (89 + 3 * n) := by rw [nI_1, show 88 + 3 * n + 1 = 89 + 3 * n by omega]
      have a3 : nI (88 + 3 * n) + (2 : Int32) = nI (90 + 3 * n) := by rw [show (2 : Int32) = nI 2 from rfl, nI_add, show 88 + 3 * n + 2 = 90 + 3 * n by omega]
      have a4 : nI x + 9 * nI y = nI (x + 9 * y) := by rw [show (9 : Int32) = nI 9 from rfl, pk_mul, nI_add]
      rw [s76, a1, a2, a3, a4, q_cl (by omega), q_cl (by omega), q_cl (by omega)]
      refine ⟨vp_in_nI (by omega) (by omega), fun s42 e42 => ⟨vp_in_nI (by omega) (by omega), fun s43 e43 => ⟨vp_in_nI (by omega) (by omega), fun s44 e44 s45 e45 => h s45 ?_ ?_ (fun _ => ?_)⟩⟩⟩
      · rw [e45, e44, e43, e42]; exact k7.up.up.up.up
      · refine J7'.same ?_
        rw [e45, e44, e43, e42]; exact (g_up_ne (by omega)).trans ((g_up_ne (by omega)).trans ((g_up_ne (by omega)).trans (g_up_ne (by omega))))
      · have e6s : s44 73 6 = nI n := by
          rw [e44, e43, e42]; exact (g_up_n (by omega)).trans ((g_up_n (by omega)).trans ((g_up_n (by omega)).trans s76))
        unfold q_tsh q_push
        rw [e45, e6s, nI_1, e44, e43, e42, e6, q_cl (by omega), show q_cc β L (q_ne β L 2 p) = x + 9 * y from ec]
        exact fe7.up.up.up.up
    obtain ⟨g1, g2, g3, g4, p', g5, g6, g7⟩ := id J3'
    have kl := q_rk_e (q_tK_l (β := β) (L := L) (p := p'))
    refine m_figs (d := d + 3) hL g5 (hb s3 k3) g6 ⟨_, rfl, ?_⟩
    dsimp only
    rw [J3'.nz, g6.2.2.1]
    refine ⟨fun z => go99 s3 q_fj.rf (by rw [q_an_k z]; exact J3'), fun z => ?_⟩
    have z0 := Classical.not_not.mp z
    have ep := g7 z0
    subst ep
    have nofs : ¬ (q_nf β L (q_ne β L 3 p) 0 8 = 0 ∧ ¬ q_free τ (q_cc β L (q_ne β L 2 p)) = true) → g_g E (g_wp E (d + 4)) 131 99 [some (.ref 68), some (.int v), some (.int r3), none, none, none] [] s3 R := fun no => go99 s3 q_fj.rf (by
      have e : q_fs β L τ (q_ne β L 2 p) = 0 := if_neg no
      rw [e, q_an_0 z0]
      obtain ⟨a1, a2, a3, a4, a5⟩ := J3'
      exact ⟨by rw [a1, z0], by dsimp only; omega, fun y => absurd rfl y, a4, q_ne β L 3 p, p3l, g6, fun _ => rfl⟩)
    refine ⟨fun y => nofs (fun y2 => y ?_), fun y => ?_⟩
    · have k2 : q_tK β L (q_ne β L 3 p) = 2 := by
        have w := y2.1
        unfold q_nf at w
        by_cases k : q_tK β L (q_ne β L 3 p) = 2
        · exact k
        · rw [if_neg k] at w; cases w
      rw [kl.2.2.1.mpr k2]; rfl
    · have k2 : q_tK β L (q_ne β L 3 p) = 2 := kl.2.2.1.mp ((nI_eq (b := 3) (by omega) (by omega)).mp (Classical.not_not.mp y))
      refine m_in (d := d + 3) 0 8 rfl rfl (fun y1 y2 => ⟨_, rfl, fun x => absurd x (by decide), fun _ => ?_⟩) (fun y1 => ⟨_, rfl, fun _ => nofs (fun y2 => ?_), fun x => absurd rfl x⟩)
      · have nf : q_nf β L (q_ne β L 3 p) 0 8 = 0 := by
          unfold q_nf
          rw [if_pos k2, if_pos (by omega)]
        obtain ⟨x, y, hx, hy, ex, ey, ec⟩ := q_cc_l (n3' z0) nf
        have e2 : r3 = nI x := (v3' z0).trans ex
        have m1 : nI x + 9 * nI y = nI (x + 9 * y) := by rw [show (9 : Int32) = nI 9 from rfl, pk_mul, nI_add]
        rw [e2, show q_tV β L (q_ne β L 3 p) = nI y from ey, m1, ← show q_cc β L (q_ne β L 2 p) = x + 9 * y from ec, ← e2]
        have fc := q_free_c (c := q_cc β L (q_ne β L 2 p)) fe3 (by omega) n1 e6
        refine m_free (d := d + 3) rfl rfl (by omega) n1 ((fe3 6 (by omega)).trans e6) (fun w => ⟨_, rfl, fun _ => nofs (fun w2 => w2.2 (fc.mp w)), fun x => absurd (by decide) x⟩) (fun w => ⟨_, rfl, fun x => absurd rfl x, fun _ => ?_⟩)
        have e : q_fs β L τ (q_ne β L 2 p) = 2 := if_pos ⟨nf, fun w2 => w (fc.mpr w2)⟩
        exact m_bad (d := d + 3) (f := 2) J3' ⟨by omega, by omega⟩ (fun s4 j4 J4 => ⟨rfl, go99 s4 j4 (by rw [e]; exact J4)⟩)
      · have w := y2.1
        unfold q_nf at w
        rw [if_pos k2, if_neg (by omega)] at w
        cases w
  refine ⟨fun z => go38 s1 q_fj.rf (by rw [q_an_k z]; exact J1.mv z (q_ne_l J.2.2.2.1)), fun z => ?_⟩
  have z0 := Classical.not_not.mp z
  refine ⟨fun y => ?_, fun y => ?_⟩
  · have e5s : q_srt β L (q_ne β L 1 p) = 5 := Classical.byContradiction (fun n5 => by
      have ev := v2 z0 n5
      obtain ⟨⟨j, j1, j2, ej⟩, -⟩ := q_kos_c (q_srt β L (q_ne β L 1 p)) (q_srt_k n5)
      have ev' : v = nI j := ev.trans ej
      rw [y] at ev'
      have := congrArg Int32.toInt ev'
      rw [nI_toInt (by omega)] at this
      simp only [Int32.reduceToInt] at this
      omega)
    exact m_must (d := d + 1) (f := 1) hL (hb s1 k1) by' J1 (fun _ => rfl) (fun x => absurd rfl x) (fun s2 j2 J2 => ⟨rfl, go38 s2 j2 (by rw [if_pos e5s]; exact J2)⟩)
  · have n5s : ¬ q_srt β L (q_ne β L 1 p) = 5 := fun n5 => y (v1 z0 n5)
    exact m_must (d := d + 1) (f := 0) hL (hb s1 k1) by' J1 (fun x => absurd x (by decide)) (fun _ => rfl) (fun s2 j2 J2 => ⟨rfl, go38 s2 j2 (by rw [if_neg n5s]; exact J2)⟩)
end Q910
