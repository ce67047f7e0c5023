/-! pairs: town -/
section Q911
variable {E : g_E} {d : Nat} {R : g_R} {σ : g_S} {β : Nat → Int32} {L : Nat}
/-- a fault ends the reading -/
theorem m_fin60 {p : Nat} {a : Nat × Nat} {s : g_S} (hL : L ≤ 400) (hβ : ∀ i, i < 400 → σ 74 i = β i) (by' : q_by β) (fk : q_fk s σ) (J : q_J s β L p a) (ha : a.1 ≠ 0) (h : ∀ s2, q_fk s2 σ → R (some (.int (-1000100 - nI a.2))) (g_up s2 68 9 (nI a.1))) : g_g E (g_wp E (d + 5)) 132 60 [some (.ref 68), none] [] s R := by
  refine t132_60 (m_name (d := d + 4) hL (fun i hi => (congrFun (fk.1 74 (by omega) (by omega)) i).trans (hβ i hi)) by' J (fun r hr => ⟨_, rfl, ?_⟩))
  have hw := hr 22 (by omega) (by omega)
  rw [q_wk_v.2.2.1] at hw
  dsimp only
  rw [hw, J.nz]
  refine ⟨fun _ => ⟨fun _ => ⟨fun z => ?_, fun _ s21 e21 => ?_⟩, fun z => absurd ha z⟩, fun z => absurd (Classical.not_not.mp z).1 ha⟩
  · rw [J.1] at z
    exact absurd z (nI_ge (a := 0) (by omega) (by have := J.2.1; omega))
  · rw [J.1] at e21
    rw [J.2.2.1 ha, e21]
    exact h s fk
theorem m_fin42 {p : Nat} {a : Nat × Nat} {s : g_S} (hL : L ≤ 400) (hβ : ∀ i, i < 400 → σ 74 i = β i) (by' : q_by β) (fk : q_fk s σ) (J : q_J s β L p a) (ha : a.1 ≠ 0) (h : ∀ s2, q_fk s2 σ → R (some (.int (-1000100 - nI a.2))) (g_up s2 68 9 (nI a.1))) : g_g E (g_wp E (d + 5)) 132 42 [some (.ref 68), none] [] s R := by
  refine t132_42 (m_name (d := d + 4) hL (fun i hi => (congrFun (fk.1 74 (by omega) (by omega)) i).trans (hβ i hi)) by' J (fun r hr => ⟨_, rfl, ?_⟩))
  have hw := hr 21 (by omega) (by omega)
  rw [q_wk_v.2.1] at hw
  dsimp only
  rw [hw]
  exact ⟨fun _ => m_fin60 (d := d) hL hβ by' fk J ha h, fun z => absurd (Classical.not_not.mp z).1 ha⟩
theorem m_shops (hL : L ≤ 400) (hβ : ∀ i, i < 400 → σ 74 i = β i) (by' : q_by β) : ∀ g p τ s, q_in τ g → q_fk s σ → q_J s β L p (0, 0) → q_fe s τ → ¬ (q_wf β L p 21 = 0 ∧ τ 6 = 0) → ((q_ps β L g p τ).1.1 = 0 → ∀ s2, q_fk s2 σ → q_fe s2 (q_ps β L g p τ).2 → g_g E (g_wp E (d + 5)) 132 123 [some (.ref 68), some (.int 0)] [] s2 R) → ((q_ps β L g p τ).1.1 ≠ 0 → ∀ s2, q_fk s2 σ → R (some (.int (-1000100 - nI (q_ps β L g p τ).1.2))) (g_up s2 68 9 (nI (q_ps β L g p τ).1.1))) → g_g E (g_wp E (d + 5)) 132 60 [some (.ref 68), none] [] s R := by
  intro g
  induction g with
  | zero =>
    intro p τ s i
    obtain ⟨w, f4, k, n, k1, n1, e5, e6, sm⟩ := i
    omega
  | succ g ih =>
    intro p τ s i fk J fe nw hS hF
    have hb : ∀ i, i < 400 → s 74 i = β i := fun i hi => (congrFun (fk.1 74 (by omega) (by omega)) i).trans (hβ i hi)
    have kl := q_rk_e (q_tK_l (β := β) (L := L) (p := p))
    unfold q_ps at hS hF
    rw [if_neg nw] at hS hF
    refine t132_60 (m_name (d := d + 4) hL hb by' J (fun r hr => ⟨_, rfl, ?_⟩))
    have hw := hr 22 (by omega) (by omega)
    rw [q_wk_v.2.2.1] at hw
    dsimp only
    rw [hw, J.nz]
    refine ⟨fun z => ⟨fun y => absurd rfl y, fun _ => ?_⟩, fun z => ?_⟩
    · have nwd : ¬ q_wf β L p 22 = 0 := fun y => z ⟨rfl, q_wf_0.mp y⟩
      obtain ⟨g1, g2, g3, g4, p', g5, g6, g7⟩ := id J
      have ep := g7 rfl
      subst ep
      rw [g6.2.2.1]
      refine ⟨fun y => ⟨fun _ => ?_, fun x => absurd (by rw [g1]; decide) x⟩, fun y => ?_⟩
      · have k0 : q_tK β L p' = 0 := kl.1.mp ((nI_eq (b := 1) (by omega) (by omega)).mp y)
        rw [if_pos k0] at hS
        exact hS rfl s fk fe
      · have k0 : ¬ q_tK β L p' = 0 := fun x => y (by rw [kl.1.mpr x]; rfl)
        rw [if_neg k0, if_neg nwd] at hF
        refine m_bad (d := d + 4) (f := 1) J ⟨by omega, by omega⟩ (fun s2 j2 J2 => ⟨rfl, ?_⟩)
        have k2 := fk.fj j2
        rw [q_an0] at J2
        refine ⟨fun x => ?_, fun _ s28 e28 => ?_⟩
        · rw [J2.1] at x
          exact absurd x (show ¬ nI 1 ≤ 0 by decide)
        · rw [J2.1] at e28
          rw [J2.2.2.1 (Nat.succ_ne_zero _), e28]
          exact hF (Nat.succ_ne_zero _) s2 k2
    · have wd := (Classical.not_not.mp z).2
      have k0 : ¬ q_tK β L p = 0 := fun x => by
        have := wd.1
        omega
      rw [if_neg k0, if_pos (q_wf_0.mpr wd)] at hS hF
      refine m_rshop (d := d) (g := g) hL hβ by' fk J fe i (fun s2 k2 J2 fe2 => ⟨rfl, ?_⟩)
      by_cases ok : (q_aS β L τ p).1 = 0
      · rw [if_pos ok] at hS hF
        refine ih (q_ne β L 6 p) _ s2 (i.shop ok) k2 (J2.z ok) (fe2 ok) (fun x => ?_) hS hF
        obtain ⟨w, f4, k, n, k1, n1, e5, e6, sm⟩ := i
        have x2 := x.2
        unfold q_tsh at x2
        rw [q_push_6, e6, q_cl (by omega)] at x2
        have := (nI_eq (a := n + 1) (b := 0) (by omega) (by omega)).mp x2
        omega
      · rw [if_neg ok] at hF
        exact m_fin60 (d := d) hL hβ by' k2 J2 ok (hF ok)
theorem m_walls (hL : L ≤ 400) (hβ : ∀ i, i < 400 → σ 74 i = β i) (by' : q_by β) : ∀ g p τ s, q_in τ g → q_fk s σ → q_J s β L p (0, 0) → q_fe s τ → τ 6 = 0 → ((q_ps β L g p τ).1.1 = 0 → ∀ s2, q_fk s2 σ → q_fe s2 (q_ps β L g p τ).2 → g_g E (g_wp E (d + 5)) 132 123 [some (.ref 68), some (.int 0)] [] s2 R) → ((q_ps β L g p τ).1.1 ≠ 0 → ∀ s2, q_fk s2 σ → R (some (.int (-1000100 - nI (q_ps β L g p τ).1.2))) (g_up s2 68 9 (nI (q_ps β L g p τ).1.1))) → g_g E (g_wp E (d + 5)) 132 42 [some (.ref 68), none] [] s R := by
  intro g
  induction g with
  | zero =>
    intro p τ s i
    obtain ⟨w, f4, k, n, k1, n1, e5, e6, sm⟩ := i
    omega
  | succ g ih =>
    intro p τ s i fk J fe z6 hS hF
    have hb : ∀ i, i < 400 → s 74 i = β i := fun i hi => (congrFun (fk.1 74 (by omega) (by omega)) i).trans (hβ i hi)
    refine t132_42 (m_name (d := d + 4) hL hb by' J (fun r hr => ⟨_, rfl, ?_⟩))
    have hw := hr 21 (by omega) (by omega)
    rw [q_wk_v.2.1] at hw
    dsimp only
    rw [hw]
    refine ⟨fun z => m_shops (d := d) hL hβ by' (g + 1) p τ s i fk J fe (fun y => z ⟨rfl, q_wf_0.mp y.1⟩) hS hF, fun z => ?_⟩
    have wd := (Classical.not_not.mp z).2
    have k0 : ¬ q_tK β L p = 0 := fun x => by
      have := wd.1
      omega
    unfold q_ps at hS hF
    rw [if_neg k0, if_pos ⟨q_wf_0.mpr wd, z6⟩] at hS hF
    refine m_rwall (d := d) (g := g) hL hβ by' fk J fe i (fun s2 k2 J2 fe2 => ⟨rfl, ?_⟩)
    by_cases ok : (q_aW β L τ p).1 = 0
    · rw [if_pos ok] at hS hF
      exact ih (q_ne β L 4 p) _ s2 (i.wall z6 ok) k2 (J2.z ok) (fe2 ok) (by
        obtain ⟨n0, n1, n2, n3, n4⟩ := q_aW_0 ok
        obtain ⟨x, y, hx, hy, ex, ey, ec⟩ := q_cc_l n1 n3
        rw [q_tw_n (by omega) (by omega)]; exact z6) hS hF
    · rw [if_neg ok] at hF
      exact m_fin42 (d := d) hL hβ by' k2 J2 ok (hF ok)
theorem m_copy72 {O : g_O} {τ : Nat → Int32} (fe : q_fe σ τ) (h : R (some (.int (τ 6))) (g_cp σ 73 72 0 0 185)) : ∀ g i, i + g = 185 → g_g E O 132 123 [some (.ref 68), some (.int (nI i))] [] (g_cp σ 73 72 0 0 i) R := by
  intro g
  induction g with
  | zero =>
    intro i hi
    have e : i = 185 := by omega
    subst e
    refine t132_123 ⟨fun _ => ?_, fun q => absurd (nI_le (a := 185) (b := 185) (by omega) (by omega)) q⟩
    rw [g_cp_in (by omega), fe (0 + (6 - 0)) (by omega)]
    exact h
  | succ g ih =>
    intro i hi
    refine t132_123 ⟨fun q => absurd q (nI_ge (b := 185) (by omega) (by omega)), fun _ => ⟨vp_in_nI (by omega) (by omega), vp_in_nI (by omega) (by omega), fun s32 es => ?_⟩⟩
    rw [q_cl (by omega), congrFun (g_cp_ne (by omega)) i] at es
    rw [es, nI_1]
    have z := g_cp_s (σ := σ) (s := 73) (d := 72) (sp := 0) (dp := 0) (m := i) (v := σ 73 i) (by rw [Nat.zero_add])
    rw [Nat.zero_add] at z
    rw [z]
    exact ih (i + 1) (by omega)
theorem m_fresh {O : g_O} (h : ∀ s, (∀ x, x ≠ 73 → s x = σ x) → q_fe s q_t0 → O 129 [.ref 68] s (g_r0 fun s6 => g_g E O 132 42 [some (.ref 68), none] [] s6 R)) : ∀ g i s, i + g = 185 → (∀ x, x ≠ 73 → s x = σ x) → (∀ j, j < i → s 73 j = 0) → g_g E O 132 11 [some (.ref 68), some (.int (nI i))] [] s R := by
  intro g
  induction g with
  | zero =>
    intro i s hi fr z
    have e : i = 185 := by omega
    subst e
    refine t132_11 ⟨fun _ s5 e5 => h s5 (fun x q => by rw [e5]; exact (g_up_ne q).trans (fr x q)) (fun j hj => ?_), fun q => absurd (nI_le (a := 185) (b := 185) (by omega) (by omega)) q⟩
    unfold q_t0
    rw [e5]
    by_cases e : j = 4
    · subst e; rw [g_up_s, upd_s]
    · rw [g_up_n (by omega), upd_n e]; exact z j hj
  | succ g ih =>
    intro i s hi fr z
    refine t132_11 ⟨fun q => absurd q (nI_ge (b := 185) (by omega) (by omega)), fun _ => ⟨vp_in_nI (by omega) (by omega), fun s8 e8 => ?_⟩⟩
    rw [q_cl (by omega)] at e8
    rw [nI_1]
    refine ih (i + 1) s8 (by omega) (fun x q => by rw [e8]; exact (g_up_ne q).trans (fr x q)) (fun j hj => ?_)
    rw [e8]
    by_cases e : j = i
    · subst e; exact g_up_s
    · rw [g_up_n (by omega)]; exact z j (by omega)
end Q911
/-- a town that was read -/
def g_tdo (μ : g_S) (τ : Nat → Int32) : g_S := fun a j => if a = 72 ∧ j < 185 then τ j else if a = 68 ∧ j = 8 then 0 else μ a j
theorem g_tdo_ne {μ : g_S} {τ : Nat → Int32} {a : Nat} (h1 : a ≠ 72) (h2 : a ≠ 68) : g_tdo μ τ a = μ a := by
  funext j
  unfold g_tdo
  rw [if_neg (fun q => h1 q.1), if_neg (fun q => h2 q.1)]
theorem g_tdo_72 {μ : g_S} {τ : Nat → Int32} {j : Nat} (h : j < 185) : g_tdo μ τ 72 j = τ j := if_pos ⟨rfl, h⟩
theorem g_tdo_68 {μ : g_S} {τ : Nat → Int32} {j : Nat} (h : j ≠ 8) : g_tdo μ τ 68 j = μ 68 j := by
  unfold g_tdo
  rw [if_neg (fun q => absurd q.1 (by decide)), if_neg (fun q => h q.2)]
theorem g_tdo_8 {μ : g_S} {τ : Nat → Int32} : g_tdo μ τ 68 8 = 0 := rfl
def g_tno (μ : g_S) (f : Nat) : g_S := g_up (g_up μ 68 8 0) 68 9 (nI f)
theorem RC.flt {σ μ : g_S} (w : RC σ μ) (v : Int32) : RC (g_up σ 0 9 v) (g_up μ 68 9 v) := by
  unfold RC at w ⊢
  obtain ⟨h1, h2, h3, h4, h5, h6, h7, h8, h9, h10, h11⟩ := w
  have e : ∀ a, a ≠ 0 → g_up σ 0 9 v a = σ a := fun a h => g_up_ne h
  have e2 : ∀ a, a ≠ 68 → g_up μ 68 9 v a = μ a := fun a h => g_up_ne h
  rw [e2 69 (by omega), e2 70 (by omega), e2 71 (by omega), e2 74 (by omega), e2 72 (by omega), e2 81 (by omega), e2 82 (by omega), e2 83 (by omega), e 2 (by omega), e 3 (by omega), e 14 (by omega), e 13 (by omega), e 67 (by omega), e 66 (by omega)]
  rw [show g_up μ 68 9 v 68 8 = μ 68 8 from g_up_n (by omega), show g_up σ 0 9 v 0 10 = σ 0 10 from g_up_n (by omega), show g_up μ 68 9 v 68 1 = μ 68 1 from g_up_n (by omega), show g_up σ 0 9 v 0 9 = v from g_up_s, show g_up μ 68 9 v 68 9 = v from g_up_s, show g_up μ 68 9 v 68 26 = μ 68 26 from g_up_n (by omega)]
  refine ⟨h1, h2, fun r hr i hi => ?_, h4, h5, rfl, h7, h8.low (fun a q _ => e a (by omega)), fun k hk => ⟨fun q => ((h9 k hk).1 q).low (fun a q _ => e a (by omega)), fun q => ?_⟩, h10, h11⟩
  · rw [e (5 + r) (by omega)]
    exact h3 r hr i hi
  · rw [e (28 + 6 * k) (by omega)]
    exact (h9 k hk).2 q
theorem WF.flt {μ : g_S} (w : WF μ) (v : Int32) : WF (g_up μ 68 9 v) := by
  unfold WF at w ⊢
  have e2 : ∀ a, a ≠ 68 → g_up μ 68 9 v a = μ a := fun a h => g_up_ne h
  rw [e2 69 (by omega), e2 70 (by omega), e2 74 (by omega), e2 72 (by omega), e2 81 (by omega), e2 82 (by omega), show g_up μ 68 9 v 68 8 = μ 68 8 from g_up_n (by omega), show g_up μ 68 9 v 68 26 = μ 68 26 from g_up_n (by omega)]
  exact w
theorem WF.emp {μ : g_S} (w : WF μ) : WF (g_up μ 68 8 0) := w.tape (fun a q _ => g_up_ne q) (g_up_n (by omega)) ⟨0, by omega, g_up_s⟩ (fun i hi => by rw [g_up_ne (by omega)]; exact w.2.2.2.1 i hi)
/-- the reading of the tape -/
noncomputable def q_rd (μ : g_S) : (Nat × Nat) × (Nat → Int32) := q_all1 (μ 74) (μ 68 8).toNatClampNeg
theorem p_town {E : g_E} : g_pr E 74 132 [] := by
  refine ⟨fun μ => if (q_rd μ).1.1 = 0 then (q_rd μ).2 6 else -1000100 - nI (q_rd μ).1.2, fun μ => if (q_rd μ).1.1 = 0 then g_tdo μ (q_rd μ).2 else g_tno μ (q_rd μ).1.1, fun σ μ R hc hw h => ?_, fun σ R hw h => ?_, fun μ h => ?_⟩
  · dsimp only at h
    unfold q_rd at h
    obtain ⟨L, hL, eL⟩ := hw.2.2.1
    have by' : q_by (μ 74) := hw.2.2.2.1
    have hβ : ∀ i, i < 400 → σ 14 i = μ 74 i := hc.2.2.2.1
    have e13 : σ 13 1 = nI L := hc.2.2.2.2.1.trans eL
    rw [eL, q_cl (by omega)] at h
    have emp : ∀ s s4 : g_S, q_cw s σ → s4 = g_up s 13 1 0 → RC s4 (g_up μ 68 8 0) := fun s s4 cw e4 => by
      refine RC.tape (hc.low (σ' := s) (fun a q1 q2 q3 q4 q5 => cw a (by omega) (by omega))) (fun a q1 q2 q3 => by rw [e4]; exact g_up_ne q2) (fun a q1 q2 => g_up_ne q1) (g_up_n (by omega)) (g_up_n (by omega)) (g_up_n (by omega)) (by rw [e4]; exact g_up_s.trans g_up_s.symm) (fun i hi => ?_)
      rw [e4, g_up_ne (by omega), g_up_ne (by omega), cw 14 (by omega) (by omega)]
      exact hβ i hi
    refine t74_0 (c_readsAll (d := 10) hL e13 hβ by' (fun ok s2 c2 tr2 => ⟨_, rfl, t36_0 (fun s4 e4 => ⟨rfl, fun _ => ?_, fun z => absurd (by decide) z⟩)⟩) (fun no s2 c2 i7 i8 => ⟨_, rfl, t36_0 (fun s4 e4 => ⟨rfl, fun z => absurd rfl z, fun _ s9 e9 => ?_⟩)⟩))
    · rw [if_pos ok, if_pos ok] at h
      have tr4 : TR s4 21 (q_all1 (μ 74) L).2 := tr2.low (fun a q1 q2 => by rw [e4]; exact g_up_ne (by omega))
      refine c_become (Or.inl rfl) (Or.inr (Or.inl rfl)) (by omega) tr4.b01 ⟨rfl, ?_⟩
      have r15 : TR (g_bc s4 15 21) 15 (q_all1 (μ 74) L).2 := tr4.bc (by omega)
      have e68 := r15.2.2.2.2.2.2.2.1
      refine q_R (h (g_bc s4 15 21) ?_ (fun a ha => ?_)) e68
      · refine (emp s2 s4 c2 e4).town (fun a q1 q2 q3 q4 q5 q6 => g_bc_ne (by omega)) (fun a q => ?_) (TR.eq (fun i hi => g_tdo_72 hi) r15)
        by_cases e : a = 68
        · subst e
          funext j
          by_cases e2 : j = 8
          · subst e2; exact g_tdo_8.trans g_up_s.symm
          · rw [g_tdo_68 e2, g_up_n (Or.inr e2)]
        · rw [g_tdo_ne q e, g_up_ne e]
      · rw [g_bc_ne (by omega), e4, g_up_ne (by omega)]
        exact c2 a (by omega) (by omega)
    · rw [if_neg no, if_neg no] at h
      have f4 : ∀ a, a ≠ 13 → s4 a = s2 a := fun a q => by rw [e4]; exact g_up_ne q
      rw [f4 40 (by omega), i7] at e9
      rw [f4 40 (by omega), i8]
      refine h s9 ?_ (fun a ha => ?_)
      · rw [e9]
        exact (emp s2 s4 c2 e4).flt _
      · rw [e9, g_up_ne (by omega), f4 a (by omega)]
        exact c2 a (by omega) (by omega)
  · dsimp only at h
    unfold q_rd at h
    obtain ⟨L, hL, eL⟩ := hw.2.2.1
    have by' : q_by (mo σ 74) := hw.2.2.2.1
    rw [eL, q_cl (by omega)] at h
    have e88 : σ 68 8 = nI L := eL
    refine t132_0 (fun s0 es0 => t119_0 (fun s1 es1 s2 es2 s3 es3 s4 es4 => ?_))
    have a8 : s0 68 8 = nI L := by rw [es0]; exact (g_up_n (by omega)).trans e88
    rw [a8] at es1
    have fr4 : ∀ x, x ≠ 68 → s4 x = σ x := fun x q => by
      rw [es4, es3, es2, es1, es0]
      exact (g_up_ne q).trans ((g_up_ne q).trans ((g_up_ne q).trans ((g_up_ne q).trans (g_up_ne q))))
    have b10 : s4 68 10 = nI L := by
      rw [es4, es3, es2, es1]
      exact (g_up_n (by omega)).trans ((g_up_n (by omega)).trans ((g_up_n (by omega)).trans g_up_s))
    have b8 : s4 68 8 = 0 := by
      rw [es4, es3, es2]
      exact (g_up_n (by omega)).trans ((g_up_n (by omega)).trans g_up_s)
    have b11 : s4 68 11 = nI 0 := by
      rw [es4, es3]
      exact (g_up_n (by omega)).trans g_up_s
    have b15 : s4 68 15 = 0 := by rw [es4]; exact g_up_s
    have bo : ∀ j, j ≠ 0 → j ≠ 8 → j ≠ 10 → j ≠ 11 → j ≠ 15 → s4 68 j = σ 68 j := fun j q0 q1 q2 q3 q4 => by
      rw [es4, es3, es2, es1, es0]
      exact (g_up_n (by omega)).trans ((g_up_n (by omega)).trans ((g_up_n (by omega)).trans ((g_up_n (by omega)).trans (g_up_n (by omega)))))
    have hβ : ∀ i, i < 400 → s4 74 i = mo σ 74 i := fun i hi => congrFun (fr4 74 (by omega)) i
    refine m_next_tok (d := 16) (p := 0) hL (Nat.zero_le L) b10 b11 hβ by' (fun s5 r5 t5 => ⟨rfl, rfl, ?_⟩)
    have J5 : q_J s5 (mo σ 74) L 0 (0, 0) := ⟨(r5.2 15 (by omega)).trans b15, by dsimp only; omega, fun y => absurd rfl y, Nat.zero_le L, 0, Nat.zero_le L, t5, fun _ => rfl⟩
    have lo : ∀ s2, q_fk s2 s4 → ∀ b, b < 68 → s2 b = σ b := fun s2 k b hb => (k.1 b (by omega) (by omega)).trans (fr4 b (by omega))
    have same : ∀ s2, q_fk s2 s4 → ∀ a, a = 69 ∨ a = 70 ∨ a = 71 ∨ a = 72 ∨ a = 74 ∨ a = 81 ∨ a = 82 ∨ a = 83 → ∀ j, s2 a j = mo σ a j := fun s2 k a ha j => by
      rw [k.1 a (by omega) (by omega), fr4 a (by omega), mo_at (by omega)]
    have c68 : ∀ s2, q_fk s2 s4 → s2 68 8 = 0 ∧ s2 68 1 = mo σ 68 1 ∧ s2 68 9 = mo σ 68 9 ∧ s2 68 26 = mo σ 68 26 := fun s2 k => by
      refine ⟨(k.2 8 (by omega)).trans b8, ?_, ?_, ?_⟩
      · rw [k.2 1 (by omega), bo 1 (by omega) (by omega) (by omega) (by omega) (by omega), mo_at (by omega)]
      · rw [k.2 9 (by omega), bo 9 (by omega) (by omega) (by omega) (by omega) (by omega), mo_at (by omega)]
      · rw [k.2 26 (by omega), bo 26 (by omega) (by omega) (by omega) (by omega) (by omega), mo_at (by omega)]
    have hS : (q_all1 (mo σ 74) L).1.1 = 0 → ∀ s2, q_fk s2 s4 → q_fe s2 (q_all1 (mo σ 74) L).2 → g_g E (g_wp E (14 + 5)) 132 123 [some (.ref 68), some (.int 0)] [] s2 R := fun ok s2 k fe => by
      rw [if_pos ok, if_pos ok] at h
      have z := m_copy72 (E := E) (O := g_wp E (14 + 5)) (R := R) fe (h (g_cp s2 73 72 0 0 185) (lo_cp (lo s2 k) (by omega)) (fun a j q => ?_)) 185 0 (by omega)
      · rw [g_cp_0] at z
        exact z
      · have c := c68 s2 k
        by_cases e72 : a = 72
        · subst e72
          by_cases hj : j < 185
          · rw [g_cp_in (by omega), g_tdo_72 hj, fe (0 + (j - 0)) (by omega), show 0 + (j - 0) = j by omega]
          · rw [g_cp_out (by omega), same s2 k 72 (by omega)]
            unfold g_tdo
            rw [if_neg (fun y => hj y.2), if_neg (fun y => absurd y.1 (by decide))]
        · rw [congrFun (g_cp_ne e72) j]
          by_cases e68 : a = 68
          · subst e68
            have qj : j = 1 ∨ j = 8 ∨ j = 9 ∨ j = 26 := by
              unfold q_can at q
              simp only [Bool.or_eq_true, Bool.and_eq_true, beq_iff_eq] at q
              omega
            rcases qj with e | e | e | e <;> subst e
            · rw [g_tdo_68 (by omega)]; exact c.2.1
            · rw [g_tdo_8]; exact c.1
            · rw [g_tdo_68 (by omega)]; exact c.2.2.1
            · rw [g_tdo_68 (by omega)]; exact c.2.2.2
          · rw [g_tdo_ne e72 e68]
            refine same s2 k a ?_ j
            unfold q_can at q
            simp only [Bool.or_eq_true, Bool.and_eq_true, beq_iff_eq] at q
            omega
    have hF : (q_all1 (mo σ 74) L).1.1 ≠ 0 → ∀ s2, q_fk s2 s4 → R (some (.int (-1000100 - nI (q_all1 (mo σ 74) L).1.2))) (g_up s2 68 9 (nI (q_all1 (mo σ 74) L).1.1)) := fun no s2 k => by
      rw [if_neg no, if_neg no] at h
      refine h _ (lo_up (lo s2 k) (by omega)) (fun a j q => ?_)
      have c := c68 s2 k
      unfold g_tno
      by_cases e68 : a = 68
      · subst e68
        have qj : j = 1 ∨ j = 8 ∨ j = 9 ∨ j = 26 := by
          unfold q_can at q
          simp only [Bool.or_eq_true, Bool.and_eq_true, beq_iff_eq] at q
          omega
        rcases qj with e | e | e | e <;> subst e
        · rw [g_up_n (by omega), g_up_n (by omega), g_up_n (by omega)]; exact c.2.1
        · rw [g_up_n (by omega), g_up_n (by omega), g_up_s]; exact c.1
        · rw [g_up_s, g_up_s]
        · rw [g_up_n (by omega), g_up_n (by omega), g_up_n (by omega)]; exact c.2.2.2
      · rw [g_up_n (by omega), g_up_n (by omega), g_up_n (by omega)]
        refine same s2 k a ?_ j
        unfold q_can at q
        simp only [Bool.or_eq_true, Bool.and_eq_true, beq_iff_eq] at q
        omega
    unfold q_all1 at hS hF
    refine m_fresh (σ := s5) (fun s6 f6 fe6 => ?_) 185 0 s5 (by omega) (fun _ _ => rfl) (fun j hj => absurd hj (Nat.not_lt_zero j))
    have k6 : q_fk s6 s4 := ⟨fun x q q2 => (f6 x q2).trans (r5.1 x q), fun j q => by rw [f6 68 (by omega)]; exact r5.2 j (by omega)⟩
    have J6 : q_J s6 (mo σ 74) L 0 (0, 0) := J5.same (f6 68 (by omega))
    refine m_rtower (d := 14) (σ := s4) hL hβ by' k6 J6 fe6 (fun s7 k7 J7 fe7 => ⟨rfl, ?_⟩)
    by_cases ok : (q_aT (mo σ 74) L 0).1 = 0
    · rw [if_pos ok] at hS hF
      refine m_walls (d := 14) (σ := s4) hL hβ by' 29 (q_ne (mo σ 74) L 5 0) _ s7 (q_in.t1 ok) k7 (J7.z ok) (fe7 ok) ?_ hS hF
      exact q_t1_n (by omega) (by omega) (by omega) (by omega)
    · rw [if_neg ok] at hF
      exact m_fin42 (d := 14) (σ := s4) hL hβ by' k7 J7 ok (hF ok)
  · dsimp only
    by_cases ok : (q_rd μ).1.1 = 0
    · rw [if_pos ok]
      have w := (q_all1_in ok).1
      refine WF.town (h.emp) (fun a q => ?_) (WT.eq (fun i hi => g_tdo_72 hi) w)
      by_cases e : a = 68
      · subst e
        funext j
        by_cases e2 : j = 8
        · subst e2; exact g_tdo_8.trans g_up_s.symm
        · rw [g_tdo_68 e2, g_up_n (Or.inr e2)]
      · rw [g_tdo_ne q e, g_up_ne e]
    · rw [if_neg ok]
      exact h.emp.flt _
