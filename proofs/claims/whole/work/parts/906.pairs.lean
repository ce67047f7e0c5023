/-! town: the class's reader -/
theorem q_anz {s f s' : Nat} : q_an (0, s) f s' = (f, s') := rfl
theorem q_ank {f s f' s' : Nat} (h : f ≠ 0) : q_an (f, s) f' s' = (f, s) := if_neg h
theorem q_aW_1 {β : Nat → Int32} {L p : Nat} {τ : Nat → Int32} (h : τ 5 = 20) : q_aW β L τ p = (3, q_tS β L p) := by
  unfold q_aW
  rw [if_pos h, q_an0, q_ank (show (3 : Nat) ≠ 0 by decide), q_ank (show (3 : Nat) ≠ 0 by decide), q_ank (show (3 : Nat) ≠ 0 by decide), q_ank (show (3 : Nat) ≠ 0 by decide)]
theorem q_aW_2 {β : Nat → Int32} {L p : Nat} {τ : Nat → Int32} (h : ¬ τ 5 = 20) (h1 : q_nf β L (q_ne β L 1 p) 0 8 ≠ 0) : q_aW β L τ p = (q_nf β L (q_ne β L 1 p) 0 8, q_tS β L (q_ne β L 1 p)) := by
  unfold q_aW
  rw [if_neg h, q_an0, q_anz, q_ank h1, q_ank h1, q_ank h1]
theorem q_aW_3 {β : Nat → Int32} {L p : Nat} {τ : Nat → Int32} (h : ¬ τ 5 = 20) (h1 : q_nf β L (q_ne β L 1 p) 0 8 = 0) (h2 : q_nf β L (q_ne β L 2 p) 0 8 ≠ 0) : q_aW β L τ p = (q_nf β L (q_ne β L 2 p) 0 8, q_tS β L (q_ne β L 2 p)) := by
  have fw : q_fw β L τ (q_ne β L 1 p) = 0 := if_neg (fun y => h2 y.1)
  unfold q_aW
  rw [if_neg h, q_an0, h1, q_anz, fw, q_anz, q_anz, q_ank h2]
theorem q_aW_4 {β : Nat → Int32} {L p : Nat} {τ : Nat → Int32} (h : ¬ τ 5 = 20) (h1 : q_nf β L (q_ne β L 1 p) 0 8 = 0) (h2 : q_nf β L (q_ne β L 2 p) 0 8 = 0) (h3 : τ 0 = nI (q_cc β L (q_ne β L 1 p))) : q_aW β L τ p = (2, q_tS β L (q_ne β L 2 p)) := by
  have fw : q_fw β L τ (q_ne β L 1 p) = 2 := if_pos ⟨h2, h3⟩
  unfold q_aW
  rw [if_neg h, q_an0, h1, q_anz, fw, q_anz, q_ank (show (2 : Nat) ≠ 0 by decide), q_ank (show (2 : Nat) ≠ 0 by decide)]
theorem q_aW_5 {β : Nat → Int32} {L p : Nat} {τ : Nat → Int32} (h : ¬ τ 5 = 20) (h1 : q_nf β L (q_ne β L 1 p) 0 8 = 0) (h2 : q_nf β L (q_ne β L 2 p) 0 8 = 0) (h3 : ¬ τ 0 = nI (q_cc β L (q_ne β L 1 p))) : q_aW β L τ p = (q_sf β L (q_ne β L 3 p), q_tS β L (q_ne β L 3 p)) := by
  have fw : q_fw β L τ (q_ne β L 1 p) = 0 := if_neg (fun y => h3 y.2)
  unfold q_aW
  rw [if_neg h, q_an0, h1, q_anz, fw, q_anz, h2, q_anz, q_anz]
theorem q_gr_tw {τ : Nat → Int32} {c : Nat} {g : Int32} (w : WT τ) (h4 : τ 4 ≠ 0) (hc : c < 81) (h : q_gr τ c g) : (g = 1 ↔ τ 0 = nI c) ∧ (g = 2 ↔ τ (7 + c) = 1) := by
  have w6 := w.2.2.2.2.2.2.1 c hc
  have w8 := w.2.2.2.2.2.2.2.2.1 h4 c hc
  obtain ⟨g1, g2, g3, g4⟩ := h
  rcases w6 with e | e | e
  · have n2 : ¬ nI c = τ 0 := fun z => by rw [← w8, e] at z; exact absurd z (by decide)
    by_cases q : q_shopAt τ c
    · rw [g3 e q, e]
      exact ⟨⟨fun z => absurd z (by decide), fun z => absurd z.symm n2⟩, ⟨fun z => absurd z (by decide), fun z => absurd z (by decide)⟩⟩
    · rw [g4 e q, e]
      exact ⟨⟨fun z => absurd z (by decide), fun z => absurd z.symm n2⟩, ⟨fun z => absurd z (by decide), fun z => absurd z (by decide)⟩⟩
  · have n2 : ¬ nI c = τ 0 := fun z => by rw [← w8, e] at z; exact absurd z (by decide)
    rw [g2 e, e]
    exact ⟨⟨fun z => absurd z (by decide), fun z => absurd z.symm n2⟩, ⟨fun _ => rfl, fun _ => rfl⟩⟩
  · rw [g1 e, e]
    exact ⟨⟨fun _ => (w8.mp e).symm, fun _ => rfl⟩, ⟨fun z => absurd z (by decide), fun z => absurd z (by decide)⟩⟩
def q_cw (s σ : g_S) : Prop := ∀ x, (x < 21 ∨ 26 < x) → x ≠ 40 → s x = σ x
theorem q_cw.f40 {s s2 σ : g_S} (h : q_cw s σ) (k : ∀ x, x ≠ 40 → s2 x = s x) : q_cw s2 σ := fun x q1 q2 => (k x q2).trans (h x q1 q2)
section Q906
variable {E : g_E} {d : Nat} {R : g_R} {σ : g_S} {β : Nat → Int32} {L : Nat}
theorem c_fails {p f : Nat} {s : g_S} (e4 : s 40 4 = nI (q_tS β L p)) (h : ∀ s2, (∀ x, x ≠ 40 → s2 x = s x) → s2 40 7 = nI f → s2 40 8 = nI (q_tS β L p) → R (some (.int 0)) s2) : g_wp E (d + 1) 22 [.ref 40, .int (nI f)] s R := by
  refine t22_0 (fun s1 e1 s2 e2 => h s2 (fun x q => ?_) ?_ ?_)
  · rw [e2, e1]; exact (g_up_ne q).trans (g_up_ne q)
  · rw [e2, e1]; exact (g_up_n (by omega)).trans g_up_s
  · rw [e2, e1]; exact g_up_s.trans e4
theorem c_num {p lo hi : Nat} {s : g_S} (hlo : lo < 2 ^ 31) (hhi : hi < 2 ^ 31) (hL : L ≤ 400) (eL : σ 13 1 = nI L) (hβ : ∀ i, i < 400 → σ 14 i = β i) (by' : q_by β) (cw : q_cw s σ) (hp : p ≤ L) (e2 : s 40 2 = nI p) (h1 : q_nf β L p lo hi = 0 → ∀ s2, (∀ x, x ≠ 40 → s2 x = s x) → s2 40 6 = s 40 6 → s2 40 2 = nI (q_tE β L p) → s2 40 5 = q_tV β L p → s2 40 4 = nI (q_tS β L p) → R (some (.int 1)) s2) (h0 : q_nf β L p lo hi ≠ 0 → ∀ s2, (∀ x, x ≠ 40 → s2 x = s x) → s2 40 7 = nI (q_nf β L p lo hi) → s2 40 8 = nI (q_tS β L p) → R (some (.int 0)) s2) : g_wp E (d + 3) 19 [.ref 40, .int (nI lo), .int (nI hi)] s R := by
  refine t19_0 (c_take (d := d) hL hp ((congrFun (cw 13 (by omega) (by omega)) 1).trans eL) e2 (fun i hi => (congrFun (cw 14 (by omega) (by omega)) i).trans (hβ i hi)) by' (fun s1 ct => ⟨rfl, ?_⟩))
  obtain ⟨f1, f2, k3, k4, k2, k5⟩ := ct
  have kl := q_tK_l (β := β) (L := L) (p := p)
  rw [k3]
  refine ⟨fun z => ?_, fun z => ?_⟩
  · have k : q_tK β L p = 2 := (nI_eq (b := 2) (by omega) (by omega)).mp z
    have ev := k5 k
    have bad : ¬ ((lo : Int) ≤ (q_tV β L p).toInt ∧ (q_tV β L p).toInt ≤ hi) → g_wp E (d + 2) 22 [.ref 40, .int 2] s1 (g_ri fun r7 s5 => ((r7 = 0 → R (some (.int 0)) s5) ∧ (¬ (r7 = 0) → R (some (.int 1)) s5))) := fun n => by
      have en : q_nf β L p lo hi = 2 := by unfold q_nf; rw [if_pos k, if_neg n]
      rw [en] at h0
      exact c_fails (d := d + 1) (f := 2) k4 (fun s2 g1 g2 g3 => ⟨_, rfl, fun _ => h0 (by omega) s2 (fun x q => (g1 x q).trans (f1 x q)) g2 g3, fun y => absurd rfl y⟩)
    rw [ev]
    refine ⟨fun y => bad ?_, fun y => ⟨fun y2 => ?_, fun y2 => bad ?_⟩⟩
    · rw [q_lt, nI_toInt hlo] at y
      omega
    · rw [q_lt, nI_toInt hlo] at y
      rw [q_le, nI_toInt hhi] at y2
      have en : q_nf β L p lo hi = 0 := by unfold q_nf; rw [if_pos k, if_pos (by omega)]
      exact h1 en s1 f1 (f2 6 (by omega)) (k2 (by omega)) ev k4
    · rw [q_le, nI_toInt hhi] at y2
      omega
  · have k : ¬ q_tK β L p = 2 := fun y => z (by rw [y]; rfl)
    have en : q_nf β L p lo hi = 1 := by unfold q_nf; rw [if_neg k]
    rw [en] at h0
    exact c_fails (d := d + 1) (f := 1) k4 (fun s2 g1 g2 g3 => ⟨_, rfl, by decide, h0 (by omega) s2 (fun x q => (g1 x q).trans (f1 x q)) g2 g3⟩)
theorem c_sign {p : Nat} {s : g_S} (hL : L ≤ 400) (eL : σ 13 1 = nI L) (hβ : ∀ i, i < 400 → σ 14 i = β i) (by' : q_by β) (cw : q_cw s σ) (hp : p ≤ L) (e2 : s 40 2 = nI p) (h1 : q_sf β L p = 0 → ∀ s2, (∀ x, x ≠ 40 → s2 x = s x) → s2 40 6 = s 40 6 → s2 40 2 = nI (q_tE β L p) → R (some (.int 1)) s2) (h0 : q_sf β L p ≠ 0 → ∀ s2, (∀ x, x ≠ 40 → s2 x = s x) → s2 40 7 = nI (q_sf β L p) → s2 40 8 = nI (q_tS β L p) → R (some (.int 0)) s2) : g_wp E (d + 3) 20 [.ref 40] s R := by
  refine t20_0 (c_take (d := d) hL hp ((congrFun (cw 13 (by omega) (by omega)) 1).trans eL) e2 (fun i hi => (congrFun (cw 14 (by omega) (by omega)) i).trans (hβ i hi)) by' (fun s1 ct => ⟨rfl, ?_⟩))
  obtain ⟨f1, f2, k3, k4, k2, k5⟩ := ct
  have kl := q_tK_l (β := β) (L := L) (p := p)
  rw [k3]
  refine ⟨fun z => ?_, fun z => ?_⟩
  · have k : q_tK β L p = 3 := (nI_eq (b := 3) (by omega) (by omega)).mp z
    exact h1 (if_pos k) s1 f1 (f2 6 (by omega)) (k2 (by omega))
  · have k : ¬ q_tK β L p = 3 := fun y => z (by rw [y]; rfl)
    have en : q_sf β L p = 1 := if_neg k
    rw [en] at h0
    exact c_fails (d := d + 1) (f := 1) k4 (fun s2 g1 g2 g3 => ⟨_, rfl, fun _ => h0 (by omega) s2 (fun x q => (g1 x q).trans (f1 x q)) g2 g3, fun y => absurd rfl y⟩)
theorem c_cell {p : Nat} {s : g_S} (hL : L ≤ 400) (eL : σ 13 1 = nI L) (hβ : ∀ i, i < 400 → σ 14 i = β i) (by' : q_by β) (cw : q_cw s σ) (hp : p ≤ L) (e2 : s 40 2 = nI p) (h1 : q_nf β L p 0 8 = 0 → q_nf β L (q_tE β L p) 0 8 = 0 → ∀ s2, (∀ x, x ≠ 40 → s2 x = s x) → s2 40 6 = s 40 6 → s2 40 2 = nI (q_tE β L (q_tE β L p)) → s2 40 4 = nI (q_tS β L (q_tE β L p)) → R (some (.int (nI (q_cc β L p)))) s2) (h0 : ∀ a, a = (if q_nf β L p 0 8 = 0 then (q_nf β L (q_tE β L p) 0 8, q_tS β L (q_tE β L p)) else (q_nf β L p 0 8, q_tS β L p)) → a.1 ≠ 0 → ∀ s2, (∀ x, x ≠ 40 → s2 x = s x) → s2 40 7 = nI a.1 → s2 40 8 = nI a.2 → R (some (.int (-1000000))) s2) : g_wp E (d + 4) 18 [.ref 40] s R := by
  have rE := (q_tE_r (β := β) hp).2
  refine t18_0 (c_num (d := d) (lo := 0) (hi := 8) (by omega) (by omega) hL eL hβ by' cw hp e2 (fun n1 s1 f1 g6 g2 g5 g4 => ⟨_, rfl, fun _ => ?_, fun y => absurd (by decide) y⟩) (fun n1 s1 f1 g7 g8 => ⟨_, rfl, fun y => absurd rfl y, fun _ => ?_⟩))
  · refine c_num (d := d) (lo := 0) (hi := 8) (by omega) (by omega) hL eL hβ by' (cw.f40 f1) rE g2 (fun n2 s5 f5 i6 i2 i5 i4 => ⟨_, rfl, fun y => absurd y (by decide), fun _ => ?_⟩) (fun n2 s5 f5 g7 g8 => ⟨_, rfl, fun _ => ?_, fun y => absurd rfl y⟩)
    · obtain ⟨x, y, hx, hy, ex, ey, ec⟩ := q_cc_l n1 n2
      rw [g5, i5, ex, ey]
      refine c_cellAt (fun a b ha hb ea eb => ⟨_, rfl, ?_⟩) (fun z => ?_)
      · have e1 := (nI_eq (by omega) (by omega)).mp ea
        have e3 := (nI_eq (by omega) (by omega)).mp eb
        subst e1; subst e3
        have z := h1 n1 n2 s5 (fun x q => (f5 x q).trans (f1 x q)) (i6.trans g6) i2 i4
        rw [ec] at z
        exact z
      · rw [nI_toInt (by omega), nI_toInt (by omega)] at z
        omega
    · exact h0 _ (by rw [if_pos n1]) n2 s5 (fun x q => (f5 x q).trans (f1 x q)) g7 g8
  · exact h0 _ (by rw [if_neg n1]) n1 s1 f1 g7 g8
/-- a wall -/
theorem c_rwall {p g : Nat} {s : g_S} {τ : Nat → Int32} (hL : L ≤ 400) (eL : σ 13 1 = nI L) (hβ : ∀ i, i < 400 → σ 14 i = β i) (by' : q_by β) (cw : q_cw s σ) (hp : p ≤ L) (e4 : s 40 4 = nI (q_tS β L p)) (e2 : s 40 2 = nI (q_tE β L p)) (e6 : s 40 6 = τ 5) (tr : TR s 21 τ) (i : q_in τ (g + 1)) (h6 : τ 6 = 0) (h1 : (q_aW β L τ p).1 = 0 → ∀ s2, q_cw s2 σ → TR s2 21 (q_tw τ (q_cc β L (q_ne β L 1 p))) → s2 40 2 = nI (q_ne β L 4 p) → s2 40 6 = q_tw τ (q_cc β L (q_ne β L 1 p)) 5 → R (some (.int 1)) s2) (h0 : (q_aW β L τ p).1 ≠ 0 → ∀ s2, q_cw s2 σ → s2 40 7 = nI (q_aW β L τ p).1 → s2 40 8 = nI (q_aW β L τ p).2 → R (some (.int 0)) s2) : g_wp E (d + 5) 15 [.ref 40] s R := by
  obtain ⟨w, f4, k, n, k1, n1, e5, e6', sm⟩ := id i
  have r1 : q_ne β L 1 p ≤ L := q_ne_l hp
  have r2 : q_ne β L 2 p ≤ L := q_ne_l hp
  have r3 : q_ne β L 3 p ≤ L := q_ne_l hp
  have rb : ∀ {r : Int32} {s2 : g_S}, (r = 0 ∨ r = 1) → R (some (.int r)) s2 → (narrow .boolean (.int r) = .int r ∧ R (some (.int r)) s2) := fun hr hh => ⟨by rcases hr with e | e <;> subst e <;> decide, hh⟩
  refine t15_0 ?_
  rw [e6, e5, show nI k < (20 : Int32) ↔ k < 20 from nI_ltI (b := 20) (by omega) (by omega)]
  refine ⟨fun z s1 es => ?_, fun z => ?_⟩
  · have n20 : ¬ τ 5 = 20 := fun y => by
      rw [e5] at y
      have := (nI_eq (b := 20) (by omega) (by omega)).mp y
      omega
    have f1 : ∀ x, x ≠ 40 → s1 x = s x := fun x q => by rw [es]; exact g_up_ne q
    have c1 : q_cw s1 σ := cw.f40 f1
    have g6 : s1 40 6 = nI (k + 1) := by rw [es]; exact g_up_s.trans (nI_1 k)
    have g2 : s1 40 2 = nI (q_ne β L 1 p) := by rw [es]; exact (g_up_n (by omega)).trans e2
    refine c_cell (d := d) hL eL hβ by' c1 r1 g2 (fun y1 y2 s3 f3 i6 i2 i4 => ⟨_, rfl, fun _ => ?_, fun y => absurd (q_none ?_) y⟩) (fun a ea an s3 f3 i7 i8 => ⟨_, rfl, fun y => absurd rfl y, fun _ => ?_⟩)
    · obtain ⟨x, y, hx, hy, ex, ey, ec⟩ := q_cc_l y1 y2
      have c81 : q_cc β L (q_ne β L 1 p) < 81 := by omega
      have f13 : ∀ x, x ≠ 40 → s3 x = s x := fun x q => (f3 x q).trans (f1 x q)
      have tr3 : TR s3 21 τ := tr.low (fun a q1 q2 => f13 a (by omega))
      have gr := tr3.2.2.2.2.2.2.2.2.1 _ c81
      have gt := q_gr_tw w f4 c81 gr
      refine t53_0 (Or.inr (Or.inl rfl)) ⟨vp_in_nI c81 (by omega), ?_⟩
      rw [q_cl (by omega), gt.1]
      refine ⟨fun z1 => ⟨_, rfl, fun _ => ?_, fun y => absurd rfl y⟩, fun z1 => ⟨_, rfl, fun y => absurd y (by decide), fun _ => ?_⟩⟩
      · have after : ∀ s5 : g_S, (∀ x, x ≠ 21 → x ≠ 22 → s5 x = s3 x) → (∀ j, j ≠ 7 → s5 21 j = s3 21 j) → s5 21 7 = s3 21 7 + (if τ (7 + q_cc β L (q_ne β L 1 p)) = 1 then 0 else 1) → (∀ j, j ≠ q_cc β L (q_ne β L 1 p) → s5 22 j = s3 22 j) → s5 22 (q_cc β L (q_ne β L 1 p)) = 2 → g_wp E (d + 4) 20 [.ref 40] s5 (g_ri fun r15 s13 => narrow .boolean (.int r15) = .int r15 ∧ R (some (.int r15)) s13) := fun s5 a1 a2 a3 a4 a5 => by
          have tr5 : TR s5 21 (q_tw τ (q_cc β L (q_ne β L 1 p))) := TR.wall tr3 c81 h6 a2 a3 a4 a5 (fun a q1 q2 => a1 a (by omega) (by omega))
          have c5 : q_cw s5 σ := fun x q1 q2 => (a1 x (by omega) (by omega)).trans ((f13 x q2).trans (cw x q1 q2))
          have e52 : s5 40 2 = nI (q_ne β L 3 p) := (congrFun (a1 40 (by omega) (by omega)) 2).trans i2
          have e56 : s5 40 6 = nI (k + 1) := (congrFun (a1 40 (by omega) (by omega)) 6).trans (i6.trans g6)
          rw [q_aW_5 n20 y1 y2 z1] at h1 h0
          refine c_sign (d := d + 1) hL eL hβ by' c5 r3 e52 (fun sf s7 f7 j6 j2 => ⟨_, rfl, rb (Or.inr rfl) (h1 sf s7 (c5.f40 f7) (tr5.low (fun a q1 q2 => f7 a (by omega))) j2 ?_)⟩) (fun sf s7 f7 j7 j8 => ⟨_, rfl, rb (Or.inl rfl) (h0 sf s7 (c5.f40 f7) j7 j8)⟩)
          rw [j6, e56, q_tw_c.2, e5, nI_1]
        refine t45_0 (Or.inr (Or.inl rfl)) ⟨vp_in_nI c81 (by omega), ?_⟩
        rw [q_cl (by omega), gt.2]
        refine ⟨fun z2 s4 es4 => ⟨vp_in_nI c81 (by omega), fun s5 es5 => ⟨rfl, ?_⟩⟩, fun z2 s4 es4 => ⟨vp_in_nI c81 (by omega), fun s5 es5 => ⟨rfl, ?_⟩⟩⟩
        · refine after s5 (fun x q1 q2 => ?_) (fun j q => ?_) ?_ (fun j q => ?_) ?_
          · rw [es5, es4]; exact (g_up_ne q2).trans (g_up_ne q1)
          · rw [es5, es4]; exact (g_up_n (by omega)).trans (g_up_n (by omega))
          · rw [es5, es4, if_neg z2]; exact (g_up_n (by omega)).trans g_up_s
          · rw [es5, es4]; exact (g_up_n (by omega)).trans (g_up_n (by omega))
          · rw [es5]; exact g_up_s
        · refine after s5 (fun x q1 q2 => ?_) (fun j q => ?_) ?_ (fun j q => ?_) ?_
          · rw [es5, es4]; exact (g_up_ne q2).trans (g_up_ne q1)
          · rw [es5, es4]; exact (g_up_n (by omega)).trans (g_up_n (by omega))
          · rw [es5, es4, if_pos (Classical.not_not.mp z2)]; exact (g_up_n (by omega)).trans g_up_s
          · rw [es5, es4]; exact (g_up_n (by omega)).trans (g_up_n (by omega))
          · rw [es5]; exact g_up_s
      · rw [q_aW_4 n20 y1 y2 (Classical.not_not.mp z1)] at h0
        exact c_fails (d := d + 3) (p := q_ne β L 2 p) (f := 2) i4 (fun s5 a1 a2 a3 => ⟨_, rfl, rb (Or.inl rfl) (h0 (by dsimp only; omega) s5 ((c1.f40 f3).f40 a1) a2 a3)⟩)
    · obtain ⟨x, y', hx, hy, ex, ey, ec⟩ := q_cc_l y1 y2
      omega
    · by_cases m1 : q_nf β L (q_ne β L 1 p) 0 8 = 0
      · rw [if_pos m1] at ea
        subst ea
        rw [q_aW_3 n20 m1 an] at h0
        exact h0 an s3 (c1.f40 f3) i7 i8
      · rw [if_neg m1] at ea
        subst ea
        rw [q_aW_2 n20 m1] at h0
        exact h0 an s3 (c1.f40 f3) i7 i8
  · have e20 : τ 5 = 20 := by
      rw [e5, show k = 20 by omega]; rfl
    rw [q_aW_1 e20] at h0
    exact c_fails (d := d + 3) (f := 3) e4 (fun s5 a1 a2 a3 => ⟨_, rfl, rb (Or.inl rfl) (h0 (by dsimp only; omega) s5 (cw.f40 a1) a2 a3)⟩)
end Q906
