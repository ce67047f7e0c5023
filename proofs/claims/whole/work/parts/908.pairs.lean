/-! town: the class's reader: the tower, the whole text -/
theorem q_aT_1 {β : Nat → Int32} {L p : Nat} (h : q_wf β L p 20 ≠ 0) : q_aT β L p = (q_wf β L p 20, q_tS β L p) := by
  unfold q_aT
  rw [q_an0, q_ank h, q_ank h, q_ank h, q_ank h]
theorem q_aT_2 {β : Nat → Int32} {L p : Nat} (h : q_wf β L p 20 = 0) (h1 : q_nf β L (q_ne β L 1 p) 0 8 ≠ 0) : q_aT β L p = (q_nf β L (q_ne β L 1 p) 0 8, q_tS β L (q_ne β L 1 p)) := by
  unfold q_aT
  rw [q_an0, h, q_anz, q_ank h1, q_ank h1, q_ank h1]
theorem q_aT_3 {β : Nat → Int32} {L p : Nat} (h : q_wf β L p 20 = 0) (h1 : q_nf β L (q_ne β L 1 p) 0 8 = 0) (h2 : q_nf β L (q_ne β L 2 p) 0 8 ≠ 0) : q_aT β L p = (q_nf β L (q_ne β L 2 p) 0 8, q_tS β L (q_ne β L 2 p)) := by
  unfold q_aT
  rw [q_an0, h, q_anz, h1, q_anz, q_ank h2, q_ank h2]
theorem q_aT_4 {β : Nat → Int32} {L p : Nat} (h : q_wf β L p 20 = 0) (h1 : q_nf β L (q_ne β L 1 p) 0 8 = 0) (h2 : q_nf β L (q_ne β L 2 p) 0 8 = 0) (h3 : q_nf β L (q_ne β L 3 p) 1 8 ≠ 0) : q_aT β L p = (q_nf β L (q_ne β L 3 p) 1 8, q_tS β L (q_ne β L 3 p)) := by
  unfold q_aT
  rw [q_an0, h, q_anz, h1, q_anz, h2, q_anz, q_ank h3]
theorem q_aT_5 {β : Nat → Int32} {L p : Nat} (h : q_wf β L p 20 = 0) (h1 : q_nf β L (q_ne β L 1 p) 0 8 = 0) (h2 : q_nf β L (q_ne β L 2 p) 0 8 = 0) (h3 : q_nf β L (q_ne β L 3 p) 1 8 = 0) : q_aT β L p = (q_sf β L (q_ne β L 4 p), q_tS β L (q_ne β L 4 p)) := by
  unfold q_aT
  rw [q_an0, h, q_anz, h1, q_anz, h2, q_anz, h3, q_anz]
theorem q_wf_1 {β : Nat → Int32} {L p q : Nat} (h : ¬ q_wd β L p q) : q_wf β L p q = 1 := if_neg (fun z => h (q_pd_iff.mp z))
def q_clr (s : g_S) : Prop := s 21 5 = 0 ∧ s 21 6 = 0 ∧ s 21 7 = 0 ∧ s 21 8 = 0 ∧ (∀ c, c < 81 → s 22 c = 0) ∧ ∀ t, t < 73 → s 23 t = 0
section Q908
variable {E : g_E} {d : Nat} {R : g_R} {σ : g_S} {β : Nat → Int32} {L : Nat}
theorem c_raise {x y : Nat} {r : Int32} {s : g_S} (hx : x < 9) (hy : y < 9) (cl : q_clr s) (h : ∀ s2, (∀ a, (a < 21 ∨ 26 < a) → s2 a = s a) → TR s2 21 (q_t1 (x + 9 * y) r) → R none s2) : g_wp E (d + 2) 44 [.ref 21, .int (nI x), .int (nI y), .int r] s R := by
  obtain ⟨c5, c6, c7, c8, cg, cc⟩ := cl
  refine t44_0 (Or.inr (Or.inl rfl)) (c_cellAt (fun a b ha hb ea eb => ⟨_, rfl, fun _ s5 e5 s6 e6 s7 e7 s8 e8 s9 e9 => ?_, fun z => absurd (q_none (show a + 9 * b < 81 by omega)) z⟩) (fun z => ?_))
  · have h1 := (nI_eq (by omega) (by omega)).mp ea
    have h2 := (nI_eq (by omega) (by omega)).mp eb
    subst h1; subst h2
    rw [q_cl (by omega)]
    refine ⟨vp_in_nI (by omega) (by omega), fun s10 e10 => h s10 (fun a q => ?_) ?_⟩
    · rw [e10, e9, e8, e7, e6, e5]
      exact (g_up_ne (by omega)).trans ((g_up_ne (by omega)).trans ((g_up_ne (by omega)).trans ((g_up_ne (by omega)).trans ((g_up_ne (by omega)).trans (g_up_ne (by omega))))))
    · have o : ∀ j, j ≠ 0 → j ≠ 1 → j ≠ 2 → j ≠ 3 → j ≠ 4 → s10 21 j = s 21 j := fun j q0 q1 q2 q3 q4 => by
        rw [e10, e9, e8, e7, e6, e5]
        exact (g_up_n (by omega)).trans ((g_up_n (by omega)).trans ((g_up_n (by omega)).trans ((g_up_n (by omega)).trans ((g_up_n (by omega)).trans (g_up_n (by omega))))))
      refine TR.t1 hx hy ?_ ?_ ?_ ?_ ?_ ((o 5 (by omega) (by omega) (by omega) (by omega) (by omega)).trans c5) ((o 6 (by omega) (by omega) (by omega) (by omega) (by omega)).trans c6) ((o 7 (by omega) (by omega) (by omega) (by omega) (by omega)).trans c7) ((o 8 (by omega) (by omega) (by omega) (by omega) (by omega)).trans c8) ?_ (fun c hc hn => ?_) (fun t ht => ?_)
      · rw [e10, e9, e8, e7, e6, e5]
        exact (g_up_n (by omega)).trans ((g_up_n (by omega)).trans ((g_up_n (by omega)).trans ((g_up_n (by omega)).trans ((g_up_n (by omega)).trans g_up_s))))
      · rw [e10, e9, e8, e7, e6]
        exact (g_up_n (by omega)).trans ((g_up_n (by omega)).trans ((g_up_n (by omega)).trans ((g_up_n (by omega)).trans g_up_s)))
      · rw [e10, e9, e8, e7]
        exact (g_up_n (by omega)).trans ((g_up_n (by omega)).trans ((g_up_n (by omega)).trans g_up_s))
      · rw [e10, e9, e8]
        exact (g_up_n (by omega)).trans ((g_up_n (by omega)).trans g_up_s)
      · rw [e10, e9]
        exact (g_up_n (by omega)).trans g_up_s
      · rw [e10]; exact g_up_s
      · rw [e10, e9, e8, e7, e6, e5]
        exact (g_up_n (Or.inr hn)).trans ((g_up_n (by omega)).trans ((g_up_n (by omega)).trans ((g_up_n (by omega)).trans ((g_up_n (by omega)).trans ((g_up_n (by omega)).trans (cg c hc))))))
      · rw [e10, e9, e8, e7, e6, e5]
        exact (g_up_n (by omega)).trans ((g_up_n (by omega)).trans ((g_up_n (by omega)).trans ((g_up_n (by omega)).trans ((g_up_n (by omega)).trans ((g_up_n (by omega)).trans (cc t ht))))))
  · rw [nI_toInt (by omega), nI_toInt (by omega)] at z
    omega
theorem c_rtower {p : Nat} {s : g_S} (hL : L ≤ 400) (eL : σ 13 1 = nI L) (hβ : ∀ i, i < 400 → σ 14 i = β i) (by' : q_by β) (cw : q_cw s σ) (hp : p ≤ L) (e2 : s 40 2 = nI p) (cl : q_clr s) (h1 : (q_aT β L p).1 = 0 → ∀ s2, q_cw s2 σ → TR s2 21 (q_t1 (q_cc β L (q_ne β L 1 p)) (q_tV β L (q_ne β L 3 p))) → s2 40 2 = nI (q_ne β L 5 p) → s2 40 6 = s 40 6 → R (some (.int 1)) s2) (h0 : (q_aT β L p).1 ≠ 0 → ∀ s2, q_cw s2 σ → s2 40 7 = nI (q_aT β L p).1 → s2 40 8 = nI (q_aT β L p).2 → R (some (.int 0)) s2) : g_wp E (d + 7) 14 [.ref 40] s R := by
  have r1 : q_ne β L 1 p ≤ L := q_ne_l hp
  have r2 : q_ne β L 2 p ≤ L := q_ne_l hp
  have r3 : q_ne β L 3 p ≤ L := q_ne_l hp
  have r4 : q_ne β L 4 p ≤ L := q_ne_l hp
  have rb : ∀ {r : Int32} {s2 : g_S}, (r = 0 ∨ r = 1) → R (some (.int r)) s2 → (narrow .boolean (.int r) = .int r ∧ R (some (.int r)) s2) := fun hr hh => ⟨by rcases hr with e | e <;> subst e <;> decide, hh⟩
  refine t14_0 (c_take (d := d + 4) hL hp ((congrFun (cw 13 (by omega) (by omega)) 1).trans eL) e2 (fun i hi => (congrFun (cw 14 (by omega) (by omega)) i).trans (hβ i hi)) by' (fun s1 ct => ⟨rfl, ?_⟩))
  obtain ⟨f1, f2, t3, t4, t2, t5⟩ := ct
  have c1 : q_cw s1 σ := cw.f40 f1
  refine c_isWord (d := d) (q := 20) (by omega) hL hp ((congrFun (c1 13 (by omega) (by omega)) 1).trans eL) (fun i hi => (congrFun (c1 14 (by omega) (by omega)) i).trans (hβ i hi)) t3 t4 t2 (fun w => ⟨_, rfl, fun _ => ?_, fun z => absurd (by decide) z⟩) (fun w => ⟨_, rfl, fun z => absurd rfl z, fun _ => ?_⟩)
  · have w0 := q_wf_0.mpr w
    refine c_num (d := d + 3) (p := q_ne β L 1 p) (lo := 0) (hi := 8) (by omega) (by omega) hL eL hβ by' c1 r1 (t2 (by rw [w.1]; decide)) (fun n1 sa fa a6 a2 a5 a4 => ⟨_, rfl, fun _ => ?_, fun z => absurd (by decide) z⟩) (fun n1 sa fa a7 a8 => ⟨_, rfl, fun z => absurd rfl z, fun _ => ?_⟩)
    · have ca := c1.f40 fa
      refine c_num (d := d + 3) (p := q_ne β L 2 p) (lo := 0) (hi := 8) (by omega) (by omega) hL eL hβ by' ca r2 a2 (fun n2 sb fb b6 b2 b5 b4 => ⟨_, rfl, fun _ => ?_, fun z => absurd (by decide) z⟩) (fun n2 sb fb b7 b8 => ⟨_, rfl, fun z => absurd rfl z, fun _ => ?_⟩)
      · have cb := ca.f40 fb
        refine c_num (d := d + 3) (p := q_ne β L 3 p) (lo := 1) (hi := 8) (by omega) (by omega) hL eL hβ by' cb r3 b2 (fun n3 sc fc i6 i2 i5 i4 => ⟨_, rfl, fun _ => ?_, fun z => absurd (by decide) z⟩) (fun n3 sc fc i7 i8 => ⟨_, rfl, fun z => absurd rfl z, fun _ => ?_⟩)
        · have cc := cb.f40 fc
          obtain ⟨x, y, hx, hy, ex, ey, ec⟩ := q_cc_l n1 n2
          have fall : ∀ a, a ≠ 40 → sc a = s a := fun a q => (fc a q).trans ((fb a q).trans ((fa a q).trans (f1 a q)))
          have clc : q_clr sc := by
            unfold q_clr
            rw [fall 21 (by omega), fall 22 (by omega), fall 23 (by omega)]
            exact cl
          rw [a5, b5, i5, show q_tV β L (q_ne β L 1 p) = nI x from ex, show q_tV β L (q_ne β L 2 p) = nI y from ey]
          refine c_raise (d := d + 4) hx hy clc (fun sd fd trd => ⟨rfl, ?_⟩)
          have cd : q_cw sd σ := fun a q1 q2 => (fd a q1).trans (cc a q1 q2)
          rw [← show q_cc β L (q_ne β L 1 p) = x + 9 * y from ec] at trd
          rw [q_aT_5 w0 n1 n2 n3] at h1 h0
          refine c_sign (d := d + 3) (p := q_ne β L 4 p) hL eL hβ by' cd r4 ((congrFun (fd 40 (by omega)) 2).trans i2) (fun sf s9 f9 l6 l2 => ⟨_, rfl, rb (Or.inr rfl) (h1 sf s9 (cd.f40 f9) (trd.low (fun a q1 q2 => f9 a (by omega))) l2 ?_)⟩) (fun sf s9 f9 l7 l8 => ⟨_, rfl, rb (Or.inl rfl) (h0 sf s9 (cd.f40 f9) l7 l8)⟩)
          exact l6.trans ((congrFun (fd 40 (by omega)) 6).trans (i6.trans (b6.trans (a6.trans (f2 6 (by omega))))))
        · rw [q_aT_4 w0 n1 n2 n3] at h0
          exact h0 n3 sc (cb.f40 fc) i7 i8
      · rw [q_aT_3 w0 n1 n2] at h0
        exact h0 n2 sb (ca.f40 fb) b7 b8
    · rw [q_aT_2 w0 n1] at h0
      exact h0 n1 sa (c1.f40 fa) a7 a8
  · have w0 : q_wf β L p 20 ≠ 0 := fun z => w (q_wf_0.mp z)
    have w1 := q_wf_1 w
    rw [q_aT_1 w0, w1] at h0
    exact c_fails (d := d + 5) (f := 1) t4 (fun s5 a1 a2 a3 => ⟨_, rfl, rb (Or.inl rfl) (h0 (Nat.succ_ne_zero _) s5 (c1.f40 a1) a2 a3)⟩)
theorem c_out13 {O : g_O} {x : Int32} {s : g_S} (h : R (some (.int 0)) s) : g_g E O 13 24 [some (.ref 40), some (.int 0), some (.int x)] [] s R := t13_24 ⟨fun _ => h, fun z => absurd rfl z⟩
/-- all walls and shops -/
theorem c_parts (hL : L ≤ 400) (eL : σ 13 1 = nI L) (hβ : ∀ i, i < 400 → σ 14 i = β i) (by' : q_by β) : ∀ g m p τ s, m + g = 29 → q_in τ g → q_cw s σ → p ≤ L → s 40 2 = nI p → s 40 6 = τ 5 → TR s 21 τ → ((q_ps β L g p τ).1.1 = 0 → ∀ s2, q_cw s2 σ → TR s2 21 (q_ps β L g p τ).2 → R (some (.int 1)) s2) → ((q_ps β L g p τ).1.1 ≠ 0 → ∀ s2, q_cw s2 σ → s2 40 7 = nI (q_ps β L g p τ).1.1 → s2 40 8 = nI (q_ps β L g p τ).1.2 → R (some (.int 0)) s2) → g_g E (g_wp E (d + 8)) 13 24 [some (.ref 40), some (.int 1), some (.int (nI m))] [] s R := by
  intro g
  induction g with
  | zero =>
    intro m p τ s hm i
    obtain ⟨w, f4, k, n, k1, n1, e5, e6, sm⟩ := i
    omega
  | succ g ih =>
    intro m p τ s hm i cw hp e2 e6 tr h1 h0
    have kl := q_tK_l (β := β) (L := L) (p := p)
    unfold q_ps at h1 h0
    refine t13_24 ⟨fun z => absurd z (by decide), fun _ => ⟨fun z => absurd z (nI_nlt (a := 28) (b := m) (by omega) (by omega)), fun _ => ?_⟩⟩
    refine c_take (d := d + 6) hL hp ((congrFun (cw 13 (by omega) (by omega)) 1).trans eL) e2 (fun i hi => (congrFun (cw 14 (by omega) (by omega)) i).trans (hβ i hi)) by' (fun s1 ct => ⟨rfl, ?_⟩)
    obtain ⟨f1, f2, t3, t4, t2, t5⟩ := ct
    have c1 : q_cw s1 σ := cw.f40 f1
    have tr1 : TR s1 21 τ := tr.low (fun a q1 q2 => f1 a (by omega))
    have g6 : s1 40 6 = τ 5 := (f2 6 (by omega)).trans e6
    have e8 : s1 21 8 = τ 6 := tr1.2.2.2.2.2.2.2.1
    rw [t3, nI_1, show nI (q_tK β L p) = (0 : Int32) ↔ q_tK β L p = 0 from nI_eq (b := 0) (by omega) (by omega)]
    refine ⟨fun k => ?_, fun k => ?_⟩
    · rw [if_neg k] at h1 h0
      have go74 : ¬ (q_wf β L p 21 = 0 ∧ τ 6 = 0) → g_g E (g_wp E (d + 8)) 13 74 [some (.ref 40), none, some (.int (nI m))] [] s1 R := fun nw => by
        rw [if_neg nw] at h1 h0
        refine t13_74 ?_
        rw [nI_1]
        refine c_isWord (d := d + 2) (q := 22) (by omega) hL hp ((congrFun (c1 13 (by omega) (by omega)) 1).trans eL) (fun i hi => (congrFun (c1 14 (by omega) (by omega)) i).trans (hβ i hi)) t3 t4 t2 (fun w => ⟨_, rfl, fun z => absurd z (by decide), fun _ => ?_⟩) (fun w => ⟨_, rfl, fun _ => ?_, fun z => absurd rfl z⟩)
        · rw [if_pos (q_wf_0.mpr w)] at h1 h0
          refine c_rshop (d := d) (g := g) hL eL hβ by' c1 hp t4 (t2 k) g6 tr1 i (fun ok s2 c2 tr2 i2 i6 => ⟨_, rfl, ?_⟩) (fun no s2 c2 i7 i8 => ⟨_, rfl, c_out13 ?_⟩)
          · rw [if_pos ok] at h1 h0
            exact ih (m + 1) (q_ne β L 6 p) _ s2 (by omega) (i.shop ok) c2 (q_ne_l hp) i2 i6 tr2 h1 h0
          · rw [if_neg no] at h0
            exact h0 no s2 c2 i7 i8
        · rw [if_neg (fun z => w (q_wf_0.mp z))] at h0
          exact c_fails (d := d + 7) (f := 1) t4 (fun s5 a1 a2 a3 => ⟨_, rfl, c_out13 (h0 (Nat.succ_ne_zero _) s5 (c1.f40 a1) a2 a3)⟩)
      refine c_isWord (d := d + 2) (q := 21) (by omega) hL hp ((congrFun (c1 13 (by omega) (by omega)) 1).trans eL) (fun i hi => (congrFun (c1 14 (by omega) (by omega)) i).trans (hβ i hi)) t3 t4 t2 (fun w => ⟨_, rfl, fun z => absurd z (by decide), fun _ => ?_⟩) (fun w => ⟨_, rfl, fun _ => go74 (fun z => w (q_wf_0.mp z.1)), fun z => absurd rfl z⟩)
      rw [e8]
      refine ⟨fun z => go74 (fun y => z y.2), fun z => ?_⟩
      have z6 := Classical.not_not.mp z
      rw [if_pos ⟨q_wf_0.mpr w, z6⟩] at h1 h0
      refine c_rwall (d := d + 3) (g := g) hL eL hβ by' c1 hp t4 (t2 k) g6 tr1 i z6 (fun ok s2 c2 tr2 i2 i6 => ⟨_, rfl, ?_⟩) (fun no s2 c2 i7 i8 => ⟨_, rfl, c_out13 ?_⟩)
      · rw [if_pos ok] at h1 h0
        exact ih (m + 1) (q_ne β L 4 p) _ s2 (by omega) (i.wall z6 ok) c2 (q_ne_l hp) i2 i6 tr2 h1 h0
      · rw [if_neg no] at h0
        exact h0 no s2 c2 i7 i8
    · rw [if_pos (Classical.not_not.mp k)] at h1
      exact h1 rfl s1 c1 tr1
theorem c_readsAll (hL : L ≤ 400) (eL : σ 13 1 = nI L) (hβ : ∀ i, i < 400 → σ 14 i = β i) (by' : q_by β) (h1 : (q_all1 β L).1.1 = 0 → ∀ s2, q_cw s2 σ → TR s2 21 (q_all1 β L).2 → R (some (.int 1)) s2) (h0 : (q_all1 β L).1.1 ≠ 0 → ∀ s2, q_cw s2 σ → s2 40 7 = nI (q_all1 β L).1.1 → s2 40 8 = nI (q_all1 β L).1.2 → R (some (.int 0)) s2) : g_wp E (d + 9) 13 [.ref 40] σ R := by
  unfold q_all1 at h1 h0
  refine t13_0 (fun s1 e1 s2 e2 => t42_0 (Or.inr (Or.inl rfl)) (fun s3 e3 s4 e4 => t48_0 (Or.inr (Or.inl rfl)) (fun s5 e5 s6 e6 => ⟨rfl, fun s7 e7 s8 e8 => c_fill (d := d + 6) (n := 81) rfl rfl (by omega) ⟨rfl, t49_0 (Or.inr (Or.inl rfl)) (c_fill (d := d + 5) (n := 73) rfl rfl (by omega) ⟨rfl, rfl, rfl, ?_⟩)⟩⟩)))
  have fr : ∀ x, (x < 21 ∨ 26 < x) → x ≠ 40 → g_fl (g_fl s8 22 81 0) 23 73 0 x = σ x := fun x q1 q2 => by
    rw [e8, e7, e6, e5, e4, e3, e2, e1]
    exact (g_fl_ne (by omega)).trans ((g_fl_ne (by omega)).trans ((g_up_ne (by omega)).trans ((g_up_ne (by omega)).trans ((g_up_ne (by omega)).trans ((g_up_ne (by omega)).trans ((g_up_ne (by omega)).trans ((g_up_ne (by omega)).trans ((g_up_ne (by omega)).trans (g_up_ne (by omega))))))))))
  have b21 : g_fl (g_fl s8 22 81 0) 23 73 0 21 = s8 21 := (g_fl_ne (by omega)).trans (g_fl_ne (by omega))
  have b40 : g_fl (g_fl s8 22 81 0) 23 73 0 40 = s2 40 := by
    rw [e8, e7, e6, e5, e4, e3]
    exact (g_fl_ne (by omega)).trans ((g_fl_ne (by omega)).trans ((g_up_ne (by omega)).trans ((g_up_ne (by omega)).trans ((g_up_ne (by omega)).trans ((g_up_ne (by omega)).trans ((g_up_ne (by omega)).trans (g_up_ne (by omega))))))))
  have clr : q_clr (g_fl (g_fl s8 22 81 0) 23 73 0) := by
    unfold q_clr
    rw [b21, e8, e7, e6, e5]
    refine ⟨?_, ?_, ?_, ?_, fun c hc => ?_, fun t ht => g_fl_in ht⟩
    · exact (g_up_n (by omega)).trans ((g_up_n (by omega)).trans ((g_up_n (by omega)).trans g_up_s))
    · exact (g_up_n (by omega)).trans ((g_up_n (by omega)).trans g_up_s)
    · exact (g_up_n (by omega)).trans g_up_s
    · exact g_up_s
    · rw [g_fl_ne (by omega)]; exact g_fl_in hc
  have z2 : g_fl (g_fl s8 22 81 0) 23 73 0 40 2 = nI 0 := by
    rw [b40, e2, e1]; exact (g_up_n (by omega)).trans g_up_s
  have z6 : g_fl (g_fl s8 22 81 0) 23 73 0 40 6 = 0 := by
    rw [b40, e2]; exact g_up_s
  refine c_rtower (d := d + 1) (p := 0) hL eL hβ by' fr (Nat.zero_le L) z2 clr (fun ok s9 c9 tr9 i2 i6 => ⟨_, rfl, ?_⟩) (fun no s9 c9 i7 i8 => ⟨_, rfl, c_out13 ?_⟩)
  · rw [if_pos ok] at h1 h0
    have i := q_in.t1 ok
    have e5' : q_t1 (q_cc β L (q_ne β L 1 0)) (q_tV β L (q_ne β L 3 0)) 5 = 0 := q_t1_n (by omega) (by omega) (by omega) (by omega)
    exact c_parts (d := d) hL eL hβ by' 29 0 (q_ne β L 5 0) _ s9 (by omega) i c9 (q_ne_l (Nat.zero_le L)) i2 (i6.trans (z6.trans e5'.symm)) tr9 h1 h0
  · rw [if_neg no] at h0
    exact h0 no s9 c9 i7 i8
end Q908
