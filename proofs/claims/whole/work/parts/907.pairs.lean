/-! town: the class's reader: shops, the tower -/
theorem q_aS_1 {β : Nat → Int32} {L p : Nat} {τ : Nat → Int32} (h : τ 6 = 8) : q_aS β L τ p = (3, q_tS β L p) := by
  have n3 : (3 : Nat) ≠ 0 := by decide
  unfold q_aS
  rw [if_pos h, q_an0, q_ank n3, q_ank n3, q_ank n3, q_ank n3, q_ank n3, q_ank n3]
theorem q_aS_2 {β : Nat → Int32} {L p : Nat} {τ : Nat → Int32} (h : ¬ τ 6 = 8) (h1 : q_srt β L (q_ne β L 1 p) = 5) : q_aS β L τ p = (1, q_tS β L (q_ne β L 1 p)) := by
  have n1 : (1 : Nat) ≠ 0 := by decide
  unfold q_aS
  rw [if_neg h, if_pos h1, q_an0, q_anz, q_ank n1, q_ank n1, q_ank n1, q_ank n1, q_ank n1]
theorem q_aS_3 {β : Nat → Int32} {L p : Nat} {τ : Nat → Int32} (h : ¬ τ 6 = 8) (h1 : ¬ q_srt β L (q_ne β L 1 p) = 5) (h2 : q_nf β L (q_ne β L 2 p) 0 8 ≠ 0) : q_aS β L τ p = (q_nf β L (q_ne β L 2 p) 0 8, q_tS β L (q_ne β L 2 p)) := by
  unfold q_aS
  rw [if_neg h, if_neg h1, q_an0, q_anz, q_anz, q_ank h2, q_ank h2, q_ank h2, q_ank h2]
theorem q_aS_4 {β : Nat → Int32} {L p : Nat} {τ : Nat → Int32} (h : ¬ τ 6 = 8) (h1 : ¬ q_srt β L (q_ne β L 1 p) = 5) (h2 : q_nf β L (q_ne β L 2 p) 0 8 = 0) (h3 : q_nf β L (q_ne β L 3 p) 0 8 ≠ 0) : q_aS β L τ p = (q_nf β L (q_ne β L 3 p) 0 8, q_tS β L (q_ne β L 3 p)) := by
  have fs : q_fs β L τ (q_ne β L 2 p) = 0 := if_neg (fun y => h3 y.1)
  unfold q_aS
  rw [if_neg h, if_neg h1, q_an0, q_anz, h2, q_anz, fs, q_anz, q_anz, q_ank h3, q_ank h3]
theorem q_aS_5 {β : Nat → Int32} {L p : Nat} {τ : Nat → Int32} (h : ¬ τ 6 = 8) (h1 : ¬ q_srt β L (q_ne β L 1 p) = 5) (h2 : q_nf β L (q_ne β L 2 p) 0 8 = 0) (h3 : q_nf β L (q_ne β L 3 p) 0 8 = 0) (h4 : ¬ q_free τ (q_cc β L (q_ne β L 2 p)) = true) : q_aS β L τ p = (2, q_tS β L (q_ne β L 3 p)) := by
  have n2 : (2 : Nat) ≠ 0 := by decide
  have fs : q_fs β L τ (q_ne β L 2 p) = 2 := if_pos ⟨h3, h4⟩
  unfold q_aS
  rw [if_neg h, if_neg h1, q_an0, q_anz, h2, q_anz, fs, q_anz, q_ank n2, q_ank n2, q_ank n2]
theorem q_aS_6 {β : Nat → Int32} {L p : Nat} {τ : Nat → Int32} (h : ¬ τ 6 = 8) (h1 : ¬ q_srt β L (q_ne β L 1 p) = 5) (h2 : q_nf β L (q_ne β L 2 p) 0 8 = 0) (h3 : q_nf β L (q_ne β L 3 p) 0 8 = 0) (h4 : q_free τ (q_cc β L (q_ne β L 2 p)) = true) (h5 : q_nf β L (q_ne β L 4 p) 0 99 ≠ 0) : q_aS β L τ p = (q_nf β L (q_ne β L 4 p) 0 99, q_tS β L (q_ne β L 4 p)) := by
  have fs : q_fs β L τ (q_ne β L 2 p) = 0 := if_neg (fun y => y.2 h4)
  unfold q_aS
  rw [if_neg h, if_neg h1, q_an0, q_anz, h2, q_anz, fs, q_anz, h3, q_anz, q_anz, q_ank h5]
theorem q_aS_7 {β : Nat → Int32} {L p : Nat} {τ : Nat → Int32} (h : ¬ τ 6 = 8) (h1 : ¬ q_srt β L (q_ne β L 1 p) = 5) (h2 : q_nf β L (q_ne β L 2 p) 0 8 = 0) (h3 : q_nf β L (q_ne β L 3 p) 0 8 = 0) (h4 : q_free τ (q_cc β L (q_ne β L 2 p)) = true) (h5 : q_nf β L (q_ne β L 4 p) 0 99 = 0) : q_aS β L τ p = (q_sf β L (q_ne β L 5 p), q_tS β L (q_ne β L 5 p)) := by
  have fs : q_fs β L τ (q_ne β L 2 p) = 0 := if_neg (fun y => y.2 h4)
  unfold q_aS
  rw [if_neg h, if_neg h1, q_an0, q_anz, h2, q_anz, fs, q_anz, h3, q_anz, h5, q_anz, q_anz]
section Q907
variable {E : g_E} {d : Nat} {R : g_R} {σ : g_S} {β : Nat → Int32} {L : Nat}
theorem c_sort {p : Nat} (hL : L ≤ 400) (hp : p ≤ L) (eL : σ 13 1 = nI L) (hβ : ∀ i, i < 400 → σ 14 i = β i) (k3 : σ 40 3 = nI (q_tK β L p)) (k4 : σ 40 4 = nI (q_tS β L p)) (k2 : q_tK β L p ≠ 0 → σ 40 2 = nI (q_tE β L p)) (h5 : q_srt β L p = 5 → R (some (.int (-1000000))) σ) (h : ∀ j, j < 5 → q_srt β L p = j → R (some (.int (nI j))) σ) : g_wp E (d + 7) 17 [.ref 40] σ R := by
  unfold q_srt at h5 h
  refine t17_0 (c_isWord (d := d) (p := p) (q := 23) (by omega) hL hp eL hβ k3 k4 k2 (fun w0 => ⟨_, rfl, fun z => absurd z (by decide), fun _ => h 0 (by omega) (by rw [if_pos (q_wf_0.mpr w0)])⟩) (fun w0 => ⟨_, rfl, fun _ => ?_, fun z => absurd rfl z⟩))
  have n0 : ¬ q_wf β L p 23 = 0 := fun z => w0 (q_wf_0.mp z)
  rw [if_neg n0] at h5 h
  refine c_isWord (d := d) (p := p) (q := 24) (by omega) hL hp eL hβ k3 k4 k2 (fun w1 => ⟨_, rfl, fun z => absurd z (by decide), fun _ => h 1 (by omega) (by rw [if_pos (q_wf_0.mpr w1)])⟩) (fun w1 => ⟨_, rfl, fun _ => ?_, fun z => absurd rfl z⟩)
  have n1 : ¬ q_wf β L p 24 = 0 := fun z => w1 (q_wf_0.mp z)
  rw [if_neg n1] at h5 h
  refine c_isWord (d := d) (p := p) (q := 25) (by omega) hL hp eL hβ k3 k4 k2 (fun w2 => ⟨_, rfl, fun z => absurd z (by decide), fun _ => h 2 (by omega) (by rw [if_pos (q_wf_0.mpr w2)])⟩) (fun w2 => ⟨_, rfl, fun _ => ?_, fun z => absurd rfl z⟩)
  have n2 : ¬ q_wf β L p 25 = 0 := fun z => w2 (q_wf_0.mp z)
  rw [if_neg n2] at h5 h
  refine c_isWord (d := d) (p := p) (q := 26) (by omega) hL hp eL hβ k3 k4 k2 (fun w3 => ⟨_, rfl, fun z => absurd z (by decide), fun _ => h 3 (by omega) (by rw [if_pos (q_wf_0.mpr w3)])⟩) (fun w3 => ⟨_, rfl, fun _ => ?_, fun z => absurd rfl z⟩)
  have n3 : ¬ q_wf β L p 26 = 0 := fun z => w3 (q_wf_0.mp z)
  rw [if_neg n3] at h5 h
  refine c_isWord (d := d) (p := p) (q := 27) (by omega) hL hp eL hβ k3 k4 k2 (fun w4 => ⟨_, rfl, fun z => absurd z (by decide), fun _ => h 4 (by omega) (by rw [if_pos (q_wf_0.mpr w4)])⟩) (fun w4 => ⟨_, rfl, fun _ => ?_, fun z => absurd rfl z⟩)
  have n4 : ¬ q_wf β L p 27 = 0 := fun z => w4 (q_wf_0.mp z)
  rw [if_neg n4] at h5
  exact h5 rfl
theorem c_addShop {n c j : Nat} {r : Int32} {s : g_S} {τ : Nat → Int32} (tr : TR s 21 τ) (hn : n < 8) (e6 : τ 6 = nI n) (hc : c < 81) (hf : q_free τ c = true) (hj : q_sort (q_kos (nI j)) = nI j) (h : ∀ s2, (∀ x, (x < 21 ∨ 26 < x) → s2 x = s x) → TR s2 21 (q_push τ n (q_kos (nI j)) (nI c) r) → R none s2) : g_wp E (d + 1) 46 [.ref 21, .int (nI j), .int (nI c), .int r] s R := by
  have e15 : s 21 8 = nI n := tr.2.2.2.2.2.2.2.1.trans e6
  have ff := (q_free_iff (show n ≤ 8 by omega) e6).mp hf
  refine t46_0 (Or.inr (Or.inl rfl)) ⟨fun _ => ?_, fun c5 => absurd (by rw [e15]; exact nI_lt (a := n) (b := 8) hn (by omega)) c5⟩
  rw [e15, q_cl (by omega)]
  refine ⟨vp_in_nI (by omega) (by omega), fun s2 es2 => ?_⟩
  have f2 : s2 21 8 = nI n := by rw [es2]; exact (g_up_n (by omega)).trans e15
  rw [f2, q_cl (by omega)]
  refine ⟨vp_in_nI (by omega) (by omega), fun s3 es3 => ?_⟩
  have f3 : s3 21 8 = nI n := by rw [es3]; exact (g_up_n (by omega)).trans f2
  rw [f3, q_cl (by omega), q_cl (by omega)]
  refine ⟨vp_in_nI (by omega) (by omega), fun s4 es4 => ⟨vp_in_nI (by omega) (by omega), fun s5 es5 s6 es6 => h s6 ?_ ?_⟩⟩
  · intro x q
    rw [es6, es5, es4, es3, es2]
    exact (g_up_ne (by omega)).trans ((g_up_ne (by omega)).trans ((g_up_ne (by omega)).trans ((g_up_ne (by omega)).trans (g_up_ne (by omega)))))
  · have f5 : s5 21 8 = nI n := by
      rw [es5, es4]; exact ((g_up_n (by omega)).trans (g_up_n (by omega))).trans f3
    rw [f5, nI_1] at es6
    have f6 : s6 21 8 = nI (n + 1) := by rw [es6]; exact g_up_s
    refine TR.push tr hn e6 hc ff (fun k q => ?_) f6 (fun k q => ?_) ?_ ?_ (fun k q => ?_) ?_
    · rw [es6, es5, es4, es3, es2]
      exact (g_up_n (Or.inr q)).trans ((g_up_n (by omega)).trans ((g_up_n (by omega)).trans ((g_up_n (by omega)).trans (g_up_n (by omega)))))
    · rw [es6, es5, es4, es3, es2]
      exact (g_up_n (by omega)).trans ((g_up_n (Or.inr q)).trans ((g_up_n (by omega)).trans ((g_up_n (by omega)).trans (g_up_n (by omega)))))
    · rw [es6, es5]
      exact (g_up_n (by omega)).trans g_up_s
    · rw [es6, es5, es4, es3, es2]
      exact (g_up_ne (by omega)).trans ((g_up_ne (by omega)).trans ((g_up_ne (by omega)).trans ((g_up_ne (by omega)).trans (g_up_ne (by omega)))))
    · rw [es6, es5, es4, es3, es2]
      refine ⟨?_, ?_, ?_⟩
      · exact (g_up_n (by omega)).trans ((g_up_n (by omega)).trans ((g_up_n (by omega)).trans ((g_up_n (by omega)).trans (g_up_n (Or.inr q)))))
      · exact (g_up_n (by omega)).trans ((g_up_n (by omega)).trans ((g_up_n (by omega)).trans ((g_up_n (Or.inr q)).trans (g_up_n (by omega)))))
      · exact (g_up_n (by omega)).trans ((g_up_n (by omega)).trans ((g_up_n (Or.inr q)).trans ((g_up_n (by omega)).trans (g_up_n (by omega)))))
    · rw [es6, es5, es4, es3, es2]
      refine ⟨?_, ?_, ?_⟩
      · rw [hj]
        exact (g_up_n (by omega)).trans ((g_up_n (by omega)).trans ((g_up_n (by omega)).trans ((g_up_n (by omega)).trans g_up_s)))
      · exact (g_up_n (by omega)).trans ((g_up_n (by omega)).trans ((g_up_n (by omega)).trans g_up_s))
      · exact (g_up_n (by omega)).trans ((g_up_n (by omega)).trans g_up_s)
/-- a shop -/
theorem c_rshop {p g : Nat} {s : g_S} {τ : Nat → Int32} (hL : L ≤ 400) (eL : σ 13 1 = nI L) (hβ : ∀ i, i < 400 → σ 14 i = β i) (by' : q_by β) (cw : q_cw s σ) (hp : p ≤ L) (e4 : s 40 4 = nI (q_tS β L p)) (e2 : s 40 2 = nI (q_tE β L p)) (e6 : s 40 6 = τ 5) (tr : TR s 21 τ) (i : q_in τ (g + 1)) (h1 : (q_aS β L τ p).1 = 0 → ∀ s2, q_cw s2 σ → TR s2 21 (q_tsh β L τ p) → s2 40 2 = nI (q_ne β L 6 p) → s2 40 6 = q_tsh β L τ p 5 → R (some (.int 1)) s2) (h0 : (q_aS β L τ p).1 ≠ 0 → ∀ s2, q_cw s2 σ → s2 40 7 = nI (q_aS β L τ p).1 → s2 40 8 = nI (q_aS β L τ p).2 → R (some (.int 0)) s2) : g_wp E (d + 8) 16 [.ref 40] s R := by
  obtain ⟨w, f4, k, n, k1, n1, e5, e6', sm⟩ := id i
  have r1 : q_ne β L 1 p ≤ L := q_ne_l hp
  have r2 : q_ne β L 2 p ≤ L := q_ne_l hp
  have r3 : q_ne β L 3 p ≤ L := q_ne_l hp
  have r4 : q_ne β L 4 p ≤ L := q_ne_l hp
  have r5 : q_ne β L 5 p ≤ L := q_ne_l hp
  have rb : ∀ {r : Int32} {s2 : g_S}, (r = 0 ∨ r = 1) → R (some (.int r)) s2 → (narrow .boolean (.int r) = .int r ∧ R (some (.int r)) s2) := fun hr hh => ⟨by rcases hr with e | e <;> subst e <;> decide, hh⟩
  have e8 : s 21 8 = nI n := tr.2.2.2.2.2.2.2.1.trans e6'
  refine t16_0 ?_
  rw [e8, show nI n < (8 : Int32) ↔ n < 8 from nI_ltI (b := 8) (by omega) (by omega)]
  refine ⟨fun z => ?_, fun z => ?_⟩
  · have n8 : ¬ τ 6 = 8 := fun y => by
      rw [e6'] at y
      have := (nI_eq (b := 8) (by omega) (by omega)).mp y
      omega
    refine c_take (d := d + 5) (p := q_ne β L 1 p) hL r1 ((congrFun (cw 13 (by omega) (by omega)) 1).trans eL) e2 (fun i hi => (congrFun (cw 14 (by omega) (by omega)) i).trans (hβ i hi)) by' (fun s1 ct => ⟨rfl, ?_⟩)
    obtain ⟨f1, f2, t3, t4, t2, t5⟩ := ct
    have c1 : q_cw s1 σ := cw.f40 f1
    have tr1 : TR s1 21 τ := tr.low (fun a q1 q2 => f1 a (by omega))
    have g6 : s1 40 6 = τ 5 := (f2 6 (by omega)).trans e6
    refine c_sort (d := d) (p := q_ne β L 1 p) hL r1 ((congrFun (c1 13 (by omega) (by omega)) 1).trans eL) (fun i hi => (congrFun (c1 14 (by omega) (by omega)) i).trans (hβ i hi)) t3 t4 t2 (fun y => ⟨_, rfl, c_isSort (fun a1 a2 => absurd a1 (by decide)) (fun _ => ⟨_, rfl, fun x => absurd rfl x, fun _ => ?_⟩)⟩) (fun j hj y => ⟨_, rfl, c_isSort (fun a1 a2 => ⟨_, rfl, fun _ => ?_, fun x => absurd (by decide) x⟩) (fun a => ?_)⟩)
    · rw [q_aS_2 n8 y] at h0
      exact c_fails (d := d + 6) (f := 1) t4 (fun s5 a1 a2 a3 => ⟨_, rfl, rb (Or.inl rfl) (h0 (Nat.succ_ne_zero _) s5 (c1.f40 a1) a2 a3)⟩)
    · have y5 : ¬ q_srt β L (q_ne β L 1 p) = 5 := by omega
      have kk : q_tK β L (q_ne β L 1 p) ≠ 0 := fun x => by
        have nw : ∀ q, q_wf β L (q_ne β L 1 p) q ≠ 0 := fun q hq => by
          have := (q_wf_0.mp hq).1
          omega
        apply y5
        unfold q_srt
        rw [if_neg (nw _), if_neg (nw _), if_neg (nw _), if_neg (nw _), if_neg (nw _)]
      refine c_cell (d := d + 3) (p := q_ne β L 2 p) hL eL hβ by' c1 r2 (t2 kk) (fun y1 y2 s3 f3 i6 i2 i4 => ⟨_, rfl, fun _ => ?_, fun y => absurd (q_none ?_) y⟩) (fun a ea an s3 f3 i7 i8 => ⟨_, rfl, fun y => absurd rfl y, fun _ => ?_⟩)
      · obtain ⟨x, y', hx, hy, ex, ey, ec⟩ := q_cc_l y1 y2
        have c81 : q_cc β L (q_ne β L 2 p) < 81 := by omega
        have tr3 : TR s3 21 τ := tr1.low (fun a q1 q2 => f3 a (by omega))
        have c3 : q_cw s3 σ := c1.f40 f3
        have gr := q_gr_free w c81 n1 e6' (tr3.2.2.2.2.2.2.2.2.1 _ c81)
        refine t52_0 (Or.inr (Or.inl rfl)) ⟨vp_in_nI c81 (by omega), ?_⟩
        rw [q_cl (by omega), gr]
        refine ⟨fun z1 => ⟨_, rfl, fun x => absurd rfl x, fun _ => ?_⟩, fun z1 => ⟨_, rfl, fun _ => ?_, fun x => absurd (by decide) x⟩⟩
        · rw [q_aS_5 n8 y5 y1 y2 z1] at h0
          exact c_fails (d := d + 6) (p := q_ne β L 3 p) (f := 2) i4 (fun s5 a1 a2 a3 => ⟨_, rfl, rb (Or.inl rfl) (h0 (Nat.succ_ne_zero _) s5 (c3.f40 a1) a2 a3)⟩)
        · have z1' := Classical.not_not.mp z1
          refine c_num (d := d + 4) (p := q_ne β L 4 p) (lo := 0) (hi := 99) (by omega) (by omega) hL eL hβ by' c3 r4 i2 (fun m1 s5 f5 j6 j2 j5 j4 => ⟨_, rfl, fun _ => ?_, fun x => absurd (by decide) x⟩) (fun m1 s5 f5 j7 j8 => ⟨_, rfl, fun x => absurd rfl x, fun _ => ?_⟩)
          · have tr5 : TR s5 21 τ := tr3.low (fun a q1 q2 => f5 a (by omega))
            rw [j5]
            refine c_addShop (d := d + 6) tr5 z e6' c81 z1' (q_kos_c j hj).2 (fun s7 f7 tr7 => ⟨rfl, ?_⟩)
            have c7 : q_cw s7 σ := fun x q1 q2 => (f7 x q1).trans ((c3.f40 f5) x q1 q2)
            have ets : q_push τ n (q_kos (nI j)) (nI (q_cc β L (q_ne β L 2 p))) (q_tV β L (q_ne β L 4 p)) = q_tsh β L τ p := by
              unfold q_tsh
              rw [e6', q_cl (by omega), y]
            rw [ets] at tr7
            rw [q_aS_7 n8 y5 y1 y2 z1' m1] at h1 h0
            refine c_sign (d := d + 4) (p := q_ne β L 5 p) hL eL hβ by' c7 r5 ((congrFun (f7 40 (by omega)) 2).trans j2) (fun sf s9 f9 l6 l2 => ⟨_, rfl, rb (Or.inr rfl) (h1 sf s9 (c7.f40 f9) (tr7.low (fun a q1 q2 => f9 a (by omega))) l2 ?_)⟩) (fun sf s9 f9 l7 l8 => ⟨_, rfl, rb (Or.inl rfl) (h0 sf s9 (c7.f40 f9) l7 l8)⟩)
            rw [l6, congrFun (f7 40 (by omega)) 6, j6, i6, g6]
            unfold q_tsh
            rw [q_push_n (by omega) (by omega) (by omega) (by omega)]
          · rw [q_aS_6 n8 y5 y1 y2 z1' m1] at h0
            exact h0 m1 s5 (c3.f40 f5) j7 j8
      · obtain ⟨x, y', hx, hy, ex, ey, ec⟩ := q_cc_l y1 y2
        omega
      · by_cases m1 : q_nf β L (q_ne β L 2 p) 0 8 = 0
        · rw [if_pos m1] at ea
          subst ea
          rw [q_aS_4 n8 y5 m1 an] at h0
          exact h0 an s3 (c1.f40 f3) i7 i8
        · rw [if_neg m1] at ea
          subst ea
          rw [q_aS_3 n8 y5 m1] at h0
          exact h0 an s3 (c1.f40 f3) i7 i8
    · rw [nI_toInt (by omega)] at a
      omega
  · have e8' : τ 6 = 8 := by
      rw [e6', show n = 8 by omega]; rfl
    rw [q_aS_1 e8'] at h0
    exact c_fails (d := d + 6) (f := 3) e4 (fun s5 a1 a2 a3 => ⟨_, rfl, rb (Or.inl rfl) (h0 (Nat.succ_ne_zero _) s5 (cw.f40 a1) a2 a3)⟩)
end Q907
