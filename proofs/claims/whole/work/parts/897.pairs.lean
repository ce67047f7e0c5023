/-! pairs: soonest -/
noncomputable def q_sn (τ : Nat → Int32) (W c t : Nat) : Int32 := if 72 < q_leaf (q_all τ W c t) then -1000000 else nI (q_leaf (q_all τ W c t) - t)
theorem q_sn_e {τ : Nat → Int32} {W c t v : Nat} (h : q_leas (q_all τ W c t) v) : q_sn τ W c t = if 72 < v then -1000000 else nI (v - t) := by
  unfold q_sn
  rw [q_lf_e h]
theorem q_all0 {τ : Nat → Int32} {W c t : Nat} (hc : c < 81) : q_all τ W c t t ↔ q_sa τ c &&& q_at τ t &&& W = W := by
  constructor
  · rintro ⟨n, x, e, hx, rs⟩
    have e0 : n = 0 := by omega
    subst e0
    exact rs.2.symm
  · intro e
    exact ⟨0, c, rfl, hc, rfl, e.symm⟩
section Q97
variable {E : g_E} {d : Nat} {R : g_R} {σ : g_S} {τ : Nat → Int32}
theorem m_soo_ini {W c t N : Nat} (et : σ 72 = τ) (f : WT τ) (hN : N ≤ 8) (e6 : τ 6 = nI N) (hW : W < 256) (hc : c < 81) (ht : t < 73) (h1 : ∀ s, (∀ x, x ≠ 75 → x ≠ 76 → x ≠ 77 → s x = σ x) → q_ri s τ W c t 0 → ¬ q_all τ W c t t → g_g E (g_wp E (d + 4)) 164 130 [some (.ref 68), none, some (.int (nI t)), some (.int (nI W)), none, some (.int (nI (t + 1)))] [] s R) (h0 : ∀ s, (∀ x, x ≠ 75 → x ≠ 76 → x ≠ 77 → s x = σ x) → q_all τ W c t t → R (some (.int 0)) s) : ∀ g k s, k + g = 20736 → (∀ x, x ≠ 76 → s x = σ x) → (∀ j, j < k → s 76 j = 0) → g_g E (g_wp E (d + 4)) 164 67 [some (.ref 68), some (.int (nI c)), some (.int (nI t)), some (.int (nI W)), some (.int (nI k)), none] [] s R := by
  intro g
  induction g with
  | zero =>
    intro k s hk fr sp
    have e : k = 20736 := by omega
    subst e
    refine t164_67 ⟨fun _ => m_shopsAt (d := d + 2) ((fr 72 (by omega)).trans et) hc hN e6 ⟨_, rfl, m_openAt (d := d) f ((fr 72 (by omega)).trans et) ht (fun s2 k2 => ⟨_, rfl, ?_⟩)⟩, fun q => absurd (nI_le (a := 20736) (b := 20736) (by omega) (by omega)) q⟩
    have l1 : q_sa τ c &&& q_at τ t &&& W < 256 := Nat.and_lt_two_pow (n := 8) _ hW
    have al := q_all0 (τ := τ) (W := W) (t := t) hc
    dsimp only
    rw [nI_and, nI_and]
    generalize hG : q_sa τ c &&& q_at τ t &&& W = G at l1 al ⊢
    have e3 : nI c + (81 : Int32) * nI G = nI (c + 81 * G) := by
      rw [show (81 : Int32) = nI 81 from rfl, pk_mul, nI_add]
    rw [e3, q_cl (by omega), nI_1]
    refine ⟨vp_in_nI (by omega) (by omega), fun s29 es => ?_⟩
    have fr2 : ∀ x, x ≠ 75 → x ≠ 76 → x ≠ 77 → s29 x = σ x := fun x q1 q2 q3 => by rw [es]; exact (g_up_ne q2).trans ((k2 x q1).trans (fr x q2))
    have ri : q_ri s29 τ W c t 0 := fun j hj => by
      rw [es]
      by_cases y : j = c + 81 * G
      · subst y
        rw [g_up_s, if_pos (q_pd_t ?_)]
        refine ⟨by omega, ?_⟩
        rw [hG]
        omega
      · rw [g_up_n (by omega), k2 76 (by omega), sp j hj, if_neg (fun z => ?_)]
        obtain ⟨z1, z2⟩ := q_pd_iff.mp z
        rw [hG] at z2
        omega
    refine ⟨fun q => h1 s29 fr2 ri (fun z => q (by rw [al.mp z])), fun q => h0 s29 fr2 (al.mpr ((nI_eq (by omega) (by omega)).mp (Classical.not_not.mp q)))⟩
  | succ g ih =>
    intro k s hk fr sp
    refine t164_67 ⟨fun q => absurd q (nI_ge (b := 20736) (by omega) (by omega)), fun _ => ⟨vp_in_nI (by omega) (by omega), fun s31 es => ?_⟩⟩
    rw [q_cl (by omega)] at es
    rw [nI_1]
    refine ih (k + 1) s31 (by omega) (fun x q => by rw [es]; exact (g_up_ne q).trans (fr x q)) (fun j hj => ?_)
    rw [es]
    by_cases y : j = k
    · subst y; exact g_up_s
    · rw [g_up_n (by omega)]; exact sp j (by omega)
theorem m_soo_l {W c t N : Nat} (et : σ 72 = τ) (f : WT τ) (hN : N ≤ 8) (e6 : τ 6 = nI N) (hW : W < 256) (h : ∀ s, (∀ x, x ≠ 75 → x ≠ 76 → x ≠ 77 → s x = σ x) → ∀ v, q_leas (q_all τ W c t) v → R (some (.int (if 72 < v then -1000000 else nI (v - t)))) s) : ∀ g n s, t + n + g = 72 → (∀ x, x ≠ 75 → x ≠ 76 → x ≠ 77 → s x = σ x) → q_ri s τ W c t n → (∀ v, v ≤ t + n → ¬ q_all τ W c t v) → g_g E (g_wp E (d + 5)) 164 130 [some (.ref 68), none, some (.int (nI t)), some (.int (nI W)), none, some (.int (nI (t + n + 1)))] [] s R := by
  intro g
  induction g with
  | zero =>
    intro n s hg fr ri no
    have z := h s fr 1000 (q_lv_n (fun u hu => no u (by omega)))
    rw [if_pos (by omega)] at z
    exact t164_130 ⟨fun _ => z, fun q => absurd (nI_lt (a := 72) (b := t + n + 1) (by omega) (by omega)) q⟩
  | succ g ih =>
    intro n s hg fr ri no
    refine t164_130 ⟨fun q => absurd q (nI_nlt (a := 72) (b := t + n + 1) (by omega) (by omega)), fun _ => ?_⟩
    refine m_goOn (d := d) (σ := s) ((fr 72 (by omega) (by omega) (by omega)).trans et) f hN e6 hW (by omega) ri (fun s2 k2 r2 a ha => ⟨_, rfl, fun q => ?_, fun q => ?_⟩)
    · have fr2 : ∀ x, x ≠ 75 → x ≠ 76 → x ≠ 77 → s2 x = σ x := fun x q1 q2 q3 => (k2 x q1 q2 q3).trans (fr x q1 q2 q3)
      rw [nI_1]
      refine ih (n + 1) s2 (by omega) fr2 r2 (fun v hv z => ?_)
      by_cases e : v = t + n + 1
      · subst e
        rw [ha, if_pos (q_pd_t z)] at q
        exact absurd q (by decide)
      · exact no v (by omega) z
    · have fr2 : ∀ x, x ≠ 75 → x ≠ 76 → x ≠ 77 → s2 x = σ x := fun x q1 q2 q3 => (k2 x q1 q2 q3).trans (fr x q1 q2 q3)
      rw [ha] at q
      have y := q_ne0.mp q
      have z := h s2 fr2 (t + n + 1) (Or.inr ⟨by omega, y, fun u hu => no u (by omega)⟩)
      rw [if_neg (by omega)] at z
      rw [q_nsub (by omega)]
      exact z
end Q97
theorem p_soonest {E : g_E} (x1 x2 x3 : Int32) : g_pr E 85 164 [.int x1, .int x2, .int x3] := by
  refine ⟨fun μ => if (μ 72 4).toInt ≤ 0 then -1000002 else if x1.toInt < 0 ∨ 80 < x1.toInt ∨ x2.toInt < 0 ∨ 72 < x2.toInt ∨ x3.toInt < 0 ∨ ((2 ^ (μ 72 6).toNatClampNeg : Nat) : Int) ≤ x3.toInt then -1000001 else if μ 72 (7 + x1.toNatClampNeg) = 0 then q_sn (μ 72) x3.toNatClampNeg x1.toNatClampNeg x2.toNatClampNeg else -1000000, fun μ => μ, fun σ μ R hc hw h => ?_, fun σ R hw h => ?_, fun μ h => h⟩
  · have ht := q_there hc hw
    dsimp only at h
    have e8 := hc.tr.2.2.2.2.2.2.2.1
    obtain ⟨N, n1, n2, -⟩ := id hw.wt.2.2.2.2.2.1
    have p := q_2p n1
    rw [n2, q_cl (by omega)] at h
    refine t85_0 ⟨fun c => ?_, fun c => ?_⟩
    · rw [ht] at c
      have bad : (x1.toInt < 0 ∨ 80 < x1.toInt ∨ x2.toInt < 0 ∨ 72 < x2.toInt ∨ x3.toInt < 0 ∨ ((2 ^ N : Nat) : Int) ≤ x3.toInt) → R (some (.int (-1000001))) σ := fun b => by
        repeat (first | rw [if_pos b] at h | rw [if_neg (by omega)] at h)
        exact h σ hc (fun _ _ => rfl)
      refine c_isCell (fun a1 a2 => ⟨_, rfl, q_1 (c_isSlot (fun a3 a4 => ⟨_, rfl, q_1 (c_hasShops (Or.inl rfl) (e8.trans n2) n1 (fun a5 a6 => ⟨_, rfl, n_1 ?_⟩) (fun a5 => ⟨_, rfl, n_0 (bad (by omega))⟩))⟩) (fun a3 => ⟨_, rfl, q_0 (bad (by omega))⟩))⟩) (fun a1 => ⟨_, rfl, q_0 (bad (by omega))⟩)
      obtain ⟨a, ha, rfl⟩ := q_ix (x := x1) (n := 81) (by omega) (by omega) (by omega)
      obtain ⟨t, ht', rfl⟩ := q_ix (x := x2) (n := 73) (by omega) (by omega) (by omega)
      obtain ⟨W, hW, rfl⟩ := q_ix (x := x3) (n := 256) (by omega) (by omega) (by omega)
      rw [if_neg (by omega), if_neg (by omega), q_cl (by omega), q_cl (by omega), q_cl (by omega)] at h
      rw [nI_toInt (by omega)] at a6
      refine c_isWalkable (d := 17) (Or.inl rfl) hc.tr hw.wt ha (fun q => ⟨_, rfl, n_1 ?_⟩) (fun q => ⟨_, rfl, n_0 ?_⟩)
      · rw [if_pos q] at h
        refine c_tellDay (d := 15) (Or.inl rfl) hc.tr hw.wt (fun s1 k1 d1 => ⟨rfl, c_errs (d := 14) (Or.inl rfl) (hc.tr.low (fun x q1 q2 => k1 x (by omega) (by omega) (by omega))) hw.wt n1 n2 ⟨ha, q⟩ ht' (by omega) d1 (fun s2 m k2 hm => ⟨_, rfl, ?_⟩)⟩)
        have fin := h s2 (hc.low (fun x q1 q2 q3 q4 q5 => (k2 x (by omega)).trans (k1 x (by omega) (by omega) (by omega)))) (fun x hx => (k2 x (by omega)).trans (k1 x (by omega) (by omega) (by omega)))
        rw [q_sn_e hm] at fin
        have mr := q_lv_r hm
        have tm : t ≤ m := by
          rcases hm with ⟨b1, b2⟩ | ⟨b1, ⟨n, x, e, -⟩, b3⟩
          · omega
          · omega
        refine ⟨fun q2 => ?_, fun q2 => ?_⟩
        · rw [show (72 : Int32) = nI 72 from rfl, nI_leI (by omega) (by omega)] at q2
          rw [if_neg (by omega)] at fin
          rw [q_nsub tm]
          exact fin
        · rw [show (72 : Int32) = nI 72 from rfl, nI_leI (by omega) (by omega)] at q2
          rw [if_pos (by omega)] at fin
          exact fin
      · rw [if_neg q] at h
        exact h σ hc (fun _ _ => rfl)
    · rw [ht] at c
      repeat (first | rw [if_pos (by omega)] at h | rw [if_neg (by omega)] at h)
      exact h σ hc (fun _ _ => rfl)
  · dsimp only at h
    obtain ⟨N, n1, n2, -⟩ := id hw.wt.2.2.2.2.2.1
    have p := q_2p n1
    rw [n2, q_cl (by omega)] at h
    have e72 : g_up σ 68 0 0 72 = mo σ 72 := rfl
    refine t164_0 (fun s0 es => m_isThere (fun h4 => ⟨_, rfl, n_1 ?_⟩) (fun h4 => ⟨_, rfl, n_0 ?_⟩))
    all_goals subst es
    · change 0 < (mo σ 72 4).toInt at h4
      have lo0 : ∀ b, b < 68 → g_up σ 68 0 0 b = σ b := lo_up (fun _ _ => rfl) (by omega)
      have bad : (x1.toInt < 0 ∨ 80 < x1.toInt ∨ x2.toInt < 0 ∨ 72 < x2.toInt ∨ x3.toInt < 0 ∨ ((2 ^ N : Nat) : Int) ≤ x3.toInt) → R (some (.int (-1000001))) (g_up σ 68 0 0) := fun b => by
        repeat (first | rw [if_pos b] at h | rw [if_neg (by omega)] at h)
        exact h _ lo0 (Sc.rf.up rfl).ce
      refine m_isCell (fun a1 a2 => ⟨_, rfl, q_1 (m_isSlot (fun a3 a4 => ⟨_, rfl, q_1 ?_⟩) (fun a3 => ⟨_, rfl, q_0 (bad (by omega))⟩))⟩) (fun a1 => ⟨_, rfl, q_0 (bad (by omega))⟩)
      rw [e72, n2]
      refine m_hasShops n1 (fun a5 a6 => ⟨_, rfl, n_1 ?_⟩) (fun a5 => ⟨_, rfl, n_0 (bad (by omega))⟩)
      obtain ⟨a, ha, rfl⟩ := q_ix (x := x1) (n := 81) (by omega) (by omega) (by omega)
      obtain ⟨t, ht', rfl⟩ := q_ix (x := x2) (n := 73) (by omega) (by omega) (by omega)
      obtain ⟨W, hW, rfl⟩ := q_ix (x := x3) (n := 256) (by omega) (by omega) (by omega)
      rw [if_neg (by omega), if_neg (by omega), q_cl (by omega), q_cl (by omega), q_cl (by omega)] at h
      rw [nI_toInt (by omega)] at a6
      refine m_mayBe ha (fun q => ⟨_, rfl, n_1 ?_⟩) (fun q => ⟨_, rfl, n_0 ?_⟩)
      · rw [e72] at q
        rw [if_pos q] at h
        have fin : ∀ s2, (∀ x, x ≠ 75 → x ≠ 76 → x ≠ 77 → s2 x = g_up σ 68 0 0 x) → R (some (.int (q_sn (mo σ 72) W a t))) s2 := fun s2 k2 => h s2 (fun x hx => (k2 x (by omega) (by omega) (by omega)).trans (g_up_ne (by omega))) (fun x j qq => by
            have : x ≠ 75 ∧ x ≠ 76 ∧ x ≠ 77 := by
              have q' := qq
              unfold q_can at q'
              simp only [Bool.or_eq_true, Bool.and_eq_true, beq_iff_eq] at q'
              omega
            rw [k2 x this.1 this.2.1 this.2.2]
            exact (Sc.rf.up rfl).ce x j qq)
        refine m_soo_ini (d := 15) (σ := g_up σ 68 0 0) e72 hw.wt n1 n2 hW ha ht' (fun s1 k1 ri no => ?_) (fun s1 k1 al => ?_) 20736 0 _ (by omega) (fun _ _ => rfl) (fun j hj => absurd hj (Nat.not_lt_zero j))
        · refine m_soo_l (d := 14) (σ := g_up σ 68 0 0) e72 hw.wt n1 n2 hW (fun s2 k2 v hv => ?_) (72 - t) 0 s1 (by omega) k1 ri (fun v hv al => ?_)
          · have z := fin s2 k2
            rw [q_sn_e hv] at z
            exact z
          · obtain ⟨n, x, e, -⟩ := id al
            have ev : v = t := by omega
            subst ev
            exact no al
        · have z := fin s1 k1
          rw [q_sn_e (v := t) (Or.inr ⟨by omega, al, fun u hu z => by
            obtain ⟨n, x, e, -⟩ := z
            omega⟩), if_neg (by omega), Nat.sub_self] at z
          exact z
      · rw [e72] at q
        rw [if_neg q] at h
        exact h _ lo0 (Sc.rf.up rfl).ce
    · change (mo σ 72 4).toInt ≤ 0 at h4
      repeat (first | rw [if_pos (by omega)] at h | rw [if_neg (by omega)] at h)
      exact h _ (lo_up (fun _ _ => rfl) (by omega)) (Sc.rf.up rfl).ce
