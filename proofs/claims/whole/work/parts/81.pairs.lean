/-! pairs: check -/
def q_way (τ : Nat → Int32) (a : Nat) (x : Int32) : Option Nat := if 0 ≤ x.toInt ∧ x.toInt ≤ 4 then q_nbr τ a x.toNatClampNeg else none
def q_go (τ : Nat → Int32) (it : Nat → Int32) (t : Nat) : Nat → Nat → Nat → Nat → Nat × Nat
  | 0, _, _, s => (0, s)
  | f + 1, k, a, s => match q_way τ a (it k) with
    | none => (k + 1, s)
    | some a' => q_go τ it t f (k + 1) a' (s ||| (q_at τ (t + k + 1) &&& q_sa τ a'))
def q_ga (w : Int32) (p : Nat × Nat) : Int32 := if w = 0 then nI p.1 else nI p.2
section Q81
variable {E : g_E} {d : Nat} {R : g_R} {σ : g_S} {τ : Nat → Int32}
theorem c_chk_end {O : g_O} {x3 x4 x5 x6 x8 : Int32} {v s : Nat} (hO : ∀ (M : Nat) (as : List Value) (s : g_S) (Q : g_R), g_wp E (d + 1) M as s Q → O M as s Q) (hv : ¬ nI v = 0) (e6 : σ 45 6 = nI s) (h : R (some (.int (q_ga x6 (v, s)))) (g_up σ 0 10 0)) : g_g E O 86 144 [some (.ref 0), none, none, some (.int x3), some (.int x4), some (.int x5), some (.int x6), some (.int (nI v)), some (.int x8)] [] σ R := by
  unfold q_ga at h
  have fin : ((¬ x6 = 0 → O 100 [.ref 0, .int (σ 45 6)] σ (g_ri fun r s' => R (some (.int r)) s')) ∧ (¬ ¬ x6 = 0 → O 100 [.ref 0, .int (nI v)] σ (g_ri fun r s' => R (some (.int r)) s'))) := by
    rw [e6]
    refine ⟨fun q => hO _ _ _ _ (c_fine ⟨_, rfl, ?_⟩), fun q => hO _ _ _ _ (c_fine ⟨_, rfl, ?_⟩)⟩
    · rw [if_neg q] at h; exact h
    · rw [if_pos (Classical.not_not.mp q)] at h; exact h
  exact t86_144 ⟨fun _ => fin, fun _ => ⟨fun _ => fin, fun q => absurd hv q⟩⟩
theorem c_chk_l {r i n t N : Nat} {x6 : Int32} {it : Nat → Int32} (w0 : TR σ 15 τ) (f : WT τ) (hr : r < 8) (hin : i + n ≤ 40) (htn : t + n ≤ 72) (hN : N ≤ 8) (e6 : τ 6 = nI N) (hit : ∀ k, k < n → σ (5 + r) (i + k) = it k) : ∀ g k a s σ', k + g = n → a < 81 → (∀ b, b ≠ 41 → b ≠ 42 → b ≠ 45 → σ' b = σ b) → σ' 45 4 = nI a → σ' 45 5 = nI (t + k) → σ' 45 6 = nI s → (∀ σ', (∀ b, b ≠ 41 → b ≠ 42 → b ≠ 45 → σ' b = σ b) → R (some (.int (q_ga x6 (q_go τ it t g k a s)))) (g_up σ' 0 10 0)) → g_g E (g_wp E (d + 5)) 86 144 [some (.ref 0), none, none, some (.int (nI r)), some (.int (nI i)), some (.int (nI n)), some (.int x6), some (.int 0), some (.int (nI (k + 1)))] [] σ' R := by
  intro g
  induction g with
  | zero =>
    intro k a s σ' hk ha fr e4 e5 e6' h
    have ek : k = n := by omega
    subst ek
    have z := h σ' fr
    unfold q_ga q_go at z
    refine t86_144 ⟨fun _ => ?_, fun q => absurd (nI_lt (a := k) (b := k + 1) (by omega) (by omega)) q⟩
    rw [e6']
    refine ⟨fun q => c_fine ⟨_, rfl, ?_⟩, fun q => c_fine ⟨_, rfl, ?_⟩⟩
    · rw [if_neg q] at z; exact z
    · rw [if_pos (Classical.not_not.mp q)] at z; exact z
  | succ g ih =>
    intro k a s σ' hk ha fr e4 e5 e6' h
    have r5 := g_r5 r hr
    have tr : TR σ' 15 τ := w0.low (fun b q1 q2 => fr b (by omega) (by omega) (by omega))
    have ei : nI i + nI (k + 1) - 1 = nI (i + k) := by
      rw [nI_add, ← Nat.add_assoc, nI_pred]
    refine t86_144 ⟨fun q => absurd q (nI_nlt (a := n) (b := k + 1) (by omega) (by omega)), fun _ => ⟨fun q => absurd rfl q, fun _ => t31_0 ?_⟩⟩
    rw [ei, q_cl (by omega), q_cl (by omega), r5.1, r5.2, fr (5 + r) (by omega) (by omega) (by omega), hit k (by omega)]
    refine ⟨vp_in_nI hr (by omega), rfl, vp_in_nI (by omega) (by omega), ⟨_, rfl, t61_0 (Or.inl rfl) ?_⟩⟩
    rw [e4]
    have none' : q_way τ a (it k) = none → g_g E (g_wp E (d + 5)) 86 144 [some (.ref 0), none, none, some (.int (nI r)), some (.int (nI i)), some (.int (nI n)), some (.int x6), some (.int (nI (k + 1))), some (.int (nI (k + 1) + 1))] [] σ' R := fun q => by
      have z := h σ' fr
      unfold q_go at z
      rw [q] at z
      exact c_chk_end (d := d + 4) (fun _ _ _ _ y => y) (nI_ne0 (by omega) (by omega)) e6' z
    by_cases hw : 0 ≤ (it k).toInt ∧ (it k).toInt ≤ 4
    · obtain ⟨w, hw5, ew⟩ := q_ix (x := it k) (n := 5) (by omega) (by omega) (by omega)
      have eway : q_way τ a (it k) = q_nbr τ a w := by
        unfold q_way
        rw [if_pos hw, ew, q_cl (by omega)]
      rw [ew]
      refine c_beside (Or.inl rfl) tr f ha hw5 (fun c' ec => ⟨_, rfl, fun q => absurd q (q_none (q_nbr_l ec).1), fun _ => ⟨fun _ s6 es6 s7 es7 => ?_, fun q => absurd (by rw [e5]; exact nI_lt (b := 72) (by omega) (by omega)) q⟩⟩) (fun ec => ⟨_, rfl, fun _ => ⟨_, rfl, fun _ => none' (eway.trans ec), fun q => absurd rfl q⟩, fun q => absurd rfl q⟩)
      have hc' := (q_nbr_l ec).1
      rw [e5, nI_1] at es7 ⊢
      have fr7 : ∀ b, b ≠ 45 → s7 b = σ' b := fun b q => by rw [es7, es6]; exact (g_up_ne q).trans (g_up_ne q)
      refine c_openShops (Or.inl rfl) (tr.low (fun b q1 q2 => fr7 b (by omega))) f (by omega) (fun s8 k8 => ⟨_, rfl, ?_⟩)
      have e84 : s8 45 4 = nI c' := by
        rw [k8 45 (by omega) (by omega), es7, es6]
        exact (g_up_n (by omega)).trans g_up_s
      have e85 : s8 45 5 = nI (t + k + 1) := by
        rw [k8 45 (by omega) (by omega), es7]
        exact g_up_s
      have e86 : s8 45 6 = nI s := by
        rw [k8 45 (by omega) (by omega), es7, es6]
        exact ((g_up_n (by omega)).trans (g_up_n (by omega))).trans e6'
      have tr8 : TR s8 15 τ := tr.low (fun b q1 q2 => (k8 b (by omega) (by omega)).trans (fr7 b (by omega)))
      dsimp only
      rw [e84]
      refine c_shopIn (Or.inl rfl) tr8 hc' hN e6 ⟨_, rfl, fun s14 es14 => ⟨_, rfl, fun q => absurd q (by decide), fun _ => ?_⟩⟩
      have e146 : s14 45 6 = nI (s ||| (q_at τ (t + k + 1) &&& q_sa τ c')) := by
        rw [es14]
        refine g_up_s.trans ?_
        rw [show σ' 45 6 = nI s from e6', nI_and, nI_or]
      have fr14 : ∀ b, b ≠ 45 → s14 b = s8 b := fun b q => by rw [es14]; exact g_up_ne q
      rw [nI_1]
      refine ih (k + 1) c' (s ||| (q_at τ (t + k + 1) &&& q_sa τ c')) s14 (by omega) hc' (fun b q1 q2 q3 => (fr14 b q3).trans ((k8 b q1 q2).trans ((fr7 b q3).trans (fr b q1 q2 q3)))) ?_ ?_ e146 (fun σ2 k2 => ?_)
      · rw [es14]; exact (g_up_n (by omega)).trans e84
      · rw [es14]; exact (g_up_n (by omega)).trans e85
      · have z := h σ2 k2
        unfold q_go at z
        rw [eway, ec] at z
        exact z
    · have eway : q_way τ a (it k) = none := by
        unfold q_way
        rw [if_neg hw]
      exact c_beside_no (Or.inl rfl) (by omega) ⟨_, rfl, fun _ => ⟨_, rfl, fun _ => none' eway, fun q => absurd rfl q⟩, fun q => absurd rfl q⟩
theorem m_chk_end {O : g_O} {x2 x3 x4 x5 x6 x8 x11 : Int32} {v s : Nat} (hv : ¬ nI v = 0) (h : R (some (.int (q_ga x6 (v, s)))) σ) : g_g E O 166 130 [some (.ref 68), none, some (.int x2), some (.int x3), some (.int x4), some (.int x5), some (.int x6), none, some (.int x8), some (.int (nI s)), some (.int (nI v)), some (.int x11), none, none] [] σ R := by
  unfold q_ga at h
  have fin : ((¬ x6 = 0 → R (some (.int (nI s))) σ) ∧ (¬ ¬ x6 = 0 → R (some (.int (nI v))) σ)) := by
    refine ⟨fun q => ?_, fun q => ?_⟩
    · rw [if_neg q] at h; exact h
    · rw [if_pos (Classical.not_not.mp q)] at h; exact h
  exact t166_130 ⟨fun _ => fin, fun _ => ⟨fun _ => fin, fun q => absurd hv q⟩⟩
theorem m_chk_l {r i n t N : Nat} {x6 : Int32} {it : Nat → Int32} (et : σ 72 = τ) (f : WT τ) (hr : r < 8) (hin : i + n ≤ 40) (htn : t + n ≤ 72) (hN : N ≤ 8) (e6 : τ 6 = nI N) (hit : ∀ k, k < n → σ 71 (40 * r + i + k) = it k) : ∀ g k a s σ', k + g = n → a < 81 → (∀ b, b ≠ 75 → σ' b = σ b) → (∀ σ', (∀ b, b ≠ 75 → σ' b = σ b) → R (some (.int (q_ga x6 (q_go τ it t g k a s)))) σ') → g_g E (g_wp E (d + 4)) 166 130 [some (.ref 68), none, some (.int (nI t)), some (.int (nI r)), some (.int (nI i)), some (.int (nI n)), some (.int x6), none, some (.int (nI a)), some (.int (nI s)), some (.int 0), some (.int (nI k)), none, none] [] σ' R := by
  intro g
  induction g with
  | zero =>
    intro k a s σ' hk ha fr h
    have ek : k = n := by omega
    subst ek
    have z := h σ' fr
    unfold q_ga q_go at z
    refine t166_130 ⟨fun _ => ⟨fun q => ?_, fun q => ?_⟩, fun q => absurd (nI_le (Nat.le_refl k) (by omega)) q⟩
    · rw [if_neg q] at z; exact z
    · rw [if_pos (Classical.not_not.mp q)] at z; exact z
  | succ g ih =>
    intro k a s σ' hk ha fr h
    have e72 : σ' 72 = τ := (fr 72 (by omega)).trans et
    have ei : (40 : Int32) * nI r + nI i + nI k = nI (40 * r + i + k) := by
      rw [show (40 : Int32) = nI 40 from rfl, pk_mul, nI_add, nI_add]
    have none' : q_way τ a (it k) = none → g_g E (g_wp E (d + 4)) 166 185 [some (.ref 68), none, some (.int (nI t)), some (.int (nI r)), some (.int (nI i)), some (.int (nI n)), some (.int x6), none, some (.int (nI a)), some (.int (nI s)), some (.int 0), some (.int (nI k)), none, none] [.int (-1000000)] σ' R := fun q => by
      have z := h σ' fr
      unfold q_go at z
      rw [q] at z
      refine t166_185 ⟨fun q2 => absurd rfl q2, fun _ => ?_⟩
      rw [nI_1]
      exact m_chk_end (nI_ne0 (by omega) (by omega)) z
    refine t166_130 ⟨fun q => absurd q (nI_ge (by omega) (by omega)), fun _ => ⟨fun q => absurd rfl q, fun _ => ?_⟩⟩
    rw [ei, q_cl (by omega), fr 71 (by omega), hit k (by omega)]
    refine ⟨vp_in_nI (by omega) (by omega), m_in 0 4 rfl rfl (fun w1 w2 => ⟨_, rfl, q_1 ?_⟩) (fun w1 => ⟨_, rfl, q_0 (none' ?_)⟩)⟩
    · obtain ⟨w, hw5, ew⟩ := q_ix (x := it k) (n := 5) (by omega) (by omega) (by omega)
      have eway : q_way τ a (it k) = q_nbr τ a w := by
        unfold q_way
        rw [if_pos ⟨w1, w2⟩, ew, q_cl (by omega)]
      rw [ew]
      refine m_next ha hw5 (fun c' ec => ⟨_, rfl, t166_185 ⟨fun _ => ?_, fun q => absurd (q_none (q_nbr_l ec).1) q⟩⟩) (fun ec => ⟨_, rfl, none' (by rw [eway, ← e72]; exact ec)⟩)
      rw [e72] at ec
      have hc' := (q_nbr_l ec).1
      refine m_shopsAt e72 hc' hN e6 ⟨_, rfl, ?_⟩
      rw [nI_add, nI_1]
      refine m_openAt f e72 (by omega) (fun s2 k2 => ⟨_, rfl, ?_⟩)
      dsimp only
      rw [nI_and, nI_or, nI_1, Nat.and_comm]
      refine ih (k + 1) c' _ s2 (by omega) hc' (fun b q => (k2 b q).trans (fr b q)) (fun σ2 k3 => ?_)
      have z := h σ2 k3
      unfold q_go at z
      rw [eway, ec] at z
      exact z
    · unfold q_way
      rw [if_neg (by omega)]
end Q81
def q_chk (μ : g_S) (c t r i n : Nat) : Nat × Nat := q_go (μ 72) (fun k => μ 71 (40 * r + i + k)) t n 0 c (q_at (μ 72) t &&& q_sa (μ 72) c)
theorem p_check {E : g_E} (x1 x2 x3 x4 x5 x6 : Int32) : g_pr E 86 166 [.int x1, .int x2, .int x3, .int x4, .int x5, .int x6] := by
  refine ⟨fun μ => if (μ 72 4).toInt ≤ 0 then -1000002 else if x1.toInt < 0 ∨ 80 < x1.toInt ∨ x2.toInt < 0 ∨ 72 < x2.toInt ∨ x3.toInt < 0 ∨ 7 < x3.toInt ∨ x5.toInt < 0 ∨ 40 < x5.toInt ∨ 72 < x2.toInt + x5.toInt ∨ x6.toInt < 0 ∨ 1 < x6.toInt then -1000001 else if μ 72 (7 + x1.toNatClampNeg) = 0 then if μ 69 x3.toNatClampNeg = -1 then -1000010 - 1 else if x4.toInt < 0 ∨ (μ 70 x3.toNatClampNeg).toInt < x4.toInt + x5.toInt then -1000010 - 2 else q_ga x6 (q_chk μ x1.toNatClampNeg x2.toNatClampNeg x3.toNatClampNeg x4.toNatClampNeg x5.toNatClampNeg) else -1000001, fun μ => if (μ 72 4).toInt ≤ 0 then μ else if x1.toInt < 0 ∨ 80 < x1.toInt ∨ x2.toInt < 0 ∨ 72 < x2.toInt ∨ x3.toInt < 0 ∨ 7 < x3.toInt ∨ x5.toInt < 0 ∨ 40 < x5.toInt ∨ 72 < x2.toInt + x5.toInt ∨ x6.toInt < 0 ∨ 1 < x6.toInt then μ else if μ 72 (7 + x1.toNatClampNeg) = 0 then g_up μ 68 1 (if μ 69 x3.toNatClampNeg = -1 then 1 else if x4.toInt < 0 ∨ (μ 70 x3.toNatClampNeg).toInt < x4.toInt + x5.toInt then 2 else 0) else μ, fun σ μ R hc hw h => ?_, fun σ R hw h => ?_, fun μ h => ?_⟩
  · have ht := q_there hc hw
    dsimp only at h
    obtain ⟨h1, h2, h3, h4, h5, h6, h7, h8, h9, h10, h11⟩ := id hc
    obtain ⟨N, n1, n2, -⟩ := id hw.wt.2.2.2.2.2.1
    refine t86_0 ⟨fun c => c_isCell (fun a1 a2 => ⟨_, rfl, q_1 ?_⟩) (fun a1 => ⟨_, rfl, q_0 ?_⟩), fun c => ?_⟩
    · rw [ht] at c
      obtain ⟨cc, hcc, rfl⟩ := q_ix (x := x1) (n := 81) (by omega) (by omega) (by omega)
      rw [q_cl (by omega)] at h
      by_cases q : μ 72 (7 + cc) = 0
      · refine c_isWalkable (d := 17) (Or.inl rfl) hc.tr hw.wt hcc (fun _ => ⟨_, rfl, q_1 (c_isSlot (fun a3 a4 => ⟨_, rfl, q_1 ⟨fun c1 => ?_, fun c1 => ⟨fun c2 => c_isRow (fun a5 a6 => ⟨_, rfl, q_1 ⟨fun c3 => ?_, fun c3 => ⟨fun c4 => ?_, fun c4 => ⟨fun c5 => ?_, fun c5 => ?_⟩⟩⟩⟩) (fun a5 => ⟨_, rfl, q_0 ?_⟩), fun c2 => ?_⟩⟩⟩) (fun a3 => ⟨_, rfl, q_0 ?_⟩))⟩) (fun z => absurd q z)
        · simp only [q_lt, q_le, Int32.reduceToInt] at c1
          repeat (first | rw [if_pos (by omega)] at h | rw [if_neg (by omega)] at h)
          exact h σ hc (fun _ _ => rfl)
        · simp only [q_lt, q_le, Int32.reduceToInt] at c1 c2 c3
          repeat (first | rw [if_pos (by omega)] at h | rw [if_neg (by omega)] at h)
          exact h σ hc (fun _ _ => rfl)
        · simp only [q_lt, q_le, Int32.reduceToInt] at c1 c2 c3 c4
          repeat (first | rw [if_pos (by omega)] at h | rw [if_neg (by omega)] at h)
          exact h σ hc (fun _ _ => rfl)
        · simp only [q_lt, q_le, Int32.reduceToInt] at c1 c2 c3 c4 c5
          rw [q_add (by omega) (by omega)] at c5
          obtain ⟨t, ht', rfl⟩ := q_ix (x := x2) (n := 73) (by omega) (by omega) (by omega)
          obtain ⟨r, hr, rfl⟩ := q_ix (x := x3) (n := 8) (by omega) (by omega) (by omega)
          obtain ⟨n, hn, rfl⟩ := q_ix (x := x5) (n := 41) (by omega) (by omega) (by omega)
          rw [q_cl (by omega), q_cl (by omega), q_cl (by omega)] at h
          obtain ⟨m, hm, em⟩ := hw.2.1 r hr
          have e3 : σ 3 r = nI m := (h2 r hr).trans em
          have em' : (μ 70 r).toInt = m := by rw [em, nI_toInt (by omega)]
          have tn : (nI t).toInt = t := nI_toInt (by omega)
          have nn : (nI n).toInt = n := nI_toInt (by omega)
          have em2 : (σ 3 r).toInt = m := by rw [e3, nI_toInt (by omega)]
          rw [em'] at h
          refine c_isMissing hr (fun e => ⟨_, rfl, q_1 (c_found ⟨_, rfl, ?_⟩)⟩) (fun e => ⟨_, rfl, q_0 (c_hasItems hr ⟨m, hm, e3⟩ (fun b1 b2 b3 => ⟨_, rfl, n_1 ?_⟩) (fun b1 => ⟨_, rfl, n_0 (c_found ⟨_, rfl, ?_⟩)⟩))⟩)
          · rw [h1 r hr] at e
            repeat (first | rw [if_pos q] at h | rw [if_pos e] at h | rw [if_pos (by omega)] at h | rw [if_neg (by omega)] at h)
            exact h _ (hc.stat 1) (hi_up (fun _ _ => rfl) (by omega))
          · rw [h1 r hr] at e
            rw [em2] at b3
            obtain ⟨i, hi, rfl⟩ := q_ix (x := x4) (n := 41) (by omega) (by omega) (by omega)
            have ii : (nI i).toInt = i := nI_toInt (by omega)
            rw [q_cl (by omega)] at h
            repeat (first | rw [if_pos q] at h | rw [if_neg e] at h | rw [if_pos (by omega)] at h | rw [if_neg (by omega)] at h)
            refine t60_0 (Or.inl rfl) (fun s1 es1 s2 es2 => ?_)
            have fr2 : ∀ b, b ≠ 45 → s2 b = σ b := fun b q => by rw [es2, es1]; exact (g_up_ne q).trans (g_up_ne q)
            refine c_openShops (d := 15) (Or.inl rfl) (hc.tr.low (fun b q1 q2 => fr2 b (by omega))) hw.wt ht' (fun s3 k3 => ⟨_, rfl, ?_⟩)
            have e34 : s3 45 4 = nI cc := by
              rw [k3 45 (by omega) (by omega), es2, es1]
              exact (g_up_n (by omega)).trans g_up_s
            have e35 : s3 45 5 = nI t := by
              rw [k3 45 (by omega) (by omega), es2]
              exact g_up_s
            have fr3 : ∀ b, b ≠ 41 → b ≠ 42 → b ≠ 45 → s3 b = σ b := fun b q1 q2 q3 => (k3 b q1 q2).trans (fr2 b q3)
            dsimp only
            rw [e34]
            refine c_shopIn (d := 17) (Or.inl rfl) (hc.tr.low (fun b q1 q2 => fr3 b (by omega) (by omega) (by omega))) hcc n1 n2 ⟨_, rfl, fun s9 es9 => ⟨rfl, ?_⟩⟩
            have fr9 : ∀ b, b ≠ 45 → s9 b = s3 b := fun b q => by rw [es9]; exact g_up_ne q
            refine c_chk_l (d := 14) (it := fun k => μ 71 (40 * r + i + k)) (t := t) hc.tr hw.wt hr (by omega) (by omega) n1 n2 (fun k hk => ?_) n 0 cc (q_at (μ 72) t &&& q_sa (μ 72) cc) s9 (by omega) hcc (fun b q1 q2 q3 => (fr9 b q3).trans (fr3 b q1 q2 q3)) ?_ ?_ ?_ (fun σ' k' => h _ ?_ (fun a ha => (g_up_ne (by omega)).trans (k' a (by omega) (by omega) (by omega))))
            · rw [h3 r hr _ (by omega), Nat.add_assoc]
            · rw [es9]; exact (g_up_n (by omega)).trans e34
            · rw [es9]; exact (g_up_n (by omega)).trans e35
            · rw [es9]
              refine g_up_s.trans ?_
              rw [nI_and]
            · exact (hc.stat 0).low (fun a q1 q2 q3 q4 q5 => by
                funext j
                unfold g_up
                rw [k' a (by omega) (by omega) (by omega)])
          · rw [h1 r hr] at e
            rw [em2] at b1
            repeat (first | rw [if_pos q] at h | rw [if_neg e] at h | rw [if_pos (by omega)] at h | rw [if_neg (by omega)] at h)
            exact h _ (hc.stat 2) (hi_up (fun _ _ => rfl) (by omega))
        · simp only [q_lt, q_le, Int32.reduceToInt] at c1 c2 c3 c4 c5
          rw [q_add (by omega) (by omega)] at c5
          repeat (first | rw [if_pos (by omega)] at h | rw [if_neg (by omega)] at h)
          exact h σ hc (fun _ _ => rfl)
        · repeat (first | rw [if_pos (by omega)] at h | rw [if_neg (by omega)] at h)
          exact h σ hc (fun _ _ => rfl)
        · simp only [q_lt, q_le, Int32.reduceToInt] at c1 c2
          repeat (first | rw [if_pos (by omega)] at h | rw [if_neg (by omega)] at h)
          exact h σ hc (fun _ _ => rfl)
        · repeat (first | rw [if_pos (by omega)] at h | rw [if_neg (by omega)] at h)
          exact h σ hc (fun _ _ => rfl)
      · refine c_isWalkable (d := 17) (Or.inl rfl) hc.tr hw.wt hcc (fun z => absurd z q) (fun _ => ⟨_, rfl, q_0 ?_⟩)
        by_cases b : (nI cc).toInt < 0 ∨ 80 < (nI cc).toInt ∨ x2.toInt < 0 ∨ 72 < x2.toInt ∨ x3.toInt < 0 ∨ 7 < x3.toInt ∨ x5.toInt < 0 ∨ 40 < x5.toInt ∨ 72 < x2.toInt + x5.toInt ∨ x6.toInt < 0 ∨ 1 < x6.toInt
        · repeat (first | rw [if_pos b] at h | rw [if_neg (by omega)] at h)
          exact h σ hc (fun _ _ => rfl)
        · repeat (first | rw [if_neg b] at h | rw [if_neg q] at h | rw [if_neg (by omega)] at h)
          exact h σ hc (fun _ _ => rfl)
    · rw [ht] at c
      repeat (first | rw [if_pos (by omega)] at h | rw [if_neg (by omega)] at h)
      exact h σ hc (fun _ _ => rfl)
    · rw [ht] at c
      repeat (first | rw [if_pos (by omega)] at h | rw [if_neg (by omega)] at h)
      exact h σ hc (fun _ _ => rfl)
  · dsimp only at h
    obtain ⟨N, n1, n2, -⟩ := id hw.wt.2.2.2.2.2.1
    refine t166_0 (fun s es => m_isThere (fun h4 => ⟨_, rfl, n_1 (m_isCell (fun a1 a2 => ⟨_, rfl, q_1 ?_⟩) (fun a1 => ⟨_, rfl, q_0 ?_⟩))⟩) (fun h4 => ⟨_, rfl, n_0 ?_⟩))
    all_goals subst es
    · change 0 < (mo σ 72 4).toInt at h4
      obtain ⟨cc, hcc, rfl⟩ := q_ix (x := x1) (n := 81) (by omega) (by omega) (by omega)
      rw [q_cl (by omega)] at h
      have bad : (x2.toInt < 0 ∨ 72 < x2.toInt ∨ x3.toInt < 0 ∨ 7 < x3.toInt ∨ x5.toInt < 0 ∨ 40 < x5.toInt ∨ 72 < x2.toInt + x5.toInt ∨ x6.toInt < 0 ∨ 1 < x6.toInt) → R (some (.int (-1000001))) (g_up σ 68 0 0) := fun b => by
        repeat (first | rw [if_pos (by omega)] at h | rw [if_neg (by omega)] at h)
        exact h _ (lo_up (fun _ _ => rfl) (by omega)) (Sc.rf.up rfl).ce
      refine m_mayBe hcc (fun q => ⟨_, rfl, q_1 (m_isSlot (fun a3 a4 => ⟨_, rfl, q_1 (m_isRow (fun a5 a6 => ⟨_, rfl, q_1 (m_in 0 40 rfl rfl (fun a7 a8 => ⟨_, rfl, q_1 ⟨fun c5 => ?_, fun c5 => m_in 0 1 rfl rfl (fun a9 a10 => ⟨_, rfl, n_1 (t165_0 ?_)⟩) (fun a9 => ⟨_, rfl, n_0 (bad (by omega))⟩)⟩⟩) (fun a7 => ⟨_, rfl, q_0 (bad (by omega))⟩))⟩) (fun a5 => ⟨_, rfl, q_0 (bad (by omega))⟩))⟩) (fun a3 => ⟨_, rfl, q_0 (bad (by omega))⟩))⟩) (fun q => ⟨_, rfl, q_0 ?_⟩)
      · simp only [q_lt, Int32.reduceToInt] at c5
        rw [q_add (by omega) (by omega)] at c5
        exact bad (by omega)
      · simp only [q_lt, Int32.reduceToInt] at c5
        rw [q_add (by omega) (by omega)] at c5
        have q : mo σ 72 (7 + cc) = 0 := q
        obtain ⟨t, ht', rfl⟩ := q_ix (x := x2) (n := 73) (by omega) (by omega) (by omega)
        obtain ⟨r, hr, rfl⟩ := q_ix (x := x3) (n := 8) (by omega) (by omega) (by omega)
        obtain ⟨n, hn, rfl⟩ := q_ix (x := x5) (n := 41) (by omega) (by omega) (by omega)
        have tn : (nI t).toInt = t := nI_toInt (by omega)
        have nn : (nI n).toInt = n := nI_toInt (by omega)
        rw [q_cl (by omega), q_cl (by omega), q_cl (by omega)] at h
        rw [q_cl (by omega)]
        have m1 := hw.1 r hr
        obtain ⟨m, hm, em⟩ := hw.2.1 r hr
        have em' : (mo σ 70 r).toInt = m := by rw [em, nI_toInt (by omega)]
        rw [em'] at h
        have lg : ∀ x y : Int32, (x.toInt64 + y.toInt64).toInt = x.toInt + y.toInt := fun x y => q_a64
        have lo0 : ∀ b, b < 68 → g_up σ 68 0 0 b = σ b := lo_up (fun _ _ => rfl) (by omega)
        have two : x4.toInt < 0 ∨ (m : Int) < x4.toInt + (nI n).toInt → ¬ mo σ 69 r = -1 → R (some (.int (-1000010 - 2))) (g_up (g_up σ 68 0 0) 68 1 2) := fun b e => by
          repeat (first | rw [if_pos q] at h | rw [if_neg e] at h | rw [if_pos (by omega)] at h | rw [if_neg (by omega)] at h)
          exact h _ (lo_up lo0 (by omega)) CE.st
        have e69 : g_up σ 68 0 0 69 r = mo σ 69 r := rfl
        have e70 : g_up σ 68 0 0 70 r = mo σ 70 r := rfl
        rw [e69, e70]
        simp only [q_cmp_le, lg, Int32.toInt_toInt64]
        rw [em']
        refine ⟨vp_in_nI hr (by omega), fun c1 => ⟨fun c2 => ⟨_, rfl, fun z => absurd z (by decide), fun _ => m_found ⟨_, rfl, ?_⟩⟩, fun c2 => ⟨vp_in_nI hr (by omega), fun c3 => ⟨_, rfl, fun _ s2 es2 => ?_, fun z => absurd (by decide) z⟩, fun c3 => ⟨_, rfl, fun z => absurd z (by decide), fun _ => m_found ⟨_, rfl, ?_⟩⟩⟩⟩, fun c1 => ⟨_, rfl, fun z => absurd z (by decide), fun _ => m_found ⟨_, rfl, ?_⟩⟩⟩
        · have e : ¬ mo σ 69 r = -1 := fun q => ((q_lane m1).1.mpr q) c1
          simp only [q_lt, Int32.reduceToInt] at c2
          exact two (Or.inl c2) e
        · have e : ¬ mo σ 69 r = -1 := fun q => ((q_lane m1).1.mpr q) c1
          simp only [q_lt, Int32.reduceToInt] at c2
          obtain ⟨i, hi, rfl⟩ := q_ix (x := x4) (n := 41) (by omega) (by omega) (by omega)
          have ii : (nI i).toInt = i := nI_toInt (by omega)
          rw [q_cl (by omega)] at h
          repeat (first | rw [if_pos q] at h | rw [if_neg e] at h | rw [if_pos (by omega)] at h | rw [if_neg (by omega)] at h)
          have e72 : s2 72 = mo σ 72 := by rw [es2]; rfl
          have e71 : s2 71 = mo σ 71 := by rw [es2]; rfl
          refine m_shopsAt (d := 17) e72 hcc n1 n2 ⟨_, rfl, m_openAt (d := 15) hw.wt e72 ht' (fun s3 k3 => ⟨_, rfl, ?_⟩)⟩
          dsimp only
          rw [nI_and, Nat.and_comm]
          refine m_chk_l (d := 15) (it := fun k => mo σ 71 (40 * r + i + k)) (t := t) (σ := s2) e72 hw.wt hr (by omega) (by omega) n1 n2 (fun k hk => by rw [e71]) n 0 cc _ s3 (by omega) hcc k3 (fun σ' k' => h _ (fun a ha => (k' a (by omega)).trans (by rw [es2]; exact (g_up_ne (by omega)).trans (g_up_ne (by omega)))) (fun a j qq => ?_))
          have na : a ≠ 75 := by
            have q' := qq
            unfold q_can at q'
            simp only [Bool.or_eq_true, Bool.and_eq_true, beq_iff_eq] at q'
            omega
          rw [k' a na, es2]
          exact CE.st a j qq
        · have e : ¬ mo σ 69 r = -1 := fun q => ((q_lane m1).1.mpr q) c1
          exact two (Or.inr (by omega)) e
        · have e : mo σ 69 r = -1 := (q_lane m1).1.mp c1
          repeat (first | rw [if_pos q] at h | rw [if_pos e] at h | rw [if_pos (by omega)] at h | rw [if_neg (by omega)] at h)
          exact h _ (lo_up lo0 (by omega)) CE.st
      · have q : ¬ mo σ 72 (7 + cc) = 0 := q
        by_cases b : (nI cc).toInt < 0 ∨ 80 < (nI cc).toInt ∨ x2.toInt < 0 ∨ 72 < x2.toInt ∨ x3.toInt < 0 ∨ 7 < x3.toInt ∨ x5.toInt < 0 ∨ 40 < x5.toInt ∨ 72 < x2.toInt + x5.toInt ∨ x6.toInt < 0 ∨ 1 < x6.toInt
        · exact bad (by omega)
        · repeat (first | rw [if_neg b] at h | rw [if_neg q] at h | rw [if_neg (by omega)] at h)
          exact h _ (lo_up (fun _ _ => rfl) (by omega)) (Sc.rf.up rfl).ce
    · change 0 < (mo σ 72 4).toInt at h4
      repeat (first | rw [if_pos (by omega)] at h | rw [if_neg (by omega)] at h)
      exact h _ (lo_up (fun _ _ => rfl) (by omega)) (Sc.rf.up rfl).ce
    · change (mo σ 72 4).toInt ≤ 0 at h4
      repeat (first | rw [if_pos (by omega)] at h | rw [if_neg (by omega)] at h)
      exact h _ (lo_up (fun _ _ => rfl) (by omega)) (Sc.rf.up rfl).ce
  · dsimp only
    split
    · exact h
    · split
      · exact h
      · split
        · exact h.stat _
        · exact h
