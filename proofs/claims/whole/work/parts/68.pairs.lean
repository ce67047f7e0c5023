/-! pairs: more -/
def q_noShop (τ : Nat → Int32) (c : Nat) : Nat → Bool
  | 0 => true
  | n + 1 => q_noShop τ c n && !decide (τ (89 + 3 * n) = nI c)
theorem q_noShop_iff {τ : Nat → Int32} {c : Nat} : ∀ {n : Nat}, q_noShop τ c n = true ↔ ∀ k, k < n → τ (89 + 3 * k) ≠ nI c
  | 0 => ⟨fun _ k hk => absurd hk (Nat.not_lt_zero k), fun _ => rfl⟩
  | n + 1 => by
    unfold q_noShop
    rw [Bool.and_eq_true, q_noShop_iff (n := n), Bool.not_eq_true', decide_eq_false_iff_not]
    constructor
    · rintro ⟨h1, h2⟩ k hk
      by_cases e : k = n
      · subst e; exact h2
      · exact h1 k (by omega)
    · exact fun h => ⟨fun k hk => h k (by omega), h n (by omega)⟩
/-- free: neither tower nor wall nor shop -/
def q_free (τ : Nat → Int32) (c : Nat) : Bool := decide (τ (7 + c) = 0) && q_noShop τ c (τ 6).toNatClampNeg
theorem q_free_iff {τ : Nat → Int32} {c n : Nat} (hn : n ≤ 8) (e : τ 6 = nI n) : q_free τ c = true ↔ τ (7 + c) = 0 ∧ ¬ q_shopAt τ c := by
  unfold q_free
  rw [e, q_cl (by omega), Bool.and_eq_true, decide_eq_true_eq, q_noShop_iff]
  unfold q_shopAt
  rw [e]
  constructor
  · rintro ⟨h1, h2⟩
    refine ⟨h1, ?_⟩
    rintro ⟨k, k1, k2, k3⟩
    exact h2 k ((q_lt8 k1 hn).mp k2) k3
  · rintro ⟨h1, h2⟩
    exact ⟨h1, fun k hk z => h2 ⟨k, by omega, (q_lt8 (by omega) hn).mpr hk, z⟩⟩
theorem q_gr_free {τ : Nat → Int32} {c n : Nat} {g : Int32} (w : WT τ) (hc : c < 81) (hn : n ≤ 8) (e : τ 6 = nI n) (h : q_gr τ c g) : g = 0 ↔ q_free τ c = true := by
  rw [q_free_iff hn e]
  obtain ⟨h1, h2, h3, h4⟩ := h
  rcases w.2.2.2.2.2.2.1 c hc with q | q | q
  · by_cases s : q_shopAt τ c
    · have := h3 q s
      exact ⟨fun z => absurd (z.symm.trans this) (by decide), fun z => absurd s z.2⟩
    · exact ⟨fun _ => ⟨q, s⟩, fun _ => h4 q s⟩
  · have := h2 q
    exact ⟨fun z => absurd (z.symm.trans this) (by decide), fun z => absurd (z.1.symm.trans q) (by decide)⟩
  · have := h1 q
    exact ⟨fun z => absurd (z.symm.trans this) (by decide), fun z => absurd (z.1.symm.trans q) (by decide)⟩
/-- one shop more -/
def q_push (τ : Nat → Int32) (n : Nat) (k c r : Int32) : Nat → Int32 := upd (upd (upd (upd τ (88 + 3 * n) k) (89 + 3 * n) c) (90 + 3 * n) r) 6 (nI (n + 1))
theorem q_push_n {τ : Nat → Int32} {n i : Nat} {k c r : Int32} (h : i ≠ 88 + 3 * n) (h2 : i ≠ 89 + 3 * n) (h3 : i ≠ 90 + 3 * n) (h4 : i ≠ 6) : q_push τ n k c r i = τ i := by
  unfold q_push
  rw [upd_n h4, upd_n h3, upd_n h2, upd_n h]
theorem q_push_6 {τ : Nat → Int32} {n : Nat} {k c r : Int32} : q_push τ n k c r 6 = nI (n + 1) := upd_s
theorem q_push_k {τ : Nat → Int32} {n : Nat} {k c r : Int32} : q_push τ n k c r (88 + 3 * n) = k := by
  unfold q_push
  rw [upd_n (by omega), upd_n (by omega), upd_n (by omega), upd_s]
theorem q_push_c {τ : Nat → Int32} {n : Nat} {k c r : Int32} : q_push τ n k c r (89 + 3 * n) = c := by
  unfold q_push
  rw [upd_n (by omega), upd_n (by omega), upd_s]
theorem q_push_r {τ : Nat → Int32} {n : Nat} {k c r : Int32} : q_push τ n k c r (90 + 3 * n) = r := by
  unfold q_push
  rw [upd_n (by omega), upd_s]
theorem WT.push {τ : Nat → Int32} {n i c r : Nat} (w : WT τ) (hn : n < 8) (h6 : τ 6 = nI n) (hi : 1 ≤ i ∧ i ≤ 5) (hc : c < 81) (hr : r ≤ 99) (hf : τ (7 + c) = 0 ∧ ¬ q_shopAt τ c) (h4 : τ 4 ≠ 0) : WT (q_push τ n (nI i) (nI c) (nI r)) := by
  obtain ⟨w0, w1, w2, w3, w4, w5, w6, w7, w8, w9⟩ := w
  have u : ∀ i', i' < 88 ∨ 111 < i' → i' ≠ 6 → q_push τ n (nI i) (nI c) (nI r) i' = τ i' := fun i' q q2 => q_push_n (by omega) (by omega) (by omega) q2
  have v : ∀ k, k ≠ n → q_push τ n (nI i) (nI c) (nI r) (88 + 3 * k) = τ (88 + 3 * k) ∧ q_push τ n (nI i) (nI c) (nI r) (89 + 3 * k) = τ (89 + 3 * k) ∧ q_push τ n (nI i) (nI c) (nI r) (90 + 3 * k) = τ (90 + 3 * k) := fun k hk => ⟨q_push_n (by omega) (by omega) (by omega) (by omega), q_push_n (by omega) (by omega) (by omega) (by omega), q_push_n (by omega) (by omega) (by omega) (by omega)⟩
  unfold WT
  rw [u 0 (by omega) (by omega), u 1 (by omega) (by omega), u 2 (by omega) (by omega), u 3 (by omega) (by omega), u 4 (by omega) (by omega), q_push_6]
  refine ⟨w0, w1, w2, w3, w4, ⟨n + 1, by omega, rfl, fun k hk => ?_, fun j k hj hk => ?_⟩, fun c hc => by rw [u _ (by omega) (by omega)]; exact w6 c hc, fun t ht => by rw [u _ (by omega) (by omega)]; exact w7 t ht, fun q c hc => by rw [u _ (by omega) (by omega)]; exact w8 q c hc, fun q => absurd q h4⟩
  · by_cases e : k = n
    · subst e
      rw [q_push_k, q_push_c, q_push_r]
      exact ⟨⟨i, hi.1, hi.2, rfl⟩, ⟨c, hc, rfl, by rw [u _ (by omega) (by omega)]; exact hf.1⟩, ⟨r, hr, rfl⟩⟩
    · obtain ⟨n', n1, n2, n3, n4⟩ := w5
      have en : n' = n := (nI_eq (by omega) (by omega)).mp (n2.symm.trans h6)
      subst en
      obtain ⟨a1, ⟨c', c1, c2, c3⟩, a3⟩ := n3 k (by omega)
      rw [(v k e).1, (v k e).2.1, (v k e).2.2]
      exact ⟨a1, ⟨c', c1, c2, by rw [u _ (by omega) (by omega)]; exact c3⟩, a3⟩
  · obtain ⟨n', n1, n2, n3, n4⟩ := w5
    have en : n' = n := (nI_eq (by omega) (by omega)).mp (n2.symm.trans h6)
    subst en
    rw [(v j (by omega)).2.1]
    by_cases e : k = n'
    · subst e
      rw [q_push_c]
      exact fun z => hf.2 ⟨j, by omega, by rw [h6, q_lt8 (by omega) (by omega)]; exact hj, z⟩
    · rw [(v k e).2.1]
      exact n4 j k hj (by omega)
theorem TR.push {σ σ' : g_S} {b n c : Nat} {τ : Nat → Int32} {i r : Int32} (w : TR σ b τ) (hn : n < 8) (h6 : τ 6 = nI n) (hc : c < 81) (hf : τ (7 + c) = 0 ∧ ¬ q_shopAt τ c) (h0 : ∀ k, k ≠ 8 → σ' b k = σ b k) (h8 : σ' b 8 = nI (n + 1)) (h1 : ∀ k, k ≠ c → σ' (b + 1) k = σ (b + 1) k) (h1c : σ' (b + 1) c = 3) (h2 : σ' (b + 2) = σ (b + 2)) (h3 : ∀ k, k ≠ n → σ' (b + 3) k = σ (b + 3) k ∧ σ' (b + 4) k = σ (b + 4) k ∧ σ' (b + 5) k = σ (b + 5) k) (h3n : σ' (b + 3) n = q_sort i ∧ σ' (b + 4) n = nI c ∧ σ' (b + 5) n = r) : TR σ' b (q_push τ n i (nI c) r) := by
  have u : ∀ i', i' < 88 ∨ 111 < i' → i' ≠ 6 → q_push τ n i (nI c) r i' = τ i' := fun i' q q2 => q_push_n (by omega) (by omega) (by omega) q2
  have v : ∀ k, k ≠ n → q_push τ n i (nI c) r (88 + 3 * k) = τ (88 + 3 * k) ∧ q_push τ n i (nI c) r (89 + 3 * k) = τ (89 + 3 * k) ∧ q_push τ n i (nI c) r (90 + 3 * k) = τ (90 + 3 * k) := fun k hk => ⟨q_push_n (by omega) (by omega) (by omega) (by omega), q_push_n (by omega) (by omega) (by omega) (by omega), q_push_n (by omega) (by omega) (by omega) (by omega)⟩
  unfold TR at w ⊢
  obtain ⟨w0, w1, w3, w4, w5, w6, w7, w8, w9, w10, w11⟩ := w
  rw [h0 0 (by omega), h0 1 (by omega), h0 2 (by omega), h0 3 (by omega), h0 4 (by omega), h0 5 (by omega), h0 6 (by omega), h0 7 (by omega), h2, u 4 (by omega) (by omega), u 0 (by omega) (by omega), u 1 (by omega) (by omega), u 2 (by omega) (by omega), u 3 (by omega) (by omega), q_push_6, q_walls.congr 81 (fun c _ => u (7 + c) (by omega) (by omega))]
  have sh : ∀ c', q_shopAt (q_push τ n i (nI c) r) c' ↔ (q_shopAt τ c' ∨ nI c = nI c') := fun c' => by
    unfold q_shopAt
    rw [q_push_6, h6]
    constructor
    · rintro ⟨k, k1, k2, k3⟩
      rw [q_lt8 k1 (by omega)] at k2
      by_cases e : k = n
      · subst e
        rw [q_push_c] at k3
        exact Or.inr k3
      · rw [(v k e).2.1] at k3
        exact Or.inl ⟨k, k1, (q_lt8 k1 (by omega)).mpr (by omega), k3⟩
    · rintro (⟨k, k1, k2, k3⟩ | k3)
      · rw [q_lt8 k1 (by omega)] at k2
        exact ⟨k, k1, (q_lt8 k1 (by omega)).mpr (by omega), by rw [(v k (by omega)).2.1]; exact k3⟩
      · exact ⟨n, hn, (q_lt8 hn (by omega)).mpr (by omega), by rw [q_push_c]; exact k3⟩
  refine ⟨w0, w1, w3, w4, w5, w6, w7, h8, fun c' hc' => ?_, fun t ht => by rw [u _ (by omega) (by omega)]; exact w10 t ht, fun k hk hs => ?_⟩
  · have := w9 c' hc'
    unfold q_gr at this ⊢
    rw [u _ (by omega) (by omega), sh]
    by_cases e : c' = c
    · subst e
      rw [h1c]
      exact ⟨fun q => absurd (q.symm.trans hf.1) (by decide), fun q => absurd (q.symm.trans hf.1) (by decide), fun _ _ => rfl, fun _ q => absurd (Or.inr rfl) q⟩
    · rw [h1 c' e]
      have ne : ¬ nI c = nI c' := fun z => e ((nI_eq (by omega) (by omega)).mp z).symm
      exact ⟨this.1, this.2.1, fun a q => this.2.2.1 a (q.resolve_right ne), fun a q => this.2.2.2 a (fun z => q (Or.inl z))⟩
  · rw [q_lt8 hk (by omega)] at hs
    by_cases e : k = n
    · subst e
      rw [q_push_k, q_push_c, q_push_r]
      exact h3n
    · rw [(h3 k e).1, (h3 k e).2.1, (h3 k e).2.2, (v k e).1, (v k e).2.1, (v k e).2.2]
      exact w11 k hk (by rw [h6, q_lt8 hk (by omega)]; omega)
section Q68
variable {E : g_E} {d : Nat} {R : g_R} {σ : g_S}
theorem m_free_l {O : g_O} {a c n : Nat} (ha : g_kd a = 100) (hl : g_ln a = 185) (hn : n ≤ 8) (e6 : σ a 6 = nI n) (h1 : (decide (σ a (7 + c) = 0) && q_noShop (σ a) c n) = true → R (some (.int 1)) σ) (h0 : ¬ ((decide (σ a (7 + c) = 0) && q_noShop (σ a) c n) = true) → R (some (.int 0)) σ) : ∀ w i, i + w = n → g_g E O 128 17 [some (.ref a), some (.int (nI c)), some (.int (if (decide (σ a (7 + c) = 0) && q_noShop (σ a) c i) = true then 1 else 0)), some (.int (nI i))] [] σ R := by
  intro w
  induction w with
  | zero =>
    intro i hi
    have e : i = n := by omega
    subst e
    refine t128_17 ⟨ha, by rw [hl]; exact vp_in_nI (n := 6) (by omega) (by omega), fun c1 => ?_, fun c1 => absurd (by rw [e6]; exact nI_le (Nat.le_refl _) (by omega)) c1⟩
    by_cases q : (decide (σ a (7 + c) = 0) && q_noShop (σ a) c i) = true
    · rw [if_pos q]; exact ⟨by decide, h1 q⟩
    · rw [if_neg q]; exact ⟨by decide, h0 q⟩
  | succ w ih =>
    intro i hi
    have e : (88 : Int32) + (3 : Int32) * nI i + 1 = nI (89 + 3 * i) := by
      rw [show (88 : Int32) = nI 88 from rfl, show (3 : Int32) = nI 3 from rfl, pk_mul, nI_add, nI_1, show 88 + 3 * i + 1 = 89 + 3 * i by omega]
    have z := ih (i + 1) (by omega)
    unfold q_noShop at z
    refine t128_17 ⟨ha, by rw [hl]; exact vp_in_nI (n := 6) (by omega) (by omega), fun c1 => absurd c1 (by rw [e6]; exact nI_ge (by omega) (by omega)), fun c1 => ?_⟩
    rw [nI_1, e, q_cl (by omega), hl]
    by_cases q : (decide (σ a (7 + c) = 0) && q_noShop (σ a) c i) = true
    · rw [if_pos q]
      refine ⟨fun c2 => absurd c2 (by decide), fun c2 => ⟨ha, vp_in_nI (by omega) (by omega), fun c3 => ?_, fun c3 => ?_⟩⟩
      · rw [if_neg (by rw [Bool.and_eq_true, Bool.and_eq_true, Bool.not_eq_true', decide_eq_false_iff_not]; exact fun q => q.2.2 c3)] at z
        exact z
      · rw [Bool.and_eq_true] at q
        rw [if_pos (by rw [Bool.and_eq_true, Bool.and_eq_true, Bool.not_eq_true', decide_eq_false_iff_not]; exact ⟨q.1, q.2, c3⟩)] at z
        exact z
    · rw [if_neg q]
      refine ⟨fun c2 => ?_, fun c2 => absurd rfl c2⟩
      rw [Bool.and_eq_true] at q
      rw [if_neg (by rw [Bool.and_eq_true, Bool.and_eq_true]; exact fun z => q ⟨z.1, z.2.1⟩)] at z
      exact z
theorem m_free {a c n : Nat} (ha : g_kd a = 100) (hl : g_ln a = 185) (hc : c < 81) (hn : n ≤ 8) (e6 : σ a 6 = nI n) (h1 : q_free (σ a) c = true → R (some (.int 1)) σ) (h0 : ¬ q_free (σ a) c = true → R (some (.int 0)) σ) : g_wp E (d + 1) 128 [.ref a, .int (nI c)] σ R := by
  have e : (7 : Int32) + nI c = nI (7 + c) := nI_add 7 c
  unfold q_free at h1 h0
  rw [e6, q_cl (by omega)] at h1 h0
  refine t128_0 ?_
  rw [e, hl, q_cl (by omega)]
  have z := m_free_l (E := E) (O := g_wp E d) ha hl hn e6 h1 h0 n 0 (by omega)
  refine ⟨ha, vp_in_nI (by omega) (by omega), fun c1 => ?_, fun c1 => ?_⟩
  · rw [if_neg (by rw [Bool.and_eq_true, decide_eq_true_eq]; exact fun q => c1 q.1)] at z
    exact z
  · rw [if_pos (by rw [Bool.and_eq_true, decide_eq_true_eq]; exact ⟨Classical.not_not.mp c1, rfl⟩)] at z
    exact z
/-- kind of sort -/
def q_kos (x : Int32) : Int32 := if x = 0 then 1 else if x = 1 then 4 else if x = 4 then 5 else x
theorem q_kos_c : ∀ s, s < 5 → (∃ i, i ≤ 5 ∧ 1 ≤ i ∧ q_kos (nI s) = nI i) ∧ q_sort (q_kos (nI s)) = nI s := by decide
theorem m_kos {x : Int32} (h : R (some (.int (q_kos x))) σ) : g_wp E (d + 1) 144 [.int x] σ R := by
  unfold q_kos at h
  refine t144_0 ⟨fun c => ⟨fun c2 => ⟨fun c3 => ?_, fun c3 => ?_⟩, fun c2 => ?_⟩, fun c => ?_⟩
  · rw [if_neg c, if_neg c2, if_neg c3] at h; exact h
  · rw [if_neg c, if_neg c2, if_pos (Classical.not_not.mp c3)] at h; exact h
  · rw [if_neg c, if_pos (Classical.not_not.mp c2)] at h; exact h
  · rw [if_pos (Classical.not_not.mp c)] at h; exact h
end Q68
