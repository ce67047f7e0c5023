/-! town: the towns that come about while a text is read, and the whole reading, purely -/
def q_t0 : Nat → Int32 := upd (fun _ => 0) 4 1
def q_t1 (c : Nat) (r : Int32) : Nat → Int32 := upd (upd (upd q_t0 0 (nI c)) 1 r) (7 + c) 2
def q_tw (τ : Nat → Int32) (c : Nat) : Nat → Int32 := upd (upd τ (7 + c) 1) 5 (τ 5 + 1)
theorem q_t1_n {c i : Nat} {r : Int32} (h0 : i ≠ 0) (h1 : i ≠ 1) (h4 : i ≠ 4) (hc : i ≠ 7 + c) : q_t1 c r i = 0 := by
  unfold q_t1 q_t0
  rw [upd_n hc, upd_n h1, upd_n h0, upd_n h4]
theorem q_t1_0 {c : Nat} {r : Int32} : q_t1 c r 0 = nI c ∧ q_t1 c r 1 = r ∧ q_t1 c r 4 = 1 ∧ q_t1 c r (7 + c) = 2 := by
  unfold q_t1 q_t0
  refine ⟨?_, ?_, ?_, upd_s⟩
  · rw [upd_n (by omega), upd_n (by omega), upd_s]
  · rw [upd_n (by omega), upd_s]
  · rw [upd_n (by omega), upd_n (by omega), upd_n (by omega), upd_s]
theorem WT.t1 {c r : Nat} (hc : c < 81) (hr : r ≤ 8) : WT (q_t1 c (nI r)) := by
  obtain ⟨e0, e1, e4, e7⟩ := q_t1_0 (c := c) (r := nI r)
  have z : ∀ i, i ≠ 0 → i ≠ 1 → i ≠ 4 → i ≠ 7 + c → q_t1 c (nI r) i = 0 := fun i h0 h1 h4 h7 => q_t1_n h0 h1 h4 h7
  unfold WT
  rw [e0, e1, e4, z 2 (by omega) (by omega) (by omega) (by omega), z 3 (by omega) (by omega) (by omega) (by omega), z 6 (by omega) (by omega) (by omega) (by omega)]
  refine ⟨⟨c % 9, c / 9, by omega, by omega, by rw [show c % 9 + 9 * (c / 9) = c by omega]⟩, ⟨r, hr, rfl⟩, by decide, by decide, ⟨1, by omega, rfl⟩, ⟨0, by omega, rfl, fun k hk => absurd hk (Nat.not_lt_zero k), fun j k _ hk => absurd hk (Nat.not_lt_zero k)⟩, fun c' hc' => ?_, fun t ht => Or.inl (z _ (by omega) (by omega) (by omega) (by omega)), fun _ c' hc' => ?_, fun q => absurd q (by decide)⟩
  · by_cases e : c' = c
    · subst e; exact Or.inr (Or.inr e7)
    · exact Or.inl (z _ (by omega) (by omega) (by omega) (by omega))
  · rw [nI_eq (by omega) (by omega)]
    by_cases e : c' = c
    · subst e; exact ⟨fun _ => rfl, fun _ => e7⟩
    · rw [z _ (by omega) (by omega) (by omega) (by omega)]
      exact ⟨fun q => absurd q (by decide), fun q => absurd q e⟩
theorem q_walls_z {τ : Nat → Int32} : ∀ {n : Nat}, (∀ c, c < n → τ (7 + c) ≠ 1) → q_walls τ n = 0
  | 0, _ => rfl
  | n + 1, h => by
    rw [show q_walls τ (n + 1) = q_walls τ n + (if τ (7 + n) = 1 then 1 else 0) from rfl, q_walls_z (fun c hc => h c (by omega)), if_neg (h n (by omega))]
theorem q_walls_u {τ : Nat → Int32} {c : Nat} : ∀ {n : Nat}, q_walls (upd τ (7 + c) 1) n = q_walls τ n + (if c < n ∧ τ (7 + c) ≠ 1 then 1 else 0)
  | 0 => by rw [if_neg (by omega)]; rfl
  | n + 1 => by
    rw [show q_walls (upd τ (7 + c) 1) (n + 1) = q_walls (upd τ (7 + c) 1) n + (if upd τ (7 + c) 1 (7 + n) = 1 then 1 else 0) from rfl, show q_walls τ (n + 1) = q_walls τ n + (if τ (7 + n) = 1 then 1 else 0) from rfl, q_walls_u (n := n)]
    by_cases e : n = c
    · subst e
      rw [upd_s, if_pos rfl, if_neg (show ¬ (n < n ∧ τ (7 + n) ≠ 1) by omega)]
      by_cases q : τ (7 + n) = 1
      · rw [if_pos q, if_neg (fun y => y.2 q)]
      · rw [if_neg q, if_pos ⟨by omega, q⟩]
    · rw [upd_n (by omega)]
      by_cases q : c < n ∧ τ (7 + c) ≠ 1
      · rw [if_pos q, if_pos (show c < n + 1 ∧ τ (7 + c) ≠ 1 from ⟨by omega, q.2⟩)]
        omega
      · rw [if_neg q, if_neg (show ¬ (c < n + 1 ∧ τ (7 + c) ≠ 1) from fun y => q ⟨by omega, y.2⟩)]
        omega
theorem TR.t1 {s : g_S} {b x y : Nat} {r : Int32} (hx : x < 9) (hy : y < 9) (h0 : s b 0 = 1) (h1 : s b 1 = nI x) (h2 : s b 2 = nI y) (h3 : s b 3 = r) (h4 : s b 4 = 1) (h5 : s b 5 = 0) (h6 : s b 6 = 0) (h7 : s b 7 = 0) (h8 : s b 8 = 0) (g1 : s (b + 1) (x + 9 * y) = 1) (g0 : ∀ c, c < 81 → c ≠ x + 9 * y → s (b + 1) c = 0) (cl : ∀ t, t < 73 → s (b + 2) t = 0) : TR s b (q_t1 (x + 9 * y) r) := by
  obtain ⟨e0, e1, e4, e7⟩ := q_t1_0 (c := x + 9 * y) (r := r)
  have z : ∀ i, i ≠ 0 → i ≠ 1 → i ≠ 4 → i ≠ 7 + (x + 9 * y) → q_t1 (x + 9 * y) r i = 0 := fun i h0 h1 h4 h7 => q_t1_n h0 h1 h4 h7
  have z6 := z 6 (by omega) (by omega) (by omega) (by omega)
  have ns : ∀ c, ¬ q_shopAt (q_t1 (x + 9 * y) r) c := fun c q => by
    obtain ⟨k, k1, k2, k3⟩ := q
    rw [z6] at k2
    exact absurd k2 (nI_nlt (a := k) (b := 0) (by omega) (by omega))
  have w0 : q_walls (q_t1 (x + 9 * y) r) 81 = 0 := q_walls_z (fun c hc => by
    by_cases e : c = x + 9 * y
    · rw [e, e7]; decide
    · rw [z _ (by omega) (by omega) (by omega) (by omega)]; decide)
  unfold TR
  rw [e0, e1, e4, z6, z 2 (by omega) (by omega) (by omega) (by omega), z 3 (by omega) (by omega) (by omega) (by omega), w0]
  refine ⟨h0, ⟨x, y, hx, hy, h1, h2, rfl⟩, h3, h4, h5, h6, h7, h8, fun c hc => ?_, fun t ht => by rw [cl t ht, z _ (by omega) (by omega) (by omega) (by omega)], fun k hk q => absurd q (nI_nlt (a := k) (b := 0) (by omega) (by omega))⟩
  unfold q_gr
  by_cases e : c = x + 9 * y
  · rw [e, e7, g1]
    exact ⟨fun _ => rfl, fun q => absurd q (by decide), fun q => absurd q (by decide), fun q => absurd q (by decide)⟩
  · rw [z (7 + c) (by omega) (by omega) (by omega) (by omega), g0 c hc e]
    exact ⟨fun q => absurd q (by decide), fun q => absurd q (by decide), fun _ q => absurd q (ns c), fun _ _ => rfl⟩
theorem q_tw_n {τ : Nat → Int32} {c i : Nat} (h5 : i ≠ 5) (hc : i ≠ 7 + c) : q_tw τ c i = τ i := by
  unfold q_tw
  rw [upd_n h5, upd_n hc]
theorem q_tw_c {τ : Nat → Int32} {c : Nat} : q_tw τ c (7 + c) = 1 ∧ q_tw τ c 5 = τ 5 + 1 := by
  unfold q_tw
  exact ⟨by rw [upd_n (by omega), upd_s], upd_s⟩
theorem WT.wall {τ : Nat → Int32} {c : Nat} (w : WT τ) (hc : c < 81) (h6 : τ 6 = 0) (h4 : τ 4 ≠ 0) (hn : τ 0 ≠ nI c) : WT (q_tw τ c) := by
  obtain ⟨w0, w1, w2, w3, w4, w5, w6, w7, w8, w9⟩ := w
  have u : ∀ i, i ≠ 5 → i ≠ 7 + c → q_tw τ c i = τ i := fun i a b => q_tw_n a b
  unfold WT
  rw [u 0 (by omega) (by omega), u 1 (by omega) (by omega), u 2 (by omega) (by omega), u 3 (by omega) (by omega), u 4 (by omega) (by omega), u 6 (by omega) (by omega)]
  refine ⟨w0, w1, w2, w3, w4, ⟨0, by omega, h6, fun k hk => absurd hk (Nat.not_lt_zero k), fun j k _ hk => absurd hk (Nat.not_lt_zero k)⟩, fun c' hc' => ?_, fun t ht => by rw [u _ (by omega) (by omega)]; exact w7 t ht, fun _ c' hc' => ?_, fun q => absurd q h4⟩
  · by_cases e : c' = c
    · rw [e, q_tw_c.1]; exact Or.inr (Or.inl rfl)
    · rw [u _ (by omega) (by omega)]; exact w6 c' hc'
  · by_cases e : c' = c
    · rw [e, q_tw_c.1]
      exact ⟨fun q => absurd q (by decide), fun q => absurd q.symm hn⟩
    · rw [u _ (by omega) (by omega)]; exact w8 h4 c' hc'
theorem TR.wall {σ σ' : g_S} {b c : Nat} {τ : Nat → Int32} (w : TR σ b τ) (hc : c < 81) (h6 : τ 6 = 0) (h0 : ∀ k, k ≠ 7 → σ' b k = σ b k) (h7 : σ' b 7 = σ b 7 + (if τ (7 + c) = 1 then 0 else 1)) (h1 : ∀ k, k ≠ c → σ' (b + 1) k = σ (b + 1) k) (h1c : σ' (b + 1) c = 2) (h2 : ∀ a, b + 1 < a → a < b + 6 → σ' a = σ a) : TR σ' b (q_tw τ c) := by
  have u : ∀ i, i ≠ 5 → i ≠ 7 + c → q_tw τ c i = τ i := fun i a b => q_tw_n a b
  have ns : ∀ c', ¬ q_shopAt (q_tw τ c) c' := fun c' q => by
    obtain ⟨k, k1, k2, k3⟩ := q
    rw [u 6 (by omega) (by omega), h6] at k2
    exact absurd k2 (nI_nlt (a := k) (b := 0) (by omega) (by omega))
  have ns' : ∀ c', ¬ q_shopAt τ c' := fun c' q => by
    obtain ⟨k, k1, k2, k3⟩ := q
    rw [h6] at k2
    exact absurd k2 (nI_nlt (a := k) (b := 0) (by omega) (by omega))
  have wl : q_walls (q_tw τ c) 81 = q_walls τ 81 + (if τ (7 + c) = 1 then 0 else 1) := by
    have e : q_walls (q_tw τ c) 81 = q_walls (upd τ (7 + c) 1) 81 := q_walls.congr 81 (fun c' _ => by unfold q_tw; rw [upd_n (by omega)])
    rw [e, q_walls_u]
    by_cases q : τ (7 + c) = 1
    · rw [if_pos q, if_neg (fun y => y.2 q)]
    · rw [if_neg q, if_pos ⟨hc, q⟩]
  unfold TR at w ⊢
  obtain ⟨w0, w1, w3, w4, w5, w6, w7, w8, w9, w10, w11⟩ := w
  rw [h0 0 (by omega), h0 1 (by omega), h0 2 (by omega), h0 3 (by omega), h0 4 (by omega), h0 5 (by omega), h0 6 (by omega), h0 8 (by omega), h7, h2 (b + 2) (by omega) (by omega), h2 (b + 3) (by omega) (by omega), h2 (b + 4) (by omega) (by omega), h2 (b + 5) (by omega) (by omega), u 0 (by omega) (by omega), u 1 (by omega) (by omega), u 2 (by omega) (by omega), u 3 (by omega) (by omega), u 4 (by omega) (by omega), u 6 (by omega) (by omega), wl, w7]
  refine ⟨w0, w1, w3, w4, w5, w6, ?_, w8, fun c' hc' => ?_, fun t ht => by rw [u _ (by omega) (by omega)]; exact w10 t ht, fun k hk q => by rw [h6] at q; exact absurd q (nI_nlt (a := k) (b := 0) (by omega) (by omega))⟩
  · by_cases q : τ (7 + c) = 1
    · rw [if_pos q, if_pos q]
      generalize q_walls τ 81 = z
      exact Int32.add_zero _
    · rw [if_neg q, if_neg q]
      generalize q_walls τ 81 = z
      exact nI_1 _
  · by_cases e : c' = c
    · subst e
      unfold q_gr
      rw [q_tw_c.1, h1c]
      exact ⟨fun q => absurd q (by decide), fun _ => rfl, fun q => absurd q (by decide), fun q => absurd q (by decide)⟩
    · rw [h1 c' e]
      have z := w9 c' hc'
      unfold q_gr at z ⊢
      rw [u _ (by omega) (by omega)]
      exact ⟨z.1, z.2.1, fun _ q => absurd q (ns c'), fun q _ => z.2.2.2 q (ns' c')⟩
/-- the n-th token behind -/
def q_ne (β : Nat → Int32) (L : Nat) : Nat → Nat → Nat
  | 0, p => p
  | n + 1, p => q_tE β L (q_ne β L n p)
theorem q_ne_l {β : Nat → Int32} {L p : Nat} (h : p ≤ L) : ∀ {n : Nat}, q_ne β L n p ≤ L
  | 0 => h
  | n + 1 => (q_tE_r (q_ne_l h (n := n))).2
/-- the cell that is told by two numbers -/
def q_cc (β : Nat → Int32) (L p : Nat) : Nat := (q_tV β L p).toNatClampNeg + 9 * (q_tV β L (q_tE β L p)).toNatClampNeg
noncomputable def q_aT (β : Nat → Int32) (L p : Nat) : Nat × Nat := q_an (q_an (q_an (q_an (q_an (0, 0) (q_wf β L p 20) (q_tS β L p)) (q_nf β L (q_ne β L 1 p) 0 8) (q_tS β L (q_ne β L 1 p))) (q_nf β L (q_ne β L 2 p) 0 8) (q_tS β L (q_ne β L 2 p))) (q_nf β L (q_ne β L 3 p) 1 8) (q_tS β L (q_ne β L 3 p))) (q_sf β L (q_ne β L 4 p)) (q_tS β L (q_ne β L 4 p))
/-- a wall where the tower is, a shop where something is -/
noncomputable def q_fw (β : Nat → Int32) (L : Nat) (τ : Nat → Int32) (p1 : Nat) : Nat := if q_nf β L (q_tE β L p1) 0 8 = 0 ∧ τ 0 = nI (q_cc β L p1) then 2 else 0
noncomputable def q_fs (β : Nat → Int32) (L : Nat) (τ : Nat → Int32) (p1 : Nat) : Nat := if q_nf β L (q_tE β L p1) 0 8 = 0 ∧ ¬ q_free τ (q_cc β L p1) = true then 2 else 0
noncomputable def q_aW (β : Nat → Int32) (L : Nat) (τ : Nat → Int32) (p : Nat) : Nat × Nat := q_an (q_an (q_an (q_an (q_an (0, 0) (if τ 5 = 20 then 3 else 0) (q_tS β L p)) (q_nf β L (q_ne β L 1 p) 0 8) (q_tS β L (q_ne β L 1 p))) (q_fw β L τ (q_ne β L 1 p)) (q_tS β L (q_ne β L 2 p))) (q_nf β L (q_ne β L 2 p) 0 8) (q_tS β L (q_ne β L 2 p))) (q_sf β L (q_ne β L 3 p)) (q_tS β L (q_ne β L 3 p))
noncomputable def q_aS (β : Nat → Int32) (L : Nat) (τ : Nat → Int32) (p : Nat) : Nat × Nat := q_an (q_an (q_an (q_an (q_an (q_an (q_an (0, 0) (if τ 6 = 8 then 3 else 0) (q_tS β L p)) (if q_srt β L (q_ne β L 1 p) = 5 then 1 else 0) (q_tS β L (q_ne β L 1 p))) (q_nf β L (q_ne β L 2 p) 0 8) (q_tS β L (q_ne β L 2 p))) (q_fs β L τ (q_ne β L 2 p)) (q_tS β L (q_ne β L 3 p))) (q_nf β L (q_ne β L 3 p) 0 8) (q_tS β L (q_ne β L 3 p))) (q_nf β L (q_ne β L 4 p) 0 99) (q_tS β L (q_ne β L 4 p))) (q_sf β L (q_ne β L 5 p)) (q_tS β L (q_ne β L 5 p))
noncomputable def q_tsh (β : Nat → Int32) (L : Nat) (τ : Nat → Int32) (p : Nat) : Nat → Int32 := q_push τ (τ 6).toNatClampNeg (q_kos (nI (q_srt β L (q_ne β L 1 p)))) (nI (q_cc β L (q_ne β L 2 p))) (q_tV β L (q_ne β L 4 p))
/-- all walls and shops from p on -/
noncomputable def q_ps (β : Nat → Int32) (L : Nat) : Nat → Nat → (Nat → Int32) → (Nat × Nat) × (Nat → Int32)
  | 0, p, τ => ((1, q_tS β L p), τ)
  | g + 1, p, τ => if q_tK β L p = 0 then ((0, 0), τ) else if q_wf β L p 21 = 0 ∧ τ 6 = 0 then (if (q_aW β L τ p).1 = 0 then q_ps β L g (q_ne β L 4 p) (q_tw τ (q_cc β L (q_ne β L 1 p))) else (q_aW β L τ p, τ)) else if q_wf β L p 22 = 0 then (if (q_aS β L τ p).1 = 0 then q_ps β L g (q_ne β L 6 p) (q_tsh β L τ p) else (q_aS β L τ p, τ)) else ((1, q_tS β L p), τ)
/-- the whole text -/
noncomputable def q_all1 (β : Nat → Int32) (L : Nat) : (Nat × Nat) × (Nat → Int32) := if (q_aT β L 0).1 = 0 then q_ps β L 29 (q_ne β L 5 0) (q_t1 (q_cc β L (q_ne β L 1 0)) (q_tV β L (q_ne β L 3 0))) else (q_aT β L 0, fun _ => 0)
/-- what holds of a town that is being read -/
def q_in (τ : Nat → Int32) (g : Nat) : Prop := WT τ ∧ τ 4 ≠ 0 ∧ ∃ w n, w ≤ 20 ∧ n ≤ 8 ∧ τ 5 = nI w ∧ τ 6 = nI n ∧ w + n + g = 29
theorem q_an0 {f s : Nat} : q_an (0, 0) f s = (f, s) := rfl
theorem q_aT_0 {β : Nat → Int32} {L p : Nat} (h : (q_aT β L p).1 = 0) : q_wf β L p 20 = 0 ∧ q_nf β L (q_ne β L 1 p) 0 8 = 0 ∧ q_nf β L (q_ne β L 2 p) 0 8 = 0 ∧ q_nf β L (q_ne β L 3 p) 1 8 = 0 ∧ q_sf β L (q_ne β L 4 p) = 0 := by
  unfold q_aT at h
  obtain ⟨h, h5⟩ := q_an_z h
  obtain ⟨h, h4⟩ := q_an_z h
  obtain ⟨h, h3⟩ := q_an_z h
  obtain ⟨h, h2⟩ := q_an_z h
  obtain ⟨h, h1⟩ := q_an_z h
  exact ⟨h1, h2, h3, h4, h5⟩
theorem q_aW_0 {β : Nat → Int32} {L p : Nat} {τ : Nat → Int32} (h : (q_aW β L τ p).1 = 0) : τ 5 ≠ 20 ∧ q_nf β L (q_ne β L 1 p) 0 8 = 0 ∧ q_fw β L τ (q_ne β L 1 p) = 0 ∧ q_nf β L (q_ne β L 2 p) 0 8 = 0 ∧ q_sf β L (q_ne β L 3 p) = 0 := by
  unfold q_aW at h
  obtain ⟨h, h5⟩ := q_an_z h
  obtain ⟨h, h4⟩ := q_an_z h
  obtain ⟨h, h3⟩ := q_an_z h
  obtain ⟨h, h2⟩ := q_an_z h
  obtain ⟨h, h1⟩ := q_an_z h
  exact ⟨fun q => (by rw [if_pos q] at h1; cases h1), h2, h3, h4, h5⟩
theorem q_aS_0 {β : Nat → Int32} {L p : Nat} {τ : Nat → Int32} (h : (q_aS β L τ p).1 = 0) : τ 6 ≠ 8 ∧ q_srt β L (q_ne β L 1 p) ≠ 5 ∧ q_nf β L (q_ne β L 2 p) 0 8 = 0 ∧ q_fs β L τ (q_ne β L 2 p) = 0 ∧ q_nf β L (q_ne β L 3 p) 0 8 = 0 ∧ q_nf β L (q_ne β L 4 p) 0 99 = 0 ∧ q_sf β L (q_ne β L 5 p) = 0 := by
  unfold q_aS at h
  obtain ⟨h, h7⟩ := q_an_z h
  obtain ⟨h, h6⟩ := q_an_z h
  obtain ⟨h, h5⟩ := q_an_z h
  obtain ⟨h, h4⟩ := q_an_z h
  obtain ⟨h, h3⟩ := q_an_z h
  obtain ⟨h, h2⟩ := q_an_z h
  obtain ⟨h, h1⟩ := q_an_z h
  exact ⟨fun q => (by rw [if_pos q] at h1; cases h1), fun q => (by rw [if_pos q] at h2; cases h2), h3, h4, h5, h6, h7⟩
theorem q_srt_l {β : Nat → Int32} {L p : Nat} : q_srt β L p ≤ 5 := by
  unfold q_srt
  repeat' split
  all_goals omega
/-- two numbers of 0 to 8 tell a cell -/
theorem q_cc_l {β : Nat → Int32} {L p : Nat} (h1 : q_nf β L p 0 8 = 0) (h2 : q_nf β L (q_tE β L p) 0 8 = 0) : ∃ x y, x < 9 ∧ y < 9 ∧ q_tV β L p = nI x ∧ q_tV β L (q_tE β L p) = nI y ∧ q_cc β L p = x + 9 * y := by
  obtain ⟨x, x1, x2, ex⟩ := q_nf_0 h1 (by omega)
  obtain ⟨y, y1, y2, ey⟩ := q_nf_0 h2 (by omega)
  refine ⟨x, y, by omega, by omega, ex, ey, ?_⟩
  unfold q_cc
  rw [ex, ey, q_cl (by omega), q_cl (by omega)]
theorem q_in.t1 {β : Nat → Int32} {L p : Nat} (h : (q_aT β L p).1 = 0) : q_in (q_t1 (q_cc β L (q_ne β L 1 p)) (q_tV β L (q_ne β L 3 p))) 29 := by
  obtain ⟨h1, h2, h3, h4, h5⟩ := q_aT_0 h
  obtain ⟨x, y, hx, hy, ex, ey, ec⟩ := q_cc_l h2 h3
  obtain ⟨r, r1, r2, er⟩ := q_nf_0 h4 (by omega)
  rw [ec, er]
  obtain ⟨e0, e1, e4, e7⟩ := q_t1_0 (c := x + 9 * y) (r := nI r)
  refine ⟨WT.t1 (by omega) r2, by rw [e4]; decide, 0, 0, by omega, by omega, q_t1_n (by omega) (by omega) (by omega) (by omega), q_t1_n (by omega) (by omega) (by omega) (by omega), by omega⟩
theorem q_in.wall {β : Nat → Int32} {L p g : Nat} {τ : Nat → Int32} (i : q_in τ (g + 1)) (h6 : τ 6 = 0) (h : (q_aW β L τ p).1 = 0) : q_in (q_tw τ (q_cc β L (q_ne β L 1 p))) g := by
  obtain ⟨h1, h2, h3, h4, h5⟩ := q_aW_0 h
  obtain ⟨x, y, hx, hy, ex, ey, ec⟩ := q_cc_l h2 h4
  obtain ⟨w, f4, k, n, k1, n1, e5, e6, s⟩ := i
  have n0 : n = 0 := (nI_eq (b := 0) (by omega) (by omega)).mp (e6.symm.trans h6)
  subst n0
  have kn : k ≠ 20 := fun z => h1 (by rw [e5, z]; rfl)
  unfold q_fw at h3
  have nt : τ 0 ≠ nI (q_cc β L (q_ne β L 1 p)) := fun z => by
    rw [if_pos ⟨h4, z⟩] at h3
    cases h3
  rw [ec] at nt ⊢
  refine ⟨w.wall (by omega) h6 f4 nt, by rw [q_tw_n (by omega) (by omega)]; exact f4, k + 1, 0, by omega, by omega, ?_, by rw [q_tw_n (by omega) (by omega)]; exact e6, by omega⟩
  rw [q_tw_c.2, e5, nI_1]
theorem q_srt_k {β : Nat → Int32} {L p : Nat} (h : q_srt β L p ≠ 5) : q_srt β L p < 5 := by
  have := q_srt_l (β := β) (L := L) (p := p)
  omega
theorem q_in.shop {β : Nat → Int32} {L p g : Nat} {τ : Nat → Int32} (i : q_in τ (g + 1)) (h : (q_aS β L τ p).1 = 0) : q_in (q_tsh β L τ p) g := by
  obtain ⟨h1, h2, h3, h4, h5, h6, h7⟩ := q_aS_0 h
  obtain ⟨x, y, hx, hy, ex, ey, ec⟩ := q_cc_l h3 h5
  obtain ⟨r, r1, r2, er⟩ := q_nf_0 h6 (by omega)
  obtain ⟨w, f4, k, n, k1, n1, e5, e6, s⟩ := i
  obtain ⟨⟨j, j1, j2, ej⟩, -⟩ := q_kos_c (q_srt β L (q_ne β L 1 p)) (q_srt_k h2)
  have nn : n ≠ 8 := fun z => h1 (by rw [e6, z]; rfl)
  unfold q_fs at h4
  have nf : q_free τ (q_cc β L (q_ne β L 2 p)) = true := Classical.byContradiction (fun z => by
    rw [if_pos ⟨h5, z⟩] at h4
    cases h4)
  unfold q_tsh
  rw [ec] at nf ⊢
  rw [e6, q_cl (by omega), ej, er]
  refine ⟨w.push (by omega) e6 ⟨j2, j1⟩ (by omega) (by omega) ((q_free_iff n1 e6).mp nf) f4, by rw [q_push_n (by omega) (by omega) (by omega) (by omega)]; exact f4, k, n + 1, k1, by omega, by rw [q_push_n (by omega) (by omega) (by omega) (by omega)]; exact e5, q_push_6, by omega⟩
theorem q_ps_in {β : Nat → Int32} {L : Nat} : ∀ {g p : Nat} {τ : Nat → Int32}, q_in τ g → (q_ps β L g p τ).1.1 = 0 → WT (q_ps β L g p τ).2 ∧ (q_ps β L g p τ).2 4 ≠ 0
  | 0, p, τ, i, h => absurd h (by unfold q_ps; exact Nat.one_ne_zero)
  | g + 1, p, τ, i, h => by
    unfold q_ps at h ⊢
    by_cases k : q_tK β L p = 0
    · rw [if_pos k]; exact ⟨i.1, i.2.1⟩
    · rw [if_neg k] at h ⊢
      by_cases k2 : q_wf β L p 21 = 0 ∧ τ 6 = 0
      · rw [if_pos k2] at h ⊢
        by_cases k3 : (q_aW β L τ p).1 = 0
        · rw [if_pos k3] at h ⊢
          exact q_ps_in (i.wall k2.2 k3) h
        · rw [if_neg k3] at h
          exact absurd h k3
      · rw [if_neg k2] at h ⊢
        by_cases k3 : q_wf β L p 22 = 0
        · rw [if_pos k3] at h ⊢
          by_cases k4 : (q_aS β L τ p).1 = 0
          · rw [if_pos k4] at h ⊢
            exact q_ps_in (i.shop k4) h
          · rw [if_neg k4] at h
            exact absurd h k4
        · rw [if_neg k3] at h
          exact absurd h (by dsimp only; omega)
theorem q_all1_in {β : Nat → Int32} {L : Nat} (h : (q_all1 β L).1.1 = 0) : WT (q_all1 β L).2 ∧ (q_all1 β L).2 4 ≠ 0 := by
  unfold q_all1 at h ⊢
  by_cases k : (q_aT β L 0).1 = 0
  · rw [if_pos k] at h ⊢
    exact q_ps_in (q_in.t1 k) h
  · rw [if_neg k] at h
    exact absurd h k
