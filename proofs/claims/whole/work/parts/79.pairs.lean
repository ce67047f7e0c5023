/-! pairs: longest -/
def q_lf (τ : Nat → Int32) (kd : Int32) (c t : Nat) : Bool := q_open kd (q_dark τ (q_te t τ) (q_tn τ) c) t && !q_cl1 τ t
def q_H (τ : Nat → Int32) (kd : Int32) (c : Nat) : Nat := q_ct (q_lf τ kd c) 73
def q_best (τ : Nat → Int32) (kd : Int32) : Nat → Option Nat
  | 0 => none
  | c + 1 => if q_free τ c = true then match q_best τ kd c with
      | none => some c
      | some b => if q_H τ kd b < q_H τ kd c then some c else some b
    else q_best τ kd c
def q_bv : Option Nat → Int32
  | none => -1000000
  | some b => nI b
def q_bmo (τ : Nat → Int32) (kd : Int32) : Option Nat → Int32
  | none => -1
  | some b => nI (q_H τ kd b)
theorem q_best_l {τ : Nat → Int32} {kd : Int32} : ∀ {c b : Nat}, q_best τ kd c = some b → b < c
  | 0, b, h => by cases h
  | c + 1, b, h => by
    unfold q_best at h
    by_cases q : q_free τ c = true
    · rw [if_pos q] at h
      cases e : q_best τ kd c with
      | none =>
        rw [e] at h
        dsimp only at h
        cases h; omega
      | some b' =>
        have := q_best_l e
        rw [e] at h
        dsimp only at h
        by_cases l : q_H τ kd b' < q_H τ kd c
        · rw [if_pos l] at h; cases h; omega
        · rw [if_neg l] at h; cases h; omega
    · rw [if_neg q] at h
      have := q_best_l h
      omega
theorem q_bv0 {τ : Nat → Int32} {kd : Int32} : q_bv (q_best τ kd 0) = -1000000 := rfl
theorem q_bmo0 {τ : Nat → Int32} {kd : Int32} : q_bmo τ kd (q_best τ kd 0) = -1 := rfl
theorem q_bg {τ : Nat → Int32} {kd : Int32} {P : Int32 → Int32 → Prop} (h : P (q_bv (q_best τ kd 0)) (q_bmo τ kd (q_best τ kd 0))) : P (-1000000) (-1) := h
theorem q_bg2 {τ : Nat → Int32} {kd : Int32} {P : Int32 → Prop} (h : P (q_bv (q_best τ kd 0))) : P (-1000000) := h
/-- hours row: t slots are told, and of the next one the first c cells -/
def q_hrs (s : g_S) (a : Nat) (τ : Nat → Int32) (kd : Int32) (t c : Nat) : Prop := ∀ j, j < 81 → s a j = nI (q_ct (q_lf τ kd j) (if j < c then t + 1 else t))
theorem q_hrs.step {s : g_S} {a : Nat} {τ : Nat → Int32} {kd : Int32} {t c : Nat} {v : Int32} (h : q_hrs s a τ kd t c) (hc : c < 81) (hv : v = nI (q_ct (q_lf τ kd c) t) + q_b (q_lf τ kd c t)) : q_hrs (g_up s a c v) a τ kd t (c + 1) := fun j hj => by
  by_cases e : j = c
  · subst e
    rw [g_up_s, hv, if_pos (by omega), show q_ct (q_lf τ kd j) (t + 1) = q_ct (q_lf τ kd j) t + (if q_lf τ kd j t = true then 1 else 0) from rfl]
    cases q_lf τ kd j t
    · rw [if_neg (by decide), q_b0, Int32.add_zero]; rfl
    · rw [if_pos rfl, q_b1, nI_1]
  · rw [g_up_n (by omega), h j hj]
    by_cases l : j < c
    · rw [if_pos l, if_pos (by omega)]
    · rw [if_neg l, if_neg (by omega)]
theorem q_hrs.next {s : g_S} {a : Nat} {τ : Nat → Int32} {kd : Int32} {t : Nat} (h : q_hrs s a τ kd t 81) : q_hrs s a τ kd (t + 1) 0 := fun j hj => by
  rw [h j hj, if_pos hj, if_neg (by omega)]
theorem q_hrs.skip {s : g_S} {a : Nat} {τ : Nat → Int32} {kd : Int32} {t : Nat} (h : q_hrs s a τ kd t 0) (hc : q_cl1 τ t = true) : q_hrs s a τ kd (t + 1) 0 := fun j hj => by
  rw [h j hj, if_neg (by omega), if_neg (by omega), show q_ct (q_lf τ kd j) (t + 1) = q_ct (q_lf τ kd j) t + (if q_lf τ kd j t = true then 1 else 0) from rfl]
  have e : q_lf τ kd j t = false := by
    unfold q_lf
    rw [hc, Bool.not_true, Bool.and_false]
  rw [e, if_neg (by decide), Nat.add_zero]
theorem q_hrs.at' {s : g_S} {a : Nat} {τ : Nat → Int32} {kd : Int32} {t c : Nat} (h : q_hrs s a τ kd t c) (hc : c < 81) : s a c = nI (q_ct (q_lf τ kd c) t) := by
  rw [h c hc, if_neg (by omega)]
theorem q_hrs.fin {s : g_S} {a : Nat} {τ : Nat → Int32} {kd : Int32} {c : Nat} (h : q_hrs s a τ kd 73 0) (hc : c < 81) : s a c = nI (q_H τ kd c) := by
  unfold q_H
  have z := h c hc
  rw [if_neg (by omega)] at z
  exact z
section Q79
variable {E : g_E} {d : Nat} {R : g_R} {σ : g_S} {τ : Nat → Int32}
theorem c_hrs_in {b i t : Nat} (hb : g_Tw b) (hi : 1 ≤ i ∧ i ≤ 5) (ht : t < 73) (hcl : q_cl1 τ t = false) (h : ∀ s, (∀ a, a ≠ 44 → s a = σ a) → q_hrs s 44 τ (nI i) t 81 → g_g E (g_wp E (d + 2)) 11 10 [some (.ref 41), some (.ref b), some (.int (q_sort (nI i))), some (.int (nI (t + 1))), none] [] s R) (s0 : q_shd σ τ (q_te t τ) (q_tn τ)) : ∀ w c s, c + w = 81 → (∀ a, a ≠ 44 → s a = σ a) → q_hrs s 44 τ (nI i) t c → g_g E (g_wp E (d + 2)) 11 38 [some (.ref 41), some (.ref b), some (.int (q_sort (nI i))), some (.int (nI t)), some (.int (nI c))] [] s R := by
  intro w
  induction w with
  | zero =>
    intro c s hc hs hh
    have e : c = 81 := by omega
    subst e
    refine t11_38 hb ⟨fun _ => ?_, fun q => absurd (nI_le (a := 81) (b := 81) (by omega) (by omega)) q⟩
    rw [nI_1]
    exact h s hs hh
  | succ w ih =>
    intro c s hc hs hh
    have sh : q_shd s τ (q_te t τ) (q_tn τ) := by
      unfold q_shd at s0 ⊢
      rw [hs 41 (by omega), hs 42 (by omega)]
      exact s0
    refine t11_38 hb ⟨fun q => absurd q (nI_ge (b := 81) (by omega) (by omega)), fun _ => ⟨vp_in_nI (by omega) (by omega), c_isOpen hi ht (by omega) sh ⟨_, rfl, ?_⟩⟩⟩
    have e : q_lf τ (nI i) c t = q_open (nI i) (q_dark τ (q_te t τ) (q_tn τ) c) t := by
      unfold q_lf
      rw [hcl, Bool.not_false, Bool.and_true]
    have a' := hh.at' (show c < 81 by omega)
    rw [nI_1, q_cl (by omega), a', ← e]
    refine ⟨fun q => ⟨vp_in_nI (by omega) (by omega), fun s1 es => ?_⟩, fun q => ⟨vp_in_nI (by omega) (by omega), fun s1 es => ?_⟩⟩
    · subst es
      have q' : q_lf τ (nI i) c t = false := by
        cases y : q_lf τ (nI i) c t
        · rfl
        · rw [y] at q; exact absurd q (by decide)
      exact ih (c + 1) _ (by omega) (fun a ha => (g_up_ne ha).trans (hs a ha)) (hh.step (by omega) (by rw [q', q_b0]))
    · subst es
      have q' : q_lf τ (nI i) c t = true := by
        cases y : q_lf τ (nI i) c t
        · rw [y] at q; exact absurd rfl q
        · rfl
      exact ih (c + 1) _ (by omega) (fun a ha => (g_up_ne ha).trans (hs a ha)) (hh.step (by omega) (by rw [q', q_b1]))
theorem c_hrs_out {b i : Nat} (hb : g_Tw b) (hi : 1 ≤ i ∧ i ≤ 5) (w0 : TR σ b τ) (f : WT τ) (h : ∀ s, (∀ a, a ≠ 41 → a ≠ 42 → a ≠ 44 → s a = σ a) → q_hrs s 44 τ (nI i) 73 0 → R none s) : ∀ w t s, t + w = 73 → (∀ a, a ≠ 41 → a ≠ 42 → a ≠ 44 → s a = σ a) → q_hrs s 44 τ (nI i) t 0 → g_g E (g_wp E (d + 2)) 11 10 [some (.ref 41), some (.ref b), some (.int (q_sort (nI i))), some (.int (nI t)), none] [] s R := by
  have hb' := hb.rg
  obtain ⟨hx, hy, -⟩ := q_xy f
  intro w
  induction w with
  | zero =>
    intro t s ht hs hh
    have e : t = 73 := by omega
    subst e
    exact t11_10 hb ⟨fun _ => h s hs hh, fun q => absurd (nI_le (a := 73) (b := 73) (by omega) (by omega)) q⟩
  | succ w ih =>
    intro t s ht hs hh
    have tr : TR s b τ := w0.low (fun a q1 q2 => hs a (by omega) (by omega) (by omega))
    refine t11_10 hb ⟨fun q => absurd q (nI_ge (b := 73) (by omega) (by omega)), fun _ => ⟨vp_in_nI (by omega) (by omega), ?_⟩⟩
    rw [q_cl (by omega), tr.2.2.2.2.2.2.2.2.2.1 t (by omega), nI_1]
    refine ⟨fun q => c_throw hb tr f (by omega) ⟨rfl, ?_⟩, fun q => ?_⟩
    · refine c_hrs_in (d := d) (σ := g_sh s (q_cell τ (q_te t τ) (q_tn τ) (q_m (q_te t τ) (q_tn τ))) (q_L τ (q_te t τ) (q_tn τ))) hb hi (by omega) (decide_eq_false q) (fun s2 k2 hh2 => ih (t + 1) s2 (by omega) (fun a q1 q2 q3 => (k2 a q3).trans ((g_sh_ne q1 q2).trans (hs a q1 q2 q3))) hh2.next) ⟨⟨hx, hy, q_rg_t f (by omega)⟩, g_sh_41, fun j hj => g_sh_42 hj⟩ 81 0 _ (by omega) (fun _ _ => rfl) (fun j hj => ?_)
      rw [g_sh_ne (by omega) (by omega)]
      exact hh j hj
    · exact ih (t + 1) s (by omega) hs (hh.skip (decide_eq_true (Classical.not_not.mp q)))
theorem c_best_l {O : g_O} {b : Nat} {kd : Int32} {N : Nat} (hO : ∀ (M : Nat) (as : List Value) (s : g_S) (Q : g_R), g_wp E (d + 1) M as s Q → O M as s Q) (hb : g_Tw b) (w0 : TR σ b τ) (f : WT τ) (hN : N ≤ 8) (e6 : τ 6 = nI N) (hh : q_hrs σ 44 τ kd 73 0) (h : R (some (.int (q_bv (q_best τ kd 81)))) σ) : ∀ w c, c + w = 81 → g_g E O 10 15 [some (.ref 41), some (.ref b), none, some (.int (q_bv (q_best τ kd c))), some (.int (q_bmo τ kd (q_best τ kd c))), some (.int (nI c))] [] σ R := by
  intro w
  induction w with
  | zero =>
    intro c hc
    have e : c = 81 := by omega
    subst e
    exact t10_15 hb ⟨fun _ => h, fun q => absurd (nI_le (a := 81) (b := 81) (by omega) (by omega)) q⟩
  | succ w ih =>
    intro c hc
    have z := ih (c + 1) (by omega)
    have fr := q_gr_free f (show c < 81 by omega) hN e6 (w0.2.2.2.2.2.2.2.2.1 c (by omega))
    refine t10_15 hb ⟨fun q => absurd q (nI_ge (b := 81) (by omega) (by omega)), fun _ => hO _ _ _ _ (t52_0 hb ⟨vp_in_nI (by omega) (by omega), ?_⟩)⟩
    have eH : σ 44 c = nI (q_H τ kd c) := hh.fin (by omega)
    have hH : ∀ j, q_H τ kd j ≤ 73 := fun j => q_ct_le
    unfold q_best at z
    rw [q_cl (by omega)]
    refine ⟨fun q => ⟨_, rfl, fun _ => ?_, fun y => absurd rfl y⟩, fun q => ⟨_, rfl, fun y => absurd y (by decide), fun _ => ⟨vp_in_nI (by omega) (by omega), ?_⟩⟩⟩
    · rw [if_neg (fun y => q (fr.mpr y))] at z
      rw [nI_1]; exact z
    · rw [if_pos (fr.mp (Classical.not_not.mp q))] at z
      rw [eH, nI_1]
      cases e : q_best τ kd c with
      | none =>
        rw [e] at z
        dsimp only at z
        have m1 : ¬ nI (q_H τ kd c) ≤ q_bmo τ kd none := by
          have := hH c
          unfold q_bmo
          rw [q_le, nI_toInt (by omega), show ((-1 : Int32)).toInt = (-1 : Int) from by decide]
          omega
        exact ⟨fun y => absurd y m1, fun _ => ⟨vp_in_nI (by omega) (by omega), z⟩⟩
      | some b' =>
        rw [e] at z
        dsimp only at z
        have h1 := hH c
        have h2 := hH b'
        have m1 : nI (q_H τ kd c) ≤ q_bmo τ kd (some b') ↔ q_H τ kd c ≤ q_H τ kd b' := nI_leI (by omega) (by omega)
        rw [m1]
        refine ⟨fun y => ?_, fun y => ⟨vp_in_nI (by omega) (by omega), ?_⟩⟩
        · rw [if_neg (by omega)] at z; exact z
        · rw [if_pos (by omega)] at z; exact z
theorem c_bestCell {b i : Nat} (hb : g_Tw b) (hi : 1 ≤ i ∧ i ≤ 5) (w0 : TR σ b τ) (f : WT τ) (h : ∀ s, (∀ a, a ≠ 41 → a ≠ 42 → a ≠ 44 → s a = σ a) → q_hrs s 44 τ (nI i) 73 0 → R (some (.int (q_bv (q_best τ (nI i) 81)))) s) : g_wp E (d + 4) 10 [.ref 41, .ref b, .int (q_sort (nI i))] σ R := by
  have hb' := hb.rg
  obtain ⟨N, n1, n2, -⟩ := id f.2.2.2.2.2.1
  refine t10_0 hb (t11_0 hb (c_fill (n := 81) rfl rfl (by omega) ⟨rfl, ?_⟩))
  refine c_hrs_out (d := d) (σ := g_fl σ 44 81 0) hb hi (w0.low (fun a q1 q2 => g_fl_ne (by omega))) f (fun s k hh => ⟨rfl, ?main⟩) 73 0 _ (by omega) (fun _ _ _ _ => rfl) (fun j hj => ?zero)
  case main =>
    have fr : ∀ a, a ≠ 41 → a ≠ 42 → a ≠ 44 → s a = σ a := fun a q1 q2 q3 => (k a q1 q2 q3).trans (g_fl_ne q3)
    exact q_bg (P := fun u v => g_g E (g_wp E (d + 3)) 10 15 [some (.ref 41), some (.ref b), none, some (.int u), some (.int v), some (.int 0)] [] s R) (c_best_l (d := d + 2) (fun _ _ _ _ y => y) hb (w0.low (fun a q1 q2 => fr a (by omega) (by omega) (by omega))) f n1 n2 hh (h s fr hh) 81 0 (by omega))
  case zero =>
    rw [g_fl_in hj, if_neg (by omega)]
    rfl
theorem m_hrs_in {i t : Nat} {x x2 : Int32} (f : WT τ) (ek : q_kos x = nI i) (hi : 1 ≤ i ∧ i ≤ 5) (et : σ 72 = τ) (ht : t < 73) (h : ∀ s, (∀ a, a ≠ 80 → s a = σ a) → q_hrs s 80 τ (nI i) t 81 → g_g E (g_wp E (d + 2)) 169 63 [some (.ref 68), some (.int x), some (.int x2), some (.int (nI (t + 1))), none] [] s R) (s0 : q_lad σ τ (q_te t τ) (q_tn τ)) : ∀ w c s, c + w = 81 → (∀ a, a ≠ 80 → s a = σ a) → q_hrs s 80 τ (nI i) t c → g_g E (g_wp E (d + 2)) 169 77 [some (.ref 68), some (.int x), some (.int x2), some (.int (nI t)), some (.int (nI c))] [] s R := by
  intro w
  induction w with
  | zero =>
    intro c s hc hs hh
    have e : c = 81 := by omega
    subst e
    refine t169_77 ⟨fun _ => ?_, fun q => absurd (nI_le (a := 81) (b := 81) (by omega) (by omega)) q⟩
    rw [nI_1]
    exact h s hs hh
  | succ w ih =>
    intro c s hc hs hh
    have s72 : s 72 = τ := (hs 72 (by omega)).trans et
    have sl : q_lad s τ (q_te t τ) (q_tn τ) := by
      unfold q_lad at s0 ⊢
      rw [hs 75 (by omega)]
      exact s0
    have e112 : (112 : Int32) + nI t = nI (112 + t) := nI_add 112 t
    have a' := hh.at' (show c < 81 by omega)
    refine t169_77 ⟨fun q => absurd q (nI_ge (b := 81) (by omega) (by omega)), fun _ => ⟨vp_in_nI (by omega) (by omega), by rw [e112]; exact vp_in_nI (by omega) (by omega), ?_⟩⟩
    rw [e112, q_cl (by omega), q_cl (by omega), s72, nI_1, a']
    refine ⟨fun q => ⟨vp_in_nI (by omega) (by omega), fun s1 es => ?_⟩, fun q => m_kos ⟨_, rfl, ?_⟩⟩
    · subst es
      have cl : q_cl1 τ t = true := by
        unfold q_cl1
        rcases f.2.2.2.2.2.2.2.1 t ht with y | y
        · exact absurd y q
        · rw [y]; rfl
      have q' : q_lf τ (nI i) c t = false := by
        unfold q_lf
        rw [cl, Bool.not_true, Bool.and_false]
      exact ih (c + 1) _ (by omega) (fun a ha => (g_up_ne ha).trans (hs a ha)) (hh.step (by omega) (by rw [q', q_b0]))
    · rw [ek]
      refine m_isOpen hi ht (by omega) sl ⟨_, rfl, ?_⟩
      have cl : q_cl1 τ t = false := by
        unfold q_cl1
        rw [Classical.not_not.mp q]; rfl
      have e : q_lf τ (nI i) c t = q_open (nI i) (q_dark τ (q_te t τ) (q_tn τ) c) t := by
        unfold q_lf
        rw [cl, Bool.not_false, Bool.and_true]
      rw [← e]
      refine ⟨fun q => ⟨vp_in_nI (by omega) (by omega), fun s1 es => ?_⟩, fun q => ⟨vp_in_nI (by omega) (by omega), fun s1 es => ?_⟩⟩
      · subst es
        have q' : q_lf τ (nI i) c t = false := by
          cases y : q_lf τ (nI i) c t
          · rfl
          · rw [y] at q; exact absurd q (by decide)
        exact ih (c + 1) _ (by omega) (fun a ha => (g_up_ne ha).trans (hs a ha)) (hh.step (by omega) (by rw [q', q_b0]))
      · subst es
        have q' : q_lf τ (nI i) c t = true := by
          cases y : q_lf τ (nI i) c t
          · rw [y] at q; exact absurd rfl q
          · rfl
        exact ih (c + 1) _ (by omega) (fun a ha => (g_up_ne ha).trans (hs a ha)) (hh.step (by omega) (by rw [q', q_b1]))
theorem m_hrs_out {i : Nat} {x x2 : Int32} (f : WT τ) (ek : q_kos x = nI i) (hi : 1 ≤ i ∧ i ≤ 5) (et : σ 72 = τ) (h : ∀ s, (∀ a, a ≠ 75 → a ≠ 80 → s a = σ a) → q_hrs s 80 τ (nI i) 73 0 → g_g E (g_wp E (d + 3)) 169 143 [some (.ref 68), none, some (.int x2), some (.int (-1000000)), some (.int 0)] [] s R) : ∀ w t s, t + w = 73 → (∀ a, a ≠ 75 → a ≠ 80 → s a = σ a) → q_hrs s 80 τ (nI i) t 0 → g_g E (g_wp E (d + 3)) 169 63 [some (.ref 68), some (.int x), some (.int x2), some (.int (nI t)), none] [] s R := by
  intro w
  induction w with
  | zero =>
    intro t s ht hs hh
    have e : t = 73 := by omega
    subst e
    exact t169_63 ⟨fun _ => h s hs hh, fun q => absurd (nI_lt (a := 72) (b := 73) (by omega) (by omega)) q⟩
  | succ w ih =>
    intro t s ht hs hh
    have s72 : s 72 = τ := (hs 72 (by omega) (by omega)).trans et
    refine t169_63 ⟨fun q => absurd q (nI_nlt (a := 72) (b := t) (by omega) (by omega)), fun _ => m_layNow s72 f (by omega) ⟨rfl, ?_⟩⟩
    refine m_hrs_in (d := d + 1) (σ := g_dk s (q_cell τ (q_te t τ) (q_tn τ) (q_m (q_te t τ) (q_tn τ))) (q_L τ (q_te t τ) (q_tn τ))) f ek hi ((g_dk_ne (by omega)).trans s72) (by omega) (fun s2 k2 hh2 => ih (t + 1) s2 (by omega) (fun a q1 q2 => (k2 a q2).trans ((g_dk_ne q1).trans (hs a q1 q2))) hh2.next) q_lad_dk 81 0 _ (by omega) (fun _ _ => rfl) (fun j hj => ?_)
    rw [g_dk_ne (by omega)]
    exact hh j hj
theorem m_zero_l {O : g_O} {x1 x2 : Int32} (h : g_g E O 169 63 [some (.ref 68), some (.int x1), some (.int x2), some (.int 0), none] [] (g_fz σ 80 0 81 0) R) : ∀ w i, i + w = 81 → g_g E O 169 42 [some (.ref 68), some (.int x1), some (.int x2), some (.int (nI i)), none] [] (g_fz σ 80 0 i 0) R := by
  intro w
  induction w with
  | zero =>
    intro i hi
    have e : i = 81 := by omega
    subst e
    exact t169_42 ⟨fun _ => h, fun q => absurd (nI_le (a := 81) (b := 81) (by omega) (by omega)) q⟩
  | succ w ih =>
    intro i hi
    refine t169_42 ⟨fun q => absurd q (nI_ge (b := 81) (by omega) (by omega)), fun _ => ⟨vp_in_nI (by omega) (by omega), fun s es => ?_⟩⟩
    have := g_fz_s (σ := σ) (a := 80) (o := 0) (i := i) (v := 0)
    rw [Nat.zero_add] at this
    rw [q_cl (by omega), this] at es
    rw [es, nI_1]
    exact ih (i + 1) (by omega)
/-- what is answered of the best cell -/
def q_ba (τ : Nat → Int32) (kd w : Int32) : Int32 := match q_best τ kd 81 with
  | none => -1000000
  | some b => if w = 0 then nI b else nI (q_H τ kd b)
theorem m_best_l {kd x2 : Int32} {N : Nat} (et : σ 72 = τ) (hN : N ≤ 8) (e6 : τ 6 = nI N) (hh : q_hrs σ 80 τ kd 73 0) (h : R (some (.int (q_ba τ kd x2))) σ) : ∀ w c, c + w = 81 → g_g E (g_wp E (d + 1)) 169 143 [some (.ref 68), none, some (.int x2), some (.int (q_bv (q_best τ kd c))), some (.int (nI c))] [] σ R := by
  have nn : ∀ b, b < 81 → ¬ nI b = -1000000 := fun b hb z => by
    have := congrArg Int32.toInt z
    rw [nI_toInt (by omega), show ((-1000000 : Int32)).toInt = (-1000000 : Int) from by decide] at this
    omega
  intro w
  induction w with
  | zero =>
    intro c hc
    have e : c = 81 := by omega
    subst e
    unfold q_ba at h
    refine t169_143 ⟨fun _ => ?_, fun q => absurd (nI_le (a := 81) (b := 81) (by omega) (by omega)) q⟩
    cases e : q_best τ kd 81 with
    | none =>
      rw [e] at h
      exact ⟨fun _ => h, fun q => absurd rfl q⟩
    | some b =>
      rw [e] at h
      dsimp only at h
      have hb := q_best_l e
      refine ⟨fun q => absurd q (nn b hb), fun _ => ⟨fun q => ⟨vp_in_nI hb (by omega), ?_⟩, fun q => ?_⟩⟩
      · rw [if_neg q] at h
        have : σ 80 b = nI (q_H τ kd b) := hh.fin hb
        change R (some (.int (σ 80 (nI b).toNatClampNeg))) σ
        rw [q_cl (by omega), this]; exact h
      · rw [if_pos (Classical.not_not.mp q)] at h
        exact h
  | succ w ih =>
    intro c hc
    have z := ih (c + 1) (by omega)
    have e72 : σ 72 6 = nI N := by rw [et]; exact e6
    refine t169_143 ⟨fun q => absurd q (nI_ge (b := 81) (by omega) (by omega)), fun _ => m_free rfl rfl (by omega) hN e72 (fun q => ⟨_, rfl, fun y => absurd y (by decide), fun _ => ?_⟩) (fun q => ⟨_, rfl, fun _ => ?_, fun y => absurd rfl y⟩)⟩
    · rw [et] at q
      unfold q_best at z
      rw [if_pos q] at z
      have eH : ∀ j, j < 81 → σ 80 j = nI (q_H τ kd j) := fun j hj => hh.fin hj
      have hH : ∀ j, q_H τ kd j ≤ 73 := fun j => q_ct_le
      rw [nI_1]
      cases e : q_best τ kd c with
      | none =>
        rw [e] at z
        exact ⟨fun _ => z, fun y => absurd rfl y⟩
      | some b =>
        rw [e] at z
        dsimp only at z
        have hb := q_best_l e
        refine ⟨fun y => absurd y (nn b (by omega)), fun _ => ⟨vp_in_nI (by omega) (by omega), vp_in_nI (n := b) (by omega) (by omega), ?_⟩⟩
        change (σ 80 (nI c).toNatClampNeg ≤ σ 80 (nI b).toNatClampNeg → _) ∧ (¬ σ 80 (nI c).toNatClampNeg ≤ σ 80 (nI b).toNatClampNeg → _)
        have h1 := hH c
        have h2 := hH b
        rw [q_cl (by omega), q_cl (by omega), eH c (by omega), eH b (by omega), nI_leI (by omega) (by omega)]
        refine ⟨fun y => ?_, fun y => ?_⟩
        · rw [if_neg (by omega)] at z; exact z
        · rw [if_pos (by omega)] at z; exact z
    · rw [et] at q
      unfold q_best at z
      rw [if_neg q] at z
      rw [nI_1]; exact z
end Q79
theorem Sc.d7580 {σ σ1 σ' : g_S} (h : Sc σ1 σ) (k : ∀ a, a ≠ 75 → a ≠ 80 → σ' a = σ1 a) : Sc σ' σ := fun a j q => by
  have : a ≠ 75 ∧ a ≠ 80 := by
    have q' := q
    unfold q_can at q'
    simp only [Bool.or_eq_true, Bool.and_eq_true, beq_iff_eq] at q'
    omega
  rw [k a this.1 this.2]
  exact h a j q
theorem p_longest {E : g_E} (x1 x2 : Int32) : g_pr E 88 169 [.int x1, .int x2] := by
  refine ⟨fun μ => if (μ 72 4).toInt ≤ 0 then -1000002 else if x1.toInt < 0 ∨ 4 < x1.toInt ∨ x2.toInt < 0 ∨ 1 < x2.toInt then -1000001 else q_ba (μ 72) (q_kos x1) x2, fun μ => μ, fun σ μ R hc hw h => ?_, fun σ R hw h => ?_, fun μ h => h⟩
  · have ht := q_there hc hw
    dsimp only at h
    refine t88_0 ⟨fun c => c_isSort (fun a1 a2 => ⟨_, rfl, q_1 ⟨fun c1 => ?_, fun c1 => ⟨fun c2 => ?_, fun c2 => ?_⟩⟩⟩) (fun a1 => ⟨_, rfl, q_0 ?_⟩), fun c => ?_⟩
    · rw [ht] at c
      simp only [q_lt, q_le, Int32.reduceToInt] at c1
      repeat (first | rw [if_pos (by omega)] at h | rw [if_neg (by omega)] at h)
      exact h σ hc (fun _ _ => rfl)
    · rw [ht] at c
      simp only [q_lt, q_le, Int32.reduceToInt] at c1 c2
      repeat (first | rw [if_neg (by omega)] at h)
      obtain ⟨s, hs, rfl⟩ := q_ix (x := x1) (n := 5) (by omega) (by omega) (by omega)
      obtain ⟨⟨i, i1, i2, i3⟩, es⟩ := q_kos_c s hs
      rw [i3] at es h
      rw [← es]
      refine c_bestCell (d := 15) (Or.inl rfl) ⟨i2, i1⟩ hc.tr hw.wt (fun s' k' hh => ⟨_, rfl, ?_⟩)
      have z := h s' (hc.low (fun a q1 q2 q3 q4 q5 => k' a (by omega) (by omega) (by omega))) (fun a ha => k' a (by omega) (by omega) (by omega))
      unfold q_ba at z
      cases e : q_best (μ 72) (nI i) 81 with
      | none =>
        rw [e] at z
        refine c_isCell (fun y1 y2 => ?_) (fun _ => ⟨_, rfl, n_0 z⟩)
        exact absurd (show (0 : Int) ≤ ((-1000000 : Int32)).toInt from y1) (by decide)
      | some b =>
        rw [e] at z
        dsimp only at z
        have hb := q_best_l e
        have hv : σ 0 = σ 0 := rfl
        have eH : s' 44 b = nI (q_H (μ 72) (nI i) b) := hh.fin hb
        refine c_isCell (x := nI b) (fun y1 y2 => ⟨_, rfl, n_1 ⟨fun q => ⟨vp_in_nI hb (by omega), ?_⟩, fun q => ?_⟩⟩) (fun y => ?_)
        · rw [if_neg q] at z
          change R (some (.int (s' 44 (nI b).toNatClampNeg))) s'
          rw [q_cl (by omega), eH]; exact z
        · rw [if_pos (Classical.not_not.mp q)] at z
          exact z
        · rw [nI_toInt (by omega)] at y
          omega
    · rw [ht] at c
      simp only [q_lt, q_le, Int32.reduceToInt] at c1 c2
      repeat (first | rw [if_pos (by omega)] at h | rw [if_neg (by omega)] at h)
      exact h σ hc (fun _ _ => rfl)
    · rw [ht] at c
      repeat (first | rw [if_pos (by omega)] at h | rw [if_neg (by omega)] at h)
      exact h σ hc (fun _ _ => rfl)
    · rw [ht] at c
      repeat (first | rw [if_pos (by omega)] at h | rw [if_neg (by omega)] at h)
      exact h σ hc (fun _ _ => rfl)
  · dsimp only at h
    obtain ⟨n, n1, n2, n3, n4⟩ := id hw.wt.2.2.2.2.2.1
    refine t169_0 (fun s es => m_isThere (fun h4 => ⟨_, rfl, n_1 (m_in 0 4 rfl rfl (fun a1 a2 => ⟨_, rfl, q_1 (m_in 0 1 rfl rfl (fun a3 a4 => ⟨_, rfl, n_1 ?_⟩) (fun a3 => ⟨_, rfl, n_0 ?_⟩))⟩) (fun a1 => ⟨_, rfl, q_0 ?_⟩))⟩) (fun h4 => ⟨_, rfl, n_0 ?_⟩))
    all_goals subst es
    · change 0 < (mo σ 72 4).toInt at h4
      repeat (first | rw [if_neg (by omega)] at h)
      obtain ⟨s, hs, rfl⟩ := q_ix (x := x1) (n := 5) (by omega) (by omega) (by omega)
      obtain ⟨⟨i, i1, i2, i3⟩, es⟩ := q_kos_c s hs
      rw [i3] at h
      have z := m_zero_l (E := E) (O := g_wp E 19) (σ := g_up σ 68 0 0) (R := R) (x1 := nI s) (x2 := x2) ?_ 81 0 (by omega)
      · rw [g_fz_0] at z
        exact z
      · refine m_hrs_out (d := 16) (σ := g_fz (g_up σ 68 0 0) 80 0 81 0) (τ := mo σ 72) hw.wt i3 ⟨i2, i1⟩ rfl (fun s2 k2 hh => ?main) 73 0 _ (by omega) (fun _ _ _ => rfl) (fun j hj => ?zero)
        case main =>
          have fr : ∀ a, a ≠ 75 → a ≠ 80 → s2 a = g_up σ 68 0 0 a := fun a q1 q2 => (k2 a q1 q2).trans (g_fz_ne q2)
          exact q_bg2 (P := fun u => g_g E (g_wp E 19) 169 143 [some (.ref 68), none, some (.int x2), some (.int u), some (.int 0)] [] s2 R) (m_best_l (d := 18) (fr 72 (by omega) (by omega)) n1 n2 hh (h s2 (fun a ha => (fr a (by omega) (by omega)).trans (g_up_ne (by omega))) (((Sc.rf.up rfl).d7580 fr).ce)) 81 0 (by omega))
        case zero =>
          rw [g_fz_in (by omega), if_neg (by omega)]
          rfl
    · change 0 < (mo σ 72 4).toInt at h4
      repeat (first | rw [if_pos (by omega)] at h | rw [if_neg (by omega)] at h)
      exact h _ (lo_up (fun _ _ => rfl) (by omega)) (Sc.rf.up rfl).ce
    · change 0 < (mo σ 72 4).toInt at h4
      repeat (first | rw [if_pos (by omega)] at h | rw [if_neg (by omega)] at h)
      exact h _ (lo_up (fun _ _ => rfl) (by omega)) (Sc.rf.up rfl).ce
    · change (mo σ 72 4).toInt ≤ 0 at h4
      repeat (first | rw [if_pos (by omega)] at h | rw [if_neg (by omega)] at h)
      exact h _ (lo_up (fun _ _ => rfl) (by omega)) (Sc.rf.up rfl).ce
