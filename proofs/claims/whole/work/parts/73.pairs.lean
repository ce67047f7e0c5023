/-! the shadow, purely; both throw it alike -/
def q_x (τ : Nat → Int32) : Nat := (τ 0).toNatClampNeg % 9
def q_y (τ : Nat → Int32) : Nat := (τ 0).toNatClampNeg / 9
def q_e (t : Nat) (r l : Int32) : Int32 := (nI t - 36) * r / 36 + l
def q_m (e n : Int32) : Nat := max e.toInt.natAbs n.toInt.natAbs
def q_X (τ : Nat → Int32) (e : Int32) (m k : Nat) : Int32 := nI (q_x τ) + nI k * e / nI m
def q_Y (τ : Nat → Int32) (n : Int32) (m k : Nat) : Int32 := nI (q_y τ) - nI k * n / nI m
def q_cell (τ : Nat → Int32) (e n : Int32) (m k : Nat) : Nat := if k = 0 then q_x τ + 9 * q_y τ else (q_X τ e m k).toNatClampNeg + 9 * (q_Y τ n m k).toNatClampNeg
def q_inn (τ : Nat → Int32) (e n : Int32) (m k : Nat) : Bool := decide (0 ≤ (q_X τ e m k).toInt) && decide ((q_X τ e m k).toInt ≤ 8) && decide (0 ≤ (q_Y τ n m k).toInt) && decide ((q_Y τ n m k).toInt ≤ 8)
def q_ok (τ : Nat → Int32) (e n : Int32) (m k : Nat) : Bool := q_inn τ e n m k && !decide (τ (7 + q_cell τ e n m k) = 1)
def q_run (ok : Nat → Bool) : Nat → Nat → Nat
  | 0, k => k
  | f + 1, k => if ok k = true then q_run ok f (k + 1) else k
def q_L (τ : Nat → Int32) (e n : Int32) : Nat := q_run (q_ok τ e n (q_m e n)) (q_m e n) 1
def q_mem (cell : Nat → Nat) : Nat → Nat → Bool
  | 0, _ => false
  | l + 1, c => q_mem cell l c || decide (cell l = c)
def q_dark (τ : Nat → Int32) (e n : Int32) (c : Nat) : Bool := q_mem (q_cell τ e n (q_m e n)) (q_L τ e n) c
theorem q_mem_iff {cell : Nat → Nat} {c : Nat} : ∀ {l : Nat}, q_mem cell l c = true ↔ ∃ j, j < l ∧ cell j = c
  | 0 => ⟨fun q => absurd (show false = true from q) (by decide), fun ⟨j, h, _⟩ => absurd h (Nat.not_lt_zero j)⟩
  | l + 1 => by
    unfold q_mem
    rw [Bool.or_eq_true, q_mem_iff (l := l), decide_eq_true_eq]
    constructor
    · rintro (⟨j, h1, h2⟩ | h)
      · exact ⟨j, by omega, h2⟩
      · exact ⟨l, by omega, h⟩
    · rintro ⟨j, h1, h2⟩
      by_cases e : j = l
      · subst e; exact Or.inr h2
      · exact Or.inl ⟨j, by omega, h2⟩
theorem q_run_ok {ok : Nat → Bool} : ∀ f k j, k ≤ j → j < q_run ok f k → ok j = true := by
  intro f
  induction f with
  | zero =>
    intro k j h1 h2
    unfold q_run at h2
    omega
  | succ f ih =>
    intro k j h1 h2
    unfold q_run at h2
    by_cases e : ok k = true
    · rw [if_pos e] at h2
      by_cases e2 : j = k
      · subst e2; exact e
      · exact ih (k + 1) j (by omega) h2
    · rw [if_neg e] at h2
      omega
theorem q_run_9 {ok : Nat → Bool} : ∀ f k, k ≤ 9 → (k + f ≤ 9 ∨ ok 9 = false) → q_run ok f k ≤ 9 := by
  intro f
  induction f with
  | zero =>
    intro k h _
    unfold q_run
    exact h
  | succ f ih =>
    intro k h h9
    unfold q_run
    by_cases e : ok k = true
    · rw [if_pos e]
      by_cases e2 : k = 9
      · subst e2
        rcases h9 with q | q
        · omega
        · rw [q] at e; cases e
      · exact ih (k + 1) (by omega) (h9.imp (fun q => by omega) id)
    · rw [if_neg e]; exact h
theorem q_run_k {ok : Nat → Bool} : ∀ f k, k ≤ q_run ok f k := by
  intro f
  induction f with
  | zero => intro k; exact Nat.le_refl _
  | succ f ih =>
    intro k
    unfold q_run
    by_cases e : ok k = true
    · rw [if_pos e]; have := ih (k + 1); omega
    · rw [if_neg e]; exact Nat.le_refl _
/-- what stands between the bounds -/
def q_rg (e n : Int32) : Prop := (-11 ≤ e.toInt ∧ e.toInt ≤ 11) ∧ -11 ≤ n.toInt ∧ n.toInt ≤ 11
theorem q_eb0 : ∀ t, t < 73 → ∀ r, r < 9 → -8 ≤ ((nI t - 36) * nI r / 36).toInt ∧ ((nI t - 36) * nI r / 36).toInt ≤ 8 := by decide
theorem q_lv {l : Int32} (h : -3 ≤ l ∧ l ≤ 3) : -3 ≤ l.toInt ∧ l.toInt ≤ 3 := by
  rw [q_le, q_le] at h
  rw [show ((-3 : Int32)).toInt = (-3 : Int) from by decide, show ((3 : Int32)).toInt = (3 : Int) from by decide] at h
  exact h
theorem q_eb {t r : Nat} {l : Int32} (ht : t < 73) (hr : r ≤ 8) (hl : -3 ≤ l.toInt ∧ l.toInt ≤ 3) : -11 ≤ (q_e t (nI r) l).toInt ∧ (q_e t (nI r) l).toInt ≤ 11 := by
  have h := q_eb0 t ht r (by omega)
  unfold q_e
  rw [q_add (by omega) (by omega)]
  omega
theorem q_nb {s : Nat} {l : Int32} (hs : s ≤ 6) (hl : -3 ≤ l.toInt ∧ l.toInt ≤ 3) : -11 ≤ (nI s + l).toInt ∧ (nI s + l).toInt ≤ 11 := by
  have := nI_toInt (n := s) (by omega)
  rw [q_add (by omega) (by omega)]
  omega
theorem q_11 {e : Int32} (h : -11 ≤ e.toInt ∧ e.toInt ≤ 11) : ∃ i, i < 23 ∧ e = nI i - 11 := by
  have q : (e + 11).toInt = e.toInt + 11 := q_add (x := e) (y := 11) (by rw [show ((11 : Int32)).toInt = (11 : Int) from by decide]; omega) (by rw [show ((11 : Int32)).toInt = (11 : Int) from by decide]; omega)
  obtain ⟨i, hi, e1⟩ := q_ix (x := e + 11) (n := 23) (by omega) (by omega) (by omega)
  exact ⟨i, hi, by rw [← e1, Int32.add_sub_cancel]⟩
theorem q_c9 : ∀ i, i < 23 → 9 ≤ (nI i - 11).toInt.natAbs → ((nI 9 * (nI i - 11)) / nI (nI i - 11).toInt.natAbs).toInt = 9 ∨ ((nI 9 * (nI i - 11)) / nI (nI i - 11).toInt.natAbs).toInt = -9 := by decide
theorem q_xy {τ : Nat → Int32} (w : WT τ) : q_x τ < 9 ∧ q_y τ < 9 ∧ τ 0 = nI (q_x τ + 9 * q_y τ) := by
  obtain ⟨⟨x, y, hx, hy, e⟩, -⟩ := w
  unfold q_x q_y
  rw [e, q_cl (by omega), show (x + 9 * y) % 9 = x by omega, show (x + 9 * y) / 9 = y by omega]
  exact ⟨hx, hy, rfl⟩
theorem q_ok9 {τ : Nat → Int32} {e n : Int32} (hx : q_x τ < 9) (hy : q_y τ < 9) (g : q_rg e n) (h9 : 9 ≤ q_m e n) : q_ok τ e n (q_m e n) 9 = false := by
  have : q_inn τ e n (q_m e n) 9 = false := by
    rcases (show q_m e n = e.toInt.natAbs ∨ q_m e n = n.toInt.natAbs by unfold q_m; omega) with q | q
    · obtain ⟨i, hi, ei⟩ := q_11 g.1
      have c := q_c9 i hi (by rw [← ei]; omega)
      rw [← ei, ← q] at c
      have z : ¬ (0 ≤ (q_X τ e (q_m e n) 9).toInt ∧ (q_X τ e (q_m e n) 9).toInt ≤ 8) := by
        unfold q_X
        have := nI_toInt (n := q_x τ) (by omega)
        rw [q_add (by omega) (by omega)]
        omega
      unfold q_inn
      by_cases a : 0 ≤ (q_X τ e (q_m e n) 9).toInt
      · rw [decide_eq_false (p := (q_X τ e (q_m e n) 9).toInt ≤ 8) (fun b => z ⟨a, b⟩)]
        simp only [Bool.and_false, Bool.false_and]
      · rw [decide_eq_false a]
        simp only [Bool.false_and]
    · obtain ⟨i, hi, ei⟩ := q_11 g.2
      have c := q_c9 i hi (by rw [← ei]; omega)
      rw [← ei, ← q] at c
      have z : ¬ (0 ≤ (q_Y τ n (q_m e n) 9).toInt ∧ (q_Y τ n (q_m e n) 9).toInt ≤ 8) := by
        unfold q_Y
        have := nI_toInt (n := q_y τ) (by omega)
        rw [q_sub (by omega) (by omega)]
        omega
      unfold q_inn
      by_cases a : 0 ≤ (q_Y τ n (q_m e n) 9).toInt
      · rw [decide_eq_false (p := (q_Y τ n (q_m e n) 9).toInt ≤ 8) (fun b => z ⟨a, b⟩)]
        simp only [Bool.and_false]
      · rw [decide_eq_false a]
        simp only [Bool.and_false, Bool.false_and]
  unfold q_ok
  rw [this, Bool.false_and]
theorem q_L9 {τ : Nat → Int32} {e n : Int32} (hx : q_x τ < 9) (hy : q_y τ < 9) (g : q_rg e n) : q_L τ e n ≤ 9 := by
  unfold q_L
  by_cases h : 9 ≤ q_m e n
  · exact q_run_9 _ _ (by omega) (Or.inr (q_ok9 hx hy g h))
  · exact q_run_9 _ _ (by omega) (Or.inl (by omega))
theorem q_inn_iff {τ : Nat → Int32} {e n : Int32} {m k : Nat} : q_inn τ e n m k = true ↔ (0 ≤ (q_X τ e m k).toInt ∧ (q_X τ e m k).toInt ≤ 8 ∧ 0 ≤ (q_Y τ n m k).toInt ∧ (q_Y τ n m k).toInt ≤ 8) := by
  unfold q_inn
  simp only [Bool.and_eq_true, decide_eq_true_eq, and_assoc]
theorem q_ok_iff {τ : Nat → Int32} {e n : Int32} {m k : Nat} : q_ok τ e n m k = true ↔ (q_inn τ e n m k = true ∧ τ (7 + q_cell τ e n m k) ≠ 1) := by
  unfold q_ok
  rw [Bool.and_eq_true, Bool.not_eq_true', decide_eq_false_iff_not]
theorem q_inn_c {τ : Nat → Int32} {e n : Int32} {m k : Nat} (hk : 1 ≤ k) (h : q_inn τ e n m k = true) : ∃ a b, a ≤ 8 ∧ b ≤ 8 ∧ q_X τ e m k = nI a ∧ q_Y τ n m k = nI b ∧ q_cell τ e n m k = a + 9 * b := by
  rw [q_inn_iff] at h
  obtain ⟨a, ha, ea⟩ := q_ix (x := q_X τ e m k) (n := 9) (by omega) (by omega) (by omega)
  obtain ⟨b, hb, eb⟩ := q_ix (x := q_Y τ n m k) (n := 9) (by omega) (by omega) (by omega)
  refine ⟨a, b, by omega, by omega, ea, eb, ?_⟩
  unfold q_cell
  rw [if_neg (by omega), ea, eb, q_cl (by omega), q_cl (by omega)]
theorem q_cell81 {τ : Nat → Int32} {e n : Int32} {j : Nat} (hx : q_x τ < 9) (hy : q_y τ < 9) (h : j < q_L τ e n) : q_cell τ e n (q_m e n) j < 81 := by
  by_cases q : j = 0
  · subst q
    unfold q_cell
    rw [if_pos rfl]; omega
  · obtain ⟨a, b, ha, hb, -, -, z⟩ := q_inn_c (by omega) (q_ok_iff.mp (q_run_ok _ _ j (by omega) h)).1
    omega
/-- the class's shadow -/
def g_sh (σ : g_S) (cell : Nat → Nat) (l : Nat) : g_S := fun b j => if b = 42 ∧ j < l then nI (cell j) else if b = 41 ∧ j = 1 then nI l else σ b j
theorem g_sh_ne {σ : g_S} {cell : Nat → Nat} {l a : Nat} (h1 : a ≠ 41) (h2 : a ≠ 42) : g_sh σ cell l a = σ a := by
  funext j
  unfold g_sh
  rw [if_neg (fun q => h2 q.1), if_neg (fun q => h1 q.1)]
theorem g_sh_41 {σ : g_S} {cell : Nat → Nat} {l : Nat} : g_sh σ cell l 41 1 = nI l := by
  unfold g_sh
  rw [if_neg (by omega), if_pos ⟨rfl, rfl⟩]
theorem g_sh_42 {σ : g_S} {cell : Nat → Nat} {l j : Nat} (h : j < l) : g_sh σ cell l 42 j = nI (cell j) := by
  unfold g_sh
  rw [if_pos ⟨rfl, h⟩]
theorem g_sh_1 {σ : g_S} {cell : Nat → Nat} {v : Int32} (hv : v = nI (cell 0)) : g_up (g_up σ 42 0 v) 41 1 1 = g_sh σ cell 1 := by
  subst hv
  funext b j
  unfold g_up g_sh
  by_cases h1 : b = 41 ∧ j = 1
  · rw [if_pos h1, if_neg (by omega), if_pos h1]; rfl
  · rw [if_neg h1]
    by_cases h2 : b = 42 ∧ j = 0
    · rw [if_pos h2, if_pos ⟨h2.1, by omega⟩, h2.2]
    · rw [if_neg h2, if_neg (by omega), if_neg h1]
theorem g_sh_s {σ : g_S} {cell : Nat → Nat} {l : Nat} {v : Int32} (hv : v = nI (cell l)) : g_up (g_up (g_sh σ cell l) 42 l v) 41 1 (nI (l + 1)) = g_sh σ cell (l + 1) := by
  subst hv
  funext b j
  unfold g_up g_sh
  by_cases h1 : b = 41 ∧ j = 1
  · rw [if_pos h1, if_neg (by omega), if_pos h1]
  · rw [if_neg h1]
    by_cases h2 : b = 42 ∧ j = l
    · rw [if_pos h2, if_pos ⟨h2.1, by omega⟩, h2.2]
    · rw [if_neg h2]
      by_cases h3 : b = 42 ∧ j < l
      · rw [if_pos h3, if_pos ⟨h3.1, by omega⟩]
      · rw [if_neg h3, if_neg h1, if_neg (by omega), if_neg h1]
/-- the reference's shadow -/
def g_dk (σ : g_S) (cell : Nat → Nat) (l : Nat) : g_S := fun b j => if b = 75 ∧ j < 81 then (if q_mem cell l j = true then 1 else 0) else σ b j
theorem g_dk_ne {σ : g_S} {cell : Nat → Nat} {l a : Nat} (h1 : a ≠ 75) : g_dk σ cell l a = σ a := by
  funext j
  unfold g_dk
  rw [if_neg (fun q => h1 q.1)]
theorem g_dk_75 {σ : g_S} {cell : Nat → Nat} {l c : Nat} (h : c < 81) : g_dk σ cell l 75 c = if q_mem cell l c = true then 1 else 0 := by
  unfold g_dk
  rw [if_pos ⟨rfl, h⟩]
theorem g_dk_s {σ : g_S} {cell : Nat → Nat} {l : Nat} (h : cell l < 81) : g_up (g_dk σ cell l) 75 (cell l) 1 = g_dk σ cell (l + 1) := by
  funext b j
  unfold g_up g_dk
  by_cases h1 : b = 75 ∧ j = cell l
  · rw [if_pos h1, if_pos ⟨h1.1, by omega⟩, if_pos (q_mem_iff.mpr ⟨l, by omega, h1.2.symm⟩)]
  · rw [if_neg h1]
    by_cases h2 : b = 75 ∧ j < 81
    · rw [if_pos h2, if_pos h2]
      have e : q_mem cell (l + 1) j = q_mem cell l j := by
        rw [show q_mem cell (l + 1) j = (q_mem cell l j || decide (cell l = j)) from rfl, decide_eq_false (fun z => h1 ⟨h2.1, z.symm⟩), Bool.or_false]
      rw [e]
    · rw [if_neg h2, if_neg h2]
def g_di (σ : g_S) (c0 i : Nat) : g_S := fun b j => if b = 75 ∧ j < i then (if j = c0 then 1 else 0) else σ b j
theorem g_di_0 {σ : g_S} {c0 : Nat} : g_di σ c0 0 = σ := by
  funext b j
  unfold g_di
  rw [if_neg (by omega)]
theorem g_di_s {σ : g_S} {c0 i : Nat} {v : Int32} (hv : v = if i = c0 then 1 else 0) : g_up (g_di σ c0 i) 75 i v = g_di σ c0 (i + 1) := by
  subst hv
  funext b j
  unfold g_up g_di
  by_cases h1 : b = 75 ∧ j = i
  · rw [if_pos h1, if_pos (show b = 75 ∧ j < i + 1 from ⟨h1.1, by omega⟩), h1.2]
  · rw [if_neg h1]
    by_cases h2 : b = 75 ∧ j < i
    · rw [if_pos h2, if_pos (show b = 75 ∧ j < i + 1 from ⟨h2.1, by omega⟩)]
    · rw [if_neg h2, if_neg (by omega)]
theorem g_di_81 {σ : g_S} {cell : Nat → Nat} : g_di σ (cell 0) 81 = g_dk σ cell 1 := by
  funext b j
  unfold g_di g_dk
  by_cases h : b = 75 ∧ j < 81
  · rw [if_pos h, if_pos h]
    have e : q_mem cell 1 j = decide (cell 0 = j) := by
      rw [show q_mem cell 1 j = (false || decide (cell 0 = j)) from rfl, Bool.false_or]
    rw [e]
    by_cases z : j = cell 0
    · rw [if_pos z, if_pos (decide_eq_true z.symm)]
    · rw [if_neg z, if_neg (by rw [decide_eq_false (fun q => z q.symm)]; decide)]
  · rw [if_neg h, if_neg h]
theorem g_di_ne {σ : g_S} {c0 i a : Nat} (h1 : a ≠ 75) : g_di σ c0 i a = σ a := by
  funext j
  unfold g_di
  rw [if_neg (fun q => h1 q.1)]
