/-! thief: the reference's spread -/
theorem q_pd_c {P Q : Prop} (h : P ↔ Q) : q_pd P = q_pd Q := congrArg q_pd (propext h)
/-- the slice that is spread into, when the ways T are gone through -/
def q_spr (σ s : g_S) (a1 u u' : Nat) (τ : Nat → Int32) (x w : Nat) : Prop := ∀ j, j < 5913 → s a1 j = if q_pd (81 * u' ≤ j ∧ j < 81 * u' + 81 ∧ ∃ y v, (y < x ∨ (y = x ∧ v < w)) ∧ v < 5 ∧ y < 81 ∧ σ a1 (81 * u + y) ≠ 0 ∧ q_nbr τ y v = some (j - 81 * u')) = true then 1 else σ a1 j
theorem q_spr.cg {σ s : g_S} {a1 u u' x w x' w' : Nat} {τ : Nat → Int32} (h : q_spr σ s a1 u u' τ x w) (k : ∀ c y v, v < 5 → y < 81 → σ a1 (81 * u + y) ≠ 0 → q_nbr τ y v = some c → ((y < x ∨ (y = x ∧ v < w)) ↔ (y < x' ∨ (y = x' ∧ v < w')))) : q_spr σ s a1 u u' τ x' w' := fun j hj => by
  rw [h j hj]
  have e : q_pd (81 * u' ≤ j ∧ j < 81 * u' + 81 ∧ ∃ y v, (y < x ∨ (y = x ∧ v < w)) ∧ v < 5 ∧ y < 81 ∧ σ a1 (81 * u + y) ≠ 0 ∧ q_nbr τ y v = some (j - 81 * u')) = q_pd (81 * u' ≤ j ∧ j < 81 * u' + 81 ∧ ∃ y v, (y < x' ∨ (y = x' ∧ v < w')) ∧ v < 5 ∧ y < 81 ∧ σ a1 (81 * u + y) ≠ 0 ∧ q_nbr τ y v = some (j - 81 * u')) := q_pd_c ⟨fun ⟨p1, p2, y, v, p3, p4, p5, p6, p7⟩ => ⟨p1, p2, y, v, (k _ y v p4 p5 p6 p7).mp p3, p4, p5, p6, p7⟩, fun ⟨p1, p2, y, v, p3, p4, p5, p6, p7⟩ => ⟨p1, p2, y, v, (k _ y v p4 p5 p6 p7).mpr p3, p4, p5, p6, p7⟩⟩
  rw [e]
theorem q_spr.put {σ s : g_S} {a1 u u' x w c' : Nat} {τ : Nat → Int32} (h : q_spr σ s a1 u u' τ x w) (hw : w < 5) (hx : x < 81) (hn : σ a1 (81 * u + x) ≠ 0) (e : q_nbr τ x w = some c') : q_spr σ (g_up s a1 (81 * u' + c') 1) a1 u u' τ x (w + 1) := fun j hj => by
  have c81 := (q_nbr_l e).1
  by_cases z : j = 81 * u' + c'
  · subst z
    rw [g_up_s, if_pos (q_pd_t ⟨by omega, by omega, x, w, Or.inr ⟨rfl, by omega⟩, hw, hx, hn, by rw [Nat.add_sub_cancel_left]; exact e⟩)]
  · rw [g_up_n (by omega), h j hj]
    have e2 : q_pd (81 * u' ≤ j ∧ j < 81 * u' + 81 ∧ ∃ y v, (y < x ∨ (y = x ∧ v < w)) ∧ v < 5 ∧ y < 81 ∧ σ a1 (81 * u + y) ≠ 0 ∧ q_nbr τ y v = some (j - 81 * u')) = q_pd (81 * u' ≤ j ∧ j < 81 * u' + 81 ∧ ∃ y v, (y < x ∨ (y = x ∧ v < w + 1)) ∧ v < 5 ∧ y < 81 ∧ σ a1 (81 * u + y) ≠ 0 ∧ q_nbr τ y v = some (j - 81 * u')) := q_pd_c ⟨fun ⟨p1, p2, y, v, p3, p4, p5, p6, p7⟩ => ⟨p1, p2, y, v, by omega, p4, p5, p6, p7⟩, fun ⟨p1, p2, y, v, p3, p4, p5, p6, p7⟩ => ⟨p1, p2, y, v, by
      by_cases q : y = x ∧ v = w
      · obtain ⟨q1, q2⟩ := q
        subst q1; subst q2
        rw [e] at p7
        cases p7
        omega
      · omega, p4, p5, p6, p7⟩⟩
    rw [e2]
section Q85
variable {E : g_E} {d : Nat} {R : g_R} {σ : g_S} {τ : Nat → Int32}
theorem m_spr_in {a1 u u' x : Nat} (et : σ 72 = τ) (h78 : a1 = 78 ∨ a1 = 79) (hu : u < 73) (hu' : u' < 73) (ne : u ≠ u') (hx : x < 81) (h : ∀ s, (∀ y, y ≠ a1 → s y = σ y) → q_spr σ s a1 u u' τ (x + 1) 0 → g_g E (g_wp E (d + 2)) 167 3 [some (.ref 68), some (.ref a1), some (.int (nI u)), some (.int (nI u')), some (.int (nI (x + 1))), none, none] [] s R) : ∀ g w s, w + g = 5 → (∀ y, y ≠ a1 → s y = σ y) → q_spr σ s a1 u u' τ x w → g_g E (g_wp E (d + 2)) 167 13 [some (.ref 68), some (.ref a1), some (.int (nI u)), some (.int (nI u')), some (.int (nI x)), some (.int (nI w)), none] [] s R := by
  have kd : g_kd a1 = 101 ∧ g_ln a1 = 5913 := by
    rcases h78 with e | e <;> subst e <;> exact ⟨rfl, rfl⟩
  have n72 : (72 : Nat) ≠ a1 := by omega
  intro g
  induction g with
  | zero =>
    intro w s hw fr sp
    have e : w = 5 := by omega
    subst e
    refine t167_13 ⟨fun _ => ?_, fun c => absurd (nI_le (a := 5) (b := 5) (by omega) (by omega)) c⟩
    rw [nI_1]
    exact h s fr (sp.cg (fun c y v v5 _ _ _ => by omega))
  | succ g ih =>
    intro w s hw fr sp
    have e1 : (81 : Int32) * nI u + nI x = nI (81 * u + x) := by
      rw [show (81 : Int32) = nI 81 from rfl, pk_mul, nI_add]
    have rd : s a1 (81 * u + x) = σ a1 (81 * u + x) := by
      rw [sp _ (by omega), if_neg (fun z => by have := q_pd_iff.mp z; omega)]
    refine t167_13 ⟨fun c => absurd c (nI_ge (b := 5) (by omega) (by omega)), fun _ => ⟨kd.1, ?_⟩⟩
    rw [e1, kd.2, q_cl (by omega), rd]
    refine ⟨vp_in_nI (by omega) (by omega), fun c => ?_, fun c => ?_⟩
    · rw [nI_1]
      refine h s fr (sp.cg (fun c' y v v5 _ nz _ => ?_))
      have : y ≠ x := fun z => by subst z; exact nz c
      omega
    · have s72 : s 72 = τ := (fr 72 n72).trans et
      refine m_next hx (by omega) (fun c' ec => ⟨_, rfl, fun z => absurd z (q_none (q_nbr_l ec).1), fun _ => ⟨kd.1, ?_⟩⟩) (fun ec => ⟨_, rfl, fun _ => ?_, fun z => absurd rfl z⟩)
      · have c81 := (q_nbr_l ec).1
        rw [s72] at ec
        have e2 : (81 : Int32) * nI u' + nI c' = nI (81 * u' + c') := by
          rw [show (81 : Int32) = nI 81 from rfl, pk_mul, nI_add]
        rw [e2, q_cl (by omega), nI_1]
        refine ⟨vp_in_nI (by omega) (by omega), fun s2 es2 => ?_⟩
        subst es2
        exact ih (w + 1) _ (by omega) (fun y hy => (g_up_ne hy).trans (fr y hy)) (sp.put (by omega) hx c ec)
      · rw [s72] at ec
        rw [nI_1]
        refine ih (w + 1) s (by omega) fr (sp.cg (fun c' y v v5 _ nz e' => ?_))
        have : ¬ (y = x ∧ v = w) := fun z => by
          obtain ⟨z1, z2⟩ := z
          subst z1; subst z2
          rw [ec] at e'
          cases e'
        omega
theorem m_spread {a1 u u' : Nat} (et : σ 72 = τ) (h78 : a1 = 78 ∨ a1 = 79) (hu : u < 73) (hu' : u' < 73) (ne : u ≠ u') (h : ∀ s, (∀ y, y ≠ a1 → s y = σ y) → q_spr σ s a1 u u' τ 81 0 → R none s) : g_wp E (d + 3) 167 [.ref 68, .ref a1, .int (nI u), .int (nI u')] σ R := by
  have l : ∀ g x s, x + g = 81 → (∀ y, y ≠ a1 → s y = σ y) → q_spr σ s a1 u u' τ x 0 → g_g E (g_wp E (d + 2)) 167 3 [some (.ref 68), some (.ref a1), some (.int (nI u)), some (.int (nI u')), some (.int (nI x)), none, none] [] s R := by
    intro g
    induction g with
    | zero =>
      intro x s hx fr sp
      have e : x = 81 := by omega
      subst e
      exact t167_3 ⟨fun _ => h s fr sp, fun c => absurd (nI_le (a := 81) (b := 81) (by omega) (by omega)) c⟩
    | succ g ih =>
      intro x s hx fr sp
      exact t167_3 ⟨fun c => absurd c (nI_ge (b := 81) (by omega) (by omega)), fun _ => m_spr_in et h78 hu hu' ne (by omega) (fun s2 f2 p2 => ih (x + 1) s2 (by omega) f2 p2) 5 0 s (by omega) fr sp⟩
  refine t167_0 (l 81 0 σ (by omega) (fun _ _ => rfl) (fun j hj => ?_))
  rw [if_neg (fun z => by
    obtain ⟨-, -, y, v, z1, -⟩ := q_pd_iff.mp z
    omega)]
end Q85
