/-! town: the tokens of a text, purely -/
def q_sk (β : Nat → Int32) : Nat → Nat → Nat
  | 0, p => p
  | g + 1, p => if β p = 32 ∨ β p = 10 then q_sk β g (p + 1) else p
def q_ru (β : Nat → Int32) (lo hi : Int32) : Nat → Nat → Nat
  | 0, p => p
  | g + 1, p => if β p < lo ∨ hi < β p then p else q_ru β lo hi g (p + 1)
def q_dg (β : Nat → Int32) : Nat → Nat → Int32 → Int32
  | 0, _, v => v
  | g + 1, p, v => q_dg β g (p + 1) ((10 : Int32) * v + β p - 48)
theorem q_sk_r {β : Nat → Int32} : ∀ {g p : Nat}, p ≤ q_sk β g p ∧ q_sk β g p ≤ p + g
  | 0, p => ⟨Nat.le_refl p, Nat.le_refl p⟩
  | g + 1, p => by
    have i := q_sk_r (β := β) (g := g) (p := p + 1)
    unfold q_sk
    by_cases q : β p = 32 ∨ β p = 10
    · rw [if_pos q]; omega
    · rw [if_neg q]; omega
theorem q_ru_r {β : Nat → Int32} {lo hi : Int32} : ∀ {g p : Nat}, p ≤ q_ru β lo hi g p ∧ q_ru β lo hi g p ≤ p + g
  | 0, p => ⟨Nat.le_refl p, Nat.le_refl p⟩
  | g + 1, p => by
    have i := q_ru_r (β := β) (lo := lo) (hi := hi) (g := g) (p := p + 1)
    unfold q_ru
    by_cases q : β p < lo ∨ hi < β p
    · rw [if_pos q]; omega
    · rw [if_neg q]; omega
theorem q_ru_in {β : Nat → Int32} {lo hi : Int32} : ∀ {g p i : Nat}, p ≤ i → i < q_ru β lo hi g p → ¬ (β i < lo ∨ hi < β i)
  | 0, p, i, h1, h2 => absurd h2 (Nat.not_lt_of_le h1)
  | g + 1, p, i, h1, h2 => by
    unfold q_ru at h2
    by_cases q : β p < lo ∨ hi < β p
    · rw [if_pos q] at h2; omega
    · rw [if_neg q] at h2
      by_cases e : i = p
      · rw [e]; exact q
      · exact q_ru_in (by omega) h2
/-- of the token from p on: where it begins, where it ends, what it is (0 the end, 1 a name, 2 a number, 3 a sign, 4 none), its number -/
def q_tS (β : Nat → Int32) (L p : Nat) : Nat := q_sk β (L - p) p
def q_tE (β : Nat → Int32) (L p : Nat) : Nat := if L ≤ q_tS β L p then q_tS β L p else if β (q_tS β L p) < 97 ∨ 122 < β (q_tS β L p) then (if β (q_tS β L p) < 48 ∨ 57 < β (q_tS β L p) then q_tS β L p + 1 else q_ru β 48 57 (L - q_tS β L p) (q_tS β L p)) else q_ru β 97 122 (L - q_tS β L p) (q_tS β L p)
def q_tK (β : Nat → Int32) (L p : Nat) : Nat := if L ≤ q_tS β L p then 0 else if β (q_tS β L p) < 97 ∨ 122 < β (q_tS β L p) then (if β (q_tS β L p) < 48 ∨ 57 < β (q_tS β L p) then (if β (q_tS β L p) = 59 then 3 else 4) else if q_tE β L p - q_tS β L p ≤ 3 then 2 else 4) else 1
def q_tV (β : Nat → Int32) (L p : Nat) : Int32 := if q_tK β L p = 2 then q_dg β (q_tE β L p - q_tS β L p) (q_tS β L p) 0 else 0
theorem q_tS_r {β : Nat → Int32} {L p : Nat} (h : p ≤ L) : p ≤ q_tS β L p ∧ q_tS β L p ≤ L := by
  have := q_sk_r (β := β) (g := L - p) (p := p)
  unfold q_tS
  omega
theorem q_tE_r {β : Nat → Int32} {L p : Nat} (h : p ≤ L) : q_tS β L p ≤ q_tE β L p ∧ q_tE β L p ≤ L := by
  have r := q_tS_r (β := β) h
  unfold q_tE
  by_cases q : L ≤ q_tS β L p
  · rw [if_pos q]; omega
  · rw [if_neg q]
    by_cases q2 : β (q_tS β L p) < 97 ∨ 122 < β (q_tS β L p)
    · rw [if_pos q2]
      by_cases q3 : β (q_tS β L p) < 48 ∨ 57 < β (q_tS β L p)
      · rw [if_pos q3]; omega
      · rw [if_neg q3]
        have := q_ru_r (β := β) (lo := 48) (hi := 57) (g := L - q_tS β L p) (p := q_tS β L p)
        omega
    · rw [if_neg q2]
      have := q_ru_r (β := β) (lo := 97) (hi := 122) (g := L - q_tS β L p) (p := q_tS β L p)
      omega
theorem q_tK_l {β : Nat → Int32} {L p : Nat} : q_tK β L p ≤ 4 := by
  unfold q_tK
  repeat' split
  all_goals omega
/-- a byte of the tape -/
def q_by (β : Nat → Int32) : Prop := ∀ i, i < 400 → ∃ b, b < 256 ∧ β i = nI b
theorem q_by_n {β : Nat → Int32} (h : q_by β) {i : Nat} (hi : i < 400) : ¬ β i = -1 ∧ ¬ β i = -1000000 := by
  obtain ⟨b, hb, e⟩ := h i hi
  rw [e]
  refine ⟨fun z => ?_, fun z => ?_⟩
  · have := congrArg Int32.toInt z
    rw [nI_toInt (by omega)] at this
    simp only [Int32.reduceToInt] at this
    omega
  · have := congrArg Int32.toInt z
    rw [nI_toInt (by omega)] at this
    simp only [Int32.reduceToInt] at this
    omega
section Q901
variable {E : g_E} {d : Nat} {R : g_R} {σ : g_S} {β : Nat → Int32} {L : Nat}
theorem c_byte {i : Nat} (hi : i < 2 ^ 31) (hL : L ≤ 400) (eL : σ 13 1 = nI L) (h1 : i < L → R (some (.int (σ 14 i))) σ) (h0 : L ≤ i → R (some (.int (-1))) σ) : g_wp E (d + 1) 37 [.ref 13, .int (nI i)] σ R := by
  refine t37_0 ⟨fun q => absurd q (nI_nlt (a := i) (b := 0) (by omega) (by omega)), fun _ => ?_⟩
  rw [eL, nI_leI (by omega) (by omega), q_cl (by omega)]
  exact ⟨h0, fun q => ⟨vp_in_nI (by omega) (by omega), h1 (by omega)⟩⟩
theorem c_blank_l {O : g_O} (hL : L ≤ 400) (eL : σ 13 1 = nI L) (hβ : ∀ i, i < 400 → σ 14 i = β i) : ∀ g p, p + g = L → R (some (.int (nI (q_sk β g p)))) σ → g_g E O 38 2 [some (.ref 13), none, some (.int (nI p))] [] σ R := by
  intro g
  induction g with
  | zero =>
    intro p hp h
    refine t38_2 ?_
    rw [eL, nI_leI (by omega) (by omega)]
    exact ⟨fun _ => h, fun q => absurd (by omega) q⟩
  | succ g ih =>
    intro p hp h
    have z := ih (p + 1) (by omega)
    refine t38_2 ?_
    rw [eL, nI_leI (by omega) (by omega), q_cl (by omega), hβ p (by omega), nI_1]
    unfold q_sk at h
    refine ⟨fun q => absurd q (by omega), fun _ => ⟨vp_in_nI (by omega) (by omega), fun q => ?_, fun q => ⟨vp_in_nI (by omega) (by omega), fun q2 => ?_, fun q2 => ?_⟩⟩⟩
    · rw [if_pos (Or.inl q)] at h
      exact z h
    · rw [if_neg (fun y => y.elim q q2)] at h
      exact h
    · rw [if_pos (Or.inr (Classical.not_not.mp q2))] at h
      exact z h
theorem c_run_l {O : g_O} {lo hi : Int32} (hL : L ≤ 400) (eL : σ 13 1 = nI L) (hβ : ∀ i, i < 400 → σ 14 i = β i) : ∀ g p, p + g = L → R (some (.int (nI (q_ru β lo hi g p)))) σ → g_g E O 39 3 [some (.ref 13), none, some (.int lo), some (.int hi), some (.int (nI p))] [] σ R := by
  intro g
  induction g with
  | zero =>
    intro p hp h
    refine t39_3 ?_
    rw [eL, nI_leI (by omega) (by omega)]
    exact ⟨fun _ => h, fun q => absurd (by omega) q⟩
  | succ g ih =>
    intro p hp h
    have z := ih (p + 1) (by omega)
    refine t39_3 ?_
    rw [eL, nI_leI (by omega) (by omega), q_cl (by omega), hβ p (by omega), nI_1]
    unfold q_ru at h
    refine ⟨fun q => absurd q (by omega), fun _ => ⟨vp_in_nI (by omega) (by omega), fun q => ?_, fun q => ⟨vp_in_nI (by omega) (by omega), fun q2 => ?_, fun q2 => ?_⟩⟩⟩
    · rw [if_pos (Or.inl q)] at h
      exact h
    · rw [if_pos (Or.inr q2)] at h
      exact h
    · rw [if_neg (fun y => y.elim q q2)] at h
      exact z h
theorem c_dig_l {O : g_O} {e : Nat} (hL : L ≤ 400) (eL : σ 13 1 = nI L) (he : e ≤ L) (hβ : ∀ i, i < 400 → σ 14 i = β i) : ∀ g p v, p + g = e → R (some (.int (q_dg β g p v))) σ → g_g E O 40 5 [some (.ref 13), none, some (.int (nI e)), some (.int v), some (.int (nI p))] [] σ R := by
  intro g
  induction g with
  | zero =>
    intro p v hp h
    refine t40_5 ?_
    rw [nI_leI (by omega) (by omega)]
    exact ⟨fun _ => h, fun q => absurd (by omega) q⟩
  | succ g ih =>
    intro p v hp h
    have z := ih (p + 1) _ (by omega) h
    refine t40_5 ?_
    rw [eL, nI_leI (by omega) (by omega), nI_leI (by omega) (by omega), q_cl (by omega), hβ p (by omega), nI_1]
    exact ⟨fun q => absurd q (by omega), fun _ => ⟨fun q => absurd q (by omega), fun _ => ⟨vp_in_nI (by omega) (by omega), z⟩⟩⟩
/-- after a token has been taken from p on -/
def q_ct1 (s σ : g_S) (β : Nat → Int32) (L p : Nat) : Prop := (∀ x, x ≠ 40 → s x = σ x) ∧ (∀ j, 5 < j → s 40 j = σ 40 j) ∧ s 40 3 = nI (q_tK β L p) ∧ s 40 4 = nI (q_tS β L p) ∧ (q_tK β L p ≠ 0 → s 40 2 = nI (q_tE β L p)) ∧ (q_tK β L p = 2 → s 40 5 = q_tV β L p)
theorem c_take {p : Nat} (hL : L ≤ 400) (hp : p ≤ L) (eL : σ 13 1 = nI L) (e2 : σ 40 2 = nI p) (hβ : ∀ i, i < 400 → σ 14 i = β i) (by' : q_by β) (h : ∀ s, q_ct1 s σ β L p → R none s) : g_wp E (d + 2) 23 [.ref 40] σ R := by
  have rS := q_tS_r (β := β) hp
  refine t23_0 ?_
  rw [e2]
  refine t38_0 (c_blank_l hL eL hβ (L - p) p (by omega) ⟨_, rfl, ?_⟩)
  intro s4 es4
  change s4 = g_up σ 40 4 (nI (q_tS β L p)) at es4
  have f4 : ∀ x, x ≠ 40 → s4 x = σ x := fun x q => by rw [es4]; exact g_up_ne q
  have g4 : s4 40 4 = nI (q_tS β L p) := by rw [es4]; exact g_up_s
  have n4 : ∀ j, j ≠ 4 → s4 40 j = σ 40 j := fun j q => by rw [es4]; exact g_up_n (Or.inr q)
  have hβ4 : ∀ i, i < 400 → s4 14 i = β i := fun i hi => (congrFun (f4 14 (by omega)) i).trans (hβ i hi)
  have eL4 : s4 13 1 = nI L := (congrFun (f4 13 (by omega)) 1).trans eL
  change g_wp E (d + 1) 37 [.ref 13, .int (nI (q_tS β L p))] s4 _
  refine c_byte (by omega) hL eL4 (fun q => ⟨_, rfl, fun _ => ?_, fun z => ?_⟩) (fun q => ⟨_, rfl, fun z => absurd rfl z, fun _ s16 es => h s16 ?_⟩)
  · have nE : ¬ L ≤ q_tS β L p := by omega
    have rest166 : (β (q_tS β L p) < 97 ∨ 122 < β (q_tS β L p)) → (β (q_tS β L p) < 48 ∨ 57 < β (q_tS β L p)) → g_g E (g_wp E (d + 1)) 23 166 [some (.ref 40), some (.int (β (q_tS β L p)))] [] s4 R := fun a1 a2 => by
      have kE : q_tE β L p = q_tS β L p + 1 := by unfold q_tE; rw [if_neg nE, if_pos a1, if_pos a2]
      refine t23_166 (fun s24 es24 => ?_)
      rw [g4, nI_1, ← kE] at es24
      refine ⟨fun z s26 es26 => h s26 ?_, fun z s26 es26 => h s26 ?_⟩
      · have kK : q_tK β L p = 4 := by unfold q_tK; rw [if_neg nE, if_pos a1, if_pos a2, if_neg z]
        unfold q_ct1
        rw [kK, es26, es24]
        exact ⟨fun x q => (g_up_ne q).trans ((g_up_ne q).trans (f4 x q)), fun j q => (g_up_n (by omega)).trans ((g_up_n (by omega)).trans (n4 j (by omega))), g_up_s, (g_up_n (by omega)).trans ((g_up_n (by omega)).trans g4), fun _ => (g_up_n (by omega)).trans g_up_s, fun z => absurd z (by omega)⟩
      · have kK : q_tK β L p = 3 := by unfold q_tK; rw [if_neg nE, if_pos a1, if_pos a2, if_pos (Classical.not_not.mp z)]
        unfold q_ct1
        rw [kK, es26, es24]
        exact ⟨fun x q => (g_up_ne q).trans ((g_up_ne q).trans (f4 x q)), fun j q => (g_up_n (by omega)).trans ((g_up_n (by omega)).trans (n4 j (by omega))), g_up_s, (g_up_n (by omega)).trans ((g_up_n (by omega)).trans g4), fun _ => (g_up_n (by omega)).trans g_up_s, fun z => absurd z (by omega)⟩
    have rest79 : (β (q_tS β L p) < 97 ∨ 122 < β (q_tS β L p)) → g_g E (g_wp E (d + 1)) 23 79 [some (.ref 40), some (.int (β (q_tS β L p)))] [] s4 R := fun a1 => by
      refine t23_79 ⟨fun z => rest166 a1 (Or.inl z), fun z => ⟨fun z2 => rest166 a1 (Or.inr z2), fun z2 => ?_⟩⟩
      have a2 : ¬ (β (q_tS β L p) < 48 ∨ 57 < β (q_tS β L p)) := fun y => y.elim z z2
      have kE : q_tE β L p = q_ru β 48 57 (L - q_tS β L p) (q_tS β L p) := by unfold q_tE; rw [if_neg nE, if_pos a1, if_neg a2]
      have rE := q_tE_r (β := β) hp
      rw [g4]
      refine t39_0 (c_run_l hL eL4 hβ4 (L - q_tS β L p) (q_tS β L p) (by omega) ⟨_, rfl, fun s22 es22 => ?_⟩)
      rw [← kE] at es22 ⊢
      have f22 : ∀ x, x ≠ 40 → s22 x = σ x := fun x q => by rw [es22]; exact (g_up_ne q).trans (f4 x q)
      have g22 : s22 40 4 = nI (q_tS β L p) := by rw [es22]; exact (g_up_n (by omega)).trans g4
      have h22 : s22 40 2 = nI (q_tE β L p) := by rw [es22]; exact g_up_s
      have n22 : ∀ j, 5 < j → s22 40 j = σ 40 j := fun j q => by rw [es22]; exact (g_up_n (by omega)).trans (n4 j (by omega))
      rw [g4, q_nsub rE.1, show (3 : Int32) = nI 3 from rfl, nI_leI (by omega) (by omega)]
      refine ⟨fun z3 => ?_, fun z3 => ?_⟩
      · have kK : q_tK β L p = 2 := by unfold q_tK; rw [if_neg nE, if_pos a1, if_neg a2, if_pos z3]
        refine t23_129 (fun s28 es28 => ⟨fun z4 => absurd rfl z4, fun _ => ?_⟩)
        rw [g22, h22]
        have f28 : ∀ x, x ≠ 40 → s28 x = σ x := fun x q => by rw [es28]; exact (g_up_ne q).trans (f22 x q)
        refine t40_0 (c_dig_l (β := β) hL ((congrFun (f28 13 (by omega)) 1).trans eL) rE.2 (fun i hi => (congrFun (f28 14 (by omega)) i).trans (hβ i hi)) (q_tE β L p - q_tS β L p) (q_tS β L p) 0 (by omega) ⟨_, rfl, fun s34 es34 => h s34 ?_⟩)
        have kV : q_tV β L p = q_dg β (q_tE β L p - q_tS β L p) (q_tS β L p) 0 := by unfold q_tV; rw [if_pos kK]
        unfold q_ct1
        rw [kK, es34, es28, ← kV]
        exact ⟨fun x q => (g_up_ne q).trans ((g_up_ne q).trans (f22 x q)), fun j q => (g_up_n (by omega)).trans ((g_up_n (by omega)).trans (n22 j q)), (g_up_n (by omega)).trans g_up_s, (g_up_n (by omega)).trans ((g_up_n (by omega)).trans g22), fun _ => (g_up_n (by omega)).trans ((g_up_n (by omega)).trans h22), fun _ => g_up_s⟩
      · have kK : q_tK β L p = 4 := by unfold q_tK; rw [if_neg nE, if_pos a1, if_neg a2, if_neg z3]
        refine t23_129 (fun s28 es28 => ⟨fun _ s30 es30 => h s30 ?_, fun z4 => absurd (by decide) z4⟩)
        unfold q_ct1
        rw [kK, es30, es28]
        exact ⟨fun x q => (g_up_ne q).trans ((g_up_ne q).trans (f22 x q)), fun j q => (g_up_n (by omega)).trans ((g_up_n (by omega)).trans (n22 j q)), (g_up_n (by omega)).trans g_up_s, (g_up_n (by omega)).trans ((g_up_n (by omega)).trans g22), fun _ => (g_up_n (by omega)).trans ((g_up_n (by omega)).trans h22), fun z => absurd z (by omega)⟩
    rw [hβ4 _ (by omega)]
    refine ⟨fun z => rest79 (Or.inl z), fun z => ⟨fun z2 => rest79 (Or.inr z2), fun z2 => ?_⟩⟩
    have a1 : ¬ (β (q_tS β L p) < 97 ∨ 122 < β (q_tS β L p)) := fun y => y.elim z z2
    have kE : q_tE β L p = q_ru β 97 122 (L - q_tS β L p) (q_tS β L p) := by unfold q_tE; rw [if_neg nE, if_neg a1]
    have kK : q_tK β L p = 1 := by unfold q_tK; rw [if_neg nE, if_neg a1]
    rw [g4]
    refine t39_0 (c_run_l hL eL4 hβ4 (L - q_tS β L p) (q_tS β L p) (by omega) ⟨_, rfl, fun s14 es14 s15 es15 => h s15 ?_⟩)
    rw [← kE] at es14
    unfold q_ct1
    rw [kK, es15, es14]
    exact ⟨fun x q => (g_up_ne q).trans ((g_up_ne q).trans (f4 x q)), fun j q => (g_up_n (by omega)).trans ((g_up_n (by omega)).trans (n4 j (by omega))), g_up_s, (g_up_n (by omega)).trans ((g_up_n (by omega)).trans g4), fun _ => (g_up_n (by omega)).trans g_up_s, fun z => absurd z (by omega)⟩
  · rw [hβ4 _ (by omega)] at z
    exact absurd (Classical.not_not.mp z) (q_by_n by' (show q_tS β L p < 400 by omega)).1
  · have kK : q_tK β L p = 0 := by unfold q_tK; rw [if_pos q]
    unfold q_ct1
    rw [kK, es]
    exact ⟨fun x q => (g_up_ne q).trans (f4 x q), fun j q => (g_up_n (by omega)).trans (n4 j (by omega)), g_up_s, (g_up_n (by omega)).trans g4, fun z => absurd rfl z, fun z => absurd z (by omega)⟩
end Q901
