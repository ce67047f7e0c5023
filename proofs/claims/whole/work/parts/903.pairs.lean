/-! town: the tokens, the reference's half -/
def q_rk (k : Nat) : Nat := if k = 4 then 0 else k + 1
theorem q_rk_e {k : Nat} (h : k ≤ 4) : (q_rk k = 1 ↔ k = 0) ∧ (q_rk k = 2 ↔ k = 1) ∧ (q_rk k = 3 ↔ k = 2) ∧ (q_rk k = 4 ↔ k = 3) ∧ q_rk k ≤ 4 := by
  unfold q_rk
  by_cases e : k = 4
  · rw [if_pos e]; omega
  · rw [if_neg e]; omega
/-- the token from p on is loaded -/
def q_rt (s : g_S) (β : Nat → Int32) (L p : Nat) : Prop := s 68 10 = nI L ∧ s 68 11 = nI (q_tE β L p) ∧ s 68 12 = nI (q_rk (q_tK β L p)) ∧ s 68 13 = nI (q_tS β L p) ∧ s 68 14 = nI (q_tE β L p)
def q_fr (s σ : g_S) : Prop := (∀ x, x ≠ 68 → s x = σ x) ∧ ∀ j, j < 11 ∨ 14 < j → s 68 j = σ 68 j
theorem q_fr.up {s σ : g_S} {j : Nat} {v : Int32} (h : q_fr s σ) (hj : 11 ≤ j ∧ j ≤ 14) : q_fr (g_up s 68 j v) σ := ⟨fun x q => (g_up_ne q).trans (h.1 x q), fun i q => (g_up_n (by omega)).trans (h.2 i q)⟩
section Q903
variable {E : g_E} {d : Nat} {R : g_R} {σ : g_S} {β : Nat → Int32} {L : Nat}
theorem m_byte {i : Nat} (hi : i < 2 ^ 31) (hL : L ≤ 400) (e10 : σ 68 10 = nI L) (h1 : i < L → R (some (.int (σ 74 i))) σ) (h0 : L ≤ i → R (some (.int (-1000000))) σ) : g_wp E (d + 1) 115 [.ref 68, .int (nI i)] σ R := by
  refine t115_0 ?_
  rw [e10, nI_leI (by omega) (by omega), q_cl (by omega)]
  exact ⟨h0, fun q => ⟨vp_in_nI (by omega) (by omega), h1 (by omega)⟩⟩
theorem m_letter {x : Int32} (h1 : ¬ (x < 97 ∨ 122 < x) → R (some (.int 1)) σ) (h0 : (x < 97 ∨ 122 < x) → R (some (.int 0)) σ) : g_wp E (d + 1) 116 [.int x] σ R :=
  t116_0 ⟨fun q => h0 (Or.inl q), fun q => ⟨fun q2 => h0 (Or.inr q2), fun q2 => h1 (fun y => y.elim q q2)⟩⟩
theorem m_figure {x : Int32} (h1 : ¬ (x < 48 ∨ 57 < x) → R (some (.int 1)) σ) (h0 : (x < 48 ∨ 57 < x) → R (some (.int 0)) σ) : g_wp E (d + 1) 117 [.int x] σ R :=
  t117_0 ⟨fun q => h0 (Or.inl q), fun q => ⟨fun q2 => h0 (Or.inr q2), fun q2 => h1 (fun y => y.elim q q2)⟩⟩
theorem m_run77 {q0 : Nat} (hL : L ≤ 400) (h10 : σ 68 10 = nI L) (hβ : ∀ i, i < 400 → σ 74 i = β i) : ∀ g q s, q + g = L → q_fr s σ → s 68 11 = nI q → s 68 13 = nI q0 → (∀ s', q_fr s' σ → s' 68 11 = nI (q_ru β 97 122 g q) → s' 68 12 = 2 → s' 68 13 = nI q0 → s' 68 14 = nI (q_ru β 97 122 g q) → R none s') → g_g E (g_wp E (d + 1)) 118 77 [some (.ref 68), none] [] s R := by
  intro g
  induction g with
  | zero =>
    intro q s hq fr e11 e13 h
    refine t118_77 ?_
    rw [e11]
    refine m_byte (by omega) hL ((fr.2 10 (by omega)).trans h10) (fun z => absurd z (by omega)) (fun _ => ⟨_, rfl, m_letter (fun y => absurd (Or.inl (by decide)) y) (fun _ => ⟨_, rfl, fun _ s52 e52 s53 e53 => h s53 ?_ ?_ ?_ ?_ ?_, fun y => absurd rfl y⟩)⟩)
    · rw [e53, e52]; exact (fr.up (by omega)).up (by omega)
    · rw [e53, e52]; exact (g_up_n (by omega)).trans ((g_up_n (by omega)).trans e11)
    · rw [e53, e52]; exact (g_up_n (by omega)).trans g_up_s
    · rw [e53, e52]; exact (g_up_n (by omega)).trans ((g_up_n (by omega)).trans e13)
    · rw [e53, e52]; exact g_up_s.trans e11
  | succ g ih =>
    intro q s hq fr e11 e13 h
    refine t118_77 ?_
    rw [e11]
    unfold q_ru at h
    refine m_byte (by omega) hL ((fr.2 10 (by omega)).trans h10) (fun _ => ⟨_, rfl, ?_⟩) (fun z => absurd z (by omega))
    dsimp only
    rw [fr.1 74 (by omega), hβ q (by omega)]
    refine m_letter (fun y => ⟨_, rfl, fun z => absurd z (by decide), fun _ s54 e54 => ?_⟩) (fun y => ⟨_, rfl, fun _ s52 e52 s53 e53 => ?_, fun z => absurd rfl z⟩)
    · rw [if_neg y] at h
      rw [e11, nI_1] at e54
      exact ih (q + 1) s54 (by omega) (by rw [e54]; exact fr.up (by omega)) (by rw [e54]; exact g_up_s) (by rw [e54]; exact (g_up_n (by omega)).trans e13) h
    · rw [if_pos y] at h
      refine h s53 ?_ ?_ ?_ ?_ ?_
      · rw [e53, e52]; exact (fr.up (by omega)).up (by omega)
      · rw [e53, e52]; exact (g_up_n (by omega)).trans ((g_up_n (by omega)).trans e11)
      · rw [e53, e52]; exact (g_up_n (by omega)).trans g_up_s
      · rw [e53, e52]; exact (g_up_n (by omega)).trans ((g_up_n (by omega)).trans e13)
      · rw [e53, e52]; exact g_up_s.trans e11
theorem m_run119 {q0 : Nat} (hL : L ≤ 400) (h10 : σ 68 10 = nI L) (hβ : ∀ i, i < 400 → σ 74 i = β i) : ∀ g q s, q + g = L → q0 ≤ q → q_fr s σ → s 68 11 = nI q → s 68 13 = nI q0 → (∀ s', q_fr s' σ → s' 68 11 = nI (q_ru β 48 57 g q) → s' 68 12 = (if q_ru β 48 57 g q - q0 ≤ 3 then 3 else 0) → s' 68 13 = nI q0 → s' 68 14 = nI (q_ru β 48 57 g q) → R none s') → g_g E (g_wp E (d + 1)) 118 119 [some (.ref 68), none] [] s R := by
  have fin : ∀ q s, q ≤ 400 → q0 ≤ q → q_fr s σ → s 68 11 = nI q → s 68 13 = nI q0 → (∀ s', q_fr s' σ → s' 68 11 = nI q → s' 68 12 = (if q - q0 ≤ 3 then 3 else 0) → s' 68 13 = nI q0 → s' 68 14 = nI q → R none s') → ((s 68 11 - s 68 13 ≤ 3 → ∀ s40 : g_S, s40 = g_up s 68 12 3 → ∀ s41 : g_S, s41 = g_up s40 68 14 (s 68 11) → R none s41) ∧ (¬ (s 68 11 - s 68 13 ≤ 3) → ∀ s42 : g_S, s42 = g_up s 68 12 0 → ∀ s43 : g_S, s43 = g_up s42 68 14 (s 68 11) → R none s43)) := by
    intro q s hq hq0 fr e11 e13 h
    rw [e11, e13, q_nsub hq0, show (3 : Int32) = nI 3 from rfl, nI_leI (by omega) (by omega)]
    refine ⟨fun z s40 e40 s41 e41 => ?_, fun z s40 e40 s41 e41 => ?_⟩
    · rw [if_pos z] at h
      refine h s41 ?_ ?_ ?_ ?_ ?_
      · rw [e41, e40]; exact (fr.up (by omega)).up (by omega)
      · rw [e41, e40]; exact (g_up_n (by omega)).trans ((g_up_n (by omega)).trans e11)
      · rw [e41, e40]; exact (g_up_n (by omega)).trans g_up_s
      · rw [e41, e40]; exact (g_up_n (by omega)).trans ((g_up_n (by omega)).trans e13)
      · rw [e41]; exact g_up_s
    · rw [if_neg z] at h
      refine h s41 ?_ ?_ ?_ ?_ ?_
      · rw [e41, e40]; exact (fr.up (by omega)).up (by omega)
      · rw [e41, e40]; exact (g_up_n (by omega)).trans ((g_up_n (by omega)).trans e11)
      · rw [e41, e40]; exact (g_up_n (by omega)).trans g_up_s
      · rw [e41, e40]; exact (g_up_n (by omega)).trans ((g_up_n (by omega)).trans e13)
      · rw [e41]; exact g_up_s
  intro g
  induction g with
  | zero =>
    intro q s hq hq0 fr e11 e13 h
    refine t118_119 ?_
    rw [e11]
    exact m_byte (by omega) hL ((fr.2 10 (by omega)).trans h10) (fun z => absurd z (by omega)) (fun _ => ⟨_, rfl, m_figure (fun y => absurd (Or.inl (by decide)) y) (fun _ => ⟨_, rfl, fun _ => fin q s (by omega) hq0 fr e11 e13 h, fun y => absurd rfl y⟩)⟩)
  | succ g ih =>
    intro q s hq hq0 fr e11 e13 h
    refine t118_119 ?_
    rw [e11]
    unfold q_ru at h
    refine m_byte (by omega) hL ((fr.2 10 (by omega)).trans h10) (fun _ => ⟨_, rfl, ?_⟩) (fun z => absurd z (by omega))
    dsimp only
    rw [fr.1 74 (by omega), hβ q (by omega)]
    refine m_figure (fun y => ⟨_, rfl, fun z => absurd z (by decide), fun _ s54 e54 => ?_⟩) (fun y => ⟨_, rfl, fun _ => ?_, fun z => absurd rfl z⟩)
    · rw [if_neg y] at h
      rw [e11, nI_1] at e54
      exact ih (q + 1) s54 (by omega) (by omega) (by rw [e54]; exact fr.up (by omega)) (by rw [e54]; exact g_up_s) (by rw [e54]; exact (g_up_n (by omega)).trans e13) h
    · rw [if_pos y] at h
      exact fin q s (by omega) hq0 fr e11 e13 h
/-- the token that begins where the cursor stands -/
theorem m_next_main {p : Nat} (hL : L ≤ 400) (hp : p ≤ L) (h10 : σ 68 10 = nI L) (hβ : ∀ i, i < 400 → σ 74 i = β i) (by' : q_by β) (nb : q_tS β L p < L → ¬ (β (q_tS β L p) = 32 ∨ β (q_tS β L p) = 10)) {s : g_S} (fr : q_fr s σ) (e11 : s 68 11 = nI (q_tS β L p)) (h : ∀ s', q_fr s' σ → q_rt s' β L p → R none s') : g_g E (g_wp E (d + 1)) 118 0 [some (.ref 68), none] [] s R := by
  have rS := q_tS_r (β := β) hp
  have s10 : s 68 10 = nI L := (fr.2 10 (by omega)).trans h10
  by_cases q : q_tS β L p < L
  · have nE : ¬ L ≤ q_tS β L p := by omega
    have n1 := nb q
    have b0 : s 74 (q_tS β L p) = β (q_tS β L p) := by rw [fr.1 74 (by omega)]; exact hβ _ (by omega)
    refine t118_0 ?_
    rw [e11]
    refine m_byte (by omega) hL s10 (fun _ => ⟨_, rfl, ?_⟩) (fun z => absurd z (by omega))
    dsimp only
    rw [b0, e11]
    refine ⟨fun z => absurd (Or.inl z) n1, fun _ => m_byte (by omega) hL s10 (fun _ => ⟨_, rfl, ?_⟩) (fun z => absurd z (by omega))⟩
    dsimp only
    rw [b0, e11]
    refine ⟨fun _ sa ea => ?_, fun z => absurd (Or.inr (Classical.not_not.mp z)) n1⟩
    have fa : q_fr sa σ := by rw [ea]; exact fr.up (by omega)
    have a11 : sa 68 11 = nI (q_tS β L p) := by rw [ea]; exact (g_up_n (by omega)).trans e11
    have a13 : sa 68 13 = nI (q_tS β L p) := by rw [ea]; exact g_up_s
    have a10 : sa 68 10 = nI L := (fa.2 10 (by omega)).trans h10
    refine m_byte (by omega) hL a10 (fun _ => ⟨_, rfl, ?_⟩) (fun z => absurd z (by omega))
    dsimp only
    rw [fa.1 74 (by omega), hβ _ (by omega)]
    refine ⟨fun _ => ?_, fun z => absurd (Classical.not_not.mp z) (q_by_n by' (show q_tS β L p < 400 by omega)).2⟩
    refine m_letter (fun y => ⟨_, rfl, fun z => absurd z (by decide), fun _ => ?_⟩) (fun y => ⟨_, rfl, fun _ => ?_, fun z => absurd rfl z⟩)
    · refine m_run77 (d := d) (q0 := q_tS β L p) hL h10 hβ (L - q_tS β L p) (q_tS β L p) sa (by omega) fa a11 a13 (fun s' f1 f2 f3 f4 f5 => h s' f1 ?_)
      have kE : q_tE β L p = q_ru β 97 122 (L - q_tS β L p) (q_tS β L p) := by unfold q_tE; rw [if_neg nE, if_neg y]
      have kK : q_tK β L p = 1 := by unfold q_tK; rw [if_neg nE, if_neg y]
      unfold q_rt
      rw [kK, kE]
      exact ⟨(f1.2 10 (by omega)).trans h10, f2, f3, f4, f5⟩
    · refine m_figure (fun y2 => ⟨_, rfl, fun z => absurd z (by decide), fun _ => ?_⟩) (fun y2 => ⟨_, rfl, fun _ sb eb => ?_, fun z => absurd rfl z⟩)
      · refine m_run119 (d := d) (q0 := q_tS β L p) hL h10 hβ (L - q_tS β L p) (q_tS β L p) sa (by omega) (Nat.le_refl _) fa a11 a13 (fun s' f1 f2 f3 f4 f5 => h s' f1 ?_)
        have kE : q_tE β L p = q_ru β 48 57 (L - q_tS β L p) (q_tS β L p) := by unfold q_tE; rw [if_neg nE, if_pos y, if_neg y2]
        rw [← kE] at f2 f3 f5
        refine ⟨(f1.2 10 (by omega)).trans h10, f2, ?_, f4, f5⟩
        rw [f3]
        unfold q_tK
        rw [if_neg nE, if_pos y, if_neg y2]
        by_cases z : q_tE β L p - q_tS β L p ≤ 3
        · rw [if_pos z, if_pos z]; rfl
        · rw [if_neg z, if_neg z]; rfl
      · have kE : q_tE β L p = q_tS β L p + 1 := by unfold q_tE; rw [if_neg nE, if_pos y, if_pos y2]
        rw [a11, nI_1, ← kE] at eb ⊢
        have fb : q_fr sb σ := by rw [eb]; exact fa.up (by omega)
        have b11 : sb 68 11 = nI (q_tE β L p) := by rw [eb]; exact g_up_s
        have b13 : sb 68 13 = nI (q_tS β L p) := by rw [eb]; exact (g_up_n (by omega)).trans a13
        refine ⟨fun z sc ec sd ed => h sd ?_ ?_, fun z sc ec sd ed => h sd ?_ ?_⟩
        · rw [ed, ec]; exact (fb.up (by omega)).up (by omega)
        · have kK : q_tK β L p = 4 := by unfold q_tK; rw [if_neg nE, if_pos y, if_pos y2, if_neg z]
          unfold q_rt
          rw [kK, ed, ec]
          exact ⟨(g_up_n (by omega)).trans ((g_up_n (by omega)).trans ((fb.2 10 (by omega)).trans h10)), (g_up_n (by omega)).trans ((g_up_n (by omega)).trans b11), (g_up_n (by omega)).trans g_up_s, (g_up_n (by omega)).trans ((g_up_n (by omega)).trans b13), g_up_s⟩
        · rw [ed, ec]; exact (fb.up (by omega)).up (by omega)
        · have kK : q_tK β L p = 3 := by unfold q_tK; rw [if_neg nE, if_pos y, if_pos y2, if_pos (Classical.not_not.mp z)]
          unfold q_rt
          rw [kK, ed, ec]
          exact ⟨(g_up_n (by omega)).trans ((g_up_n (by omega)).trans ((fb.2 10 (by omega)).trans h10)), (g_up_n (by omega)).trans ((g_up_n (by omega)).trans b11), (g_up_n (by omega)).trans g_up_s, (g_up_n (by omega)).trans ((g_up_n (by omega)).trans b13), g_up_s⟩
  · have eS : q_tS β L p = L := by omega
    have kE : q_tE β L p = L := by unfold q_tE; rw [if_pos (by omega)]; exact eS
    have kK : q_tK β L p = 0 := by unfold q_tK; rw [if_pos (by omega)]
    rw [eS] at e11
    refine t118_0 ?_
    rw [e11]
    refine m_byte (by omega) hL s10 (fun z => absurd z (by omega)) (fun _ => ⟨_, rfl, fun z => absurd z (by decide), fun _ => ?_⟩)
    rw [e11]
    refine m_byte (by omega) hL s10 (fun z => absurd z (by omega)) (fun _ => ⟨_, rfl, fun _ sa ea => ?_, fun z => absurd (by decide) z⟩)
    rw [e11] at ea ⊢
    have fa : q_fr sa σ := by rw [ea]; exact fr.up (by omega)
    have a11 : sa 68 11 = nI L := by rw [ea]; exact (g_up_n (by omega)).trans e11
    have a13 : sa 68 13 = nI L := by rw [ea]; exact g_up_s
    refine m_byte (by omega) hL ((fa.2 10 (by omega)).trans h10) (fun z => absurd z (by omega)) (fun _ => ⟨_, rfl, fun z => absurd rfl z, fun _ sb eb sc ec => h sc ?_ ?_⟩)
    · rw [ec, eb]; exact (fa.up (by omega)).up (by omega)
    · unfold q_rt
      rw [kK, kE, eS, ec, eb]
      exact ⟨(g_up_n (by omega)).trans ((g_up_n (by omega)).trans ((fa.2 10 (by omega)).trans h10)), (g_up_n (by omega)).trans ((g_up_n (by omega)).trans a11), (g_up_n (by omega)).trans g_up_s, (g_up_n (by omega)).trans ((g_up_n (by omega)).trans a13), g_up_s.trans a11⟩
theorem q_sk_nb {β : Nat → Int32} : ∀ {g p : Nat}, q_sk β g p < p + g → ¬ (β (q_sk β g p) = 32 ∨ β (q_sk β g p) = 10)
  | 0, p, h => absurd h (Nat.lt_irrefl p)
  | g + 1, p, h => by
    unfold q_sk at h ⊢
    by_cases q : β p = 32 ∨ β p = 10
    · rw [if_pos q] at h ⊢
      exact q_sk_nb (by omega)
    · rw [if_neg q]
      exact q
theorem m_next_tok {p : Nat} (hL : L ≤ 400) (hp : p ≤ L) (h10 : σ 68 10 = nI L) (e11 : σ 68 11 = nI p) (hβ : ∀ i, i < 400 → σ 74 i = β i) (by' : q_by β) (h : ∀ s', q_fr s' σ → q_rt s' β L p → R none s') : g_wp E (d + 2) 118 [.ref 68] σ R := by
  have nb : q_tS β L p < L → ¬ (β (q_tS β L p) = 32 ∨ β (q_tS β L p) = 10) := fun q => q_sk_nb (g := L - p) (p := p) (by unfold q_tS at q; omega)
  have l : ∀ g q s, q + g = L → q_sk β g q = q_tS β L p → q_fr s σ → s 68 11 = nI q → g_g E (g_wp E (d + 1)) 118 0 [some (.ref 68), none] [] s R := by
    intro g
    induction g with
    | zero =>
      intro q s hq e fr i11
      have e2 : q = q_tS β L p := e
      exact m_next_main (d := d) hL hp h10 hβ by' nb fr (by rw [← e2]; exact i11) h
    | succ g ih =>
      intro q s hq e fr i11
      have s10 : s 68 10 = nI L := (fr.2 10 (by omega)).trans h10
      have b0 : s 74 q = β q := by rw [fr.1 74 (by omega)]; exact hβ _ (by omega)
      have go : ∀ s5 : g_S, s5 = g_up s 68 11 (nI q + 1) → (β q = 32 ∨ β q = 10) → g_g E (g_wp E (d + 1)) 118 0 [some (.ref 68), none] [] s5 R := fun s5 e5 y => by
        rw [nI_1] at e5
        unfold q_sk at e
        rw [if_pos y] at e
        exact ih (q + 1) s5 (by omega) e (by rw [e5]; exact fr.up (by omega)) (by rw [e5]; exact g_up_s)
      by_cases y : β q = 32 ∨ β q = 10
      · refine t118_0 ?_
        rw [i11]
        refine m_byte (by omega) hL s10 (fun _ => ⟨_, rfl, ?_⟩) (fun z => absurd z (by omega))
        dsimp only
        rw [b0, i11]
        refine ⟨fun z s5 e5 => go s5 e5 y, fun z => m_byte (by omega) hL s10 (fun _ => ⟨_, rfl, ?_⟩) (fun z => absurd z (by omega))⟩
        dsimp only
        rw [b0, i11]
        exact ⟨fun z2 => absurd y (fun w => w.elim z z2), fun _ s5 e5 => go s5 e5 y⟩
      · have e2 : q = q_tS β L p := by
          unfold q_sk at e
          rw [if_neg y] at e
          exact e
        exact m_next_main (d := d) hL hp h10 hβ by' nb fr (by rw [← e2]; exact i11) h
  exact t118_e (l (L - p) p σ (by omega) rfl ⟨fun _ _ => rfl, fun _ _ => rfl⟩ e11)
end Q903
