/-! town: words, the class's half -/
def q_wl (q : Nat) : Nat := (g_roL (q - 10)).length
def q_wc (q i : Nat) : Int32 := g_at0 (g_roL (q - 10)) i 0
theorem g_wq {E : g_E} {q : Nat} (h : 20 ≤ q ∧ q < 28) : g_rn E (q - 10) = q_wl q ∧ ∀ j, g_ro E (q - 10) j = q_wc q j := by
  rcases (show q = 20 ∨ q = 21 ∨ q = 22 ∨ q = 23 ∨ q = 24 ∨ q = 25 ∨ q = 26 ∨ q = 27 by omega) with e | e | e | e | e | e | e | e <;> subst e <;> exact ⟨rfl, fun _ => rfl⟩
theorem q_wq1 : ∀ q, q < 28 → 20 ≤ q → 1 ≤ q_wl q ∧ q_wl q ≤ 5 ∧ Int32.ofNat (q_wl q) >>> ((0 : Int32) &&& 31) = nI (q_wl q) := by decide
theorem q_wq2 : ∀ q, q < 28 → 20 ≤ q → ∀ i, i < q_wl q → ((((q_wc q i) &&& (255 : Int32)).toUInt32 % 65536).toInt32 = q_wc q i ∧ (q_wc q i).toUInt32.toUInt16.toUInt32.toInt32 = q_wc q i) ∧ q_wc q i = nI (q_wc q i).toNatClampNeg ∧ 1 ≤ (q_wc q i).toNatClampNeg ∧ (q_wc q i).toNatClampNeg < 256 := by decide
/-- the token from p on is the word q -/
def q_wd (β : Nat → Int32) (L p q : Nat) : Prop := q_tK β L p = 1 ∧ q_tE β L p - q_tS β L p = q_wl q ∧ ∀ i, i < q_wl q → β (q_tS β L p + i) = q_wc q i
section Q902
variable {E : g_E} {d : Nat} {R : g_R} {σ : g_S} {β : Nat → Int32} {L : Nat}
theorem c_len {q : Nat} (hq : 20 ≤ q ∧ q < 28) (h : R (some (.int (nI (q_wl q)))) σ) : g_wp E (d + 2) 186 [.retAddr q] σ R := by
  have w := q_wq1 q hq.2 hq.1
  refine t186_0 hq ⟨by omega, t188_0 hq ⟨fun z => absurd z (by decide), fun _ => ⟨_, rfl, ?_⟩⟩⟩
  dsimp only
  rw [(g_wq hq).1, w.2.2]
  exact h
theorem c_char {q i : Nat} (hq : 20 ≤ q ∧ q < 28) (hi : i < q_wl q) (h : R (some (.int (q_wc q i))) σ) : g_wp E (d + 4) 187 [.retAddr q, .int (nI i)] σ R := by
  have w := q_wq1 q hq.2 hq.1
  obtain ⟨⟨v1, v2⟩, -⟩ := q_wq2 q hq.2 hq.1 i hi
  have gw := g_wq (E := E) hq
  have nw : narrow .char (.int (q_wc q i)) = .int (q_wc q i) := congrArg Value.int v2
  refine t187_0 hq (t189_0 hq ⟨fun z => absurd z (by decide), fun _ => ⟨fun z => absurd rfl z, fun _ => ⟨_, rfl, fun z => absurd z (by decide), fun _ => t191_0 ⟨by omega, t190_0 (t193_0 ⟨fun z => absurd z (nI_nlt (a := i) (b := 0) (by omega) (by omega)), fun _ => ⟨fun _ => ⟨_, rfl, rfl, by omega, by omega, ?_, ?_⟩, fun z => absurd ?_ z⟩⟩)⟩⟩⟩⟩)
  · rw [gw.1]
    exact vp_in_nI hi (by omega)
  · rw [q_cl (by omega), gw.2, v1]
    exact ⟨nw, _, rfl, nw, h⟩
  · rw [gw.1]
    exact nI_lt hi (by omega)
theorem c_has {q s e : Nat} (hq : 20 ≤ q ∧ q < 28) (hL : L ≤ 400) (eL : σ 13 1 = nI L) (hβ : ∀ i, i < 400 → σ 14 i = β i) (hs : s ≤ e ∧ e ≤ L) (h1 : e - s = q_wl q ∧ (∀ i, i < q_wl q → β (s + i) = q_wc q i) → R (some (.int 1)) σ) (h0 : ¬ (e - s = q_wl q ∧ ∀ i, i < q_wl q → β (s + i) = q_wc q i) → R (some (.int 0)) σ) : g_wp E (d + 5) 41 [.ref 13, .retAddr q, .int (nI s), .int (nI e)] σ R := by
  have w := q_wq1 q hq.2 hq.1
  refine t41_0 hq (c_len (d := d + 2) hq ⟨_, rfl, ?_⟩)
  dsimp only
  rw [q_nsub hs.1, nI_eq (by omega) (by omega)]
  refine ⟨fun el => ?_, fun el => h0 (fun z => el z.1)⟩
  have l : ∀ g i, i + g = q_wl q → (∀ j, j < i → β (s + j) = q_wc q j) → g_g E (g_wp E (d + 4)) 41 15 [some (.ref 13), some (.retAddr q), some (.int (nI s)), none, some (.int (nI i))] [] σ R := by
    intro g
    induction g with
    | zero =>
      intro i hi hj
      refine t41_15 hq (c_len (d := d + 2) hq ⟨_, rfl, ?_⟩)
      dsimp only
      rw [nI_leI (by omega) (by omega)]
      exact ⟨fun _ => h1 ⟨el, fun j hj' => hj j (by omega)⟩, fun z => absurd (by omega) z⟩
    | succ g ih =>
      intro i hi hj
      refine t41_15 hq (c_len (d := d + 2) hq ⟨_, rfl, ?_⟩)
      dsimp only
      rw [nI_leI (by omega) (by omega), nI_add]
      refine ⟨fun z => absurd z (by omega), fun _ => c_byte (by omega) hL eL (fun _ => ⟨_, rfl, c_char (d := d) hq (by omega) ⟨_, rfl, ?_⟩⟩) (fun z => absurd z (by omega))⟩
      dsimp only
      rw [hβ _ (by omega), nI_1]
      refine ⟨fun z => ih (i + 1) (by omega) (fun j hj' => ?_), fun z => h0 (fun y => z (y.2 i (by omega)))⟩
      by_cases e : j = i
      · rw [e]; exact z
      · exact hj j (by omega)
  exact l (q_wl q) 0 (by omega) (fun j hj => absurd hj (Nat.not_lt_zero j))
theorem c_isWord {p q : Nat} (hq : 20 ≤ q ∧ q < 28) (hL : L ≤ 400) (hp : p ≤ L) (eL : σ 13 1 = nI L) (hβ : ∀ i, i < 400 → σ 14 i = β i) (k3 : σ 40 3 = nI (q_tK β L p)) (k4 : σ 40 4 = nI (q_tS β L p)) (k2 : q_tK β L p ≠ 0 → σ 40 2 = nI (q_tE β L p)) (h1 : q_wd β L p q → R (some (.int 1)) σ) (h0 : ¬ q_wd β L p q → R (some (.int 0)) σ) : g_wp E (d + 6) 21 [.ref 40, .retAddr q] σ R := by
  have kl := q_tK_l (β := β) (L := L) (p := p)
  have rS := q_tS_r (β := β) hp
  have rE := q_tE_r (β := β) hp
  refine t21_0 hq ?_
  rw [k3, k4]
  refine ⟨fun z => h0 (fun y => z (by rw [y.1]; rfl)), fun z => ?_⟩
  have k1 : q_tK β L p = 1 := (nI_eq (b := 1) (by omega) (by omega)).mp (Classical.not_not.mp z)
  rw [k2 (by omega)]
  exact c_has (d := d) hq hL eL hβ rE (fun y => ⟨_, rfl, fun z => absurd z (by decide), fun _ => h1 ⟨k1, y.1, y.2⟩⟩) (fun y => ⟨_, rfl, fun _ => h0 (fun x => y ⟨x.2.1, x.2.2⟩), fun z => absurd rfl z⟩)
end Q902
