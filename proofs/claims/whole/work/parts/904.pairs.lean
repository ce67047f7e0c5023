/-! town: what each token has to be; the reference's steps -/
/-- the first fault of several -/
def q_an (a : Nat × Nat) (f s : Nat) : Nat × Nat := if a.1 = 0 then (f, s) else a
theorem q_an_k {a : Nat × Nat} {f s : Nat} (h : a.1 ≠ 0) : q_an a f s = a := if_neg h
theorem q_an_0 {a : Nat × Nat} {f s : Nat} (h : a.1 = 0) : q_an a f s = (f, s) := if_pos h
theorem q_an_2 {a : Nat × Nat} {f s : Nat} : q_an (q_an a f s) 0 s = q_an a f s := by
  by_cases h : a.1 = 0
  · rw [q_an_0 h]
    by_cases e : f = 0
    · subst e; exact q_an_0 rfl
    · exact q_an_k e
  · rw [q_an_k h, q_an_k h]
theorem q_an_l {a : Nat × Nat} {f s : Nat} (h : a.1 ≤ 3) (hf : f ≤ 3) : (q_an a f s).1 ≤ 3 := by
  by_cases q : a.1 = 0
  · rw [q_an_0 q]; exact hf
  · rw [q_an_k q]; exact h
theorem q_an_z {a : Nat × Nat} {f s : Nat} (h : (q_an a f s).1 = 0) : a.1 = 0 ∧ f = 0 := by
  by_cases q : a.1 = 0
  · rw [q_an_0 q] at h; exact ⟨q, h⟩
  · rw [q_an_k q] at h; exact absurd h q
def q_nf (β : Nat → Int32) (L p lo hi : Nat) : Nat := if q_tK β L p = 2 then (if (lo : Int) ≤ (q_tV β L p).toInt ∧ (q_tV β L p).toInt ≤ hi then 0 else 2) else 1
theorem q_nf_l {β : Nat → Int32} {L p lo hi : Nat} : q_nf β L p lo hi ≤ 3 := by
  unfold q_nf
  repeat' split
  all_goals omega
theorem q_nf_0 {β : Nat → Int32} {L p lo hi : Nat} (h : q_nf β L p lo hi = 0) (hh : hi < 1000) : ∃ n, lo ≤ n ∧ n ≤ hi ∧ q_tV β L p = nI n := by
  unfold q_nf at h
  by_cases k : q_tK β L p = 2
  · rw [if_pos k] at h
    by_cases q : (lo : Int) ≤ (q_tV β L p).toInt ∧ (q_tV β L p).toInt ≤ hi
    · obtain ⟨n, hn, e⟩ := q_ix (x := q_tV β L p) (n := hi + 1) (by omega) (by omega) (by omega)
      rw [e, nI_toInt (by omega)] at q
      exact ⟨n, by omega, by omega, e⟩
    · rw [if_neg q] at h
      cases h
  · rw [if_neg k] at h
    cases h
def q_sf (β : Nat → Int32) (L p : Nat) : Nat := if q_tK β L p = 3 then 0 else 1
noncomputable def q_wf (β : Nat → Int32) (L p q : Nat) : Nat := if q_pd (q_wd β L p q) = true then 0 else 1
theorem q_wf_0 {β : Nat → Int32} {L p q : Nat} : q_wf β L p q = 0 ↔ q_wd β L p q := by
  unfold q_wf
  by_cases h : q_wd β L p q
  · rw [if_pos (q_pd_t h)]; exact ⟨fun _ => h, fun _ => rfl⟩
  · rw [if_neg (fun z => h (q_pd_iff.mp z))]; exact ⟨fun z => absurd z (by decide), fun z => absurd z h⟩
/-- the sort that is told, 5: none -/
noncomputable def q_srt (β : Nat → Int32) (L p : Nat) : Nat := if q_wf β L p 23 = 0 then 0 else if q_wf β L p 24 = 0 then 1 else if q_wf β L p 25 = 0 then 2 else if q_wf β L p 26 = 0 then 3 else if q_wf β L p 27 = 0 then 4 else 5
/-! words as numbers -/
def q_pk (a : Nat → Nat) : Nat → Nat
  | 0 => 0
  | n + 1 => 256 * q_pk a n + a n
theorem q_pk_e {a b : Nat → Nat} : ∀ {n m : Nat}, (∀ i, i < n → 1 ≤ a i ∧ a i < 256) → (∀ i, i < m → 1 ≤ b i ∧ b i < 256) → (q_pk a n = q_pk b m ↔ n = m ∧ ∀ i, i < n → a i = b i)
  | 0, 0, _, _ => ⟨fun _ => ⟨rfl, fun i hi => absurd hi (Nat.not_lt_zero i)⟩, fun _ => rfl⟩
  | 0, m + 1, _, hb => by
    have := hb m (by omega)
    refine ⟨fun z => ?_, fun z => absurd z.1 (by omega)⟩
    have e : (0 : Nat) = 256 * q_pk b m + b m := z
    omega
  | n + 1, 0, ha, _ => by
    have := ha n (by omega)
    refine ⟨fun z => ?_, fun z => absurd z.1 (by omega)⟩
    have e : 256 * q_pk a n + a n = 0 := z
    omega
  | n + 1, m + 1, ha, hb => by
    have h1 := ha n (by omega)
    have h2 := hb m (by omega)
    have ih := q_pk_e (a := a) (b := b) (n := n) (m := m) (fun i hi => ha i (by omega)) (fun i hi => hb i (by omega))
    constructor
    · intro z
      have e : 256 * q_pk a n + a n = 256 * q_pk b m + b m := z
      obtain ⟨i1, i2⟩ := ih.mp (by omega)
      refine ⟨by omega, fun i hi => ?_⟩
      by_cases e2 : i = n
      · rw [e2]
        subst i1
        omega
      · exact i2 i (by omega)
    · rintro ⟨z1, z2⟩
      have z1' : n = m := by omega
      subst z1'
      have e := ih.mpr ⟨rfl, fun i hi => z2 i (by omega)⟩
      have e2 := z2 n (by omega)
      show 256 * q_pk a n + a n = 256 * q_pk b n + b n
      omega
theorem q_pk_l {a : Nat → Nat} : ∀ {n : Nat}, (∀ i, i < n → a i < 256) → q_pk a n < 256 ^ n
  | 0, _ => Nat.one_pos
  | n + 1, h => by
    have i := q_pk_l (a := a) (n := n) (fun i hi => h i (by omega))
    have h2 := h n (by omega)
    show 256 * q_pk a n + a n < 256 ^ (n + 1)
    rw [Nat.pow_succ]
    omega
set_option maxRecDepth 100000 in
theorem q_b64 : ∀ b, b < 256 → (nI b).toInt64 = Int64.ofNat b := by decide
theorem q_shl {P b : Nat} (hP : P < 2 ^ 48) (hb : b < 256) : (Int64.ofNat P <<< ((8 : Int32).toInt64 &&& 63)) ||| (nI b).toInt64 = Int64.ofNat (256 * P + b) := by
  rw [q_b64 b hb, show ((8 : Int32).toInt64 &&& 63) = (8 : Int64) by decide]
  apply Int64.toBitVec_inj.mp
  apply BitVec.eq_of_toNat_eq
  have h1 : (Int64.ofNat P <<< (8 : Int64)).toBitVec = BitVec.ofNat 64 P <<< 8 := rfl
  have h2 : (Int64.ofNat b).toBitVec = BitVec.ofNat 64 b := rfl
  have h3 : (Int64.ofNat (256 * P + b)).toBitVec = BitVec.ofNat 64 (256 * P + b) := rfl
  have e1 : (P <<< 8) % 2 ^ 64 = P <<< 8 := Nat.mod_eq_of_lt (by rw [Nat.shiftLeft_eq]; omega)
  have e2 := Nat.shiftLeft_add_eq_or_of_lt (i := 8) (b := b) (by omega) P
  rw [Int64.toBitVec_or, h1, h2, h3, BitVec.toNat_or, BitVec.toNat_shiftLeft, BitVec.toNat_ofNat, BitVec.toNat_ofNat, BitVec.toNat_ofNat, Nat.mod_eq_of_lt (show P < 2 ^ 64 by omega), Nat.mod_eq_of_lt (show b < 2 ^ 64 by omega), e1, ← e2, Nat.shiftLeft_eq, Nat.mod_eq_of_lt (by omega)]
  omega
theorem q_o64 {a b : Nat} (ha : a < 2 ^ 63) (hb : b < 2 ^ 63) : Int64.ofNat a = Int64.ofNat b ↔ a = b := by
  refine ⟨fun h => ?_, fun h => by rw [h]⟩
  have z := congrArg Int64.toInt h
  rw [Int64.toInt_ofNat_of_lt (by omega), Int64.toInt_ofNat_of_lt (by omega)] at z
  omega
theorem q_cmp0 {x y : Int64} : lg_cmp x y = 0 ↔ x = y := by
  unfold lg_cmp
  by_cases h : x > y
  · rw [if_pos h]
    refine ⟨fun z => absurd z (by decide), fun z => ?_⟩
    subst z
    have := Int64.lt_iff_toInt_lt.mp h
    omega
  · rw [if_neg h]
    by_cases e : x = y
    · rw [if_pos e]; exact ⟨fun _ => e, fun _ => rfl⟩
    · rw [if_neg e]; exact ⟨fun z => absurd z (by decide), fun z => absurd z e⟩
/-- the word q as a number -/
def q_wk (q : Nat) : Nat := q_pk (fun i => (q_wc q i).toNatClampNeg) (q_wl q)
theorem q_wk_v : Int64.ofNat (q_wk 20) = 500086302066 ∧ Int64.ofNat (q_wk 21) = 2002873452 ∧ Int64.ofNat (q_wk 22) = 1936224112 ∧ Int64.ofNat (q_wk 23) = 1684107883 ∧ Int64.ofNat (q_wk 24) = 495891410553 ∧ Int64.ofNat (q_wk 25) = 1852796782 ∧ Int64.ofNat (q_wk 26) = 1835103091 ∧ Int64.ofNat (q_wk 27) = 1818324336 := by decide
theorem q_wk_1 : ∀ q, q < 28 → 20 ≤ q → 1 ≤ q_wk q ∧ q_wk q < 2 ^ 63 := by decide
/-- the number of the name from p on -/
def q_nv (β : Nat → Int32) (L p : Nat) : Nat := if q_tK β L p = 1 ∧ q_tE β L p - q_tS β L p < 8 then q_pk (fun i => (β (q_tS β L p + i)).toNatClampNeg) (q_tE β L p - q_tS β L p) else 0
theorem q_let {β : Nat → Int32} {L p i : Nat} (by' : q_by β) (hL : L ≤ 400) (hp : p ≤ L) (k : q_tK β L p = 1) (hi : i < q_tE β L p - q_tS β L p) : ∃ b, β (q_tS β L p + i) = nI b ∧ 1 ≤ b ∧ b < 256 := by
  have rE := q_tE_r (β := β) hp
  have nE : ¬ L ≤ q_tS β L p := by omega
  obtain ⟨b, hb, eb⟩ := by' (q_tS β L p + i) (by omega)
  refine ⟨b, eb, ?_, hb⟩
  have nl : ¬ (β (q_tS β L p) < 97 ∨ 122 < β (q_tS β L p)) := fun y => by
    unfold q_tK at k
    rw [if_neg nE, if_pos y] at k
    revert k
    repeat' split
    all_goals (intro k; cases k)
  have kE : q_tE β L p = q_ru β 97 122 (L - q_tS β L p) (q_tS β L p) := by unfold q_tE; rw [if_neg nE, if_neg nl]
  have z := q_ru_in (β := β) (lo := 97) (hi := 122) (g := L - q_tS β L p) (p := q_tS β L p) (i := q_tS β L p + i) (by omega) (by omega)
  by_cases e : b = 0
  · exfalso
    apply z
    rw [eb, e]
    exact Or.inl (by decide)
  · omega
theorem q_nv_e {β : Nat → Int32} {L p q : Nat} (by' : q_by β) (hL : L ≤ 400) (hp : p ≤ L) (hq : 20 ≤ q ∧ q < 28) : q_nv β L p = q_wk q ↔ q_wd β L p q := by
  have w1 := q_wq1 q hq.2 hq.1
  have w2 := q_wq2 q hq.2 hq.1
  have wk := q_wk_1 q hq.2 hq.1
  unfold q_nv
  by_cases h : q_tK β L p = 1 ∧ q_tE β L p - q_tS β L p < 8
  · rw [if_pos h]
    unfold q_wk
    rw [q_pk_e (fun i hi => ?_) (fun i hi => ⟨(w2 i hi).2.2.1, (w2 i hi).2.2.2⟩)]
    · unfold q_wd
      constructor
      · rintro ⟨z1, z2⟩
        refine ⟨h.1, z1, fun i hi => ?_⟩
        obtain ⟨b, eb, b1, b2⟩ := q_let by' hL hp h.1 (i := i) (by omega)
        have z := z2 i (by omega)
        rw [eb, q_cl (by omega)] at z
        rw [eb, (w2 i hi).2.1, ← z]
      · rintro ⟨z1, z2, z3⟩
        exact ⟨z2, fun i hi => by rw [z3 i (by omega)]⟩
    · obtain ⟨b, eb, b1, b2⟩ := q_let by' hL hp h.1 hi
      rw [eb, q_cl (by omega)]
      exact ⟨b1, b2⟩
  · rw [if_neg h]
    refine ⟨fun z => by omega, fun z => absurd ⟨z.1, ?_⟩ h⟩
    have := z.2.1
    omega
theorem q_nv_l {β : Nat → Int32} {L p : Nat} (by' : q_by β) (hL : L ≤ 400) (hp : p ≤ L) : q_nv β L p < 2 ^ 63 := by
  unfold q_nv
  by_cases h : q_tK β L p = 1 ∧ q_tE β L p - q_tS β L p < 8
  · rw [if_pos h]
    have z := q_pk_l (a := fun i => (β (q_tS β L p + i)).toNatClampNeg) (n := q_tE β L p - q_tS β L p) (fun i hi => by
      obtain ⟨b, eb, b1, b2⟩ := q_let by' hL hp h.1 hi
      rw [eb, q_cl (by omega)]
      exact b2)
    have y : 256 ^ (q_tE β L p - q_tS β L p) ≤ 256 ^ 7 := Nat.pow_le_pow_right (by omega) (by omega)
    have e7 : (256 : Nat) ^ 7 < 2 ^ 63 := by decide
    omega
  · rw [if_neg h]; omega
/-! the reference's steps -/
def q_J (s : g_S) (β : Nat → Int32) (L p : Nat) (a : Nat × Nat) : Prop := s 68 15 = nI a.1 ∧ a.1 ≤ 3 ∧ (a.1 ≠ 0 → s 68 16 = nI a.2) ∧ p ≤ L ∧ ∃ p', p' ≤ L ∧ q_rt s β L p' ∧ (a.1 = 0 → p' = p)
def q_fj (s σ : g_S) : Prop := (∀ x, x ≠ 68 → s x = σ x) ∧ ∀ j, j < 11 ∨ 16 < j → s 68 j = σ 68 j
theorem q_fj.rf {s : g_S} : q_fj s s := ⟨fun _ _ => rfl, fun _ _ => rfl⟩
theorem q_fj.tr {s σ s2 : g_S} (h2 : q_fj s2 s) (h : q_fj s σ) : q_fj s2 σ := ⟨fun x q => (h2.1 x q).trans (h.1 x q), fun j q => (h2.2 j q).trans (h.2 j q)⟩
theorem q_fr.fj {s σ : g_S} (h : q_fr s σ) : q_fj s σ := ⟨h.1, fun j q => h.2 j (by omega)⟩
theorem q_fj.up {s σ : g_S} {j : Nat} {v : Int32} (h : q_fj s σ) (hj : 11 ≤ j ∧ j ≤ 16) : q_fj (g_up s 68 j v) σ := ⟨fun x q => (g_up_ne q).trans (h.1 x q), fun i q => (g_up_n (by omega)).trans (h.2 i q)⟩
theorem q_rt.up {s : g_S} {β : Nat → Int32} {L p j : Nat} {v : Int32} (h : q_rt s β L p) (hj : 14 < j) : q_rt (g_up s 68 j v) β L p := by
  obtain ⟨h1, h2, h3, h4, h5⟩ := h
  exact ⟨(g_up_n (by omega)).trans h1, (g_up_n (by omega)).trans h2, (g_up_n (by omega)).trans h3, (g_up_n (by omega)).trans h4, (g_up_n (by omega)).trans h5⟩
theorem q_rt.same {s s2 : g_S} {β : Nat → Int32} {L p : Nat} (h : q_rt s β L p) (k : s2 68 = s 68) : q_rt s2 β L p := by
  unfold q_rt
  rw [k]; exact h
theorem q_J.same {s s2 : g_S} {β : Nat → Int32} {L p : Nat} {a : Nat × Nat} (h : q_J s β L p a) (k : s2 68 = s 68) : q_J s2 β L p a := by
  obtain ⟨h1, h2, h3, h4, p', h5, h6, h7⟩ := h
  refine ⟨by rw [k]; exact h1, h2, by rw [k]; exact h3, h4, p', h5, h6.same k, h7⟩
theorem q_J.mv {s : g_S} {β : Nat → Int32} {L p p2 : Nat} {a : Nat × Nat} (h : q_J s β L p a) (h0 : a.1 ≠ 0) (hp : p2 ≤ L) : q_J s β L p2 a := by
  obtain ⟨h1, h2, h3, h4, p', h5, h6, h7⟩ := h
  exact ⟨h1, h2, h3, hp, p', h5, h6, fun z => absurd z h0⟩
theorem q_J.nz {s : g_S} {β : Nat → Int32} {L p : Nat} {a : Nat × Nat} (h : q_J s β L p a) : s 68 15 = 0 ↔ a.1 = 0 := by
  rw [h.1]
  exact nI_eq (b := 0) (by have := h.2.1; omega) (by omega)
section Q904
variable {E : g_E} {d : Nat} {R : g_R} {σ : g_S} {β : Nat → Int32} {L : Nat}
theorem m_bad {f p : Nat} {a : Nat × Nat} (J : q_J σ β L p a) (hf : 1 ≤ f ∧ f ≤ 3) (h : ∀ s, q_fj s σ → q_J s β L p (q_an a f (q_tS β L p)) → R none s) : g_wp E (d + 1) 120 [.ref 68, .int (nI f)] σ R := by
  refine t120_0 ?_
  rw [J.nz]
  refine ⟨fun z => h σ q_fj.rf (by rw [q_an_k z]; exact J), fun z s2 e2 s3 e3 => ?_⟩
  have z0 := Classical.not_not.mp z
  obtain ⟨h1, h2, h3, h4, p', h5, h6, h7⟩ := id J
  have ep := h7 z0
  subst ep
  refine h s3 ?_ ?_
  · rw [e3, e2]; exact (q_fj.rf.up (by omega)).up (by omega)
  · rw [q_an_0 z0, e3, e2]
    exact ⟨(g_up_n (by omega)).trans g_up_s, hf.2, fun _ => g_up_s.trans h6.2.2.2.1, h4, p', h5, (h6.up (by omega)).up (by omega), fun y => absurd y (by dsimp only; omega)⟩
theorem m_must {p f : Nat} {so : Int32} {a : Nat × Nat} (hL : L ≤ 400) (hβ : ∀ i, i < 400 → σ 74 i = β i) (by' : q_by β) (J : q_J σ β L p a) (h1 : so = 0 → f = 1) (h0 : ¬ so = 0 → f = 0) (h : ∀ s, q_fj s σ → q_J s β L (q_tE β L p) (q_an a f (q_tS β L p)) → R none s) : g_wp E (d + 3) 121 [.ref 68, .int so] σ R := by
  have rE := q_tE_r (β := β) J.2.2.2.1
  have rS := q_tS_r (β := β) J.2.2.2.1
  refine t121_0 ⟨fun z => ?_, fun z => ?_⟩
  · have f0 := h0 z
    subst f0
    rw [J.nz]
    refine ⟨fun y => h σ q_fj.rf (by rw [q_an_k y]; exact J.mv y rE.2), fun y => ?_⟩
    have z0 := Classical.not_not.mp y
    obtain ⟨g1, g2, g3, g4, p', g5, g6, g7⟩ := id J
    have ep := g7 z0
    subst ep
    refine m_next_tok (d := d) (p := q_tE β L p') hL rE.2 g6.1 g6.2.1 hβ by' (fun s' fr rt => ⟨rfl, h s' fr.fj ?_⟩)
    rw [q_an_0 z0]
    refine ⟨(fr.2 15 (by omega)).trans (g1.trans (by rw [z0])), by omega, fun y => absurd rfl y, rE.2, q_tE β L p', rE.2, rt, fun _ => rfl⟩
  · have f1 := h1 (Classical.not_not.mp z)
    subst f1
    refine m_bad (d := d + 1) (f := 1) J ⟨by omega, by omega⟩ (fun s fj J2 => ⟨rfl, ?_⟩)
    have nz : (q_an a 1 (q_tS β L p)).1 ≠ 0 := fun y => absurd (q_an_z y).2 (by omega)
    dsimp only
    rw [J2.nz]
    exact ⟨fun y => h s fj (J2.mv nz rE.2), fun y => absurd nz y⟩
theorem m_figs {p : Nat} (hL : L ≤ 400) (hp : p ≤ L) (hβ : ∀ i, i < 400 → σ 74 i = β i) (rt : q_rt σ β L p) (h : R (some (.int (q_tV β L p))) σ) : g_wp E (d + 1) 123 [.ref 68] σ R := by
  have rE := q_tE_r (β := β) hp
  have kl := q_rk_e (q_tK_l (β := β) (L := L) (p := p))
  obtain ⟨h1, h2, h3, h4, h5⟩ := rt
  refine t123_0 ?_
  rw [h4]
  unfold q_tV at h
  by_cases k : q_tK β L p = 2
  · rw [if_pos k] at h
    have l : ∀ g i v, i + g = q_tE β L p → R (some (.int (q_dg β g i v))) σ → g_g E (g_wp E d) 123 7 [some (.ref 68), some (.int v), some (.int (nI i))] [] σ R := by
      intro g
      induction g with
      | zero =>
        intro i v hi h
        refine t123_7 ?_
        rw [h5, nI_leI (by omega) (by omega)]
        exact ⟨fun _ => h, fun z => absurd (by omega) z⟩
      | succ g ih =>
        intro i v hi h
        refine t123_7 ?_
        rw [h5, nI_leI (by omega) (by omega), h3, q_cl (by omega), hβ i (by omega), nI_1]
        refine ⟨fun z => absurd z (by omega), fun _ => ⟨fun z => absurd ?_ z, fun _ => ⟨vp_in_nI (by omega) (by omega), ih (i + 1) _ (by omega) h⟩⟩⟩
        rw [kl.2.2.1.mpr k]; rfl
    exact l (q_tE β L p - q_tS β L p) (q_tS β L p) 0 (by omega) h
  · rw [if_neg k] at h
    refine t123_7 ⟨fun _ => h, fun _ => ⟨fun _ => h, fun z => absurd (Classical.not_not.mp z) (fun y => k ?_)⟩⟩
    rw [h3] at y
    exact kl.2.2.1.mp ((nI_eq (b := 3) (by omega) (by omega)).mp y)
theorem m_number {p lo hi : Nat} {a : Nat × Nat} (hlo : lo < 2 ^ 31) (hhi : hi < 2 ^ 31) (hL : L ≤ 400) (hβ : ∀ i, i < 400 → σ 74 i = β i) (by' : q_by β) (J : q_J σ β L p a) (h : ∀ r s, q_fj s σ → q_J s β L (q_tE β L p) (q_an a (q_nf β L p lo hi) (q_tS β L p)) → ((q_an a (q_nf β L p lo hi) (q_tS β L p)).1 = 0 → r = q_tV β L p) → R (some (.int r)) s) : g_wp E (d + 4) 124 [.ref 68, .int (nI lo), .int (nI hi)] σ R := by
  have rE := q_tE_r (β := β) J.2.2.2.1
  have kl := q_rk_e (q_tK_l (β := β) (L := L) (p := p))
  by_cases z0 : a.1 = 0
  · obtain ⟨g1, g2, g3, g4, p', g5, g6, g7⟩ := id J
    have ep := g7 z0
    subst ep
    have g12 := g6.2.2.1
    refine t124_0 ?_
    rw [g1, z0]
    refine ⟨fun _ => m_figs (d := d + 2) hL g4 hβ g6 ⟨_, rfl, ?_⟩, fun z => absurd (by decide) z⟩
    dsimp only
    rw [g12]
    refine ⟨fun z => ?_, fun z => ?_⟩
    · have k2 : ¬ q_tK β L p' = 2 := fun y => z (by rw [kl.2.2.1.mpr y]; rfl)
      have en : q_nf β L p' lo hi = 1 := by unfold q_nf; rw [if_neg k2]
      rw [en] at h
      refine t124_39 ?_
      rw [g12]
      refine ⟨fun _ => m_must (d := d) hL hβ by' J (fun _ => rfl) (fun y => absurd rfl y) (fun s fj J2 => ⟨rfl, h _ s fj J2 (fun y => absurd (q_an_z y).2 (by omega))⟩), fun y => absurd z y⟩
    · have k2 : q_tK β L p' = 2 := kl.2.2.1.mp ((nI_eq (b := 3) (by omega) (by omega)).mp (Classical.not_not.mp z))
      refine m_in (d := d + 2) (lo : Int) (hi : Int) (by rw [Int32.toInt_toInt64, nI_toInt hlo]) (by rw [Int32.toInt_toInt64, nI_toInt hhi]) (fun y1 y2 => ⟨_, rfl, fun _ => ?_, fun y => absurd (by decide) y⟩) (fun y1 => ⟨_, rfl, fun y => absurd rfl y, fun _ => ?_⟩)
      · have en : q_nf β L p' lo hi = 0 := by unfold q_nf; rw [if_pos k2, if_pos ⟨y1, y2⟩]
        rw [en] at h
        refine t124_39 ?_
        rw [g12]
        exact ⟨fun y => absurd y z, fun _ => m_must (d := d) hL hβ by' J (fun y => absurd y (by decide)) (fun _ => rfl) (fun s fj J2 => ⟨rfl, h _ s fj J2 (fun _ => rfl)⟩)⟩
      · have en : q_nf β L p' lo hi = 2 := by unfold q_nf; rw [if_pos k2, if_neg (by omega)]
        rw [en] at h
        have nz : (q_an a 2 (q_tS β L p')).1 ≠ 0 := fun y => absurd (q_an_z y).2 (by omega)
        refine m_bad (d := d + 2) (f := 2) J ⟨by omega, by omega⟩ (fun s fj J2 => ⟨rfl, ?_⟩)
        have fin : ∀ so : Int32, ∀ f, (so = 0 → f = 1) → (¬ so = 0 → f = 0) → g_wp E (d + 3) 121 [.ref 68, .int so] s (g_r0 fun s15 => R (some (.int (q_tV β L p'))) s15) := fun so f f1 f0 => m_must (d := d) (f := f) hL (fun i hi => (congrFun (fj.1 74 (by omega)) i).trans (hβ i hi)) by' J2 f1 f0 (fun s2 fj2 J3 => ⟨rfl, h _ s2 (fj2.tr fj) (by rw [q_an_k nz] at J3; exact J3) (fun y => absurd y nz)⟩)
        exact t124_39 ⟨fun _ => fin 0 1 (fun _ => rfl) (fun y => absurd rfl y), fun _ => fin 1 0 (fun y => absurd y (by decide)) (fun _ => rfl)⟩
  · refine t124_0 ⟨fun z => ?_, fun _ => ?_⟩
    · rw [J.1] at z
      exact absurd z (nI_ge (a := 0) (by omega) (by have := J.2.1; omega))
    · rw [q_an_k z0] at h
      exact h 0 σ q_fj.rf (J.mv z0 rE.2) (fun y => absurd y z0)
theorem m_mustEnd {p : Nat} {a : Nat × Nat} (hL : L ≤ 400) (hβ : ∀ i, i < 400 → σ 74 i = β i) (by' : q_by β) (J : q_J σ β L p a) (h : ∀ s, q_fj s σ → q_J s β L (q_tE β L p) (q_an a (q_sf β L p) (q_tS β L p)) → R none s) : g_wp E (d + 4) 126 [.ref 68] σ R := by
  have rE := q_tE_r (β := β) J.2.2.2.1
  have kl := q_rk_e (q_tK_l (β := β) (L := L) (p := p))
  refine t126_0 ?_
  rw [J.nz]
  refine ⟨fun z0 => h σ q_fj.rf (by rw [q_an_k z0]; exact J.mv z0 rE.2), fun z => ?_⟩
  have z0 := Classical.not_not.mp z
  obtain ⟨g1, g2, g3, g4, p', g5, g6, g7⟩ := id J
  have ep := g7 z0
  subst ep
  rw [g6.2.2.1]
  refine ⟨fun y => ?_, fun y => ?_⟩
  · have k : ¬ q_tK β L p' = 3 := fun x => y (by rw [kl.2.2.2.1.mpr x]; rfl)
    have e : q_sf β L p' = 1 := if_neg k
    rw [e] at h
    exact m_must (d := d) hL hβ by' J (fun _ => rfl) (fun x => absurd rfl x) (fun s fj J2 => ⟨rfl, h s fj J2⟩)
  · have k : q_tK β L p' = 3 := kl.2.2.2.1.mp ((nI_eq (b := 4) (by omega) (by omega)).mp (Classical.not_not.mp y))
    have e : q_sf β L p' = 0 := if_pos k
    rw [e] at h
    exact m_must (d := d) hL hβ by' J (fun x => absurd x (by decide)) (fun _ => rfl) (fun s fj J2 => ⟨rfl, h s fj J2⟩)
theorem m_begins {p i : Nat} {v : Int32} {a : Nat × Nat} (hi : i < 185) (hL : L ≤ 400) (hβ : ∀ i, i < 400 → σ 74 i = β i) (by' : q_by β) (J : q_J σ β L p a) (h : ∀ s, q_fj s σ → q_J s β L (q_tE β L p) (q_an a (if σ 73 i = v then 3 else 0) (q_tS β L p)) → R none s) : g_wp E (d + 4) 127 [.ref 68, .int (nI i), .int v] σ R := by
  refine t127_0 ⟨vp_in_nI hi (by omega), ?_⟩
  rw [q_cl (by omega)]
  refine ⟨fun z => ?_, fun z => ?_⟩
  · rw [if_neg z] at h
    exact m_must (d := d) hL hβ by' J (fun x => absurd x (by decide)) (fun _ => rfl) (fun s fj J2 => ⟨rfl, h s fj J2⟩)
  · rw [if_pos (Classical.not_not.mp z)] at h
    exact m_bad (d := d + 2) (f := 3) J ⟨by omega, by omega⟩ (fun s fj J2 => ⟨rfl, m_must (d := d) (f := 0) hL (fun i hi => (congrFun (fj.1 74 (by omega)) i).trans (hβ i hi)) by' J2 (fun x => absurd x (by decide)) (fun _ => rfl) (fun s2 fj2 J3 => ⟨rfl, h s2 (fj2.tr fj) (by rw [q_an_2] at J3; exact J3)⟩)⟩)
theorem m_name {p : Nat} {a : Nat × Nat} (hL : L ≤ 400) (hβ : ∀ i, i < 400 → σ 74 i = β i) (by' : q_by β) (J : q_J σ β L p a) (h : ∀ r : Int64, (∀ q, 20 ≤ q → q < 28 → (lg_cmp r (Int64.ofNat (q_wk q)) = 0 ↔ (a.1 = 0 ∧ q_wd β L p q))) → R (some (.long r)) σ) : g_wp E (d + 1) 122 [.ref 68] σ R := by
  obtain ⟨g1, g2, g3, g4, p', g5, g6, g7⟩ := id J
  have rE := q_tE_r (β := β) g5
  have kl := q_rk_e (q_tK_l (β := β) (L := L) (p := p'))
  obtain ⟨h1, h2, h3, h4, h5⟩ := g6
  have fin : (a.1 ≠ 0 → R (some (.long 0)) σ) ∧ (a.1 = 0 → R (some (.long (Int64.ofNat (q_nv β L p')))) σ) := by
    refine ⟨fun z => h 0 (fun q q1 q2 => ?_), fun z => h _ (fun q q1 q2 => ?_)⟩
    · rw [q_cmp0, show (0 : Int64) = Int64.ofNat 0 from rfl]
      have wk := q_wk_1 q q2 q1
      rw [q_o64 (by omega) wk.2]
      exact ⟨fun y => by omega, fun y => absurd y.1 z⟩
    · have ep := g7 z
      subst ep
      rw [q_cmp0, q_o64 (q_nv_l by' hL g5) (q_wk_1 q q2 q1).2, q_nv_e by' hL g5 ⟨q1, q2⟩]
      exact ⟨fun y => ⟨z, y⟩, fun y => y.2⟩
  have ex : ∀ x : Int64, x = Int64.ofNat (q_nv β L p') → ((¬ σ 68 15 = 0 → R (some (.long 0)) σ) ∧ (¬ (¬ σ 68 15 = 0) → R (some (.long x)) σ)) := fun x e => by
    rw [J.nz, e]
    exact ⟨fun z => fin.1 z, fun z => fin.2 (Classical.not_not.mp z)⟩
  refine t122_0 ?_
  rw [h4]
  by_cases k : q_tK β L p' = 1 ∧ q_tE β L p' - q_tS β L p' < 8
  · have env : q_nv β L p' = q_pk (fun i => (β (q_tS β L p' + i)).toNatClampNeg) (q_tE β L p' - q_tS β L p') := if_pos k
    have l : ∀ g i, i + g = q_tE β L p' - q_tS β L p' → g_g E (g_wp E d) 122 7 [some (.ref 68), some (.long (Int64.ofNat (q_pk (fun i => (β (q_tS β L p' + i)).toNatClampNeg) i))), none, some (.int (nI (q_tS β L p' + i)))] [] σ R := by
      intro g
      induction g with
      | zero =>
        intro i hi
        refine t122_7 ?_
        rw [h5, nI_leI (by omega) (by omega)]
        refine ⟨fun _ => ex _ (by rw [env, show i = q_tE β L p' - q_tS β L p' by omega]), fun z => absurd (by omega) z⟩
      | succ g ih =>
        intro i hi
        obtain ⟨b, eb, b1, b2⟩ := q_let by' hL g5 k.1 (i := i) (by omega)
        have pl := q_pk_l (a := fun i => (β (q_tS β L p' + i)).toNatClampNeg) (n := i) (fun j hj => by
          obtain ⟨b, eb, b1, b2⟩ := q_let by' hL g5 k.1 (i := j) (by omega)
          rw [eb, q_cl (by omega)]
          exact b2)
        have y : 256 ^ i ≤ 256 ^ 6 := Nat.pow_le_pow_right (by omega) (by omega)
        have e6 : (256 : Nat) ^ 6 = 2 ^ 48 := by decide
        have nx := ih (i + 1) (by omega)
        have ep : q_pk (fun i => (β (q_tS β L p' + i)).toNatClampNeg) (i + 1) = 256 * q_pk (fun i => (β (q_tS β L p' + i)).toNatClampNeg) i + b := by
          show 256 * q_pk (fun i => (β (q_tS β L p' + i)).toNatClampNeg) i + (β (q_tS β L p' + i)).toNatClampNeg = _
          rw [eb, q_cl (by omega)]
        rw [ep, ← q_shl (by omega) b2] at nx
        refine t122_7 ?_
        rw [h5, nI_leI (by omega) (by omega), h3, h4, q_nsub rE.1, show (8 : Int32) ≤ nI (q_tE β L p' - q_tS β L p') ↔ 8 ≤ q_tE β L p' - q_tS β L p' from nI_leI (a := 8) (by omega) (by omega), q_cl (by omega), hβ _ (by omega), eb, nI_1]
        refine ⟨fun z => absurd z (by omega), fun _ => ⟨fun z => absurd ?_ z, fun _ => ⟨fun z => absurd z (by omega), fun _ => ⟨vp_in_nI (by omega) (by omega), nx⟩⟩⟩⟩
        rw [kl.2.1.mpr k.1]; rfl
    exact l (q_tE β L p' - q_tS β L p') 0 (by omega)
  · have env : q_nv β L p' = 0 := if_neg k
    have ex0 := ex 0 (by rw [env]; rfl)
    refine t122_7 ?_
    rw [h5, nI_leI (by omega) (by omega), h3, h4, q_nsub rE.1, show (8 : Int32) ≤ nI (q_tE β L p' - q_tS β L p') ↔ 8 ≤ q_tE β L p' - q_tS β L p' from nI_leI (a := 8) (by omega) (by omega)]
    refine ⟨fun _ => ex0, fun z => ⟨fun _ => ex0, fun z2 => ⟨fun _ => ex0, fun z3 => absurd ⟨?_, by omega⟩ k⟩⟩⟩
    exact kl.2.1.mp ((nI_eq (b := 2) (by omega) (by omega)).mp (Classical.not_not.mp z2))
end Q904
