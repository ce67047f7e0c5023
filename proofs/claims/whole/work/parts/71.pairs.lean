/-! pairs: feed, the rest of it -/
theorem g_up_cm {σ : g_S} {a j c l : Nat} {v w : Int32} (h : a ≠ c ∨ j ≠ l) : g_up (g_up σ a j v) c l w = g_up (g_up σ c l w) a j v := by
  funext b k
  unfold g_up
  by_cases h1 : b = a ∧ k = j
  · have h2 : ¬ (b = c ∧ k = l) := fun q => by omega
    rw [if_neg h2, if_pos h1, if_pos h1]
  · by_cases h2 : b = c ∧ k = l
    · rw [if_pos h2, if_neg h1, if_pos h2]
    · rw [if_neg h2, if_neg h1, if_neg h1, if_neg h2]
theorem g_up_id {σ : g_S} {a j : Nat} {v : Int32} (h : σ a j = v) : g_up σ a j v = σ := by
  funext b k
  unfold g_up
  by_cases h1 : b = a ∧ k = j
  · rw [if_pos h1, h1.1, h1.2, h]
  · rw [if_neg h1]
def g_fd (σ : g_S) (a o : Nat) (w : Int64) (n m : Nat) : g_S := fun b k => if b = a ∧ o ≤ k ∧ k < o + m then q_byte w (n - 1 - (k - o)) else σ b k
theorem g_fd_0 {σ : g_S} {a o n : Nat} {w : Int64} : g_fd σ a o w n 0 = σ := by
  funext b k
  unfold g_fd
  rw [if_neg (by omega)]
theorem g_fd_s {σ : g_S} {a o n m : Nat} {w : Int64} : g_up (g_fd σ a o w n m) a (o + m) (q_byte w (n - 1 - m)) = g_fd σ a o w n (m + 1) := by
  funext b k
  unfold g_up g_fd
  by_cases h : b = a
  · by_cases h1 : k = o + m
    · rw [if_pos ⟨h, h1⟩, if_pos ⟨h, by omega, by omega⟩, h1, Nat.add_sub_cancel_left]
    · rw [if_neg (fun q => h1 q.2)]
      by_cases h2 : o ≤ k ∧ k < o + m
      · rw [if_pos ⟨h, h2⟩, if_pos ⟨h, by omega, by omega⟩]
      · rw [if_neg (fun q => h2 q.2), if_neg (by omega)]
  · rw [if_neg (fun q => h q.1), if_neg (fun q => h q.1), if_neg (fun q => h q.1)]
theorem g_fd_ne {σ : g_S} {a o n m b : Nat} {w : Int64} (h : b ≠ a) : g_fd σ a o w n m b = σ b := by
  funext k
  unfold g_fd
  rw [if_neg (fun q => h q.1)]
theorem CE.fd {σ μ : g_S} {a o n m : Nat} {w : Int64} (h : CE σ μ) : CE (g_fd σ a o w n m) (g_fd μ a o w n m) := fun b k q => by
  unfold g_fd
  by_cases e : b = a ∧ o ≤ k ∧ k < o + m
  · rw [if_pos e, if_pos e]
  · rw [if_neg e, if_neg e]; exact h b k q
theorem q_and255 (v : Int32) : ∃ b, b < 256 ∧ v &&& 255 = nI b := by
  refine ⟨(v.toBitVec &&& 255#32).toNat, ?_, ?_⟩
  · rw [BitVec.toNat_and]
    exact Nat.lt_of_le_of_lt Nat.and_le_right (by decide)
  · apply Int32.toBitVec_inj.mp
    show v.toBitVec &&& 255#32 = BitVec.ofNat 32 (v.toBitVec &&& 255#32).toNat
    rw [BitVec.ofNat_toNat, BitVec.setWidth_eq]
theorem q_byte_r {w : Int64} {k : Nat} (hk : k < 8) : ∃ b, b < 256 ∧ q_byte w k = nI b := by
  rw [← q_byte_c hk]
  exact q_and255 _
/-- the tape alone -/
theorem RC.tape {σ σ' μ μ' : g_S} (w : RC σ μ) (hσ : ∀ a, a < 68 → a ≠ 13 → a ≠ 14 → σ' a = σ a) (hμ : ∀ a, a ≠ 68 → a ≠ 74 → μ' a = μ a) (m1 : μ' 68 1 = μ 68 1) (m9 : μ' 68 9 = μ 68 9) (m26 : μ' 68 26 = μ 68 26) (k1 : σ' 13 1 = μ' 68 8) (k2 : ∀ i, i < 400 → σ' 14 i = μ' 74 i) : RC σ' μ' := by
  unfold RC at w ⊢
  obtain ⟨h1, h2, h3, h4, h5, h6, h7, h8, h9, h10, h11⟩ := w
  rw [hμ 69 (by omega) (by omega), hμ 70 (by omega) (by omega), hμ 71 (by omega) (by omega), hμ 72 (by omega) (by omega), hμ 81 (by omega) (by omega), hμ 82 (by omega) (by omega), hμ 83 (by omega) (by omega), m1, m9, m26]
  rw [hσ 2 (by omega) (by omega) (by omega), hσ 3 (by omega) (by omega) (by omega), hσ 0 (by omega) (by omega) (by omega), hσ 67 (by omega) (by omega) (by omega), hσ 66 (by omega) (by omega) (by omega)]
  refine ⟨h1, h2, fun r hr i hi => ?_, k2, k1, h6, h7, h8.low (fun a h1 h2 => hσ a (by omega) (by omega) (by omega)), fun k hk => ⟨fun q => ((h9 k hk).1 q).low (fun a h1 h2 => hσ a (by omega) (by omega) (by omega)), fun q => ?_⟩, h10, h11⟩
  · rw [hσ (5 + r) (by omega) (by omega) (by omega)]
    exact h3 r hr i hi
  · rw [hσ (28 + 6 * k) (by omega) (by omega) (by omega)]
    exact (h9 k hk).2 q
theorem WF.tape {μ μ' : g_S} (w : WF μ) (hμ : ∀ a, a ≠ 68 → a ≠ 74 → μ' a = μ a) (m26 : μ' 68 26 = μ 68 26) (k1 : ∃ n, n ≤ 400 ∧ μ' 68 8 = nI n) (k2 : ∀ i, i < 400 → ∃ b, b < 256 ∧ μ' 74 i = nI b) : WF μ' := by
  unfold WF at w ⊢
  rw [hμ 69 (by omega) (by omega), hμ 70 (by omega) (by omega), hμ 72 (by omega) (by omega), hμ 81 (by omega) (by omega), hμ 82 (by omega) (by omega), m26]
  obtain ⟨h1, h2, h3, h4, h5, h6, h7⟩ := w
  exact ⟨h1, h2, k1, k2, h5, h6, h7⟩
section Q71
variable {E : g_E} {d : Nat} {R : g_R} {σ : g_S}
theorem q_m1 {r : Nat} : nI r + (-1 : Int32) = nI r - 1 := by
  rw [Int32.sub_eq_add_neg]
theorem c_append_l {O : g_O} {w : Int64} {L n : Nat} (hn : n ≤ 8) (hL : L + n ≤ 400) (h : R (some (.int (nI (L + n)))) (g_up (g_fd σ 14 L w n n) 13 1 (nI (L + n)))) : ∀ r m, m + r = n → g_g E O 35 5 [some (.ref 13), some (.long w), none, none, some (.int (nI r - 1))] [] (g_up (g_fd σ 14 L w n m) 13 1 (nI (L + m))) R := by
  intro r
  induction r with
  | zero =>
    intro m hm
    have e : m = n := by omega
    subst e
    refine t35_5 ⟨fun _ => ?_, fun c => absurd (by decide) c⟩
    rw [g_up_s]; exact h
  | succ r ih =>
    intro m hm
    refine t35_5 ⟨fun c => absurd c (by rw [nI_pred]; exact nI_nlt (a := r) (b := 0) (by omega) (by omega)), fun c => ⟨fun c2 => absurd c2 (by rw [g_up_s]; exact nI_ge (b := 400) (by omega) (by omega)), fun c2 => ?_⟩⟩
    rw [g_up_s, nI_pred, q_byte_c (by omega), q_cl (by omega), nI_1]
    refine ⟨vp_in_nI (by omega) (by omega), fun s es s2 es2 => ?_⟩
    rw [show r = n - 1 - m by omega] at es
    rw [g_up_cm (Or.inl (by omega)), g_fd_s] at es
    rw [es, g_up_up] at es2
    rw [es2, q_m1]
    exact ih (m + 1) (by omega)
theorem c_append {w : Int64} {L n : Nat} (h1 : 1 ≤ n) (hn : n ≤ 8) (hL : L + n ≤ 400) (eL : σ 13 1 = nI L) (h : R (some (.int (nI (L + n)))) (g_up (g_fd σ 14 L w n n) 13 1 (nI (L + n)))) : g_wp E (d + 1) 35 [.ref 13, .long w, .int (nI n)] σ R := by
  have z := c_append_l (E := E) (O := g_wp E d) hn hL h n 0 (by omega)
  rw [g_fd_0, Nat.add_zero, g_up_id eL] at z
  exact t35_0 z
theorem m_append_l {O : g_O} {w : Int64} {L n : Nat} (hn : n ≤ 8) (hL : L + n ≤ 400) (h : R (some (.int (nI (L + n)))) (g_up (g_fd σ 74 L w n n) 68 8 (nI (L + n)))) : ∀ r m, m + r = n → g_g E O 114 40 [some (.ref 68), some (.long w), none, none, some (.int (nI r - 1))] [] (g_up (g_fd σ 74 L w n m) 68 8 (nI (L + m))) R := by
  intro r
  induction r with
  | zero =>
    intro m hm
    have e : m = n := by omega
    subst e
    refine t114_40 ⟨fun _ => ?_, fun c => absurd (by decide) c⟩
    rw [g_up_s]; exact h
  | succ r ih =>
    intro m hm
    refine t114_40 ⟨fun c => absurd c (by rw [nI_pred]; exact nI_nlt (a := r) (b := 0) (by omega) (by omega)), fun c => ?_⟩
    rw [g_up_s, nI_pred, q_cl (by omega), nI_1]
    refine ⟨vp_in_nI (by omega) (by omega), fun s es s2 es2 => ?_⟩
    change s = g_up _ 74 (L + m) (q_byte w r) at es
    rw [show r = n - 1 - m by omega] at es
    rw [g_up_cm (Or.inl (by omega)), g_fd_s] at es
    rw [es, g_up_up] at es2
    rw [es2, q_m1]
    exact ih (m + 1) (by omega)
end Q71
theorem p_feed {E : g_E} (w : Int64) (n : Int32) : g_pr E 73 114 [.long w, .int n] := by
  refine ⟨fun μ => if n.toInt < 1 ∨ 8 < n.toInt then -1000001 else if 400 < (μ 68 8).toInt + n.toInt then -1000003 else nI ((μ 68 8).toNatClampNeg + n.toNatClampNeg), fun μ => if n.toInt < 1 ∨ 8 < n.toInt ∨ 400 < (μ 68 8).toInt + n.toInt then μ else g_up (g_fd μ 74 (μ 68 8).toNatClampNeg w n.toNatClampNeg n.toNatClampNeg) 68 8 (nI ((μ 68 8).toNatClampNeg + n.toNatClampNeg)), fun σ μ R hc hw h => ?_, fun σ R hw h => ?_, fun μ h => ?_⟩
  · dsimp only at h
    obtain ⟨L, hL, eL⟩ := hw.2.2.1
    have e13 : σ 13 1 = nI L := hc.2.2.2.2.1.trans eL
    rw [eL, nI_toInt (by omega)] at h
    refine t73_0 ⟨fun c => ?_, fun c => ⟨fun c2 => t34_0 ?_, fun c2 => ?_⟩⟩
    · simp only [q_lt, q_le, Int32.reduceToInt] at c
      repeat (first | rw [if_pos (by omega)] at h | rw [if_neg (by omega)] at h)
      exact h σ hc (fun _ _ => rfl)
    · simp only [q_lt, q_le, Int32.reduceToInt] at c c2
      obtain ⟨m, hm, rfl⟩ := q_ix (x := n) (n := 9) (by omega) (by omega) (by omega)
      rw [nI_toInt (by omega)] at c c2
      rw [e13, show (400 : Int32) = nI 400 from rfl, q_nsub (by omega), nI_ltI (by omega) (by omega)]
      rw [nI_toInt (by omega), q_cl (by omega), q_cl (by omega)] at h
      refine ⟨fun c3 => ⟨_, rfl, q_0 ?_⟩, fun c3 => ⟨_, rfl, q_1 ?_⟩⟩
      · repeat (first | rw [if_pos (by omega)] at h | rw [if_neg (by omega)] at h)
        exact h σ hc (fun _ _ => rfl)
      · repeat (first | rw [if_pos (by omega)] at h | rw [if_neg (by omega)] at h)
        refine c_append (by omega) (by omega) (by omega) e13 ⟨_, rfl, h _ ?_ (fun a ha => (g_up_ne (by omega)).trans (g_fd_ne (by omega)))⟩
        refine hc.tape (fun a h1 h2 h3 => (g_up_ne h2).trans (g_fd_ne h3)) (fun a h1 h2 => (g_up_ne h1).trans (g_fd_ne h2)) ?_ ?_ ?_ ?_ (fun i hi => ?_)
        · exact (g_up_n (by omega)).trans (congrFun (g_fd_ne (by omega)) 1)
        · exact (g_up_n (by omega)).trans (congrFun (g_fd_ne (by omega)) 9)
        · exact (g_up_n (by omega)).trans (congrFun (g_fd_ne (by omega)) 26)
        · exact g_up_s.trans g_up_s.symm
        · refine (g_up_n (by omega)).trans (Eq.trans ?_ (g_up_n (by omega)).symm)
          unfold g_fd
          by_cases e : L ≤ i ∧ i < L + m
          · rw [if_pos ⟨rfl, e⟩, if_pos ⟨rfl, e⟩]
          · rw [if_neg (fun q => e q.2), if_neg (fun q => e q.2)]
            exact hc.2.2.2.1 i hi
    · simp only [q_lt, q_le, Int32.reduceToInt] at c c2
      repeat (first | rw [if_pos (by omega)] at h | rw [if_neg (by omega)] at h)
      exact h σ hc (fun _ _ => rfl)
  · dsimp only at h
    obtain ⟨L, hL, eL⟩ := hw.2.2.1
    rw [eL, nI_toInt (by omega)] at h
    refine t114_0 (fun s es => m_in 1 8 rfl rfl (fun a1 a2 => ⟨_, rfl, n_1 ?_⟩) (fun a1 => ⟨_, rfl, n_0 ?_⟩))
    · obtain ⟨m, hm, rfl⟩ := q_ix (x := n) (n := 9) (by omega) (by omega) (by omega)
      rw [nI_toInt (by omega)] at a1 a2
      have es8 : s 68 8 = nI L := by rw [es]; exact (g_up_n (by omega)).trans eL
      rw [es8, nI_add, show (400 : Int32) = nI 400 from rfl, nI_leI (by omega) (by omega)]
      rw [nI_toInt (by omega), q_cl (by omega), q_cl (by omega)] at h
      refine ⟨fun c3 => ?_, fun c3 => ?_⟩
      · repeat (first | rw [if_pos (by omega)] at h | rw [if_neg (by omega)] at h)
        subst es
        have z := m_append_l (E := E) (O := g_wp E 19) (σ := g_up σ 68 0 0) (w := w) (R := R) (show m ≤ 8 by omega) c3 (h _ (fun a ha => (g_up_ne (by omega)).trans ((g_fd_ne (by omega)).trans (g_up_ne (by omega)))) ((Sc.rf.up rfl).ce.fd.cu _ _ _)) m 0 (by omega)
        rw [g_fd_0, Nat.add_zero, g_up_id es8] at z
        exact z
      · repeat (first | rw [if_pos (by omega)] at h | rw [if_neg (by omega)] at h)
        subst es
        exact h _ (lo_up (fun _ _ => rfl) (by omega)) (Sc.rf.up rfl).ce
    · repeat (first | rw [if_pos (by omega)] at h | rw [if_neg (by omega)] at h)
      subst es
      exact h _ (lo_up (fun _ _ => rfl) (by omega)) (Sc.rf.up rfl).ce
  · dsimp only
    split
    · exact h
    · rename_i c
      obtain ⟨L, hL, eL⟩ := h.2.2.1
      rw [eL, nI_toInt (by omega)] at c
      obtain ⟨m, hm, rfl⟩ := q_ix (x := n) (n := 9) (by omega) (by omega) (by omega)
      rw [nI_toInt (by omega)] at c
      rw [eL, q_cl (by omega), q_cl (by omega)]
      refine h.tape (fun a h1 h2 => (g_up_ne h1).trans (g_fd_ne h2)) ((g_up_n (by omega)).trans (congrFun (g_fd_ne (by omega)) 26)) ⟨L + m, by omega, g_up_s⟩ (fun i hi => ?_)
      rw [g_up_n (by omega)]
      unfold g_fd
      by_cases e : L ≤ i ∧ i < L + m
      · rw [if_pos ⟨rfl, e⟩]; exact q_byte_r (by omega)
      · rw [if_neg (fun q => e q.2)]; exact h.2.2.2.1 i hi
