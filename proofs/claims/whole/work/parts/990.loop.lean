/-! the law, from its loop on -/
def lw_R : g_R := fun rv _ => rv = some (.int 1)
theorem lw_ix {L j k : Nat} (h : 7 * j + 7 ≤ L) (hL : L ≤ 448) (hk : k < 7) : vp_in (nI (7 * j) + nI k) L := by
  rw [nI_add]
  exact vp_in_nI (by omega) (by omega)
theorem lw_le {L j : Nat} (hL : L ≤ 448) (hj : j ≤ 64) (h : ¬ (Int32.ofNat L - (7 : Int32) < nI (7 * j))) : 7 * j + 7 ≤ L := by
  rw [Int32.lt_iff_toInt_lt, show (Int32.ofNat L - (7 : Int32)) = nI L - nI 7 from rfl, pk_sub_toInt (by omega) (by omega), nI_toInt (by omega)] at h
  omega
set_option maxHeartbeats 4000000 in
set_option maxRecDepth 20000 in
theorem law_loop {E : g_E} (hL : E.2 ≤ 448) : ∀ (n j : Nat) (σ : g_S), 65 ≤ j + n → j ≤ 64 → Rel σ → g_g E (g_wp E 20) 0 18 [some (.retAddr 99), some (.ref 0), some (.ref 68), some (.int (nI (7 * j)))] [] σ lw_R := by
  intro n
  induction n with
  | zero => intro j σ h1 h2 _; omega
  | succ n ih =>
    intro j σ h1 h2 hr
    refine t0_18 ⟨fun _ => rfl, fun c => ?_⟩
    have hj := lw_le hL h2 c
    have v : ∀ k, k < 7 → vp_in (nI (7 * j) + nI k) E.2 := fun k hk => lw_ix hj hL hk
    have v0 : vp_in (nI (7 * j)) E.2 := vp_in_nI (by omega) (by omega)
    have next : ∀ s, Rel s → g_g E (g_wp E 20) 0 18 [some (.retAddr 99), some (.ref 0), some (.ref 68), some (.int (nI (7 * j) + (7 : Int32)))] [] s lw_R := fun s hs => by
      have e : nI (7 * j) + (7 : Int32) = nI (7 * (j + 1)) := by rw [show (7 : Int32) = nI 7 from rfl, nI_add]; rfl
      rw [e]
      exact ih (j + 1) s (by omega) (by omega) hs
    exact ⟨v0, fun _ => next σ hr,
      fun _ => t0_168 ⟨v 1 (by decide), v 2 (by decide), v 3 (by decide), g_pair (p_row _ _ _) hr (fun r s h => ⟨v 1 (by decide), v 2 (by decide), v 3 (by decide), h⟩) (fun r s hs => ⟨fun _ => next s hs, fun q => absurd rfl q⟩)⟩,
      fun _ => t0_211 ⟨v 1 (by decide), v 2 (by decide), v 3 (by decide), g_pair (p_set _ _ _) hr (fun r s h => ⟨v 1 (by decide), v 2 (by decide), v 3 (by decide), h⟩) (fun r s hs => ⟨fun _ => next s hs, fun q => absurd rfl q⟩)⟩,
      fun _ => t0_254 ⟨v 1 (by decide), v 2 (by decide), v 3 (by decide), v 4 (by decide), v 5 (by decide), g_pair (p_copy _ _ _ _ _) hr (fun r s h => ⟨v 1 (by decide), v 2 (by decide), v 3 (by decide), v 4 (by decide), v 5 (by decide), h⟩) (fun r s hs => ⟨fun _ => next s hs, fun q => absurd rfl q⟩)⟩,
      fun _ => t0_317 ⟨v 1 (by decide), g_pair (p_drop _) hr (fun r s h => ⟨v 1 (by decide), h⟩) (fun r s hs => ⟨fun _ => next s hs, fun q => absurd rfl q⟩)⟩,
      fun _ => t0_340 ⟨v 1 (by decide), v 2 (by decide), v 3 (by decide), g_pair (p_feed _ _) hr (fun r s h => ⟨v 1 (by decide), v 2 (by decide), v 3 (by decide), h⟩) (fun r s hs => ⟨fun _ => next s hs, fun q => absurd rfl q⟩)⟩,
      fun _ => t0_403 (g_pair p_town hr (fun r s h => h) (fun r s hs => ⟨fun _ => next s hs, fun q => absurd rfl q⟩)),
      fun _ => t0_416 (g_pair p_fault hr (fun r s h => h) (fun r s hs => ⟨fun _ => next s hs, fun q => absurd rfl q⟩)),
      fun _ => t0_429 ⟨v 1 (by decide), g_pair (p_season _) hr (fun r s h => ⟨v 1 (by decide), h⟩) (fun r s hs => ⟨fun _ => next s hs, fun q => absurd rfl q⟩)⟩,
      fun _ => t0_452 ⟨v 1 (by decide), v 2 (by decide), g_pair (p_lean _ _) hr (fun r s h => ⟨v 1 (by decide), v 2 (by decide), h⟩) (fun r s hs => ⟨fun _ => next s hs, fun q => absurd rfl q⟩)⟩,
      fun _ => t0_485 ⟨v 1 (by decide), v 2 (by decide), g_pair (p_cloud _ _) hr (fun r s h => ⟨v 1 (by decide), v 2 (by decide), h⟩) (fun r s hs => ⟨fun _ => next s hs, fun q => absurd rfl q⟩)⟩,
      fun _ => t0_518 ⟨v 1 (by decide), v 2 (by decide), g_pair (p_draw _ _) hr (fun r s h => ⟨v 1 (by decide), v 2 (by decide), h⟩) (fun r s hs => ⟨fun _ => next s hs, fun q => absurd rfl q⟩)⟩,
      fun _ => t0_551 ⟨v 1 (by decide), v 2 (by decide), v 3 (by decide), g_pair (p_more _ _ _) hr (fun r s h => ⟨v 1 (by decide), v 2 (by decide), v 3 (by decide), h⟩) (fun r s hs => ⟨fun _ => next s hs, fun q => absurd rfl q⟩)⟩,
      fun _ => t0_594 (g_pair p_undo hr (fun r s h => h) (fun r s hs => ⟨fun _ => next s hs, fun q => absurd rfl q⟩)),
      fun _ => t0_607 ⟨v 1 (by decide), v 2 (by decide), g_pair (p_shadow _ _) hr (fun r s h => ⟨v 1 (by decide), v 2 (by decide), h⟩) (fun r s hs => ⟨fun _ => next s hs, fun q => absurd rfl q⟩)⟩,
      fun _ => t0_640 ⟨v 1 (by decide), g_pair (p_open _) hr (fun r s h => ⟨v 1 (by decide), h⟩) (fun r s hs => ⟨fun _ => next s hs, fun q => absurd rfl q⟩)⟩,
      fun _ => t0_663 ⟨v 1 (by decide), v 2 (by decide), g_pair (p_shop _ _) hr (fun r s h => ⟨v 1 (by decide), v 2 (by decide), h⟩) (fun r s hs => ⟨fun _ => next s hs, fun q => absurd rfl q⟩)⟩,
      fun _ => t0_696 ⟨v 1 (by decide), v 2 (by decide), v 3 (by decide), g_pair (p_soonest _ _ _) hr (fun r s h => ⟨v 1 (by decide), v 2 (by decide), v 3 (by decide), h⟩) (fun r s hs => ⟨fun _ => next s hs, fun q => absurd rfl q⟩)⟩,
      fun _ => t0_739 ⟨v 1 (by decide), v 2 (by decide), v 3 (by decide), v 4 (by decide), v 5 (by decide), v 6 (by decide), g_pair (p_check _ _ _ _ _ _) hr (fun r s h => ⟨v 1 (by decide), v 2 (by decide), v 3 (by decide), v 4 (by decide), v 5 (by decide), v 6 (by decide), h⟩) (fun r s hs => ⟨fun _ => next s hs, fun q => absurd rfl q⟩)⟩,
      fun _ => t0_814 ⟨v 1 (by decide), v 2 (by decide), v 3 (by decide), v 4 (by decide), g_pair (p_thief _ _ _ _) hr (fun r s h => ⟨v 1 (by decide), v 2 (by decide), v 3 (by decide), v 4 (by decide), h⟩) (fun r s hs => ⟨fun _ => next s hs, fun q => absurd rfl q⟩)⟩,
      fun _ => t0_867 ⟨v 1 (by decide), v 2 (by decide), g_pair (p_longest _ _) hr (fun r s h => ⟨v 1 (by decide), v 2 (by decide), h⟩) (fun r s hs => ⟨fun _ => next s hs, fun q => absurd rfl q⟩)⟩,
      fun _ => t0_900 ⟨v 1 (by decide), v 2 (by decide), g_pair (p_bills _ _) hr (fun r s h => ⟨v 1 (by decide), v 2 (by decide), h⟩) (fun r s hs => ⟨fun _ => next s hs, fun q => absurd rfl q⟩)⟩,
      fun _ => t0_933 ⟨v 1 (by decide), v 2 (by decide), v 3 (by decide), g_pair (p_leans _ _ _) hr (fun r s h => ⟨v 1 (by decide), v 2 (by decide), v 3 (by decide), h⟩) (fun r s hs => ⟨fun _ => next s hs, fun q => absurd rfl q⟩)⟩,
      fun _ => t0_976 ⟨v 1 (by decide), g_pair (p_image _) hr (fun r s h => ⟨v 1 (by decide), h⟩) (fun r s hs => ⟨fun _ => next s hs, fun q => absurd rfl q⟩)⟩,
      fun _ => t0_999 ⟨v 1 (by decide), g_pair (p_restore _) hr (fun r s h => ⟨v 1 (by decide), h⟩) (fun r s hs => ⟨fun _ => next s hs, fun q => absurd rfl q⟩)⟩,
      fun _ => t0_1022 ⟨v 1 (by decide), g_pair (p_kind _) hr (fun r s h => ⟨v 1 (by decide), h⟩) (fun r s hs => ⟨fun _ => next s hs, fun q => absurd rfl q⟩)⟩,
      fun _ => t0_1045 ⟨v 1 (by decide), v 2 (by decide), g_pair (p_as _ _) hr (fun r s h => ⟨v 1 (by decide), v 2 (by decide), h⟩) (fun r s hs => ⟨fun _ => next s hs, fun q => absurd rfl q⟩)⟩,
      fun _ => t0_1078 ⟨v 1 (by decide), v 2 (by decide), g_pair (p_ask _ _) hr (fun r s h => ⟨v 1 (by decide), v 2 (by decide), h⟩) (fun r s hs => ⟨fun _ => next s hs, fun q => absurd rfl q⟩)⟩,
      fun _ => t0_1111 ⟨v 1 (by decide), g_pair (p_trace _) hr (fun r s h => ⟨v 1 (by decide), h⟩) (fun r s hs => ⟨fun _ => next s hs, fun q => absurd rfl q⟩)⟩,
      fun _ => t0_1134 ⟨v 1 (by decide), g_pair (p_count _) hr (fun r s h => ⟨v 1 (by decide), h⟩) (fun r s hs => ⟨fun _ => next s hs, fun q => absurd rfl q⟩)⟩,
      fun _ => t0_1157 (g_pair p_status hr (fun r s h => h) (fun r s hs => ⟨fun _ => next s hs, fun q => absurd rfl q⟩)), trivial⟩
