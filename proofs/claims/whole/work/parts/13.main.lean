section GM
variable {p : Program} {l : Launch} {e : Env} {Rm : Room} {s : State} {m : MethodId} {args : Array Value} {below : List Frame} {meth : Method} {c : Code} {Q : State → Prop}
variable {ad : Nat → Nat} {rv : Nat → Value} {D : va_G} {Y : g_Y} {A : Nat → Prop} {E : g_E} {M d : Nat}
set_option maxHeartbeats 8000000 in
theorem g_closed {cells slots pc n : Nat} {i : Instr} {x : g_X} {K : g_K} {O : g_O} {R : g_R} {L : g_L} {st : List Value} {σ : g_S} (F : g_Fr p l Rm s m args c ad rv D Y A E M d cells slots) (hall : (g_cl M).all (g_okI M) = true) (hom : ∀ M', 0 < M' → M' < 194 → g_okM M' = true)
    (hO : ∀ M' as σ R', 0 < M' → M' < 194 → Nat.ble (g_slots as).length (g_ml M') = true → O M' as σ R' → ∃ d', d = d' + 1 ∧ g_Con E ad rv D Y l d' M' as σ R') (hret : g_Ret p l e Rm s m args below meth c Q ad D Y A M cells slots R)
    (hQ : ∀ pc L st σ, K pc L st σ → g_P p l e Rm s m args below meth c Q ad rv D Y A (g_ml M) cells slots pc L st σ) (hcd : g_cd M pc = some (i, n, x)) (hst : g_step E O g_mm K R i n x pc L st σ) :
    g_P p l e Rm s m args below meth c Q ad rv D Y A (g_ml M) cells slots pc L st σ := by
  intro H locs ls hL hP hD hS
  have hok := List.all_eq_true.mp hall _ (g_lk_mem hcd)
  unfold g_okI at hok
  rw [Bool.and_eq_true] at hok
  obtain ⟨hdg0, hox⟩ := hok
  have hdg := of_decide_eq_true hdg0
  clear hdg0
  dsimp only at hdg hox
  have F' := F
  obtain ⟨hx, hb, hml, hown, hts, hK, hZ, hA, hroom, hc1, hc2⟩ := F
  have hrv := g_rvk hZ.2.2.2.2.2.2
  have go : ∀ {pc L st σ H locs ls}, K pc L st σ → g_H ad rv ls (g_ml M) L → va_P D vwCl (g_w ad Y σ) H → va_D A (g_w ad Y σ) → va_S A s.heap H locs → W p l e Rm s m args below meth c H locs cells slots Q (F0 m pc ls (st.map (g_cv ad rv))) := fun h h1 h2 h3 h4 => hQ _ _ _ _ h _ _ _ h1 h2 h3 h4
  cases i with
  | iconst v =>
    simp only [g_okx, Bool.and_eq_true, beq_iff_eq, decide_eq_true_eq] at hox
    obtain ⟨rfl, hv⟩ := hox
    exact lv_iconst hx hb hdg hv (go hst hL hP hD hS)
  | bipush v =>
    simp only [g_okx, Bool.and_eq_true, beq_iff_eq, decide_eq_true_eq] at hox
    obtain ⟨rfl, hv⟩ := hox
    exact lv_bipush hx hb hdg hv (go hst hL hP hD hS)
  | sipush v =>
    simp only [g_okx, Bool.and_eq_true, beq_iff_eq, decide_eq_true_eq] at hox
    obtain ⟨rfl, hv⟩ := hox
    exact lv_sipush hx hb hdg hv (go hst hL hP hD hS)
  | lconst v =>
    simp only [g_okx, Bool.and_eq_true, beq_iff_eq, decide_eq_true_eq] at hox
    obtain ⟨rfl, hv⟩ := hox
    exact lv_lconst hx hb hdg hv (go hst hL hP hD hS)
  | ldc k =>
    obtain ⟨x1, x2, x3, x4, x5⟩ := x
    cases x2 with
    | zero =>
      simp only [g_okx, Bool.and_eq_true, beq_iff_eq, decide_eq_true_eq] at hox
      obtain ⟨rfl, hv⟩ := hox
      exact lv_ldc hx hb hown (hts _ (g_in_mem hv)) hdg (go hst hL hP hD hS)
    | succ x2 =>
      simp only [g_okx, Bool.and_eq_true, beq_iff_eq, decide_eq_true_eq] at hox
      obtain ⟨rfl, ⟨⟨⟨h1, h2⟩, h3⟩, h4⟩⟩ := hox
      obtain ⟨a, b, e1, e2, g1, -⟩ := hZ.2.2.2.2.2.1 (x1 - 20) (by omega)
      rw [show 20 + (x1 - 20) = x1 by omega] at e1
      have h5 := go hst hL hP hD hS
      rw [List.map_cons, show g_cv ad rv (.retAddr x1) = .ref a from e1] at h5
      rw [h4] at g1
      exact va_ldcS (own := "DialTown$Reader") hx hb (by rw [← h3]; exact hown) g1 hdg h5
  | ldc_w k =>
    simp only [g_okx, Bool.and_eq_true, beq_iff_eq, decide_eq_true_eq] at hox
    obtain ⟨rfl, hv⟩ := hox
    exact lv_ldcw hx hb hown (hts _ (g_in_mem hv)) hdg (go hst hL hP hD hS)
  | ldc2_w k =>
    simp only [g_okx, Bool.and_eq_true, beq_iff_eq, decide_eq_true_eq] at hox
    obtain ⟨rfl, hv⟩ := hox
    exact lv_ldc2 hx hb hown (hts _ (g_in_mem hv)) hdg (go hst hL hP hD hS)
  | iload k =>
    simp only [g_okx, beq_iff_eq] at hox
    subst hox
    obtain ⟨v, h1, h2⟩ := g_ild_i hst
    exact lv_iload hx hb hdg (hL.one h1) (go h2 hL hP hD hS)
  | iload_n k =>
    simp only [g_okx, beq_iff_eq] at hox
    subst hox
    obtain ⟨v, h1, h2⟩ := g_ild_i hst
    exact lv_iload_n hx hb hdg rfl (hL.one h1) (go h2 hL hP hD hS)
  | lload k =>
    simp only [g_okx, beq_iff_eq] at hox
    subst hox
    obtain ⟨v, h1, h2⟩ := g_lld_i hst
    exact lv_lload hx hb hdg (hL.one h1) (go h2 hL hP hD hS)
  | lload_n k =>
    simp only [g_okx, beq_iff_eq] at hox
    subst hox
    obtain ⟨v, h1, h2⟩ := g_lld_i hst
    exact lv_lload_n hx hb hdg rfl (hL.one h1) (go h2 hL hP hD hS)
  | aload k =>
    simp only [g_okx, beq_iff_eq] at hox
    subst hox
    rcases g_ald_i hst with ⟨v, h1, h2⟩ | ⟨v, h1, h2⟩
    · exact lv_aload hx hb hdg (hL.one h1) (go h2 hL hP hD hS)
    · have h3 := hL.one h1
      have h4 := go h2 hL hP hD hS
      change ls[k]? = some (.val (rv v)) at h3
      change W p l e Rm s m args below meth c H locs cells slots Q (F0 m (pc + 2) ls (rv v :: st.map (g_cv ad rv))) at h4
      rcases hZ.2.2.2.2.2.2 v with ⟨b, hb2⟩ | hb2
      · rw [hb2] at h3 h4
        exact lv_aload hx hb hdg h3 h4
      · rw [hb2] at h3 h4
        exact lv_aloadN hx hb hdg h3 h4
  | aload_n k =>
    simp only [g_okx, beq_iff_eq] at hox
    subst hox
    rcases g_ald_i hst with ⟨v, h1, h2⟩ | ⟨v, h1, h2⟩
    · exact lv_aload_n hx hb hdg rfl (hL.one h1) (go h2 hL hP hD hS)
    · have h3 := hL.one h1
      have h4 := go h2 hL hP hD hS
      change ls[k.val]? = some (.val (rv v)) at h3
      change W p l e Rm s m args below meth c H locs cells slots Q (F0 m (pc + 1) ls (rv v :: st.map (g_cv ad rv))) at h4
      rcases hZ.2.2.2.2.2.2 v with ⟨b, hb2⟩ | hb2
      · rw [hb2] at h3 h4
        exact lv_aload_n hx hb hdg rfl h3 h4
      · rw [hb2] at h3 h4
        exact lv_aload_nN hx hb hdg rfl h3 h4
  | istore k =>
    simp only [g_okx, Bool.and_eq_true, beq_iff_eq, decide_eq_true_eq] at hox
    obtain ⟨rfl, hk⟩ := hox
    obtain ⟨v, r, rfl, h2⟩ := g_ist_i hst
    exact lv_istore hx hb hdg hL.has hk rfl (fun ls' h' => go h2 (g_H.st1 hrv rfl h') hP hD hS)
  | istore_n k =>
    simp only [g_okx, Bool.and_eq_true, beq_iff_eq, decide_eq_true_eq] at hox
    obtain ⟨rfl, hk⟩ := hox
    obtain ⟨v, r, rfl, h2⟩ := g_ist_i hst
    exact lv_istore_n hx hb hdg rfl hL.has hk rfl (fun ls' h' => go h2 (g_H.st1 hrv rfl h') hP hD hS)
  | lstore k =>
    simp only [g_okx, Bool.and_eq_true, beq_iff_eq, decide_eq_true_eq] at hox
    obtain ⟨rfl, hk⟩ := hox
    obtain ⟨v, r, rfl, h2⟩ := g_lst_i hst
    exact lv_lstore hx hb hdg hL.has hk rfl (fun ls' h' => go h2 (g_H.st2 hrv rfl h') hP hD hS)
  | lstore_n k =>
    simp only [g_okx, Bool.and_eq_true, beq_iff_eq, decide_eq_true_eq] at hox
    obtain ⟨rfl, hk⟩ := hox
    obtain ⟨v, r, rfl, h2⟩ := g_lst_i hst
    exact lv_lstore_n hx hb hdg rfl hL.has hk rfl (fun ls' h' => go h2 (g_H.st2 hrv rfl h') hP hD hS)
  | astore k =>
    simp only [g_okx, Bool.and_eq_true, beq_iff_eq, decide_eq_true_eq] at hox
    obtain ⟨rfl, hk⟩ := hox
    obtain ⟨v, r, rfl, h2⟩ := g_ast_i hst
    exact lv_astore hx hb hdg hL.has hk rfl (fun ls' h' => go h2 (g_H.st1 hrv rfl h') hP hD hS)
  | astore_n k =>
    simp only [g_okx, Bool.and_eq_true, beq_iff_eq, decide_eq_true_eq] at hox
    obtain ⟨rfl, hk⟩ := hox
    obtain ⟨v, r, rfl, h2⟩ := g_ast_i hst
    exact lv_astore_n hx hb hdg rfl hL.has hk rfl (fun ls' h' => go h2 (g_H.st1 hrv rfl h') hP hD hS)
  | iinc k v =>
    simp only [g_okx, Bool.and_eq_true, beq_iff_eq, decide_eq_true_eq] at hox
    obtain ⟨⟨rfl, hk⟩, hv⟩ := hox
    unfold g_step at hst
    dsimp only at hst
    split at hst
    · rename_i w hw
      have hm := g_en_mem (ad := ad) (rv := rv) (L := L) (q := (k, .int w)) |>.mpr ⟨_, hw, rfl⟩
      obtain ⟨z, hz⟩ := List.getElem?_of_mem hm
      exact lv_iinc hx hb hdg hL.has hz (by rw [hv]) hk rfl (fun ls' h' => go hst (g_H.st1 hrv rfl h') hP hD hS)
    · exact hst.elim
  | iadd =>
    simp only [g_okx, beq_iff_eq] at hox
    subst hox
    obtain ⟨y, x, r, rfl, h2⟩ := g_i2_i hst
    exact lv_iadd hx hb hdg (go h2 hL hP hD hS)
  | isub =>
    simp only [g_okx, beq_iff_eq] at hox
    subst hox
    obtain ⟨y, x, r, rfl, h2⟩ := g_i2_i hst
    exact lv_isub hx hb hdg (go h2 hL hP hD hS)
  | imul =>
    simp only [g_okx, beq_iff_eq] at hox
    subst hox
    obtain ⟨y, x, r, rfl, h2⟩ := g_i2_i hst
    exact lv_imul hx hb hdg (go h2 hL hP hD hS)
  | iand =>
    simp only [g_okx, beq_iff_eq] at hox
    subst hox
    obtain ⟨y, x, r, rfl, h2⟩ := g_i2_i hst
    exact lv_iand hx hb hdg (go h2 hL hP hD hS)
  | ior =>
    simp only [g_okx, beq_iff_eq] at hox
    subst hox
    obtain ⟨y, x, r, rfl, h2⟩ := g_i2_i hst
    exact lv_ior hx hb hdg (go h2 hL hP hD hS)
  | ixor =>
    simp only [g_okx, beq_iff_eq] at hox
    subst hox
    obtain ⟨y, x, r, rfl, h2⟩ := g_i2_i hst
    exact lv_ixor hx hb hdg (go h2 hL hP hD hS)
  | ishl =>
    simp only [g_okx, beq_iff_eq] at hox
    subst hox
    obtain ⟨y, x, r, rfl, h2⟩ := g_i2_i hst
    exact lv_ishl hx hb hdg (go h2 hL hP hD hS)
  | ishr =>
    simp only [g_okx, beq_iff_eq] at hox
    subst hox
    obtain ⟨y, x, r, rfl, h2⟩ := g_i2_i hst
    exact lv_ishr hx hb hdg (go h2 hL hP hD hS)
  | ineg =>
    simp only [g_okx, beq_iff_eq] at hox
    subst hox
    obtain ⟨x, r, rfl, h2⟩ := g_i1_i hst
    exact lv_ineg hx hb hdg (go h2 hL hP hD hS)
  | i2b =>
    simp only [g_okx, beq_iff_eq] at hox
    subst hox
    obtain ⟨x, r, rfl, h2⟩ := g_i1_i hst
    exact lv_i2b hx hb hdg rfl (go h2 hL hP hD hS)
  | i2s =>
    simp only [g_okx, beq_iff_eq] at hox
    subst hox
    obtain ⟨x, r, rfl, h2⟩ := g_i1_i hst
    exact lv_i2s hx hb hdg rfl (go h2 hL hP hD hS)
  | i2c =>
    simp only [g_okx, beq_iff_eq] at hox
    subst hox
    obtain ⟨x, r, rfl, h2⟩ := g_i1_i hst
    exact lv_i2c hx hb hdg rfl (go h2 hL hP hD hS)
  | ladd =>
    simp only [g_okx, beq_iff_eq] at hox
    subst hox
    obtain ⟨y, x, r, rfl, h2⟩ := g_l2_i hst
    exact lv_ladd hx hb hdg (go h2 hL hP hD hS)
  | lmul =>
    simp only [g_okx, beq_iff_eq] at hox
    subst hox
    obtain ⟨y, x, r, rfl, h2⟩ := g_l2_i hst
    exact lv_lmul hx hb hdg (go h2 hL hP hD hS)
  | land =>
    simp only [g_okx, beq_iff_eq] at hox
    subst hox
    obtain ⟨y, x, r, rfl, h2⟩ := g_l2_i hst
    exact lv_land hx hb hdg (go h2 hL hP hD hS)
  | lor =>
    simp only [g_okx, beq_iff_eq] at hox
    subst hox
    obtain ⟨y, x, r, rfl, h2⟩ := g_l2_i hst
    exact lv_lor hx hb hdg (go h2 hL hP hD hS)
  | lshl =>
    simp only [g_okx, beq_iff_eq] at hox
    subst hox
    obtain ⟨y, x, r, rfl, h2⟩ := g_ls_i hst
    exact lv_lshl hx hb hdg rfl (go h2 hL hP hD hS)
  | lshr =>
    simp only [g_okx, beq_iff_eq] at hox
    subst hox
    obtain ⟨y, x, r, rfl, h2⟩ := g_ls_i hst
    exact lv_lshr hx hb hdg rfl (go h2 hL hP hD hS)
  | lushr =>
    simp only [g_okx, beq_iff_eq] at hox
    subst hox
    obtain ⟨y, x, r, rfl, h2⟩ := g_ls_i hst
    exact lv_lushr hx hb hdg rfl (go h2 hL hP hD hS)
  | idiv =>
    simp only [g_okx, beq_iff_eq] at hox
    subst hox
    unfold g_step at hst
    dsimp only at hst
    split at hst
    · exact lv_idiv hx hb hdg hst.1 (go hst.2 hL hP hD hS)
    · exact hst.elim
  | irem =>
    simp only [g_okx, beq_iff_eq] at hox
    subst hox
    unfold g_step at hst
    dsimp only at hst
    split at hst
    · exact lv_irem hx hb hdg hst.1 (go hst.2 hL hP hD hS)
    · exact hst.elim
  | lrem =>
    simp only [g_okx, beq_iff_eq] at hox
    subst hox
    unfold g_step at hst
    dsimp only at hst
    split at hst
    · exact lv_lrem hx hb hdg hst.1 (go hst.2 hL hP hD hS)
    · exact hst.elim
  | i2l =>
    simp only [g_okx, beq_iff_eq] at hox
    subst hox
    unfold g_step at hst
    dsimp only at hst
    split at hst
    · exact lv_i2l hx hb hdg rfl (go hst hL hP hD hS)
    · exact hst.elim
  | l2i =>
    simp only [g_okx, beq_iff_eq] at hox
    subst hox
    unfold g_step at hst
    dsimp only at hst
    split at hst
    · exact lv_l2i hx hb hdg rfl (go hst hL hP hD hS)
    · exact hst.elim
  | lcmp =>
    simp only [g_okx, beq_iff_eq] at hox
    subst hox
    unfold g_step at hst
    dsimp only at hst
    split at hst
    · exact W.lcmp hx hb hdg (go hst hL hP hD hS)
    · exact hst.elim
  | dup =>
    simp only [g_okx, beq_iff_eq] at hox
    subst hox
    unfold g_step at hst
    dsimp only at hst
    split at hst
    · exact lv_dup hx hb hdg (by rw [g_cat hrv]; exact hst.1) (go hst.2 hL hP hD hS)
    · exact hst.elim
  | dup2 =>
    simp only [g_okx, beq_iff_eq] at hox
    subst hox
    unfold g_step at hst
    dsimp only at hst
    split at hst
    · exact lv_dup2_11 hx hb hdg (by rw [g_cat hrv]; exact hst.1) (by rw [g_cat hrv]; exact hst.2.1) (go hst.2.2 hL hP hD hS)
    · exact hst.elim
  | pop =>
    simp only [g_okx, beq_iff_eq] at hox
    subst hox
    unfold g_step at hst
    dsimp only at hst
    split at hst
    · exact lv_pop hx hb hdg (by rw [g_cat hrv]; exact hst.1) (go hst.2 hL hP hD hS)
    · exact hst.elim
  | ifCond cc o =>
    simp only [g_okx, Bool.and_eq_true, beq_iff_eq, decide_eq_true_eq] at hox
    obtain ⟨rfl, ht⟩ := hox
    unfold g_step at hst
    dsimp only at hst
    split at hst
    · obtain ⟨h1, h2⟩ := hst
      cases cc with
      | eq => exact lv_if_eq hx hb hdg ht (fun q => go (h1 q) hL hP hD hS) (fun q => go (h2 q) hL hP hD hS)
      | ne => exact lv_if_ne hx hb hdg ht (fun q => go (h1 q) hL hP hD hS) (fun q => go (h2 (fun z => z q)) hL hP hD hS)
      | lt => exact lv_if_lt hx hb hdg ht (fun q => go (h1 q) hL hP hD hS) (fun q => go (h2 q) hL hP hD hS)
      | ge => exact lv_if_ge hx hb hdg ht (fun q => go (h1 q) hL hP hD hS) (fun q => go (h2 q) hL hP hD hS)
      | gt => exact lv_if_gt hx hb hdg ht (fun q => go (h1 q) hL hP hD hS) (fun q => go (h2 q) hL hP hD hS)
      | le => exact lv_if_le hx hb hdg ht (fun q => go (h1 q) hL hP hD hS) (fun q => go (h2 q) hL hP hD hS)
    · exact hst.elim
  | if_icmp cc o =>
    simp only [g_okx, Bool.and_eq_true, beq_iff_eq, decide_eq_true_eq] at hox
    obtain ⟨rfl, ht⟩ := hox
    unfold g_step at hst
    dsimp only at hst
    split at hst
    · obtain ⟨h1, h2⟩ := hst
      cases cc with
      | eq => exact lv_icmp_eq hx hb hdg ht (fun q => go (h1 q) hL hP hD hS) (fun q => go (h2 q) hL hP hD hS)
      | ne => exact lv_icmp_ne hx hb hdg ht (fun q => go (h1 q) hL hP hD hS) (fun q => go (h2 (fun z => z q)) hL hP hD hS)
      | lt => exact lv_icmp_lt hx hb hdg ht (fun q => go (h1 q) hL hP hD hS) (fun q => go (h2 q) hL hP hD hS)
      | ge => exact lv_icmp_ge hx hb hdg ht (fun q => go (h1 q) hL hP hD hS) (fun q => go (h2 q) hL hP hD hS)
      | gt => exact lv_icmp_gt hx hb hdg ht (fun q => go (h1 q) hL hP hD hS) (fun q => go (h2 q) hL hP hD hS)
      | le => exact lv_icmp_le hx hb hdg ht (fun q => go (h1 q) hL hP hD hS) (fun q => go (h2 q) hL hP hD hS)
    · exact hst.elim
  | goto o =>
    simp only [g_okx, Bool.and_eq_true, beq_iff_eq, decide_eq_true_eq] at hox
    obtain ⟨rfl, ht⟩ := hox
    exact lv_goto hx hb hdg ht (go hst hL hP hD hS)
  | tableswitch dd lo hi offs =>
    simp only [g_okx, Bool.and_eq_true, beq_iff_eq, decide_eq_true_eq] at hox
    obtain ⟨⟨⟨⟨h1, h2⟩, h3⟩, h4⟩, h5⟩ := hox
    unfold g_step at hst
    dsimp only at hst
    split at hst
    · rename_i v r
      obtain ⟨k1, k2⟩ := hst
      by_cases ho : v.toInt < lo ∨ hi < v.toInt
      · exact lv_tableOut hx hb hdg ho h1 (go (k1 ho) hL hP hD hS)
      · have hlen : offs.toList.length = x.2.2.2.2.length := by
          have := congrArg List.length h5
          rw [List.length_map, List.length_map] at this
          exact this
        obtain ⟨j, hj⟩ : ∃ j : Nat, v.toInt = lo + j := ⟨(v.toInt - lo).toNat, by omega⟩
        have hjl : j < x.2.2.2.2.length := by omega
        obtain ⟨t, ht⟩ : ∃ t, x.2.2.2.2[j]? = some t := ⟨_, List.getElem?_eq_getElem hjl⟩
        obtain ⟨o, hoo⟩ : ∃ o, offs.toList[j]? = some o := ⟨_, List.getElem?_eq_getElem (by omega)⟩
        have ho2 : (pc : Int) + o = (t : Int) := by
          have h6 := congrArg (fun z => z[j]?) h5
          simp only [List.getElem?_map, hoo, ht, Option.map_some] at h6
          exact Option.some.inj h6
        have hv : v = Int32.ofNat (x.2.1 + j) := by
          apply Int32.toInt_inj.mp
          rw [hj, h2]
          have := nI_toInt (n := x.2.1 + j) (by omega)
          rw [show Int32.ofNat (x.2.1 + j) = nI (x.2.1 + j) from rfl, this]
          omega
        refine lv_tableIn (off := o) (tgt := t) hx hb hdg (by omega) (by omega) ?_ ho2 (go (g_sw_i k2 ht hv) hL hP hD hS)
        rw [show (v.toInt - lo).toNat = j by omega, ← Array.getElem?_toList]
        exact hoo
    · exact hst.elim
  | getstatic k =>
    obtain ⟨x1, x2, x3, x4, x5⟩ := x
    cases x5 with
    | nil =>
      simp only [g_okx, Bool.and_eq_true, Bool.or_eq_true, beq_iff_eq, decide_eq_true_eq] at hox
      obtain ⟨rfl, h⟩ := hox
      rcases h with ⟨h1, h2⟩ | ⟨h1, h2⟩
      · exact va_gets hx hb (hZ.2.1 x1 h1) hS hown (hts _ (g_in_mem h2)) (fun _ h => h) hdg (go hst hL hP hD hS)
      · subst h1
        exact va_gets hx hb hZ.2.2.1 hS hown (hts _ (g_in_mem h2)) (fun _ h => h) hdg (go hst hL hP hD hS)
    | cons x5 x6 =>
      simp only [g_okx, Bool.and_eq_true, beq_iff_eq, decide_eq_true_eq] at hox
      obtain ⟨rfl, h1, h2⟩ := hox
      have h3 := go hst hL hP hD hS
      rw [List.map_cons] at h3
      change W p l e Rm s m args below meth c H locs cells slots Q (F0 m (pc + 3) ls (.int x3 :: st.map (g_cv ad rv))) at h3
      rw [h1] at h3
      exact va_gets hx hb hZ.2.2.2.1 hS hown (hts _ (g_in_mem h2)) (fun _ h => h) hdg h3
  | getfield k =>
    simp only [g_okx, Bool.and_eq_true, Bool.or_eq_true, beq_iff_eq, decide_eq_true_eq] at hox
    obtain ⟨rfl, h⟩ := hox
    unfold g_step at hst
    dsimp only at hst
    split at hst
    · rename_i a r
      obtain ⟨hk, hst⟩ := hst
      rcases h with ⟨⟨h1, h2⟩, h3⟩ | ⟨h1, -⟩
      · exact g_rF F' hk h1 h2 h3 hdg hP (go hst hL hP hD hS)
      · exfalso
        rw [h1] at hk
        have h4 := g_kd_9 a
        exact h4 hk
    · rename_i q r
      obtain ⟨hx1, hq1, hq2, hst⟩ := hst
      rcases h with ⟨⟨h1, h2⟩, h3⟩ | ⟨h1, h⟩
      · omega
      · obtain ⟨a, b, e1, e2, g1, g2, g3, g4, g5⟩ := hZ.2.2.2.2.2.1 (q - 20) (by omega)
        rw [show 20 + (q - 20) = q by omega] at e1
        have h5 := go hst hL hP hD hS
        have hgoal : W p l e Rm s m args below meth c H locs cells slots Q (F0 m pc ls (.ref a :: r.map (g_cv ad rv))) := by
          rcases h with ⟨h6, h7⟩ | ⟨h6, h7⟩
          · rw [h6] at h5
            change W p l e Rm s m args below meth c H locs cells slots Q (F0 m (pc + 3) ls (rv (q - 10) :: r.map (g_cv ad rv))) at h5
            rw [show q - 10 = 10 + (q - 20) by omega, e2] at h5
            exact vk_getf hx hb g4 hS hown (hts _ (g_in_mem h7)) (fun _ h => h) hdg h5
          · rw [h6] at h5
            exact vk_getf hx hb g3 hS hown (hts _ (g_in_mem h7)) (fun _ h => h) hdg h5
        rw [List.map_cons, show g_cv ad rv (.retAddr q) = .ref a from e1]
        exact hgoal
    · exact hst.elim
  | putfield k =>
    simp only [g_okx, Bool.and_eq_true, Bool.or_eq_true, Bool.not_eq_true', beq_iff_eq, decide_eq_true_eq] at hox
    obtain ⟨⟨⟨⟨⟨⟨rfl, h1⟩, h2⟩, h3⟩, h4⟩, h5⟩, h6⟩ := hox
    unfold g_step at hst
    dsimp only at hst
    split at hst
    · obtain ⟨hk, hn, hst⟩ := hst
      exact g_wF F' hk h1 h2 h3 h4 h5 h6 hn hdg hP hD hS (fun H1 locs1 k1 k2 k3 => go hst hL k1 k2 k3)
    · exact hst.elim
  | iaload =>
    simp only [g_okx, beq_iff_eq] at hox
    subst hox
    unfold g_step at hst
    dsimp only at hst
    split at hst
    · rename_i j a r
      obtain ⟨mm, hk, rfl, hj, hst⟩ := hst
      have ha : a < g_N := g_kd_lt (by omega)
      have hw := g_w_at (ad := ad) (Y := Y) (σ := σ) ha
      rw [g_mkI hk] at hw
      exact va_iald hx hb hK hP a 0 hw rfl hj hdg (go hst hL hP hD hS)
    · rename_i j q r
      obtain ⟨hq, hj, hst⟩ := hst
      obtain ⟨b, e1, ht⟩ := hZ.2.2.2.2.1 q hq
      rw [List.map_cons, List.map_cons, show g_cv ad rv (.retAddr q) = .ref b from e1]
      exact va_ti hx hb ht hS hj rfl hdg (go hst hL hP hD hS)
    · exact hst.elim
  | baload =>
    simp only [g_okx, beq_iff_eq] at hox
    subst hox
    unfold g_step at hst
    dsimp only at hst
    split at hst
    · rename_i j a r
      obtain ⟨mm, hk, rfl, hj, hst⟩ := hst
      have ha : a < g_N := g_kd_lt (by omega)
      have hw := g_w_at (ad := ad) (Y := Y) (σ := σ) ha
      rw [g_mkZ hk] at hw
      exact va_zald hx hb hK hP a 1 hw rfl hj hdg (go hst hL hP hD hS)
    · rename_i j q r
      obtain ⟨hq, hq2, hj, hst⟩ := hst
      obtain ⟨a, b, e1, e2, g1, g2, g3, g4, g5⟩ := hZ.2.2.2.2.2.1 (q - 10) (by omega)
      rw [show 10 + (q - 10) = q by omega] at e2 g5
      rw [List.map_cons, List.map_cons, show g_cv ad rv (.retAddr q) = .ref b from e2]
      exact va_tb hx hb g5 hS hj rfl hdg (go hst hL hP hD hS)
    · exact hst.elim
  | aaload =>
    simp only [g_okx, beq_iff_eq] at hox
    subst hox
    unfold g_step at hst
    dsimp only at hst
    split at hst
    · obtain ⟨mm, hk, rfl, hj, hst⟩ := hst
      exact g_rR F' hk hj hdg hP (go hst hL hP hD hS)
    · exact hst.elim
  | arraylength =>
    simp only [g_okx, beq_iff_eq] at hox
    subst hox
    unfold g_step at hst
    dsimp only at hst
    split at hst
    · rename_i a r
      obtain ⟨mm, hk, hk2, rfl, hst⟩ := hst
      have ha : a < g_N := g_kd_lt (by omega)
      have hw := g_w_at (ad := ad) (Y := Y) (σ := σ) ha
      rcases (show g_kd a = 100 ∨ g_kd a = 101 by omega) with q | q
      · rw [g_mkI q] at hw
        exact va_alen hx hb hK hP a 0 hw rfl rfl hdg (go hst hL hP hD hS)
      · rw [g_mkZ q] at hw
        exact va_alen hx hb hK hP a 1 hw rfl rfl hdg (go hst hL hP hD hS)
    · rename_i q r
      obtain ⟨hq, hst⟩ := hst
      have hh : (q < 6 ∨ q = 99) ∨ (10 ≤ q ∧ q < 18) := by omega
      rcases hh with hq | hq
      · obtain ⟨b, e1, ht⟩ := hZ.2.2.2.2.1 q hq
        rw [List.map_cons, show g_cv ad rv (.retAddr q) = .ref b from e1]
        exact va_tlen hx hb ht hS rfl hdg (go hst hL hP hD hS)
      · obtain ⟨a, b, e1, e2, g1, g2, g3, g4, g5⟩ := hZ.2.2.2.2.2.1 (q - 10) (by omega)
        rw [show 10 + (q - 10) = q by omega] at e2 g5
        rw [List.map_cons, show g_cv ad rv (.retAddr q) = .ref b from e2]
        exact va_tlen hx hb g5 hS rfl hdg (go hst hL hP hD hS)
    · exact hst.elim
  | iastore =>
    simp only [g_okx, beq_iff_eq] at hox
    subst hox
    unfold g_step at hst
    dsimp only at hst
    split at hst
    · obtain ⟨mm, hk, rfl, hj, hst⟩ := hst
      exact g_wI F' hk hj hdg hP hD hS (fun H1 locs1 k1 k2 k3 => go hst hL k1 k2 k3)
    · exact hst.elim
  | bastore =>
    simp only [g_okx, beq_iff_eq] at hox
    subst hox
    unfold g_step at hst
    dsimp only at hst
    split at hst
    · obtain ⟨mm, hk, rfl, hj, hn, hst⟩ := hst
      exact g_wZ F' hk hj hn hdg hP hD hS (fun H1 locs1 k1 k2 k3 => go hst hL k1 k2 k3)
    · exact hst.elim
  | invokevirtual k =>
    simp only [g_okx, Bool.and_eq_true, Bool.or_eq_true, beq_iff_eq, decide_eq_true_eq] at hox
    obtain ⟨⟨⟨⟨⟨⟨⟨rfl, h1⟩, h2⟩, h3⟩, h4⟩, h5⟩, h6⟩, h7⟩ := hox
    unfold g_step at hst
    dsimp only at hst
    split at hst
    · rename_i v as r hpop
      obtain ⟨hr, hr1, hr2, R', hw, hk⟩ := hst
      obtain ⟨pre, e1, e2, e3⟩ := g_pop_spec _ _ _ _ _ hpop
      rw [List.append_nil] at e3
      have e4 : pre = as.reverse ++ [v] := by
        rw [← List.reverse_reverse pre, ← e3, List.reverse_cons]
      have e5 : as.length = x.2.1 := by
        rw [e4, List.length_append, List.length_reverse] at e2
        exact Nat.succ.inj e2
      subst e1
      rw [e4, List.append_assoc, List.singleton_append]
      obtain ⟨d', rfl, hcon⟩ := hO _ _ _ _ h1 h2 hr2 hw
      have hrc : ∃ b, g_cv ad rv v = .ref b ∧ ∃ cellB : Cell, H[b]? = some cellB ∧ cellB.vm.isStatics = false ∧ s.vm.findClass (g_y x.1).cls = some cellB.cls := by
        unfold g_rcv at hr
        rw [show (g_mm x.1).1 = g_mc x.1 from rfl] at hr
        split at hr
        · rename_i a
          refine ⟨ad a, rfl, ?_⟩
          rcases h7 with ⟨h8, h9⟩ | ⟨h8, h9⟩
          · have ha : a < g_N := g_kd_lt (by omega)
            have hw2 := g_w_at (ad := ad) (Y := Y) (σ := σ) ha
            rw [g_mkO hr h9] at hw2
            have := va_recv hK hP (g_C_at h9) hw2
            dsimp only at this
            rw [h8] at this
            exact this
          · exfalso
            rw [h8] at hr
            exact g_kd_9 a hr
        · rename_i q
          obtain ⟨hm, hq1, hq2⟩ := hr
          rcases h7 with ⟨h8, h9⟩ | ⟨h8, h9⟩
          · omega
          · obtain ⟨a, b, f1, f2, g1, g2, -⟩ := hZ.2.2.2.2.2.1 (q - 20) (by omega)
            rw [show 20 + (q - 20) = q by omega] at f1
            refine ⟨a, f1, ?_⟩
            obtain ⟨cell, z1, z2, z3, z4⟩ := g2
            refine ⟨cell, ?_, z2, by rw [h9]; exact z3⟩
            rw [hS.2.1 a (Array.getElem?_eq_some_iff.mp z1).1 z4]
            exact z1
        · exact hr.elim
      obtain ⟨b, hvb, hrc⟩ := hrc
      exact g_callV F' hcon (hom _ h1 h2) (by rw [e5]; exact h3) h4 h5 h6 hvb hrc hP hD hS hL hr1 hdg hk hQ
    · exact hst.elim
  | invokestatic k =>
    obtain ⟨x1, x2, x3, x4, x5⟩ := x
    cases x5 with
    | nil =>
      simp only [g_okx, Bool.and_eq_true, Bool.or_eq_true, beq_iff_eq, decide_eq_true_eq] at hox
      obtain ⟨rfl, ⟨⟨⟨h1, h2⟩, h3⟩, h4⟩, h6⟩ := hox
      unfold g_step at hst
      dsimp only at hst
      split at hst
      · rename_i as r hpop
        obtain ⟨hr1, hr2, R', hw, hk⟩ := hst
        obtain ⟨pre, e1, e2, e3⟩ := g_pop_spec _ _ _ _ _ hpop
        rw [List.append_nil] at e3
        have e4 : pre = as.reverse := by
          rw [← List.reverse_reverse pre, ← e3]
        have e5 : as.length = x2 := by
          rw [e4, List.length_reverse] at e2
          exact e2
        subst e1
        rw [e4]
        obtain ⟨d', rfl, hcon⟩ := hO _ _ _ _ h1 h2 hr2 hw
        exact g_callS F' hcon (hom _ h1 h2) (by rw [e5]; exact h3) h4 h6 hP hD hS hL hr1 hdg hk hQ
      · exact hst.elim
    | cons f x6 =>
      simp only [g_okx, Bool.and_eq_true, beq_iff_eq] at hox
      obtain ⟨rfl, h1⟩ := hox
      unfold g_step at hst
      dsimp only at hst
      obtain ⟨q1, q2, q3, q4, q5, q6, q7, q8, q9, q10⟩ := g_libs
      split at hst
      · unfold g_acp at hst
        split at hst
        · obtain ⟨hr, k1, k2, k3, k4, k5, k6, k7, hst⟩ := hst
          exact g_wC F' hL.1 k1 k2 h1 (g_ble hrv hr) k3 k4 k5 k6 k7 hdg hP hD hS (fun H1 locs1 z1 z2 z3 => go hst hL z1 z2 z3)
        · exact hst.elim
      · split at hst
        · obtain ⟨hr, hst⟩ := hst
          have := g_ble (ad := ad) hrv hr
          exact va_mmax hx hb (hml.trans hL.1.symm) hown (hts _ (g_in_mem h1)) (hts _ (g_in_mem q5)) (hts _ (g_in_mem q4)) (hts _ (g_in_mem q8)) (by omega) (by omega) hc1 hc2 hdg (go hst hL hP hD hS)
        · exact hst.elim
      · split at hst
        · obtain ⟨hr, hst⟩ := hst
          have := g_ble (ad := ad) hrv hr
          exact va_mmin hx hb (hml.trans hL.1.symm) hown (hts _ (g_in_mem h1)) (hts _ (g_in_mem q6)) (hts _ (g_in_mem q4)) (hts _ (g_in_mem q9)) (by omega) (by omega) hc1 hc2 hdg (go hst hL hP hD hS)
        · exact hst.elim
      · rename_i n1 n2 n3
        split at hst
        · obtain ⟨hr, hst⟩ := hst
          have := g_ble (ad := ad) hrv hr
          have h2 : g_in (.methodLink (g_y M).cls k Lib.Math.abs.name) = true := by
            revert h1
            split
            · exact fun _ => absurd rfl n1
            · exact fun _ => absurd rfl n2
            · exact fun _ => absurd rfl n3
            · exact fun z => z
          exact va_mabs hx hb (hml.trans hL.1.symm) hown (hts _ (g_in_mem h2)) (hts _ (g_in_mem q7)) (hts _ (g_in_mem q4)) (hts _ (g_in_mem q10)) (by omega) (by omega) hc1 hc2 hdg (go hst hL hP hD hS)
        · exact hst.elim
  | ireturn =>
    simp only [g_okx, Bool.and_eq_true, beq_iff_eq, decide_eq_true_eq] at hox
    obtain ⟨rfl, hr⟩ := hox
    unfold g_step at hst
    dsimp only at hst
    split at hst
    · exact hret.1 pc H locs ls _ _ σ hdg hr hst.1 hst.2 hP hD hS
    · exact hst.elim
  | lreturn =>
    simp only [g_okx, Bool.and_eq_true, beq_iff_eq, decide_eq_true_eq] at hox
    obtain ⟨rfl, hr⟩ := hox
    unfold g_step at hst
    dsimp only at hst
    split at hst
    · exact hret.2.1 pc H locs ls _ σ hdg hr hst hP hD hS
    · exact hst.elim
  | return_ =>
    simp only [g_okx, Bool.and_eq_true, beq_iff_eq, decide_eq_true_eq] at hox
    obtain ⟨rfl, hr⟩ := hox
    unfold g_step at hst
    dsimp only at hst
    split at hst
    · exact hret.2.2 pc H locs ls σ hdg hr hst hP hD hS
    · exact hst.elim
  | _ => exact False.elim hst
end GM
