/-! each step read backwards -/
section GI
variable {K : g_K} {pc n k : Nat} {L : g_L} {st : List Value} {σ : g_S}
theorem g_ild_i (h : g_ild K pc n k L st σ) : ∃ v, g_nth L k = some (.int v) ∧ K (pc + n) L (.int v :: st) σ := by
  unfold g_ild at h
  split at h
  · exact ⟨_, by assumption, h⟩
  · exact h.elim
theorem g_lld_i (h : g_lld K pc n k L st σ) : ∃ v, g_nth L k = some (.long v) ∧ K (pc + n) L (.long v :: st) σ := by
  unfold g_lld at h
  split at h
  · exact ⟨_, by assumption, h⟩
  · exact h.elim
theorem g_ald_i (h : g_ald K pc n k L st σ) : (∃ v, g_nth L k = some (.ref v) ∧ K (pc + n) L (.ref v :: st) σ) ∨ ∃ v, g_nth L k = some (.retAddr v) ∧ K (pc + n) L (.retAddr v :: st) σ := by
  unfold g_ald at h
  split at h
  · exact Or.inl ⟨_, by assumption, h⟩
  · exact Or.inr ⟨_, by assumption, h⟩
  · exact h.elim
theorem g_ist_i (h : g_ist K pc n k L st σ) : ∃ v r, st = .int v :: r ∧ K (pc + n) (g_st1 L k (.int v)) r σ := by
  unfold g_ist at h
  split at h
  · exact ⟨_, _, rfl, h⟩
  · exact h.elim
theorem g_lst_i (h : g_lst K pc n k L st σ) : ∃ v r, st = .long v :: r ∧ K (pc + n) (g_st2 L k (.long v)) r σ := by
  unfold g_lst at h
  split at h
  · exact ⟨_, _, rfl, h⟩
  · exact h.elim
theorem g_ast_i (h : g_ast K pc n k L st σ) : ∃ v r, st = .ref v :: r ∧ K (pc + n) (g_st1 L k (.ref v)) r σ := by
  unfold g_ast at h
  split at h
  · exact ⟨_, _, rfl, h⟩
  · exact h.elim
theorem g_i2_i {f : Int32 → Int32 → Int32} (h : g_i2 K pc L st σ f) : ∃ y x r, st = .int y :: .int x :: r ∧ K (pc + 1) L (.int (f x y) :: r) σ := by
  unfold g_i2 at h
  split at h
  · exact ⟨_, _, _, rfl, h⟩
  · exact h.elim
theorem g_l2_i {f : Int64 → Int64 → Int64} (h : g_l2 K pc L st σ f) : ∃ y x r, st = .long y :: .long x :: r ∧ K (pc + 1) L (.long (f x y) :: r) σ := by
  unfold g_l2 at h
  split at h
  · exact ⟨_, _, _, rfl, h⟩
  · exact h.elim
theorem g_ls_i {f : Int64 → Int32 → Int64} (h : g_ls K pc L st σ f) : ∃ y x r, st = .int y :: .long x :: r ∧ K (pc + 1) L (.long (f x y) :: r) σ := by
  unfold g_ls at h
  split at h
  · exact ⟨_, _, _, rfl, h⟩
  · exact h.elim
theorem g_i1_i {f : Int32 → Int32} (h : g_i1 K pc L st σ f) : ∃ x r, st = .int x :: r ∧ K (pc + 1) L (.int (f x) :: r) σ := by
  unfold g_i1 at h
  split at h
  · exact ⟨_, _, rfl, h⟩
  · exact h.elim
theorem g_sw_i {P : Nat → Prop} {v : Int32} {ts : List Nat} {c j t : Nat} (h : g_sw P v c ts) (ht : ts[j]? = some t) (hv : v = Int32.ofNat (c + j)) : P t := by
  induction ts generalizing c j with
  | nil => cases ht
  | cons u ts ih =>
    cases j with
    | zero => cases ht; exact h.1 hv
    | succ j => exact ih h.2 ht (by rw [hv]; congr 1; omega)
end GI
section GU
variable {p : Program} {l : Launch} {e : Env} {Rm : Room} {s : State} {m : MethodId} {args : Array Value} {below : List Frame} {meth : Method} {c : Code} {Q : State → Prop}
variable {ad : Nat → Nat} {rv : Nat → Value} {D : va_G} {Y : g_Y} {A : Nat → Prop} {E : g_E} {M : Nat}
/-- how the frame's end is taken -/
def g_Ret (p : Program) (l : Launch) (e : Env) (Rm : Room) (s : State) (m : MethodId) (args : Array Value) (below : List Frame) (meth : Method) (c : Code) (Q : State → Prop) (ad : Nat → Nat) (D : va_G) (Y : g_Y) (A : Nat → Prop) (M cells slots : Nat) (R : g_R) : Prop :=
  (∀ (pc : Nat) (H : Heap) (locs : List Loc) (ls : Array Slot) (v : Int32) (ty : FieldType) (σ : g_S), decode (g_by M) pc = .ok (.ireturn, 1) → g_rt M = some ty → narrow ty (.int v) = .int v → R (some (.int v)) σ → va_P D vwCl (g_w ad Y σ) H → va_D A (g_w ad Y σ) → va_S A s.heap H locs → W p l e Rm s m args below meth c H locs cells slots Q (F0 m pc ls [.int v])) ∧
  (∀ (pc : Nat) (H : Heap) (locs : List Loc) (ls : Array Slot) (v : Int64) (σ : g_S), decode (g_by M) pc = .ok (.lreturn, 1) → g_rt M = some .long → R (some (.long v)) σ → va_P D vwCl (g_w ad Y σ) H → va_D A (g_w ad Y σ) → va_S A s.heap H locs → W p l e Rm s m args below meth c H locs cells slots Q (F0 m pc ls [.long v])) ∧
  ∀ (pc : Nat) (H : Heap) (locs : List Loc) (ls : Array Slot) (σ : g_S), decode (g_by M) pc = .ok (.return_, 1) → g_rt M = none → R none σ → va_P D vwCl (g_w ad Y σ) H → va_D A (g_w ad Y σ) → va_S A s.heap H locs → W p l e Rm s m args below meth c H locs cells slots Q (F0 m pc ls [])
theorem g_libs : g_in (.static arraycopyName) = true ∧ g_in (.native arraycopyName) = true ∧ g_in (.initialized "java/lang/System") = true ∧ g_in (.initialized "java/lang/Math") = true ∧ g_in (.static Lib.Math.max.name) = true ∧ g_in (.static Lib.Math.min.name) = true ∧ g_in (.static Lib.Math.abs.name) = true ∧ g_in (.code Lib.Math.max.name Lib.Math.max.code 2 (some .int)) = true ∧ g_in (.code Lib.Math.min.name Lib.Math.min.code 2 (some .int)) = true ∧ g_in (.code Lib.Math.abs.name Lib.Math.abs.code 1 (some .int)) = true := by decide +kernel
theorem g_params {M' n : Nat} (h : (parseMethodDescriptor (g_y M').desc).map (fun d => d.parameters.length) = some n) : ∀ sig, parseMethodDescriptor (g_y M').desc = some sig → n = sig.parameters.length := by
  intro sig hs
  rw [hs] at h
  exact (Option.some.inj h).symm
theorem g_okM_i {M' : Nat} (h : g_okM M' = true) : g_in (.code (g_y M') (g_by M') (g_ml M') (g_rt M')) = true ∧ g_in (.initialized (g_y M').cls) = true ∧ ((g_y M').cls ≠ "java/lang/invoke/MethodHandle" ∧ (g_y M').cls ≠ "java/lang/invoke/VarHandle") ∧ plainName (g_y M').cls = true ∧ g_ml M' ≤ 20 := by
  unfold g_okM at h
  simp only [Bool.and_eq_true, decide_eq_true_eq] at h
  obtain ⟨⟨⟨⟨⟨h1, h2⟩, h3⟩, h4⟩, h5⟩, h6⟩ := h
  exact ⟨h1, h2, ⟨h3, h4⟩, h5, h6⟩
/-- an instance method's call -/
theorem g_callV {d cells slots pc idx : Nat} {M' : Nat} {K : g_K} {L : g_L} {σ : g_S} {v : Value} {as r : List Value} {R' : g_R} {H : Heap} {locs : List Loc} {ls : Array Slot} (F : g_Fr p l Rm s m args c ad rv D Y A E M (d + 1) cells slots) (hM : g_Con E ad rv D Y l d M' (v :: as) σ R')
    (ho : g_okM M' = true) (hn : (parseMethodDescriptor (g_y M').desc).map (fun d => d.parameters.length) = some as.length) (hin : g_in (.instanceMethod (g_y M')) = true) (hse : g_in (.selects (g_y M').cls (g_y M') (g_y M')) = true) (hlk : g_in (.methodLink (g_y M).cls idx (g_y M')) = true ∨ g_inN (.methodLinkNest (g_y M).cls idx (g_y M') "DialTown") = true)
    {b : Nat} (hvb : g_cv ad rv v = .ref b) (hrc : ∃ cellB : Cell, H[b]? = some cellB ∧ cellB.vm.isStatics = false ∧ s.vm.findClass (g_y M').cls = some cellB.cls)
    (hP : va_P D vwCl (g_w ad Y σ) H) (hD : va_D A (g_w ad Y σ)) (hS : va_S A s.heap H locs) (hL : g_H ad rv ls (g_ml M) L) (hrl : Nat.ble r.length 4 = true) (hdg : decode (g_by M) pc = .ok (.invokevirtual idx, 3))
    (hK : ∀ u σ1, R' u σ1 → K (pc + 3) L (u.toList ++ r) σ1) (hQ : ∀ pc L st σ, K pc L st σ → g_P p l e Rm s m args below meth c Q ad rv D Y A (g_ml M) cells slots pc L st σ) :
    W p l e Rm s m args below meth c H locs cells slots Q (F0 m pc ls ((as.reverse ++ v :: r).map (g_cv ad rv))) := by
  have F' := F
  obtain ⟨hx, hb, hml, hown, hts, hKK, hZ, hA, hroom, hc1, hc2⟩ := F
  have hrv := g_rvk hZ.2.2.2.2.2.2
  obtain ⟨o1, o2, o3, o4, o5⟩ := g_okM_i ho
  refine g_callN (M' := M') F' hM hP hD hS hL ?_ hK hQ
  have hpre : PreV s H (g_y M').cls b (va_Pc ((v :: as).map (g_cv ad rv)) (g_Pre E ad rv D Y σ)) (as.map (g_cv ad rv)) :=
    ⟨g_blind, hrc, fun U hU hW => by
      have := g_preOf (as := v :: as) F' hP hD hS U hU hW
      rw [List.map_cons, hvb] at this
      rw [List.map_cons, hvb]
      exact this⟩
  have hst : (as.reverse ++ v :: r).map (g_cv ad rv) = (as.map (g_cv ad rv)).reverse ++ .ref b :: r.map (g_cv ad rv) := by
    rw [List.map_append, List.map_cons, hvb, List.map_reverse]
  have hR : (g_rm d).frames + 1 ≤ Rm.frames ∧ 8 + (g_ml M' + 11) + (g_rm d).locals ≤ Rm.locals := by
    have h1 : (g_rm d).frames = d + 1 := rfl
    have h2 : (g_rm d).locals = 64 * (d + 1) := rfl
    rw [h1, h2]
    omega
  have hws := pay_in hts (g_goodIn o1)
  rcases hlk with hlk | hlk
  · exact va_runV (nL := g_ml M) (Ts := g_W) (n := as.length) (y := g_y M') (bytes := g_by M') (maxL := g_ml M') (ret := g_rt M') ⟨hx, hb, hml, hown, hts⟩ hM ⟨⟨rfl, rfl, hR.1, hR.2, hws, List.mem_cons_self, hts _ (g_in_mem o1), hts _ (g_in_mem o2), o3, g_params hn, hts _ (g_in_mem hlk)⟩, hts _ (g_in_mem hin), hts _ (g_in_mem hse)⟩ hpre rfl (by rw [List.length_map]) hL.1 hst (by
      have := g_ble (ad := ad) hrv hrl
      show 2 * 0 + _ ≤ 8
      omega) hdg ⟨hc1, hc2⟩
  · exact va_runVN (nL := g_ml M) (Ts := g_W) (n := as.length) (y := g_y M') (bytes := g_by M') (maxL := g_ml M') (ret := g_rt M') (C := (g_y M').cls) (host := "DialTown") ⟨hx, hb, hml, hown, hts⟩ hM ⟨⟨⟨rfl, rfl, hR.1, hR.2, hws, List.mem_cons_self⟩, hts _ (g_in_mem o1), hts _ (g_in_mem o2), o3, g_params hn, (hZ.1 _ (g_inN_mem hlk)).use rfl⟩, hts _ (g_in_mem hin), hts _ (g_in_mem hse)⟩ hpre rfl (by rw [List.length_map]) hL.1 hst (by
      have := g_ble (ad := ad) hrv hrl
      show 2 * 0 + _ ≤ 8
      omega) hdg ⟨hc1, hc2⟩
theorem g_callS {d cells slots pc idx : Nat} {M' : Nat} {K : g_K} {L : g_L} {σ : g_S} {as r : List Value} {R' : g_R} {H : Heap} {locs : List Loc} {ls : Array Slot} (F : g_Fr p l Rm s m args c ad rv D Y A E M (d + 1) cells slots) (hM : g_Con E ad rv D Y l d M' as σ R')
    (ho : g_okM M' = true) (hn : (parseMethodDescriptor (g_y M').desc).map (fun d => d.parameters.length) = some as.length) (hin : g_in (.static (g_y M')) = true) (hlk : g_in (.methodLink (g_y M).cls idx (g_y M')) = true ∨ g_inN (.methodLinkNest (g_y M).cls idx (g_y M') "DialTown") = true)
    (hP : va_P D vwCl (g_w ad Y σ) H) (hD : va_D A (g_w ad Y σ)) (hS : va_S A s.heap H locs) (hL : g_H ad rv ls (g_ml M) L) (hrl : Nat.ble r.length 4 = true) (hdg : decode (g_by M) pc = .ok (.invokestatic idx, 3))
    (hK : ∀ u σ1, R' u σ1 → K (pc + 3) L (u.toList ++ r) σ1) (hQ : ∀ pc L st σ, K pc L st σ → g_P p l e Rm s m args below meth c Q ad rv D Y A (g_ml M) cells slots pc L st σ) :
    W p l e Rm s m args below meth c H locs cells slots Q (F0 m pc ls ((as.reverse ++ r).map (g_cv ad rv))) := by
  have F' := F
  obtain ⟨hx, hb, hml, hown, hts, hKK, hZ, hA, hroom, hc1, hc2⟩ := F
  have hrv := g_rvk hZ.2.2.2.2.2.2
  obtain ⟨o1, o2, o3, o4, o5⟩ := g_okM_i ho
  refine g_callN (M' := M') F' hM hP hD hS hL ?_ hK hQ
  have hpre : PreS s H (va_Pc (as.map (g_cv ad rv)) (g_Pre E ad rv D Y σ)) (as.map (g_cv ad rv)) := ⟨g_blind, g_preOf F' hP hD hS⟩
  have hst : (as.reverse ++ r).map (g_cv ad rv) = (as.map (g_cv ad rv)).reverse ++ r.map (g_cv ad rv) := by
    rw [List.map_append, List.map_reverse]
  have hR : (g_rm d).frames + 1 ≤ Rm.frames ∧ 8 + (g_ml M' + 11) + (g_rm d).locals ≤ Rm.locals := by
    have h1 : (g_rm d).frames = d + 1 := rfl
    have h2 : (g_rm d).locals = 64 * (d + 1) := rfl
    rw [h1, h2]
    omega
  have hws := pay_in hts (g_goodIn o1)
  rcases hlk with hlk | hlk
  · exact va_runS (nL := g_ml M) (Ts := g_W) (n := as.length) (y := g_y M') (bytes := g_by M') (maxL := g_ml M') (ret := g_rt M') ⟨hx, hb, hml, hown, hts⟩ hM ⟨⟨rfl, rfl, hR.1, hR.2, hws, List.mem_cons_self, hts _ (g_in_mem o1), hts _ (g_in_mem o2), o3, g_params hn, hts _ (g_in_mem hlk)⟩, hts _ (g_in_mem hin)⟩ hpre rfl (by rw [List.length_map]) hL.1 hst (by
      have := g_ble (ad := ad) hrv hrl
      show 2 * 0 + _ ≤ 8
      omega) hdg ⟨hc1, hc2⟩
  · exact va_runSN (nL := g_ml M) (Ts := g_W) (n := as.length) (y := g_y M') (bytes := g_by M') (maxL := g_ml M') (ret := g_rt M') (host := "DialTown") ⟨hx, hb, hml, hown, hts⟩ hM ⟨⟨⟨rfl, rfl, hR.1, hR.2, hws, List.mem_cons_self⟩, hts _ (g_in_mem o1), hts _ (g_in_mem o2), o3, g_params hn, (hZ.1 _ (g_inN_mem hlk)).use rfl⟩, hts _ (g_in_mem hin), trivial⟩ hpre rfl (by rw [List.length_map]) hL.1 hst (by
      have := g_ble (ad := ad) hrv hrl
      show 2 * 0 + _ ≤ 8
      omega) hdg ⟨hc1, hc2⟩
end GU
