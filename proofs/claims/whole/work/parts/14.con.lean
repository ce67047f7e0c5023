section GX
variable {ad : Nat → Nat} {rv : Nat → Value} {D : va_G} {Y : g_Y} {E : g_E}
/-- a run of the small machine from where a frame stands, at the machine -/
theorem g_run {p : Program} {l : Launch} {e : Env} {Rm : Room} {s : State} {m : MethodId} {args : Array Value} {below : List Frame} {meth : Method} {c : Code} {Q : State → Prop} {A : Nat → Prop} {M d cells slots : Nat} {O : g_O} {R : g_R}
    (F : g_Fr p l Rm s m args c ad rv D Y A E M d cells slots) (hall : (g_cl M).all (g_okI M) = true) (hom : ∀ M', 0 < M' → M' < 194 → g_okM M' = true)
    (hO : ∀ M' as σ R', 0 < M' → M' < 194 → Nat.ble (g_slots as).length (g_ml M') = true → O M' as σ R' → ∃ d', d = d' + 1 ∧ g_Con E ad rv D Y l d' M' as σ R') (hret : g_Ret p l e Rm s m args below meth c Q ad D Y A M cells slots R)
    {pc : Nat} {L : g_L} {st : List Value} {σ : g_S} (h : g_g E O M pc L st σ R) : g_P p l e Rm s m args below meth c Q ad rv D Y A (g_ml M) cells slots pc L st σ :=
  h _ (fun K pc L st σ i n x hQ hcd hst => g_closed F hall hom hO hret hQ hcd hst) (fun pc L0 L st σ h0 hl H locs ls hL hP hD hS => h0 H locs ls (hL.weak hl) hP hD hS)
theorem g_con1 (hall : ∀ M, M < 194 → (g_cl M).all (g_okI M) = true) (hom : ∀ M', 0 < M' → M' < 194 → g_okM M' = true) (l : Launch) {d M : Nat} {as : List Value} {σ : g_S} {R : g_R} (h0 : 0 < M) (h1 : M < 194) (hbl : Nat.ble (g_slots as).length (g_ml M) = true) {O : g_O} (h : g_g E O M 0 (g_ent (g_ml M) as) [] σ R)
    (hO : ∀ M' as σ R', 0 < M' → M' < 194 → Nat.ble (g_slots as).length (g_ml M') = true → O M' as σ R' → ∃ d', d = d' + 1 ∧ g_Con E ad rv D Y l d' M' as σ R') : g_Con E ad rv D Y l d M as σ R := by
  obtain ⟨o1, o2, o3, o4, o5⟩ := g_okM_i (hom M h0 h1)
  refine Met.ofW (cc := g_by M) (maxL := g_ml M) (ret := g_rt M) o4 rfl ?_
  intro p e s m args below meth c s₁ B hml hv
  obtain ⟨rfl, hP, hK, hD, hZ⟩ := hv
  have hx := B.exec
  have hb := B.bytes
  have hr := B.returns
  have hts := atoms_spec (ws := .code (g_y M) (g_by M) (g_ml M) (g_rt M) :: g_W) B.pre
  have hown : s.vm.findClass (g_y M).cls = some m.cls := findClass_of_methodNamed B.named
  have hlocks := B.notSynchronized
  have hrv := g_rvk hZ.2.2.2.2.2.2
  have F : g_Fr p l (g_rm d) s m (as.map (g_cv ad rv)).toArray c ad rv D Y (g_A ad) E M d 0 0 := ⟨hx, hb, hml, hown, fun w hw => hts w (List.mem_cons_of_mem _ hw), hK, hZ, fun _ h => h, ⟨Nat.le_refl _, Nat.le_refl _⟩, Nat.le_refl _, Nat.le_refl _⟩
  rw [lg_entry_eq]
  refine g_run F (hall M h1) hom hO ?_ h s.heap [] _ (g_H.entry hrv hbl) hP hD va_S.rf
  have post : ∀ (u : Option Value) (σ : g_S) (H : Heap) (locs : List Loc), R u σ → va_P D vwCl (g_w ad Y σ) H → va_D (g_A ad) (g_w ad Y σ) → va_S (g_A ad) s.heap H locs → ∀ t : State, t.heap = H → (∃ r, Outcome.returned (u.map (g_cv ad rv)) = .returned r ∧ g_Post ad rv D Y R r t) ∧ va_F (g_A ad) s t :=
    fun u σ H locs hR h1 h2 h3 t ht => ⟨⟨_, rfl, u, σ, hR, rfl, by rw [ht]; exact h1, h2⟩, h3.F ht⟩
  refine ⟨?_, ?_, ?_⟩
  · intro pc H locs ls v ty σ hdg hty hn hR h1 h2 h3
    exact W.zret (free := g_A ad) hx hb (hr.trans hty) hn (fun t ht hW => post _ _ _ _ hR h1 h2 h3 t ht) h3.2.2 hdg (hlocks := hlocks)
  · intro pc H locs ls v σ hdg hty hR h1 h2 h3
    exact W.lret (free := g_A ad) hx hb (hr.trans hty) (fun t ht hW => post _ _ _ _ hR h1 h2 h3 t ht) h3.2.2 hdg (hlocks := hlocks)
  · intro pc H locs ls σ hdg hty hR h1 h2 h3
    exact W.vret (free := g_A ad) hx hb (hr.trans hty) (fun t ht hW => post _ _ _ _ hR h1 h2 h3 t ht) h3.2.2 hdg (hlocks := hlocks)
theorem g_con (hall : ∀ M, M < 194 → (g_cl M).all (g_okI M) = true) (hom : ∀ M', 0 < M' → M' < 194 → g_okM M' = true) (l : Launch) : ∀ (d M : Nat) (as : List Value) (σ : g_S) (R : g_R), 0 < M → M < 194 → Nat.ble (g_slots as).length (g_ml M) = true → g_wp E (d + 1) M as σ R → g_Con E ad rv D Y l d M as σ R := by
  intro d
  induction d with
  | zero =>
    intro M as σ R h0 h1 hb h
    exact g_con1 (d := 0) hall hom l h0 h1 hb (O := g_wp E 0) h (fun _ _ _ _ _ _ _ z => z.elim)
  | succ d ih =>
    intro M as σ R h0 h1 hb h
    exact g_con1 (d := d + 1) hall hom l h0 h1 hb (O := g_wp E (d + 1)) h (fun M' as σ R' k0 k1 k2 z => ⟨d, rfl, ih M' as σ R' k0 k1 k2 z⟩)
end GX
