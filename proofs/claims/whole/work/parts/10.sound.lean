section GT
variable {p : Program} {l : Launch} {e : Env} {Rm : Room} {s : State} {m : MethodId} {args : Array Value} {below : List Frame} {meth : Method} {c : Code} {Q : State → Prop}
variable {ad : Nat → Nat} {rv : Nat → Value} {D : va_G} {Y : g_Y} {A : Nat → Prop} {E : g_E} {M : Nat}
/-- what a frame that runs method M stands on -/
def g_Fr (p : Program) (l : Launch) (Rm : Room) (s : State) (m : MethodId) (args : Array Value) (c : Code) (ad : Nat → Nat) (rv : Nat → Value) (D : va_G) (Y : g_Y) (A : Nat → Prop) (E : g_E) (M d cells slots : Nat) : Prop :=
  p.tables.exec = Jvm.exec ∧ c.code = g_by M ∧ c.maxLocals = g_ml M ∧ s.vm.findClass (g_y M).cls = some m.cls ∧ (∀ w ∈ g_W, w.before args s = true) ∧ va_K D vwCl (g_tys Y) s ∧ g_Z E rv A s s.heap ∧ (∀ q, g_A ad q → A q) ∧ (d + 1 ≤ Rm.frames ∧ 64 * (d + 1) ≤ Rm.locals) ∧ cells ≤ Rm.cells ∧ slots ≤ Rm.slots
/-- a frame's own cells are numbered -/
theorem g_Dn {σ : g_S} (hA : ∀ q, g_A ad q → A q) (hD : va_D A (g_w ad Y σ)) : va_D (g_A ad) (g_w ad Y σ) := by
  refine ⟨hD.1, fun k q hq => ?_⟩
  have hk : k < g_N := by
    have := (List.getElem?_eq_some_iff.mp hq).1
    rw [g_w, List.length_map, List.length_range] at this
    exact this
  rw [g_w_at hk] at hq
  cases hq
  exact ⟨k, hk, rfl⟩
theorem g_Dw {σ : g_S} (hA : ∀ q, g_A ad q → A q) (hD : va_D (g_A ad) (g_w ad Y σ)) : va_D A (g_w ad Y σ) := hD.weaken (fun k q _ h => hA q.1 h)
theorem g_goodIn {M : Nat} (h : g_in (.code (g_y M) (g_by M) (g_ml M) (g_rt M)) = true) : ∀ w ∈ (.code (g_y M) (g_by M) (g_ml M) (g_rt M) :: g_W : List Jvm.Cond), w ∈ g_W ∧ ((w.onTables && w.keeps) = true ∨ ∃ ty, w = .arrayClass ty) := by
  intro w hw
  have h1 : w ∈ g_W := by
    rcases List.mem_cons.mp hw with rfl | h2
    · exact g_in_mem h
    · exact h2
  exact ⟨h1, good_of_word (List.mem_filter.mp h1).2⟩
/-- a call, from the frame of M, of M' -/
theorem g_callN {d cells slots pc : Nat} {M' : Nat} {K : g_K} {L : g_L} {σ : g_S} {as r : List Value} {R' : g_R} {H : Heap} {locs : List Loc} {ls : Array Slot} {st0 : List Value}
    (F : g_Fr p l Rm s m args c ad rv D Y A E M (d + 1) cells slots) (hM : g_Con E ad rv D Y l d M' as σ R') (hP : va_P D vwCl (g_w ad Y σ) H) (hD : va_D A (g_w ad Y σ)) (hS : va_S A s.heap H locs) (hL : g_H ad rv ls (g_ml M) L)
    (hr : va_Run p l e Rm s m args below meth c H locs cells slots 0 0 (F0 m pc ls st0) (r.map (g_cv ad rv)) (fun st oc t => (∃ r, oc = .returned r ∧ g_Post ad rv D Y R' r t) ∧ va_F (g_A ad) st t) (g_A ad))
    (hK : ∀ u σ1, R' u σ1 → K (pc + 3) L (u.toList ++ r) σ1) (hQ : ∀ pc L st σ, K pc L st σ → g_P p l e Rm s m args below meth c Q ad rv D Y A (g_ml M) cells slots pc L st σ) :
    W p l e Rm s m args below meth c H locs cells slots Q (F0 m pc ls st0) := by
  refine g_back (a := #[]) hr hS F.2.2.2.2.2.2.2.1 F.2.2.2.2.2.2.2.1 (fun u t H1 locs1 ht hvm hp hS1 => ?_)
  obtain ⟨v, σ1, hR, hu, hP1, hD1⟩ := hp
  rw [ht] at hP1
  subst hu
  have := hQ _ _ _ _ (hK v σ1 hR) H1 locs1 ls hL hP1 (g_Dw F.2.2.2.2.2.2.2.1 hD1) hS1
  rw [List.map_append] at this
  cases v with
  | none => exact this
  | some v => exact this
theorem g_preOf {d cells slots : Nat} {σ : g_S} {as : List Value} {H : Heap} {locs : List Loc} (F : g_Fr p l Rm s m args c ad rv D Y A E M (d + 1) cells slots) (hP : va_P D vwCl (g_w ad Y σ) H) (hD : va_D A (g_w ad Y σ)) (hS : va_S A s.heap H locs) :
    ∀ U : State, U.heap = H → s.WarmedH U.vm → va_Pc (as.map (g_cv ad rv)) (g_Pre E ad rv D Y σ) (as.map (g_cv ad rv)).toArray U := by
  intro U hU hW
  obtain ⟨-, -, -, -, -, hK, hZ, hA, -⟩ := F
  refine ⟨rfl, by rw [hU]; exact hP, va_K.moved hW.alike hK, g_Dn hA hD, ?_⟩
  rw [hU]
  exact hZ.moved hW (fun q h1 h2 => hS.2.1 q h1 h2) hA
end GT
