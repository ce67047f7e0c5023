/-! the small machine's steps are the machine's -/
def g_W : List Jvm.Cond := lw_tbl.filter goodWord
theorem g_in_mem {w : Jvm.Cond} (h : g_in w = true) : w ∈ g_W := by
  unfold g_in at h
  rw [Bool.and_eq_true] at h
  obtain ⟨c, hc, he⟩ := List.any_eq_true.mp h.2
  have := of_decide_eq_true he
  subst this
  exact List.mem_filter.mpr ⟨hc, h.1⟩
theorem g_inN_mem {w : Jvm.Cond} (h : g_inN w = true) : w ∈ g_nest := by
  obtain ⟨c, hc, he⟩ := List.any_eq_true.mp h
  have := of_decide_eq_true he
  subst this
  exact hc
theorem g_lays_ok : (List.range 9).all (fun ci => (u_ws (g_C ci).1 (g_C ci).2.1 (g_C ci).2.2).all g_in) = true := by decide +kernel
theorem g_lays {ci : Nat} (h : ci < 9) : ∀ w ∈ u_ws (g_C ci).1 (g_C ci).2.1 (g_C ci).2.2, w ∈ g_W := fun w hw =>
  g_in_mem (List.all_eq_true.mp (List.all_eq_true.mp g_lays_ok ci (List.mem_range.mpr h)) w hw)
theorem g_cls9 {P : Nat → Prop} (h0 : P 0) (h1 : P 1) (h2 : P 2) (h3 : P 3) (h4 : P 4) (h5 : P 5) (h6 : P 6) (h7 : P 7) (h8 : P 8) {ci : Nat} (h : ci < 9) : P ci := by
  rcases (show ci = 0 ∨ ci = 1 ∨ ci = 2 ∨ ci = 3 ∨ ci = 4 ∨ ci = 5 ∨ ci = 6 ∨ ci = 7 ∨ ci = 8 by omega) with rfl | rfl | rfl | rfl | rfl | rfl | rfl | rfl | rfl <;> assumption
theorem g_C_at {ci : Nat} (h : ci < 9) : vwCl[ci]? = some ((g_C ci).1, (g_C ci).2.1, (g_C ci).2.2) := g_at0_get (l := vwCl) (d := ("", TX0, 0)) h
theorem g_C_ty {ci : Nat} (h : ci < 9) : ∃ ty : Nat → FieldType, ∀ k, k < (g_C ci).2.2 → parseFieldDescriptor ((g_C ci).2.1 k).2.2.1 = some (ty k) :=
  g_cls9 (P := fun ci => ∃ ty : Nat → FieldType, ∀ k, k < (g_C ci).2.2 → parseFieldDescriptor ((g_C ci).2.1 k).2.2.1 = some (ty k)) ⟨_, tyX0_ok⟩ ⟨_, tyX1_ok⟩ ⟨_, tyX2_ok⟩ ⟨_, tyX3_ok⟩ ⟨_, tyX4_ok⟩ ⟨_, tyX5_ok⟩ ⟨_, tyX6_ok⟩ ⟨_, tyX7_ok⟩ ⟨_, tyX8_ok⟩ h
theorem g_C_nm {ci : Nat} (h : ci < 9) : ∀ a, a < (g_C ci).2.2 → ∀ b, b < (g_C ci).2.2 → a ≠ b → ((g_C ci).2.1 a).2.1 ≠ ((g_C ci).2.1 b).2.1 :=
  g_cls9 (P := fun ci => ∀ a, a < (g_C ci).2.2 → ∀ b, b < (g_C ci).2.2 → a ≠ b → ((g_C ci).2.1 a).2.1 ≠ ((g_C ci).2.1 b).2.1) nmX0 nmX1 nmX2 nmX3 nmX4 nmX5 nmX6 nmX7 nmX8 h
theorem g_fitsZ {v : Int32} (h : narrow .boolean (.int v) = .int v) : fits .boolean (.int v) = true := by
  rw [← h]; exact fits_narrow_boolean v
def g_A (ad : Nat → Nat) : Nat → Prop := fun q => ∃ a, a < g_N ∧ q = ad a
section GS
variable {p : Program} {l : Launch} {e : Env} {Rm : Room} {s : State} {m : MethodId} {args : Array Value} {below : List Frame} {meth : Method} {c : Code} {Q : State → Prop}
variable {ad : Nat → Nat} {rv : Nat → Value} {D : va_G} {Y : g_Y} {A : Nat → Prop} {E : g_E} {M : Nat}
/-- a state of the small machine, at the machine: from it on W -/
def g_P (p : Program) (l : Launch) (e : Env) (Rm : Room) (s : State) (m : MethodId) (args : Array Value) (below : List Frame) (meth : Method) (c : Code) (Q : State → Prop) (ad : Nat → Nat) (rv : Nat → Value) (D : va_G) (Y : g_Y) (A : Nat → Prop) (n cells slots : Nat) : g_K := fun pc L st σ =>
  ∀ (H : Heap) (locs : List Loc) (ls : Array Slot), g_H ad rv ls n L → va_P D vwCl (g_w ad Y σ) H → va_D A (g_w ad Y σ) → va_S A s.heap H locs → W p l e Rm s m args below meth c H locs cells slots Q (F0 m pc ls (st.map (g_cv ad rv)))
theorem g_ble {r : List Value} (hrv : ∀ q, (rv q).category = 1) (h : Nat.ble r.length 4 = true) : ((r.map (g_cv ad rv)).map fun v => v.category).sum ≤ 8 := by
  have h1 := Nat.le_of_ble_eq_true h
  have key : ∀ r : List Value, ((r.map (g_cv ad rv)).map fun v => v.category).sum ≤ 2 * r.length := by
    intro r
    induction r with
    | nil => exact Nat.le_refl _
    | cons v r ih =>
      simp only [List.map_cons, List.sum_cons, List.length_cons]
      rw [g_cat hrv]
      rcases lv_cat v with q | q <;> omega
  exact Nat.le_trans (key r) (by omega)
theorem g_back {cells slots mc ms pc : Nat} {H : Heap} {locs : List Loc} {ls : Array Slot} {st0 rest : List Value} {a : Array Value} {A1 : Nat → Prop} {free : Addr → Prop} {Qx : Option Value → State → Prop}
    (hr : va_Run p l e Rm s m args below meth c H locs cells slots mc ms (F0 m pc ls st0) rest (fun st oc t => (∃ r, oc = .returned r ∧ Qx r t) ∧ va_F A1 st t) free) (hS : va_S A s.heap H locs) (hA : ∀ q, A1 q → A q) (hf : ∀ q, free q → A q)
    (kk : ∀ (r : Option Value) (t : State) (H1 : Heap) (locs1 : List Loc), t.heap = H1 → s.vm.Alike t.vm → Qx r t → va_S A s.heap H1 locs1 → W p l e Rm s m args below meth c H1 locs1 (cells + mc) (slots + ms) Q (F0 m (pc + 3) ls (r.toList ++ rest))) : W p l e Rm s m args below meth c H locs cells slots Q (F0 m pc ls st0) := by
  intro T hT X
  obtain ⟨v, st₀, t, T', L, h0, X', hL, e1, e2, ⟨⟨r, hv, hp⟩, hz, hk⟩, st⟩ := hr T hT X
  cases hv
  rw [h0] at hz hk
  obtain ⟨t2, a1, b1⟩ := kk v t T'.heap (locs ++ L) e1.symm (by rw [← e2]; exact X'.warmed.alike) hp
    ⟨Nat.le_trans hS.1 (by rw [e1]; exact hz), fun q h1 h2 => by rw [e1, hk q (Nat.lt_of_lt_of_le h1 hS.1) (fun z => h2 (hA q z))]; exact hS.2.1 q h1 h2, fun q hq => by
      rcases List.mem_append.mp hq with h | h
      · exact hS.2.2 q h
      · exact hf _ (hL q h)⟩ T' rfl X'
  exact ⟨t2, st t2 a1, b1⟩
/-- room for a call that goes d deep -/
def g_rm (d : Nat) : Room := { frames := d + 1, cells := 0, slots := 0, locals := 64 * (d + 1) }
/-- what holds where a method begins -/
def g_Pre (E : g_E) (ad : Nat → Nat) (rv : Nat → Value) (D : va_G) (Y : g_Y) (σ : g_S) (U : State) : Prop :=
  va_P D vwCl (g_w ad Y σ) U.heap ∧ va_K D vwCl (g_tys Y) U ∧ va_D (g_A ad) (g_w ad Y σ) ∧ g_Z E rv (g_A ad) U U.heap
def g_Post (ad : Nat → Nat) (rv : Nat → Value) (D : va_G) (Y : g_Y) (R : g_R) (r : Option Value) (t : State) : Prop :=
  ∃ u σ, R u σ ∧ r = u.map (g_cv ad rv) ∧ va_P D vwCl (g_w ad Y σ) t.heap ∧ va_D (g_A ad) (g_w ad Y σ)
/-- the contract of a call of the small machine -/
def g_Con (E : g_E) (ad : Nat → Nat) (rv : Nat → Value) (D : va_G) (Y : g_Y) (l : Launch) (d M : Nat) (as : List Value) (σ : g_S) (R : g_R) : Prop :=
  Met l (g_y M) (.code (g_y M) (g_by M) (g_ml M) (g_rt M) :: g_W) (g_rm d) (va_Pc (as.map (g_cv ad rv)) (g_Pre E ad rv D Y σ)) (fun _ st oc t => (∃ r, oc = .returned r ∧ g_Post ad rv D Y R r t) ∧ va_F (g_A ad) st t) 0 0 (g_A ad)
theorem g_blind {E : g_E} {σ : g_S} {vs : List Value} : FrameBlind (va_Pc vs (g_Pre E ad rv D Y σ)) := by
  intro a U g mk h
  obtain ⟨h0, h1, h2, h3, h4⟩ := h
  exact ⟨h0, h1, va_K.moved (u := U) (U := U.calling g mk a) (Vm.Alike.refl U.vm) h2, h3, g_Z.same (U := U.calling g mk a) h4 rfl⟩
end GS
