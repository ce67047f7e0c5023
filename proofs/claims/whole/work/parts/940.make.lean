/-! constructors, walked with the kit's rows, over fixed numbers of the array classes -/
/-- (as va_AO, for rows of rows; the printed names take it as known) -/
def va_AOA (ty : FieldType) (U : State) : Prop := (Jvm.Cond.arrayOver (.array ty)).before #[] U = true
theorem va_AOA.use {ty : FieldType} {A : Array Value} {U : State} (h : va_AOA ty U) : (Jvm.Cond.arrayOver (.array ty)).before A U = true := h
theorem va_AOA.of {ty : FieldType} {A : Array Value} {U : State} (h : (Jvm.Cond.arrayOver (.array ty)).before A U = true) : va_AOA ty U := h
def b_nest : List Jvm.Cond := [(Jvm.Cond.methodLinkNest "DialTown" (9 : Nat) ({ cls := "DialTown$Rows", name := "<init>", desc := "()V" } : Jvm.MethodName) "DialTown"), (Jvm.Cond.methodLinkNest "DialTown" (18 : Nat) ({ cls := "DialTown$Tape", name := "<init>", desc := "()V" } : Jvm.MethodName) "DialTown"), (Jvm.Cond.methodLinkNest "DialTown" (25 : Nat) ({ cls := "DialTown$Town", name := "<init>", desc := "()V" } : Jvm.MethodName) "DialTown"), (Jvm.Cond.methodLinkNest "DialTown" (48 : Nat) ({ cls := "DialTown$Dial", name := "<init>", desc := "()V" } : Jvm.MethodName) "DialTown"), (Jvm.Cond.methodLinkNest "DialTown" (55 : Nat) ({ cls := "DialTown$Walker", name := "<init>", desc := "()V" } : Jvm.MethodName) "DialTown"), (Jvm.Cond.methodLinkNest "DialTown" (62 : Nat) ({ cls := "DialTown$Asker", name := "<init>", desc := "()V" } : Jvm.MethodName) "DialTown")]
theorem b_over_spec {args : Array Value} {s : State} (h : (Jvm.Cond.arrayOver (.array .int)).before args s = true) : ∃ comp c k, s.vm.findClass (FieldType.array .int).toString = some comp ∧ (s.vm.classes.findIdx? fun (x : Class) => match x.kind with | .array component _ => component == comp | _ => false) = some c ∧ s.vm.classes[c]? = some k ∧ k.kind = .array comp (.array .int) ∧ s.vm.findClass ("[" ++ (FieldType.array .int).toString) = some c := by
  simp only [Jvm.Cond.before, Jvm.Cond.holds, Jvm.Cond.value, beq_iff_eq] at h
  cases hc : s.vm.findClass (FieldType.array .int).toString with
  | none => simp [hc] at h
  | some comp =>
    simp only [hc, Option.bind_some, Option.bind_eq_some_iff, Option.map_eq_some_iff] at h
    obtain ⟨c, hi, k, hk, hb⟩ := h
    obtain ⟨hlt, hp, -⟩ := Array.findIdx?_eq_some_iff_getElem.mp hi
    have hkk : s.vm.classes[c] = k := (Array.getElem?_eq_some_iff.mp hk).2
    rw [hkk] at hp
    cases hkind : k.kind with
    | array component ty =>
      rw [hkind] at hb hp
      simp at hb hp
      exact ⟨comp, c, k, rfl, hi, hk, by rw [hkind, hp, hb.1], hb.2⟩
    | _ => rw [hkind] at hb; simp at hb
theorem va_AOA.moved {u U : State} (hvm : u.vm.Alike U.vm) (h : va_AOA .int u) : va_AOA .int U := by
  obtain ⟨comp, c, k, h1, h2, h3, h4, h5⟩ := b_over_spec h
  obtain ⟨k', hk', he⟩ := hvm.2.2 _ _ h3
  have hi : (U.vm.classes.findIdx? fun (x : Class) => match x.kind with | .array component _ => component == comp | _ => false) = some c := by
    have e0 := va_idx_bare U.vm comp
    have e1 := va_idx_bare u.vm comp
    have eb : U.vm.bare = u.vm.bare := by first | exact hvm.bare_eq | exact hvm.bare_eq.symm
    rw [eb] at e0
    exact (e0.symm.trans e1).trans h2
  have hkind : k'.kind = .array comp (.array .int) := by rw [he]; exact h4
  have f1 : U.vm.findClass (FieldType.array .int).toString = some comp := by rw [hvm.findClass]; exact h1
  have f2 : U.vm.findClass ("[" ++ (FieldType.array .int).toString) = some c := by rw [hvm.findClass]; exact h5
  unfold va_AOA Jvm.Cond.before Jvm.Cond.holds
  simp only [Jvm.Cond.value]
  rw [f1, Option.bind_some]
  refine (congrArg (fun o : Option Nat => (o.bind (fun c => (U.vm.classes[c]?).map fun (k : Class) => match k.kind with | .array _ ty => decide (ty = FieldType.array .int) && decide (U.vm.findClass ("[" ++ (FieldType.array .int).toString) = some c) | _ => false) == some true)) hi).trans ?_
  rw [Option.bind_some, hk', Option.map_some, hkind]
  simp [f2]
def b_all (P : Nat → Prop) : Nat → Nat → Prop
  | _, 0 => True
  | i, n + 1 => P i ∧ b_all P (i + 1) n
theorem b_lt0 {P : Nat → Prop} : ∀ (n i : Nat), b_all P i n → ∀ j, i ≤ j → j < i + n → P j
  | 0, i, _, j, h1, h2 => by omega
  | n + 1, i, h, j, h1, h2 => by
    by_cases e : j = i
    · rw [e]; exact h.1
    · exact b_lt0 n (i + 1) h.2 j (by omega) (by omega)
theorem b_lt {P : Nat → Prop} {n : Nat} (h : b_all P 0 n) : ∀ j, j < n → P j := fun j hj => b_lt0 n 0 h j (Nat.zero_le _) (by omega)
theorem b_prm {d : String} {n : Nat} (h : (parseMethodDescriptor d).map (fun d => d.parameters.length) = some n) : ∀ sig, parseMethodDescriptor d = some sig → n = sig.parameters.length := by
  intro sig hs
  rw [hs] at h
  exact (Option.some.inj h).symm
theorem b_ws {args : Array Value} {s : State} (hts : ∀ w ∈ g_W, w.before args s = true) (w0 : Jvm.Cond) (h : g_in w0 = true) : ∀ w ∈ (w0 :: g_W : List Jvm.Cond), ∀ (a' : Array Value) (U : State), s.WarmedH U.vm → w.before a' U = true := by
  refine pay_in hts (fun w hw => ?_)
  have h1 : w ∈ g_W := by
    rcases List.mem_cons.mp hw with rfl | h2
    · exact g_in_mem h
    · exact h2
  exact ⟨h1, good_of_word (List.mem_filter.mp h1).2⟩
theorem b_outer (c : ClassId) (N h0 : Nat) : ∀ i : Nat, Jvm.Free.Multi.outerC c N h0 i = arrV c N (fun j => va_rf (if j < i then some (h0 + 1 + j) else none))
  | 0 => by
    show ({ cls := c, slots := Array.replicate N .null, vm := .none } : Cell) = _
    rw [arrV_new]
    refine congrArg (arrV c N) (funext fun j => ?_)
    simp [va_rf]
  | i + 1 => by
    show (Jvm.Free.Multi.outerC c N h0 i).setSlot i (.ref (h0 + 1 + i)) = _
    rw [b_outer c N h0 i, arrV_store]
    refine congrArg (arrV c N) (funext fun j => ?_)
    by_cases e : j = i
    · subst e
      simp [updV, va_rf]
    · by_cases h : j < i
      · simp [updV, e, h, Nat.lt_succ_of_lt h]
      · simp [updV, e, h, show ¬ j < i + 1 by omega]
section BN
variable {p : Program} {l : Launch} {e : Env} {R : Room} {s : State} {m : MethodId} {args : Array Value} {below : List Frame} {meth : Method} {c : Code} {H : Heap} {locs : List Loc} {cells slots : Nat} {Q : State → Prop}
variable {cc : ByteArray} {pc : Nat} {ls : Array Slot} {rest : List Value} {D : va_G} {cl : List vw_C} {A : Nat → Prop} {Y : g_Y} {ws : va_W} {H0 : Heap}
theorem b_newaI (hexec : p.tables.exec = Jvm.exec) (hb : c.code = cc) (harr : (Jvm.Cond.arrayClass .int).before args s = true) (hK : va_K D cl (g_tys Y) s) (hP : va_P D cl ws H) (hD : va_D A ws) (hS : va_S A H0 H locs) (hA : ∀ q, H0.size ≤ q → A q)
    {n : Int32} {N' : Nat} (hn : ¬ n < 0) (hN : n.toNatClampNeg = N') (hbytes : N' * 4 ≤ 536870912) (hcells : cells + 1 ≤ R.cells) (hslots : slots + N' ≤ R.slots) (hdg : decode cc pc = .ok (.newarray .int, 2))
    (kk : ∀ (q : Nat) (H1 : Heap), va_P D cl (ws ++ [(q, .inl (Y.1, N', .inl (fun _ => 0)))]) H1 → va_D A (ws ++ [(q, .inl (Y.1, N', .inl (fun _ => 0)))]) → va_S A H0 H1 locs →
      W p l e R s m args below meth c H1 locs (cells + 1) (slots + N') Q (F0 m (pc + 2) ls (.ref q :: rest))) : W p l e R s m args below meth c H locs cells slots Q (F0 m pc ls (.int n :: rest)) := by
  refine va_newa (atype := .int) (ty := .int) (a0 := (N', .inl (fun _ => 0))) hexec hb harr rfl hK hP hD hS hA (fun cA => rfl) hn hN hbytes hcells hslots hdg (fun q cA H1 hK' hP' hD' hS' => ?_)
  have e1 : cA = Y.1 := Option.some.inj (((hK'.2 4 (cA, .int) rfl).2).symm.trans ((hK'.2 0 (Y.1, .int) rfl).2))
  rw [e1] at hP' hD'
  exact kk q H1 hP' hD' hS'
theorem b_newaZ (hexec : p.tables.exec = Jvm.exec) (hb : c.code = cc) (harr : (Jvm.Cond.arrayClass .boolean).before args s = true) (hK : va_K D cl (g_tys Y) s) (hP : va_P D cl ws H) (hD : va_D A ws) (hS : va_S A H0 H locs) (hA : ∀ q, H0.size ≤ q → A q)
    {n : Int32} {N' : Nat} (hn : ¬ n < 0) (hN : n.toNatClampNeg = N') (hbytes : N' * 1 ≤ 536870912) (hcells : cells + 1 ≤ R.cells) (hslots : slots + N' ≤ R.slots) (hdg : decode cc pc = .ok (.newarray .boolean, 2))
    (kk : ∀ (q : Nat) (H1 : Heap), va_P D cl (ws ++ [(q, .inl (Y.2.1, N', .inl (fun _ => 0)))]) H1 → va_D A (ws ++ [(q, .inl (Y.2.1, N', .inl (fun _ => 0)))]) → va_S A H0 H1 locs →
      W p l e R s m args below meth c H1 locs (cells + 1) (slots + N') Q (F0 m (pc + 2) ls (.ref q :: rest))) : W p l e R s m args below meth c H locs cells slots Q (F0 m pc ls (.int n :: rest)) := by
  refine va_newa (atype := .boolean) (ty := .boolean) (a0 := (N', .inl (fun _ => 0))) hexec hb harr rfl hK hP hD hS hA (fun cA => rfl) hn hN hbytes hcells hslots hdg (fun q cA H1 hK' hP' hD' hS' => ?_)
  have e1 : cA = Y.2.1 := Option.some.inj (((hK'.2 4 (cA, .boolean) rfl).2).symm.trans ((hK'.2 1 (Y.2.1, .boolean) rfl).2))
  rw [e1] at hP' hD'
  exact kk q H1 hP' hD' hS'
theorem b_newq (hexec : p.tables.exec = Jvm.exec) (hb : c.code = cc) {own : String} {index : Nat} (hown : s.vm.findClass own = some m.cls) (hclink : (Jvm.Cond.classLink own index "DialTown$Town").before args s = true) (hover : va_AO "DialTown$Town" s) (hK : va_K D cl (g_tys Y) s) (hP : va_P D cl ws H) (hD : va_D A ws) (hS : va_S A H0 H locs) (hA : ∀ q, H0.size ≤ q → A q)
    {n : Int32} {N' : Nat} (hn : ¬ n < 0) (hN : n.toNatClampNeg = N') (hbytes : N' * 4 ≤ 536870912) (hcells : cells + 1 ≤ R.cells) (hslots : slots + N' ≤ R.slots) (hdg : decode cc pc = .ok (.anewarray index, 3))
    (kk : ∀ (q : Nat) (H1 : Heap), va_P D cl (ws ++ [(q, .inl (Y.2.2.1, N', .inr (.inr (.inr (.inr (fun _ => none))))))]) H1 → va_D A (ws ++ [(q, .inl (Y.2.2.1, N', .inr (.inr (.inr (.inr (fun _ => none))))))]) → va_S A H0 H1 locs →
      W p l e R s m args below meth c H1 locs (cells + 1) (slots + N') Q (F0 m (pc + 3) ls (.ref q :: rest))) : W p l e R s m args below meth c H locs cells slots Q (F0 m pc ls (.int n :: rest)) := by
  refine va_newq hexec hb hown hclink hover hK hP hD hS hA hn hN hbytes hcells hslots hdg (fun q cA H1 hK' hP' hD' hS' => ?_)
  have e1 : cA = Y.2.2.1 := by
    obtain ⟨kA, comp, h1, h2, h3, h4⟩ := (hK'.2 4 (cA, .object "DialTown$Town") rfl).2
    obtain ⟨kB, comp2, g1, g2, g3, g4⟩ := (hK'.2 2 (Y.2.2.1, .object "DialTown$Town") rfl).2
    exact Option.some.inj (h4.symm.trans g4)
  rw [e1] at hP' hD'
  exact kk q H1 hP' hD' hS'
theorem b_mna (hexec : p.tables.exec = Jvm.exec) (hb : c.code = cc) {own : String} {index : Nat} (hown : s.vm.findClass own = some m.cls) (hclink : (Jvm.Cond.classLink own index ("[" ++ (FieldType.array .int).toString)).before args s = true) (hover : va_AOA .int s) (harr : (Jvm.Cond.arrayClass .int).before args s = true) (hK : va_K D cl (g_tys Y) s) (hP : va_P D cl ws H) (hD : va_D A ws) (hS : va_S A H0 H locs) (hA : ∀ q, H0.size ≤ q → A q)
    {n k : Int32} {N' K' : Nat} (hn : ¬ n < 0) (hk : ¬ k < 0) (hN : n.toNatClampNeg = N') (hM : k.toNatClampNeg = K') (hb1 : N' * 4 ≤ 536870912) (hb2 : K' * 4 ≤ 536870912) (hb3 : K' ≤ 536870912) (hcells : cells + (1 + N') ≤ R.cells) (hslots : slots + (N' + N' * K') ≤ R.slots) (hdg : decode cc pc = .ok (.multianewarray index 2, 4))
    (kk : ∀ (q : Nat) (r : Nat → Nat) (H1 : Heap), va_P D cl ((ws ++ [(q, .inl (Y.2.2.2, N', .inr (.inr (.inr (.inr (fun i => if i < N' then some (r i) else none))))))]) ++ (List.range N').map (fun i => (r i, .inl (Y.1, K', .inl (fun _ => 0))))) H1 → va_D A ((ws ++ [(q, .inl (Y.2.2.2, N', .inr (.inr (.inr (.inr (fun i => if i < N' then some (r i) else none))))))]) ++ (List.range N').map (fun i => (r i, .inl (Y.1, K', .inl (fun _ => 0))))) → va_S A H0 H1 locs →
      W p l e R s m args below meth c H1 locs (cells + 1 + N') (slots + N' + N' * K') Q (F0 m (pc + 4) ls (.ref q :: rest))) : W p l e R s m args below meth c H locs cells slots Q (F0 m pc ls (.int k :: .int n :: rest)) := by
  subst hN
  subst hM
  intro T hT Xs
  obtain ⟨vm₁, cA, comp, -, fA, fC, -, -, X', step⟩ := Xs.multianewarray2F hexec hown hclink (va_AOA.use hover) harr (g := F0 m pc ls (.int k :: .int n :: rest)) rfl (by rw [hb]; exact hdg) rfl hn hk hb1 hb2 hb3 rfl rfl hcells hslots
  have eA : cA = Y.2.2.2 := Option.some.inj (fA.symm.trans ((hK.2 3 (Y.2.2.2, .array .int) rfl).2))
  have eC : comp = Y.1 := Option.some.inj (fC.symm.trans ((hK.2 0 (Y.1, .int) rfl).2))
  subst eA
  subst eC
  generalize hF : Jvm.Free.Multi.fill (T.setVm vm₁) Y.2.2.2 Y.1 n.toNatClampNeg k.toNatClampNeg (defaultValue .int) n.toNatClampNeg = F at X' step
  have hTh : (T.setVm vm₁).heap = H := hT
  obtain ⟨f1, f2, -, -⟩ := Jvm.Free.Multi.fill_facts (T.setVm vm₁) Y.2.2.2 Y.1 n.toNatClampNeg k.toNatClampNeg (defaultValue .int) n.toNatClampNeg
  rw [hF, hTh] at f1 f2
  have hold : ∀ x : Nat, x < H.size → F.heap[x]? = H[x]? := fun x hx => by
    have := Jvm.Free.Multi.fill_old (T.setVm vm₁) Y.2.2.2 Y.1 n.toNatClampNeg k.toNatClampNeg (defaultValue .int) (a := x) (by rw [hTh]; exact hx) n.toNatClampNeg
    rw [hF, hTh] at this
    exact this
  have hrow : ∀ j : Nat, j < n.toNatClampNeg → F.heap[H.size + 1 + j]? = some (vp_cell Y.1 (k.toNatClampNeg, .inl (fun _ => 0))) := fun j hj => by
    have := Jvm.Free.Multi.fill_inner (T.setVm vm₁) Y.2.2.2 Y.1 n.toNatClampNeg k.toNatClampNeg (defaultValue .int) n.toNatClampNeg j hj
    rw [hF, hTh] at this
    exact this.trans (congrArg some (arrV_new Y.1 k.toNatClampNeg (.int 0)))
  have hout : Jvm.Free.Multi.outerC Y.2.2.2 n.toNatClampNeg H.size n.toNatClampNeg = vp_cell Y.2.2.2 (n.toNatClampNeg, .inr (.inr (.inr (.inr (fun i => if i < n.toNatClampNeg then some (H.size + 1 + i) else none))))) := by
    rw [vp_cell_q]
    exact b_outer Y.2.2.2 n.toNatClampNeg H.size n.toNatClampNeg
  rw [hout] at f2
  generalize hO : (fun i => if i < n.toNatClampNeg then some (H.size + 1 + i) else none : Nat → Option Nat) = O at f2
  have hP0 : va_P D cl ws F.heap := hP.kept (fun k9 x hx => hold x.1 ((hP k9 x hx).lt))
  have hP1 : va_P D cl (ws ++ [(H.size, .inl (Y.2.2.2, n.toNatClampNeg, .inr (.inr (.inr (.inr O)))))]) F.heap := hP0.app (fun k9 x hx => by
    have h0 : k9 < 1 := (List.getElem?_eq_some_iff.mp hx).1
    rw [show k9 = 0 by omega] at hx
    cases hx
    exact f2)
  have hP2 : va_P D cl ((ws ++ [(H.size, .inl (Y.2.2.2, n.toNatClampNeg, .inr (.inr (.inr (.inr O)))))]) ++ (List.range n.toNatClampNeg).map (fun i => (H.size + 1 + i, .inl (Y.1, k.toNatClampNeg, .inl (fun _ => 0))))) F.heap := hP1.app (fun k9 x hx => by
    obtain ⟨i, hi, rfl⟩ := List.mem_map.mp (List.mem_of_getElem? hx)
    exact hrow i (List.mem_range.mp hi))
  have hD1 := hD.push (e := .inl (Y.2.2.2, n.toNatClampNeg, .inr (.inr (.inr (.inr O))))) hP rfl (hA _ hS.1)
  have hle : ∀ (k9 : Nat) (x : Nat × va_E), (ws ++ [(H.size, .inl (Y.2.2.2, n.toNatClampNeg, .inr (.inr (.inr (.inr O)))))])[k9]? = some x → x.1 ≤ H.size := fun k9 x hx => by
    by_cases hl : k9 < ws.length
    · rw [List.getElem?_append_left hl] at hx
      exact Nat.le_of_lt ((hP k9 x hx).lt)
    · rw [List.getElem?_append_right (by omega)] at hx
      have h0 : k9 - ws.length < 1 := (List.getElem?_eq_some_iff.mp hx).1
      rw [show k9 - ws.length = 0 by omega] at hx
      cases hx
      exact Nat.le_refl _
  generalize hW1 : ws ++ [(H.size, (.inl (Y.2.2.2, n.toNatClampNeg, .inr (.inr (.inr (.inr O)))) : va_E))] = W1 at hD1 hP2 hle
  have hr : ∀ (k9 : Nat) (x : Nat × va_E), ((List.range n.toNatClampNeg).map (fun i => ((H.size + 1 + i, .inl (Y.1, k.toNatClampNeg, .inl (fun _ => 0))) : Nat × va_E)))[k9]? = some x → x.1 = H.size + 1 + k9 := fun k9 x hx => by
    rw [List.getElem?_map] at hx
    by_cases h9 : k9 < n.toNatClampNeg
    · rw [List.getElem?_range h9] at hx
      cases hx
      rfl
    · have hn0 : (List.range n.toNatClampNeg)[k9]? = none := List.getElem?_eq_none (by rw [List.length_range]; omega)
      rw [hn0] at hx
      cases hx
  have hD2 : va_D A (W1 ++ (List.range n.toNatClampNeg).map (fun i => (H.size + 1 + i, .inl (Y.1, k.toNatClampNeg, .inl (fun _ => 0))))) := by
    refine ⟨fun i j x y hi hj hxy => ?_, fun k9 x hx => ?_⟩
    · by_cases h1 : i < W1.length <;> by_cases h2 : j < W1.length
      · rw [List.getElem?_append_left h1] at hi
        rw [List.getElem?_append_left h2] at hj
        exact hD1.1 i j x y hi hj hxy
      · rw [List.getElem?_append_left h1] at hi
        rw [List.getElem?_append_right (by omega)] at hj
        have := hle _ _ hi
        have := hr _ _ hj
        omega
      · rw [List.getElem?_append_right (by omega)] at hi
        rw [List.getElem?_append_left h2] at hj
        have := hle _ _ hj
        have := hr _ _ hi
        omega
      · rw [List.getElem?_append_right (by omega)] at hi hj
        have := hr _ _ hi
        have := hr _ _ hj
        omega
    · by_cases h1 : k9 < W1.length
      · rw [List.getElem?_append_left h1] at hx
        exact hD1.2 k9 x hx
      · rw [List.getElem?_append_right (by omega)] at hx
        have := hr _ _ hx
        exact hA _ (by have := hS.1; omega)
  have kk' := kk H.size (fun i => H.size + 1 + i) F.heap
  rw [hO, hW1] at kk'
  obtain ⟨t, a1, b1⟩ := kk' hP2 hD2 ⟨by rw [f1]; have := hS.1; omega, fun x h1 h2 => (hold x (Nat.lt_of_lt_of_le h1 hS.1)).trans (hS.2.1 x h1 h2), hS.2.2⟩ F rfl X'
  refine ⟨t, step t ?_, b1⟩
  have e : T.heap.size = H.size := by rw [hT]
  rw [e]
  exact a1
end BN
