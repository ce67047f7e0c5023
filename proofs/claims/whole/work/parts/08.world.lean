/-! what the small machine's states are at the machine: values, locals, the world, what is only read -/
section GW
variable {ad : Nat → Nat} {rv : Nat → Value}
def g_cv (ad : Nat → Nat) (rv : Nat → Value) (v : Value) : Value := match v with
  | .ref a => .ref (ad a)
  | .retAddr q => rv q
  | v => v
theorem g_cat (hrv : ∀ q, (rv q).category = 1) (v : Value) : (g_cv ad rv v).category = v.category := by
  cases v with
  | retAddr q => exact hrv q
  | _ => rfl
theorem g_slots_2 {v : Value} {r : List Value} (h : v.category = 2) : g_slots (v :: r) = some v :: none :: g_slots r := by
  show (bif Nat.beq v.category 2 then some v :: none :: g_slots r else some v :: g_slots r) = _
  rw [h]; rfl
theorem g_slots_1 {v : Value} {r : List Value} (h : ¬ v.category = 2) : g_slots (v :: r) = some v :: g_slots r := by
  show (bif Nat.beq v.category 2 then some v :: none :: g_slots r else some v :: g_slots r) = _
  cases hb : Nat.beq v.category 2 with
  | true => exact absurd (Nat.eq_of_beq_eq_true hb) h
  | false => rfl
theorem g_nth_ne {L : g_L} {k j : Nat} {w : Option Value} (h : j ≠ k) : g_nth (g_set L k w) j = g_nth L j := by
  induction L generalizing k j with
  | nil => rfl
  | cons a L ih =>
    cases k with
    | zero => cases j with
      | zero => exact absurd rfl h
      | succ j => rfl
    | succ k => cases j with
      | zero => rfl
      | succ j => exact ih (fun q => h (congrArg Nat.succ q))
theorem g_nth_eq {L : g_L} {k : Nat} {w : Option Value} {v : Value} (h : g_nth (g_set L k w) k = some v) : w = some v := by
  induction L generalizing k with
  | nil => cases h
  | cons a L ih => cases k with
    | zero => exact h
    | succ k => exact ih h
theorem g_nth_er {L : g_L} {k j : Nat} {v : Value} (h : g_nth (g_er L k) j = some v) : g_nth L j = some v ∧ ¬ (j + 1 = k ∧ v.category = 2) := by
  cases k with
  | zero => exact ⟨h, fun q => by omega⟩
  | succ k =>
    unfold g_er at h
    dsimp only at h
    cases hk : g_nth L k with
    | none =>
      rw [hk] at h
      refine ⟨h, fun q => ?_⟩
      have : j = k := by omega
      subst this
      rw [hk] at h
      cases h
    | some u =>
      rw [hk] at h
      dsimp only at h
      cases hc : Nat.beq u.category 2 with
      | true =>
        rw [hc] at h
        change g_nth (g_set L k none) j = some v at h
        by_cases hj : j = k
        · subst hj
          cases g_nth_eq h
        · rw [g_nth_ne hj] at h
          exact ⟨h, fun q => hj (by omega)⟩
      | false =>
        rw [hc] at h
        change g_nth L j = some v at h
        refine ⟨h, fun q => ?_⟩
        have : j = k := by omega
        subst this
        rw [hk] at h
        cases h
        rw [q.2] at hc
        exact absurd hc (by decide)
theorem g_nth_lt {L : g_L} {k : Nat} {v : Value} (h : g_nth L k = some v) : k < L.length := by
  induction L generalizing k with
  | nil => cases h
  | cons a L ih => cases k with
    | zero => exact Nat.succ_pos _
    | succ k => exact Nat.succ_lt_succ (ih h)
/-- the locals, as the machine has them -/
def g_H (ad : Nat → Nat) (rv : Nat → Value) (ls : Array Slot) (n : Nat) (L : g_L) : Prop := ls.size = n ∧ lv_wf ls ∧ ∀ (k : Nat) (v : Value), g_nth L k = some v → ls[k]? = some (.val (g_cv ad rv v))
def g_en (ad : Nat → Nat) (rv : Nat → Value) (L : g_L) : List (Nat × Value) := (List.range L.length).filterMap (fun k => (g_nth L k).map (fun v => (k, g_cv ad rv v)))
theorem g_en_mem {L : g_L} {q : Nat × Value} : q ∈ g_en ad rv L ↔ ∃ v, g_nth L q.1 = some v ∧ q.2 = g_cv ad rv v := by
  unfold g_en
  rw [List.mem_filterMap]
  constructor
  · rintro ⟨k, -, h⟩
    rw [Option.map_eq_some_iff] at h
    obtain ⟨v, h1, rfl⟩ := h
    exact ⟨v, h1, rfl⟩
  · rintro ⟨v, h1, h2⟩
    refine ⟨q.1, List.mem_range.mpr (g_nth_lt h1), ?_⟩
    rw [h1, Option.map_some, ← h2]
theorem g_H.has {ls : Array Slot} {n : Nat} {L : g_L} (h : g_H ad rv ls n L) : lv_has ls n (g_en ad rv L) := by
  refine ⟨h.1, h.2.1, fun q hq => ?_⟩
  obtain ⟨v, h1, h2⟩ := g_en_mem.mp hq
  rw [h2]
  exact h.2.2 _ _ h1
theorem g_H.one {ls : Array Slot} {n k : Nat} {L : g_L} {v : Value} (h : g_H ad rv ls n L) (hk : g_nth L k = some v) : ls[k]? = some (.val (g_cv ad rv v)) := h.2.2 _ _ hk
theorem g_H.st1 (hrv : ∀ q, (rv q).category = 1) {ls : Array Slot} {n k : Nat} {L : g_L} {v w : Value} (hw : g_cv ad rv v = w) (h : lv_has ls n ((k, w) :: (g_en ad rv L).filter (fun q => !(q.1 == k) && !(q.1 + 1 == k && q.2.category == 2)))) : g_H ad rv ls n (g_st1 L k v) := by
  subst hw
  refine ⟨h.1, h.2.1, fun j u hj => ?_⟩
  unfold g_st1 at hj
  by_cases hjk : j = k
  · subst hjk
    have := Option.some.inj (g_nth_eq hj)
    subst this
    exact h.2.2 (j, _) List.mem_cons_self
  · rw [g_nth_ne hjk] at hj
    obtain ⟨h1, h2⟩ := g_nth_er hj
    refine h.2.2 (j, g_cv ad rv u) (List.mem_cons_of_mem _ (List.mem_filter.mpr ⟨g_en_mem.mpr ⟨u, h1, rfl⟩, ?_⟩))
    have h3 : ¬ (j + 1 = k ∧ (g_cv ad rv u).category = 2) := by rw [g_cat hrv]; exact h2
    simp only [Bool.and_eq_true, Bool.not_eq_true', beq_eq_false_iff_ne, ne_eq, Bool.and_eq_false_iff]
    refine ⟨hjk, ?_⟩
    by_cases q : j + 1 = k
    · exact Or.inr (fun z => h3 ⟨q, z⟩)
    · exact Or.inl q
theorem g_H.st2 (hrv : ∀ q, (rv q).category = 1) {ls : Array Slot} {n k : Nat} {L : g_L} {v w : Value} (hw : g_cv ad rv v = w) (h : lv_has ls n ((k, w) :: (g_en ad rv L).filter (fun q => !(q.1 == k) && (!(q.1 == k + 1) && !(q.1 + 1 == k && q.2.category == 2))))) : g_H ad rv ls n (g_st2 L k v) := by
  subst hw
  refine ⟨h.1, h.2.1, fun j u hj => ?_⟩
  unfold g_st2 at hj
  by_cases hj1 : j = k + 1
  · subst hj1
    cases g_nth_eq hj
  · rw [g_nth_ne hj1] at hj
    by_cases hjk : j = k
    · subst hjk
      have := Option.some.inj (g_nth_eq hj)
      subst this
      exact h.2.2 (j, _) List.mem_cons_self
    · rw [g_nth_ne hjk] at hj
      obtain ⟨h1, h2⟩ := g_nth_er hj
      refine h.2.2 (j, g_cv ad rv u) (List.mem_cons_of_mem _ (List.mem_filter.mpr ⟨g_en_mem.mpr ⟨u, h1, rfl⟩, ?_⟩))
      have h3 : ¬ (j + 1 = k ∧ (g_cv ad rv u).category = 2) := by rw [g_cat hrv]; exact h2
      simp only [Bool.and_eq_true, Bool.not_eq_true', beq_eq_false_iff_ne, ne_eq, Bool.and_eq_false_iff]
      refine ⟨hjk, hj1, ?_⟩
      by_cases q : j + 1 = k
      · exact Or.inr (fun z => h3 ⟨q, z⟩)
      · exact Or.inl q
theorem g_le_nth {L0 L : g_L} (h : g_le L0 L) {k : Nat} {v : Value} (hk : g_nth L0 k = some v) : g_nth L k = some v := by
  induction L0 generalizing L k with
  | nil => cases hk
  | cons a L0 ih =>
    cases L with
    | nil => cases a <;> exact h.elim
    | cons b L =>
      cases a with
      | none => cases k with
        | zero => cases hk
        | succ k => exact ih (L := L) h hk
      | some w => cases k with
        | zero => exact h.1.trans hk
        | succ k => exact ih (L := L) h.2 hk
theorem g_H.weak {ls : Array Slot} {n : Nat} {L0 L : g_L} (h : g_H ad rv ls n L) (hl : g_le L0 L) : g_H ad rv ls n L0 := ⟨h.1, h.2.1, fun k v hk => h.2.2 k v (g_le_nth hl hk)⟩
theorem g_slots_len (hrv : ∀ q, (rv q).category = 1) (as : List Value) : (lg_sl (as.map (g_cv ad rv))).length = (g_slots as).length := by
  induction as with
  | nil => rfl
  | cons v as ih =>
    have e : lg_sl ((v :: as).map (g_cv ad rv)) = (if (g_cv ad rv v).category = 2 then [Slot.val (g_cv ad rv v), .second] else [.val (g_cv ad rv v)]) ++ lg_sl (as.map (g_cv ad rv)) := rfl
    rw [e, List.length_append, ih, g_cat hrv]
    by_cases h : v.category = 2
    · rw [if_pos h, g_slots_2 h]
      show 2 + _ = (g_slots as).length + 1 + 1
      omega
    · rw [if_neg h, g_slots_1 h]
      show 1 + _ = (g_slots as).length + 1
      omega
theorem g_slots_at (hrv : ∀ q, (rv q).category = 1) (as : List Value) (m : Nat) : ∀ (i k : Nat) (v : Value), g_nth (g_slots as ++ List.replicate m none) k = some v → (i + k, g_cv ad rv v) ∈ lv_args i (as.map (g_cv ad rv)) := by
  induction as with
  | nil =>
    intro i k v h
    exfalso
    have : ∀ (m k : Nat), g_nth (List.replicate m none) k = none := by
      intro m
      induction m with
      | zero => intro k; rfl
      | succ m ih => intro k; cases k with
        | zero => rfl
        | succ k => exact ih k
    change g_nth (List.replicate m none) k = some v at h
    rw [this m k] at h
    cases h
  | cons u as ih =>
    intro i k v h
    have e : lv_args i ((u :: as).map (g_cv ad rv)) = (i, g_cv ad rv u) :: lv_args (if (g_cv ad rv u).category = 2 then i + 2 else i + 1) (as.map (g_cv ad rv)) := rfl
    rw [e, g_cat hrv]
    by_cases hc : u.category = 2
    · have e2 : g_slots (u :: as) = some u :: none :: g_slots as := g_slots_2 hc
      rw [e2] at h
      rw [if_pos hc]
      cases k with
      | zero => cases h; exact List.mem_cons_self
      | succ k => cases k with
        | zero => cases h
        | succ k =>
          have := ih (i + 2) k v h
          rw [show i + 2 + k = i + (k + 1 + 1) by omega] at this
          exact List.mem_cons_of_mem _ this
    · have e2 : g_slots (u :: as) = some u :: g_slots as := g_slots_1 hc
      rw [e2] at h
      rw [if_neg hc]
      cases k with
      | zero => cases h; exact List.mem_cons_self
      | succ k =>
        have := ih (i + 1) k v h
        rw [show i + 1 + k = i + (k + 1) by omega] at this
        exact List.mem_cons_of_mem _ this
theorem g_H.entry (hrv : ∀ q, (rv q).category = 1) {as : List Value} {n : Nat} (h : Nat.ble (g_slots as).length n = true) : g_H ad rv ((lg_sl (as.map (g_cv ad rv)) ++ List.replicate (n - (lg_sl (as.map (g_cv ad rv))).length) Slot.unset).toArray) n (g_ent n as) := by
  have hb := lv_entry (as.map (g_cv ad rv)) (n := n) (by rw [g_slots_len hrv]; exact Nat.le_of_ble_eq_true h)
  refine ⟨hb.1, hb.2.1, fun k v hk => ?_⟩
  have := g_slots_at (ad := ad) hrv as _ 0 k v hk
  rw [Nat.zero_add] at this
  exact hb.2.2 _ this
end GW
theorem g_pop_spec : ∀ (n : Nat) (acc st as r : List Value), g_pop n acc st = some (as, r) → ∃ pre, st = pre ++ r ∧ pre.length = n ∧ as = pre.reverse ++ acc
  | 0, acc, st, as, r, h => by cases h; exact ⟨[], rfl, rfl, rfl⟩
  | n + 1, acc, [], as, r, h => by cases h
  | n + 1, acc, v :: st, as, r, h => by
    obtain ⟨pre, h1, h2, h3⟩ := g_pop_spec n (v :: acc) st as r h
    exact ⟨v :: pre, by rw [h1]; rfl, by rw [List.length_cons, h2], by rw [h3, List.reverse_cons, List.append_assoc]; rfl⟩
theorem g_lk_mem {α : Type} {l : List (Nat × α)} {k : Nat} {r : α} (h : g_lk l k = some r) : (k, r) ∈ l := by
  induction l with
  | nil => cases h
  | cons q l ih =>
    unfold g_lk at h
    cases hb : Nat.beq q.1 k with
    | true =>
      rw [hb] at h
      have e := Nat.eq_of_beq_eq_true hb
      cases h
      rw [← e]
      exact List.mem_cons_self
    | false =>
      rw [hb] at h
      exact List.mem_cons_of_mem _ (ih h)
theorem g_at0_lt {α : Type} {l : List α} {k : Nat} {d : α} (h : g_at0 l k d ≠ d) : k < l.length := by
  induction l generalizing k with
  | nil => exact absurd rfl h
  | cons a l ih => cases k with
    | zero => exact Nat.succ_pos _
    | succ k => exact Nat.succ_lt_succ (ih h)
theorem g_at0_get {α : Type} {l : List α} {k : Nat} {d : α} (h : k < l.length) : l[k]? = some (g_at0 l k d) := by
  induction l generalizing k with
  | nil => cases h
  | cons a l ih => cases k with
    | zero => rfl
    | succ k => exact ih (Nat.lt_of_succ_lt_succ h)
theorem g_kd_9 (a : Nat) : ¬ g_kd a = 9 := by
  intro h
  by_cases ha : a < 84
  · have h1 : (List.range 84).all (fun a => decide (¬ g_kd a = 9)) = true := by decide +kernel
    exact of_decide_eq_true (List.all_eq_true.mp h1 a (List.mem_range.mpr ha)) h
  · have h2 : g_kd a ≠ 999 := by omega
    exact ha (g_at0_lt (l := g_kdl) h2)
theorem g_kd_lt {a : Nat} (h : g_kd a ≠ 999) : a < g_N := g_at0_lt (l := g_kdl) h
/-- the world -/
abbrev g_Y : Type := ClassId × ClassId × ClassId × ClassId
def g_mk (ad : Nat → Nat) (Y : g_Y) (a : Nat) (f : Nat → Int32) : va_E :=
  if g_kd a = 100 then .inl (Y.1, g_ln a, .inl f)
  else if g_kd a = 101 then .inl (Y.2.1, g_ln a, .inl f)
  else if g_kd a = 102 then .inl (Y.2.2.1, g_ln a, .inr (.inr (.inr (.inr (fun j => some (ad (g_ta a j)))))))
  else if g_kd a = 103 then .inl (Y.2.2.2, g_ln a, .inr (.inr (.inr (.inr (fun j => some (ad (g_ta a j)))))))
  else .inr (g_kd a, (List.range (g_C (g_kd a)).2.2).map (fun k => bif g_rf (g_kd a) k then .ref (ad (g_tg (g_kd a) k a)) else .int (f k)))
def g_w (ad : Nat → Nat) (Y : g_Y) (σ : g_S) : va_W := (List.range g_N).map (fun a => (ad a, g_mk ad Y a (σ a)))
abbrev g_tys (Y : g_Y) : List (ClassId × FieldType) := [(Y.1, .int), (Y.2.1, .boolean), (Y.2.2.1, .object "DialTown$Town"), (Y.2.2.2, .array .int)]
theorem g_w_at {ad : Nat → Nat} {Y : g_Y} {σ : g_S} {a : Nat} (h : a < g_N) : (g_w ad Y σ)[a]? = some (ad a, g_mk ad Y a (σ a)) := by
  unfold g_w
  rw [List.getElem?_map, List.getElem?_range h]; rfl
theorem g_w_set {ad : Nat → Nat} {Y : g_Y} {σ σ' : g_S} {a : Nat} {e : va_E} (h : a < g_N) (he : e = g_mk ad Y a (σ' a)) (ho : ∀ b, b ≠ a → σ' b = σ b) : (g_w ad Y σ).set a (ad a, e) = g_w ad Y σ' := by
  apply List.ext_getElem?
  intro k
  by_cases hk : k < g_N
  · by_cases hka : k = a
    · subst hka
      rw [g_w_at hk, List.getElem?_set_self (by rw [g_w, List.length_map, List.length_range]; exact hk), he]
    · rw [List.getElem?_set_ne (fun q => hka q.symm), g_w_at hk, g_w_at hk, ho k hka]
  · have l1 : (g_w ad Y σ').length = g_N := by rw [g_w, List.length_map, List.length_range]
    have l2 : ((g_w ad Y σ).set a (ad a, e)).length = g_N := by rw [List.length_set, g_w, List.length_map, List.length_range]
    rw [List.getElem?_eq_none (by omega), List.getElem?_eq_none (by omega)]
theorem g_mkI {ad : Nat → Nat} {Y : g_Y} {a : Nat} {f : Nat → Int32} (h : g_kd a = 100) : g_mk ad Y a f = .inl (Y.1, g_ln a, .inl f) := by unfold g_mk; rw [if_pos h]
theorem g_mkZ {ad : Nat → Nat} {Y : g_Y} {a : Nat} {f : Nat → Int32} (h : g_kd a = 101) : g_mk ad Y a f = .inl (Y.2.1, g_ln a, .inl f) := by unfold g_mk; rw [h]; rfl
theorem g_mkT {ad : Nat → Nat} {Y : g_Y} {a : Nat} {f : Nat → Int32} (h : g_kd a = 102) : g_mk ad Y a f = .inl (Y.2.2.1, g_ln a, .inr (.inr (.inr (.inr (fun j => some (ad (g_ta a j))))))) := by unfold g_mk; rw [h]; rfl
theorem g_mkR {ad : Nat → Nat} {Y : g_Y} {a : Nat} {f : Nat → Int32} (h : g_kd a = 103) : g_mk ad Y a f = .inl (Y.2.2.2, g_ln a, .inr (.inr (.inr (.inr (fun j => some (ad (g_ta a j))))))) := by unfold g_mk; rw [h]; rfl
theorem g_mkO {ad : Nat → Nat} {Y : g_Y} {a ci : Nat} {f : Nat → Int32} (h : g_kd a = ci) (hc : ci < 9) : g_mk ad Y a f = .inr (ci, (List.range (g_C ci).2.2).map (fun k => bif g_rf ci k then .ref (ad (g_tg ci k a)) else .int (f k))) := by
  unfold g_mk
  rw [h, if_neg (by omega), if_neg (by omega), if_neg (by omega), if_neg (by omega)]
theorem g_up_ne {σ : g_S} {a j b : Nat} {v : Int32} (h : b ≠ a) : g_up σ a j v b = σ b := by
  funext k
  unfold g_up
  rw [if_neg (fun q => h q.1)]
theorem g_up_eq {σ : g_S} {a j : Nat} {v : Int32} : g_up σ a j v a = upd (σ a) j v := by
  funext k
  unfold g_up upd
  by_cases h : k = j
  · rw [if_pos ⟨rfl, h⟩, if_pos h]
  · rw [if_neg (fun q => h q.2), if_neg h]
theorem g_cp_ne {σ : g_S} {s d sp dp n b : Nat} (h : b ≠ d) : g_cp σ s d sp dp n b = σ b := by
  funext k
  unfold g_cp
  rw [if_neg (fun q => h q.1)]
theorem g_cp_eq {σ : g_S} {s d sp dp n : Nat} : g_cp σ s d sp dp n d = va_cpy (σ s) (σ d) sp dp n := by
  funext k
  unfold g_cp va_cpy
  by_cases h : dp ≤ k ∧ k < dp + n
  · rw [if_pos ⟨rfl, h.1, h.2⟩, if_pos h]
  · rw [if_neg (fun q => h q.2), if_neg h]
/-- what is only read: statics, constant rows, texts, the script; the words of nest mates -/
def g_Z (E : g_E) (rv : Nat → Value) (A : Nat → Prop) (U : State) (H : Heap) : Prop :=
  (∀ w ∈ g_nest, va_Nw w U) ∧
  (∀ k, k < 6 → va_Z (g_at0 g_st k ("", "")).1 (g_at0 g_st k ("", "")).2 "[I" (rv k) A U H) ∧
  va_Z "jdk/internal/util/Preconditions" "SIOOBE_FORMATTER" "Ljava/util/function/BiFunction;" (rv 77) A U H ∧
  va_Z "java/lang/String" "COMPACT_STRINGS" "Z" (.int 1) A U H ∧
  (∀ q, (q < 6 ∨ q = 99) → ∃ b, rv q = .ref b ∧ va_T .int b (g_rn E q) (fun j => .int (g_ro E q j)) A U H) ∧
  (∀ i, i < 8 → ∃ a b, rv (20 + i) = .ref a ∧ rv (10 + i) = .ref b ∧ vk_R "DialTown$Reader" (g_at0 g_sk i (0, "")).1 (g_at0 g_sk i (0, "")).2 a U ∧ va_O "java/lang/String" a A U H ∧ va_OF "java/lang/String" "coder" "B" (.int 0) a A U H ∧ va_OF "java/lang/String" "value" "[B" (.ref b) a A U H ∧ va_T .byte b (g_rn E (10 + i)) (fun j => .int (g_ro E (10 + i) j)) A U H) ∧
  ∀ q, (∃ b, rv q = .ref b) ∨ rv q = .null
theorem g_rvk {rv : Nat → Value} (h : ∀ q, (∃ b, rv q = .ref b) ∨ rv q = .null) : ∀ q, (rv q).category = 1 := fun q => by
  rcases h q with ⟨b, hb⟩ | hb <;> rw [hb] <;> rfl
def g_isN : Jvm.Cond → Bool
  | .fieldLinkNest _ _ _ _ _ _ => true
  | .methodLinkNest _ _ _ _ => true
  | _ => false
theorem g_nestN : g_nest.all g_isN = true := by decide +kernel
theorem g_nwW {w : Jvm.Cond} (hw : w ∈ g_nest) {s U : State} (hW : s.WarmedH U.vm) (h : va_Nw w s) : va_Nw w U := by
  have h1 := List.all_eq_true.mp g_nestN w hw
  cases w with
  | fieldLinkNest a i b n d h => exact va_Nw.warmF hW (by assumption)
  | methodLinkNest a i x h => exact va_Nw.warmM hW (by assumption)
  | _ => cases h1
theorem g_nwT {w : Jvm.Cond} (hw : w ∈ g_nest) : w.onTables = true := by
  have h1 := List.all_eq_true.mp g_nestN w hw
  cases w with
  | fieldLinkNest a i b n d h => rfl
  | methodLinkNest a i x h => rfl
  | _ => cases h1
theorem g_Z.moved {E : g_E} {rv : Nat → Value} {A A' : Nat → Prop} {s U : State} {H : Heap} (h : g_Z E rv A s s.heap) (hW : s.WarmedH U.vm) (hk : ∀ q : Nat, q < s.heap.size → ¬ A q → H[q]? = s.heap[q]?) (hA : ∀ q, A' q → A q) : g_Z E rv A' U H := by
  obtain ⟨h1, h2, h3, h4, h5, h6, h7⟩ := h
  have hv := hW.alike
  refine ⟨fun w hw => g_nwW hw hW (h1 w hw), fun k hkk => ((h2 k hkk).kept hk).narrow hA |>.moved hv, ((h3.kept hk).narrow hA).moved hv, ((h4.kept hk).narrow hA).moved hv, fun q hq => ?_, fun i hi => ?_, h7⟩
  · obtain ⟨b, e, ht⟩ := h5 q hq
    exact ⟨b, e, ((ht.kept hk).narrow hA).moved hv⟩
  · obtain ⟨a, b, e1, e2, g1, g2, g3, g4, g5⟩ := h6 i hi
    exact ⟨a, b, e1, e2, g1.warm hW, ((g2.kept hk).narrow hA).moved hv, ((g3.kept hk).narrow hA).moved hv, ((g4.kept hk).narrow hA).moved hv, ((g5.kept hk).narrow hA).moved hv⟩
theorem g_Z.same {E : g_E} {rv : Nat → Value} {A : Nat → Prop} {u U : State} {H : Heap} (h : g_Z E rv A u H) (hv : U.vm = u.vm) : g_Z E rv A U H := by
  obtain ⟨h1, h2, h3, h4, h5, h6, h7⟩ := h
  have ha : u.vm.Alike U.vm := by rw [hv]; exact Vm.Alike.refl _
  refine ⟨fun w hw => (h1 w hw).same (g_nwT hw) hv.symm, fun k hkk => (h2 k hkk).moved ha, h3.moved ha, h4.moved ha, fun q hq => ?_, fun i hi => ?_, h7⟩
  · obtain ⟨b, e, ht⟩ := h5 q hq
    exact ⟨b, e, ht.moved ha⟩
  · obtain ⟨a, b, e1, e2, g1, g2, g3, g4, g5⟩ := h6 i hi
    exact ⟨a, b, e1, e2, g1.same hv, g2.moved ha, g3.moved ha, g4.moved ha, g5.moved ha⟩
