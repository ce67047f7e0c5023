/-! A small machine over one fixed graph of objects: numbers of objects stand for addresses; its steps are the kit's rows, said purely -/
abbrev g_S : Type := Nat → Nat → Int32
abbrev g_L : Type := List (Option Value)
abbrev g_R : Type := Option Value → g_S → Prop
abbrev g_K : Type := Nat → g_L → List Value → g_S → Prop
abbrev g_O : Type := Nat → List Value → g_S → g_R → Prop
def g_up (σ : g_S) (a j : Nat) (v : Int32) : g_S := fun b k => if b = a ∧ k = j then v else σ b k
def g_cp (σ : g_S) (s d sp dp n : Nat) : g_S := fun b k => if b = d ∧ dp ≤ k ∧ k < dp + n then σ s (sp + (k - dp)) else σ b k
def g_nth : g_L → Nat → Option Value
  | [], _ => none
  | v :: _, 0 => v
  | _ :: l, k + 1 => g_nth l k
def g_set : g_L → Nat → Option Value → g_L
  | [], _, _ => []
  | _ :: l, 0, w => w :: l
  | v :: l, k + 1, w => v :: g_set l k w
def g_er (L : g_L) (k : Nat) : g_L := match k with
  | 0 => L
  | j + 1 => match g_nth L j with
    | some v => bif Nat.beq v.category 2 then g_set L j none else L
    | none => L
def g_st1 (L : g_L) (k : Nat) (v : Value) : g_L := g_set (g_er L k) k (some v)
def g_st2 (L : g_L) (k : Nat) (v : Value) : g_L := g_set (g_set (g_er L k) k (some v)) (k + 1) none
def g_le : g_L → g_L → Prop
  | [], [] => True
  | none :: a, _ :: b => g_le a b
  | some v :: a, w :: b => w = some v ∧ g_le a b
  | _, _ => False
def g_pop : Nat → List Value → List Value → Option (List Value × List Value)
  | 0, acc, st => some (acc, st)
  | n + 1, acc, v :: st => g_pop n (v :: acc) st
  | _ + 1, _, [] => none
def g_slots : List Value → g_L
  | [] => []
  | v :: r => bif Nat.beq v.category 2 then some v :: none :: g_slots r else some v :: g_slots r
def g_ent (ml : Nat) (as : List Value) : g_L := g_slots as ++ List.replicate (ml - (g_slots as).length) none
def g_sw (P : Nat → Prop) (v : Int32) : Nat → List Nat → Prop
  | _, [] => True
  | c, t :: ts => (v = Int32.ofNat c → P t) ∧ g_sw P v (c + 1) ts
/-- which object may be asked: of the method's kind -/
def g_rcv (ci : Nat) (v : Value) : Prop := match v with
  | .ref a => g_kd a = ci
  | .retAddr q => ci = 9 ∧ 20 ≤ q ∧ q < 28
  | _ => False
def g_ild (K : g_K) (pc n k : Nat) (L : g_L) (st : List Value) (σ : g_S) : Prop := match g_nth L k with
  | some (.int v) => K (pc + n) L (.int v :: st) σ
  | _ => False
def g_lld (K : g_K) (pc n k : Nat) (L : g_L) (st : List Value) (σ : g_S) : Prop := match g_nth L k with
  | some (.long v) => K (pc + n) L (.long v :: st) σ
  | _ => False
def g_ald (K : g_K) (pc n k : Nat) (L : g_L) (st : List Value) (σ : g_S) : Prop := match g_nth L k with
  | some (.ref v) => K (pc + n) L (.ref v :: st) σ
  | some (.retAddr v) => K (pc + n) L (.retAddr v :: st) σ
  | _ => False
def g_ist (K : g_K) (pc n k : Nat) (L : g_L) (st : List Value) (σ : g_S) : Prop := match st with
  | .int v :: r => K (pc + n) (g_st1 L k (.int v)) r σ
  | _ => False
def g_lst (K : g_K) (pc n k : Nat) (L : g_L) (st : List Value) (σ : g_S) : Prop := match st with
  | .long v :: r => K (pc + n) (g_st2 L k (.long v)) r σ
  | _ => False
def g_ast (K : g_K) (pc n k : Nat) (L : g_L) (st : List Value) (σ : g_S) : Prop := match st with
  | .ref v :: r => K (pc + n) (g_st1 L k (.ref v)) r σ
  | _ => False
def g_i2 (K : g_K) (pc : Nat) (L : g_L) (st : List Value) (σ : g_S) (f : Int32 → Int32 → Int32) : Prop := match st with
  | .int y :: .int x :: r => K (pc + 1) L (.int (f x y) :: r) σ
  | _ => False
def g_l2 (K : g_K) (pc : Nat) (L : g_L) (st : List Value) (σ : g_S) (f : Int64 → Int64 → Int64) : Prop := match st with
  | .long y :: .long x :: r => K (pc + 1) L (.long (f x y) :: r) σ
  | _ => False
def g_ls (K : g_K) (pc : Nat) (L : g_L) (st : List Value) (σ : g_S) (f : Int64 → Int32 → Int64) : Prop := match st with
  | .int y :: .long x :: r => K (pc + 1) L (.long (f x y) :: r) σ
  | _ => False
def g_i1 (K : g_K) (pc : Nat) (L : g_L) (st : List Value) (σ : g_S) (f : Int32 → Int32) : Prop := match st with
  | .int x :: r => K (pc + 1) L (.int (f x) :: r) σ
  | _ => False
def g_call (O : g_O) (K : g_K) (pc n M ml : Nat) (L : g_L) (σ : g_S) (as r : List Value) : Prop :=
  Nat.ble r.length 4 = true ∧ Nat.ble (g_slots as).length ml = true ∧ ∃ q : g_R, O M as σ q ∧ ∀ rv σ1, q rv σ1 → K (pc + n) L (rv.toList ++ r) σ1
def g_acp (K : g_K) (pc n : Nat) (L : g_L) (st : List Value) (σ : g_S) : Prop := match st with
  | .int k :: .int dp :: .ref d :: .int sp :: .ref s :: r => Nat.ble r.length 4 = true ∧ g_kd s = 100 ∧ g_kd d = 100 ∧ ¬ sp < 0 ∧ ¬ dp < 0 ∧ ¬ k < 0 ∧ sp.toNatClampNeg + k.toNatClampNeg ≤ g_ln s ∧ dp.toNatClampNeg + k.toNatClampNeg ≤ g_ln d ∧ K (pc + n) L r (g_cp σ s d sp.toNatClampNeg dp.toNatClampNeg k.toNatClampNeg)
  | _ => False
def g_step (E : g_E) (O : g_O) (mc : Nat → Nat × Nat) (K : g_K) (R : g_R) (i : Instr) (n : Nat) (x : g_X) (pc : Nat) (L : g_L) (st : List Value) (σ : g_S) : Prop :=
  match i with
  | .iconst _ => K (pc + n) L (.int x.2.2.1 :: st) σ
  | .bipush _ => K (pc + n) L (.int x.2.2.1 :: st) σ
  | .sipush _ => K (pc + n) L (.int x.2.2.1 :: st) σ
  | .ldc _ => match x.2.1 with
    | 0 => K (pc + n) L (.int x.2.2.1 :: st) σ
    | _ => K (pc + n) L (.retAddr x.1 :: st) σ
  | .ldc_w _ => K (pc + n) L (.int x.2.2.1 :: st) σ
  | .lconst _ => K (pc + n) L (.long x.2.2.2.1 :: st) σ
  | .ldc2_w _ => K (pc + n) L (.long x.2.2.2.1 :: st) σ
  | .iload k => g_ild K pc n k L st σ
  | .iload_n k => g_ild K pc n k.val L st σ
  | .lload k => g_lld K pc n k L st σ
  | .lload_n k => g_lld K pc n k.val L st σ
  | .aload k => g_ald K pc n k L st σ
  | .aload_n k => g_ald K pc n k.val L st σ
  | .istore k => g_ist K pc n k L st σ
  | .istore_n k => g_ist K pc n k.val L st σ
  | .lstore k => g_lst K pc n k L st σ
  | .lstore_n k => g_lst K pc n k.val L st σ
  | .astore k => g_ast K pc n k L st σ
  | .astore_n k => g_ast K pc n k.val L st σ
  | .iinc k _ => match g_nth L k with
    | some (.int v) => K (pc + n) (g_st1 L k (.int (v + x.2.2.1))) st σ
    | _ => False
  | .iadd => g_i2 K pc L st σ (fun a b => a + b)
  | .isub => g_i2 K pc L st σ (fun a b => a - b)
  | .imul => g_i2 K pc L st σ (fun a b => a * b)
  | .iand => g_i2 K pc L st σ (fun a b => a &&& b)
  | .ior => g_i2 K pc L st σ (fun a b => a ||| b)
  | .ixor => g_i2 K pc L st σ (fun a b => a ^^^ b)
  | .ishl => g_i2 K pc L st σ (fun a b => a <<< (b &&& 31))
  | .ishr => g_i2 K pc L st σ (fun a b => a >>> (b &&& 31))
  | .idiv => match st with
    | .int b :: .int a :: r => ¬ b = 0 ∧ K (pc + 1) L (.int (a / b) :: r) σ
    | _ => False
  | .irem => match st with
    | .int b :: .int a :: r => ¬ b = 0 ∧ K (pc + 1) L (.int (a - a / b * b) :: r) σ
    | _ => False
  | .ineg => g_i1 K pc L st σ (fun a => -a)
  | .i2b => g_i1 K pc L st σ (fun a => a.toInt8.toInt32)
  | .i2s => g_i1 K pc L st σ (fun a => a.toInt16.toInt32)
  | .i2c => g_i1 K pc L st σ (fun a => (a.toUInt32 % 65536).toInt32)
  | .i2l => match st with
    | .int a :: r => K (pc + 1) L (.long a.toInt64 :: r) σ
    | _ => False
  | .l2i => match st with
    | .long a :: r => K (pc + 1) L (.int a.toInt32 :: r) σ
    | _ => False
  | .ladd => g_l2 K pc L st σ (fun a b => a + b)
  | .lmul => g_l2 K pc L st σ (fun a b => a * b)
  | .land => g_l2 K pc L st σ (fun a b => a &&& b)
  | .lor => g_l2 K pc L st σ (fun a b => a ||| b)
  | .lrem => match st with
    | .long b :: .long a :: r => ¬ b = 0 ∧ K (pc + 1) L (.long (a - a / b * b) :: r) σ
    | _ => False
  | .lshl => g_ls K pc L st σ (fun a b => a <<< (b.toInt64 &&& 63))
  | .lshr => g_ls K pc L st σ (fun a b => a >>> (b.toInt64 &&& 63))
  | .lushr => g_ls K pc L st σ (fun a b => (a.toUInt64 >>> (b.toInt64.toUInt64 &&& Int64.toUInt64 63)).toInt64)
  | .lcmp => match st with
    | .long b :: .long a :: r => K (pc + 1) L (.int (lg_cmp a b) :: r) σ
    | _ => False
  | .dup => match st with
    | v :: r => v.category = 1 ∧ K (pc + 1) L (v :: v :: r) σ
    | _ => False
  | .dup2 => match st with
    | v :: w :: r => v.category = 1 ∧ w.category = 1 ∧ K (pc + 1) L (v :: w :: v :: w :: r) σ
    | _ => False
  | .pop => match st with
    | v :: r => v.category = 1 ∧ K (pc + 1) L r σ
    | _ => False
  | .ifCond c _ => match st with
    | .int a :: r => (g_c c a 0 → K x.1 L r σ) ∧ (¬ g_c c a 0 → K (pc + 3) L r σ)
    | _ => False
  | .if_icmp c _ => match st with
    | .int b :: .int a :: r => (g_c c a b → K x.1 L r σ) ∧ (¬ g_c c a b → K (pc + 3) L r σ)
    | _ => False
  | .goto _ => K x.1 L st σ
  | .tableswitch _ lo hi _ => match st with
    | .int v :: r => ((v.toInt < lo ∨ hi < v.toInt) → K x.1 L r σ) ∧ g_sw (fun t => K t L r σ) v x.2.1 x.2.2.2.2
    | _ => False
  | .getstatic _ => match x.2.2.2.2 with
    | [] => K (pc + 3) L (.retAddr x.1 :: st) σ
    | _ => K (pc + 3) L (.int x.2.2.1 :: st) σ
  | .getfield _ => match st with
    | .ref a :: r => g_kd a = x.1 ∧ K (pc + 3) L ((bif g_rf x.1 x.2.1 then .ref (g_tg x.1 x.2.1 a) else .int (σ a x.2.1)) :: r) σ
    | .retAddr q :: r => x.1 = 9 ∧ 20 ≤ q ∧ q < 28 ∧ K (pc + 3) L ((match x.2.1 with | 0 => .retAddr (q - 10) | _ => .int 0) :: r) σ
    | _ => False
  | .putfield _ => match st with
    | .int v :: .ref a :: r => g_kd a = x.1 ∧ narrow (bif g_bz x.1 x.2.1 then .boolean else .int) (.int v) = .int v ∧ K (pc + 3) L r (g_up σ a x.2.1 v)
    | _ => False
  | .iaload => match st with
    | .int j :: .ref a :: r => ∃ m, g_kd a = 100 ∧ g_ln a = m ∧ vp_in j m ∧ K (pc + 1) L (.int (σ a j.toNatClampNeg) :: r) σ
    | .int j :: .retAddr q :: r => (q < 6 ∨ q = 99) ∧ vp_in j (g_rn E q) ∧ K (pc + 1) L (.int (g_ro E q j.toNatClampNeg) :: r) σ
    | _ => False
  | .baload => match st with
    | .int j :: .ref a :: r => ∃ m, g_kd a = 101 ∧ g_ln a = m ∧ vp_in j m ∧ K (pc + 1) L (.int (σ a j.toNatClampNeg) :: r) σ
    | .int j :: .retAddr q :: r => 10 ≤ q ∧ q < 18 ∧ vp_in j (g_rn E q) ∧ K (pc + 1) L (.int (g_ro E q j.toNatClampNeg) :: r) σ
    | _ => False
  | .aaload => match st with
    | .int j :: .ref a :: r => ∃ m, (g_kd a = 102 ∨ g_kd a = 103) ∧ g_ln a = m ∧ vp_in j m ∧ K (pc + 1) L (.ref (g_ta a j.toNatClampNeg) :: r) σ
    | _ => False
  | .arraylength => match st with
    | .ref a :: r => ∃ m, 100 ≤ g_kd a ∧ g_kd a < 102 ∧ g_ln a = m ∧ K (pc + 1) L (.int (Int32.ofNat m) :: r) σ
    | .retAddr q :: r => (q < 6 ∨ (10 ≤ q ∧ q < 18) ∨ q = 99) ∧ K (pc + 1) L (.int (Int32.ofNat (g_rn E q)) :: r) σ
    | _ => False
  | .iastore => match st with
    | .int v :: .int j :: .ref a :: r => ∃ m, g_kd a = 100 ∧ g_ln a = m ∧ vp_in j m ∧ K (pc + 1) L r (g_up σ a j.toNatClampNeg v)
    | _ => False
  | .bastore => match st with
    | .int v :: .int j :: .ref a :: r => ∃ m, g_kd a = 101 ∧ g_ln a = m ∧ vp_in j m ∧ narrow .boolean (.int v) = .int v ∧ K (pc + 1) L r (g_up σ a j.toNatClampNeg v)
    | _ => False
  | .invokevirtual _ => match g_pop (x.2.1 + 1) [] st with
    | some (v :: as, r) => g_rcv (mc x.1).1 v ∧ g_call O K pc n x.1 (mc x.1).2 L σ (v :: as) r
    | _ => False
  | .invokestatic _ => match x.2.2.2.2 with
    | [] => match g_pop x.2.1 [] st with
      | some (as, r) => g_call O K pc n x.1 (mc x.1).2 L σ as r
      | _ => False
    | f :: _ => match f with
      | 1 => g_acp K pc n L st σ
      | 2 => match st with
        | .int b :: .int a :: r => Nat.ble r.length 4 = true ∧ K (pc + n) L (.int (if a < b then b else a) :: r) σ
        | _ => False
      | 3 => match st with
        | .int b :: .int a :: r => Nat.ble r.length 4 = true ∧ K (pc + n) L (.int (if b < a then b else a) :: r) σ
        | _ => False
      | _ => match st with
        | .int a :: r => Nat.ble r.length 4 = true ∧ K (pc + n) L (.int (if 0 ≤ a then a else 0 - a) :: r) σ
        | _ => False
  | .ireturn => match st with
    | [.int v] => narrow (g_ty x.1) (.int v) = .int v ∧ R (some (.int v)) σ
    | _ => False
  | .lreturn => match st with
    | [.long v] => R (some (.long v)) σ
    | _ => False
  | .return_ => match st with
    | [] => R none σ
    | _ => False
  | _ => False
/-- from a state on, whatever is shut under steps: the least such -/
def g_G (E : g_E) (cd : Nat → Option g_I) (O : g_O) (mc : Nat → Nat × Nat) (pc : Nat) (L : g_L) (st : List Value) (σ : g_S) (R : g_R) : Prop :=
  ∀ P : g_K, (∀ (Q : g_K) (pc : Nat) (L : g_L) (st : List Value) (σ : g_S) (i : Instr) (n : Nat) (x : g_X), (∀ pc L st σ, Q pc L st σ → P pc L st σ) → cd pc = some (i, n, x) → g_step E O mc Q R i n x pc L st σ → P pc L st σ) →
    (∀ (pc : Nat) (L0 L : g_L) (st : List Value) (σ : g_S), P pc L0 st σ → g_le L0 L → P pc L st σ) → P pc L st σ
theorem g_at' {E : g_E} {cd : Nat → Option g_I} {O : g_O} {mc : Nat → Nat × Nat} {pc : Nat} {L : g_L} {st : List Value} {σ : g_S} {R : g_R} {i : Instr} {n : Nat} {x : g_X} (h : cd pc = some (i, n, x)) (k : g_step E O mc (fun pc L st σ => g_G E cd O mc pc L st σ R) R i n x pc L st σ) : g_G E cd O mc pc L st σ R :=
  fun P h1 h2 => h1 _ _ _ _ _ _ _ _ (fun _ _ _ _ q => q P h1 h2) h k
theorem g_wk' {E : g_E} {cd : Nat → Option g_I} {O : g_O} {mc : Nat → Nat × Nat} {pc : Nat} {L0 L : g_L} {st : List Value} {σ : g_S} {R : g_R} (k : g_G E cd O mc pc L0 st σ R) (h : g_le L0 L) : g_G E cd O mc pc L st σ R :=
  fun P h1 h2 => h2 _ _ _ _ _ (k P h1 h2) h
abbrev g_g (E : g_E) (O : g_O) (M : Nat) (pc : Nat) (L : g_L) (st : List Value) (σ : g_S) (R : g_R) : Prop := g_G E (g_cd M) O g_mm pc L st σ R
/-- a call of method M, at most d calls deep -/
def g_wp (E : g_E) : Nat → g_O
  | 0 => fun _ _ _ _ => False
  | d + 1 => fun M as σ R => g_g E (g_wp E d) M 0 (g_ent (g_ml M) as) [] σ R
theorem g_at {E : g_E} {O : g_O} {M pc : Nat} {L : g_L} {st : List Value} {σ : g_S} {R : g_R} {l : List (Nat × g_I)} {i : Instr} {n : Nat} {x : g_X} (hl : g_cl M = l) (h : g_lk l pc = some (i, n, x)) (k : g_step E O g_mm (fun pc L st σ => g_g E O M pc L st σ R) R i n x pc L st σ) : g_g E O M pc L st σ R :=
  g_at' (show g_lk (g_cl M) pc = _ by rw [hl]; exact h) k
