/-! what must hold of the tables: decoded, and linked by words of the statement; by program -/
def g_nest : List Cond := [(Jvm.Cond.fieldLinkNest "DialTown" (279 : Nat) "DialTown$Tape" "length" "I" "DialTown"), (Jvm.Cond.fieldLinkNest "DialTown" (141 : Nat) "DialTown$Town" "stands" "Z" "DialTown"), (Jvm.Cond.fieldLinkNest "DialTown$Dial" (49 : Nat) "DialTown$Town" "towerX" "I" "DialTown"), (Jvm.Cond.fieldLinkNest "DialTown$Dial" (52 : Nat) "DialTown$Town" "towerY" "I" "DialTown"), (Jvm.Cond.fieldLinkNest "DialTown$Dial" (25 : Nat) "DialTown$Town" "reach" "I" "DialTown"), (Jvm.Cond.fieldLinkNest "DialTown$Dial" (33 : Nat) "DialTown$Town" "season" "I" "DialTown"), (Jvm.Cond.fieldLinkNest "DialTown" (146 : Nat) "DialTown$Town" "season" "I" "DialTown"), (Jvm.Cond.fieldLinkNest "DialTown$Dial" (30 : Nat) "DialTown$Town" "leanEast" "I" "DialTown"), (Jvm.Cond.fieldLinkNest "DialTown$Dial" (36 : Nat) "DialTown$Town" "leanNorth" "I" "DialTown"), (Jvm.Cond.fieldLinkNest "DialTown" (276 : Nat) "DialTown$Town" "walls" "I" "DialTown"), (Jvm.Cond.fieldLinkNest "DialTown$Reader" (59 : Nat) "DialTown$Town" "shops" "I" "DialTown"), (Jvm.Cond.fieldLinkNest "DialTown$Dial" (70 : Nat) "DialTown$Town" "shops" "I" "DialTown"), (Jvm.Cond.fieldLinkNest "DialTown$Walker" (57 : Nat) "DialTown$Town" "shops" "I" "DialTown"), (Jvm.Cond.fieldLinkNest "DialTown" (138 : Nat) "DialTown$Town" "shops" "I" "DialTown"), (Jvm.Cond.fieldLinkNest "DialTown$Dial" (63 : Nat) "DialTown$Town" "clouds" "[I" "DialTown"), (Jvm.Cond.fieldLinkNest "DialTown" (159 : Nat) "DialTown$Town" "clouds" "[I" "DialTown"), (Jvm.Cond.fieldLinkNest "DialTown$Dial" (73 : Nat) "DialTown$Town" "sorts" "[I" "DialTown"), (Jvm.Cond.fieldLinkNest "DialTown$Dial" (76 : Nat) "DialTown$Town" "cells" "[I" "DialTown"), (Jvm.Cond.fieldLinkNest "DialTown$Walker" (60 : Nat) "DialTown$Town" "cells" "[I" "DialTown"), (Jvm.Cond.fieldLinkNest "DialTown$Asker" (43 : Nat) "DialTown$Town" "cells" "[I" "DialTown"), (Jvm.Cond.fieldLinkNest "DialTown" (200 : Nat) "DialTown$Town" "cells" "[I" "DialTown"), (Jvm.Cond.fieldLinkNest "DialTown$Asker" (40 : Nat) "DialTown$Town" "rents" "[I" "DialTown"), (Jvm.Cond.fieldLinkNest "DialTown" (203 : Nat) "DialTown$Town" "rents" "[I" "DialTown"), (Jvm.Cond.fieldLinkNest "DialTown" (127 : Nat) "DialTown$Reader" "faultNumber" "I" "DialTown"), (Jvm.Cond.fieldLinkNest "DialTown" (131 : Nat) "DialTown$Reader" "faultPlace" "I" "DialTown"), (Jvm.Cond.fieldLinkNest "DialTown" (222 : Nat) "DialTown$Dial" "day" "[I" "DialTown"), (Jvm.Cond.fieldLinkNest "DialTown" (251 : Nat) "DialTown$Dial" "hours" "[I" "DialTown"), (Jvm.Cond.fieldLinkNest "DialTown" (241 : Nat) "DialTown$Walker" "visited" "I" "DialTown"), (Jvm.Cond.fieldLinkNest "DialTown" (270 : Nat) "DialTown$Asker" "trail" "[I" "DialTown"), (Jvm.Cond.fieldLinkNest "DialTown" (267 : Nat) "DialTown$Asker" "traced" "I" "DialTown"), (Jvm.Cond.methodLinkNest "DialTown$Town" (75 : Nat) ({ cls := "DialTown", name := "cellAt", desc := "(II)I" } : Jvm.MethodName) "DialTown"), (Jvm.Cond.methodLinkNest "DialTown$Reader" (121 : Nat) ({ cls := "DialTown", name := "cellAt", desc := "(II)I" } : Jvm.MethodName) "DialTown"), (Jvm.Cond.methodLinkNest "DialTown$Reader" (102 : Nat) ({ cls := "DialTown", name := "isSort", desc := "(I)Z" } : Jvm.MethodName) "DialTown"), (Jvm.Cond.methodLinkNest "DialTown$Dial" (55 : Nat) ({ cls := "DialTown", name := "cellAt", desc := "(II)I" } : Jvm.MethodName) "DialTown"), (Jvm.Cond.methodLinkNest "DialTown$Walker" (91 : Nat) ({ cls := "DialTown", name := "cellAt", desc := "(II)I" } : Jvm.MethodName) "DialTown")]
def g_sk : List (Nat × String) := [(74, "tower"), (53, "wall"), (65, "shop"), (111, "dark"), (113, "sunny"), (115, "noon"), (117, "mass"), (119, "lamp")]
def g_st : List (String × String) := [("DialTown$Walker", "EAST"), ("DialTown$Walker", "SOUTH"), ("DialTown$Town", "KIND_OF_SORT"), ("DialTown$Asker", "IS"), ("DialTown$Asker", "SIZE_BODY"), ("DialTown$Asker", "MARK_BODY")]
def g_in (w : Jvm.Cond) : Bool := goodWord w && lw_tbl.any (fun c => decide (c = w))
def g_inN (w : Jvm.Cond) : Bool := g_nest.any (fun c => decide (c = w))
def g_C (ci : Nat) : vw_C := g_at0 vwCl ci ("", TX0, 0)
def g_okx (own : String) (ml pc : Nat) (i : Instr) (n : Nat) (x : g_X) (rt : Option FieldType) : Bool := match i with
  | .iconst v => n == 1 && decide (Int32.ofInt v = x.2.2.1)
  | .bipush v => n == 2 && decide ((Int8.ofInt v).toInt32 = x.2.2.1)
  | .sipush v => n == 3 && decide ((Int16.ofInt v).toInt32 = x.2.2.1)
  | .ldc k => n == 2 && (match x.2.1 with
    | 0 => g_in (.constant own k x.2.2.1)
    | _ => decide (20 ≤ x.1) && decide (x.1 < 28) && decide (own = "DialTown$Reader") && decide ((g_at0 g_sk (x.1 - 20) (0, "")).1 = k))
  | .ldc_w k => n == 3 && g_in (.constant own k x.2.2.1)
  | .lconst v => n == 1 && decide (Int64.ofNat v.val = x.2.2.2.1)
  | .ldc2_w k => n == 3 && g_in (.constantLong own k x.2.2.2.1)
  | .iload _ | .lload _ | .aload _ => n == 2
  | .iload_n _ | .lload_n _ | .aload_n _ => n == 1
  | .istore k | .astore k => n == 2 && decide (k < ml)
  | .istore_n k | .astore_n k => n == 1 && decide (k.val < ml)
  | .lstore k => n == 2 && decide (k + 1 < ml)
  | .lstore_n k => n == 1 && decide (k.val + 1 < ml)
  | .iinc k v => n == 3 && decide (k < ml) && decide (Int32.ofInt v = x.2.2.1)
  | .ifCond _ o => n == 3 && decide ((pc : Int) + o = (x.1 : Int))
  | .if_icmp _ o => n == 3 && decide ((pc : Int) + o = (x.1 : Int))
  | .goto o => n == 3 && decide ((pc : Int) + o = (x.1 : Int))
  | .tableswitch d lo hi offs => decide ((pc : Int) + d = (x.1 : Int)) && decide (lo = (x.2.1 : Int)) && decide (hi < lo + x.2.2.2.2.length) && decide (x.2.1 + x.2.2.2.2.length < 2147483648) && decide (offs.toList.map (fun o => (pc : Int) + o) = x.2.2.2.2.map (fun (t : Nat) => (t : Int)))
  | .getstatic k => n == 3 && (match x.2.2.2.2 with
    | [] => (decide (x.1 < 6) && g_in (.fieldLink own k (g_at0 g_st x.1 ("", "")).1 (g_at0 g_st x.1 ("", "")).2 "[I")) || (decide (x.1 = 77) && g_in (.fieldLink own k "jdk/internal/util/Preconditions" "SIOOBE_FORMATTER" "Ljava/util/function/BiFunction;"))
    | _ => decide (x.2.2.1 = 1) && g_in (.fieldLink own k "java/lang/String" "COMPACT_STRINGS" "Z"))
  | .getfield k => n == 3 && ((decide (x.1 < 9) && decide (x.2.1 < (g_C x.1).2.2) && (g_in (.fieldLink own k ((g_C x.1).2.1 x.2.1).1 ((g_C x.1).2.1 x.2.1).2.1 ((g_C x.1).2.1 x.2.1).2.2.1) || g_inN (.fieldLinkNest own k ((g_C x.1).2.1 x.2.1).1 ((g_C x.1).2.1 x.2.1).2.1 ((g_C x.1).2.1 x.2.1).2.2.1 "DialTown")))
      || (decide (x.1 = 9) && ((decide (x.2.1 = 0) && g_in (.fieldLink own k "java/lang/String" "value" "[B")) || (decide (x.2.1 = 1) && g_in (.fieldLink own k "java/lang/String" "coder" "B")))))
  | .putfield k => n == 3 && decide (x.1 < 9) && decide (x.2.1 < (g_C x.1).2.2) && !g_rf x.1 x.2.1 && !((g_C x.1).2.1 x.2.1).2.2.2 && decide (((g_C x.1).2.1 x.2.1).2.2.1 = bif g_bz x.1 x.2.1 then "Z" else "I")
      && (g_in (.fieldLink own k ((g_C x.1).2.1 x.2.1).1 ((g_C x.1).2.1 x.2.1).2.1 ((g_C x.1).2.1 x.2.1).2.2.1) || g_inN (.fieldLinkNest own k ((g_C x.1).2.1 x.2.1).1 ((g_C x.1).2.1 x.2.1).2.1 ((g_C x.1).2.1 x.2.1).2.2.1 "DialTown"))
  | .invokevirtual k => n == 3 && decide (0 < x.1) && decide (x.1 < 194) && decide ((parseMethodDescriptor (g_y x.1).desc).map (fun d => d.parameters.length) = some x.2.1) && g_in (.instanceMethod (g_y x.1)) && g_in (.selects (g_y x.1).cls (g_y x.1) (g_y x.1)) && (g_in (.methodLink own k (g_y x.1)) || g_inN (.methodLinkNest own k (g_y x.1) "DialTown"))
      && (decide ((g_C (g_mc x.1)).1 = (g_y x.1).cls) && decide (g_mc x.1 < 9) || (decide (g_mc x.1 = 9) && decide ((g_y x.1).cls = "java/lang/String")))
  | .invokestatic k => n == 3 && (match x.2.2.2.2 with
    | [] => decide (0 < x.1) && decide (x.1 < 194) && decide ((parseMethodDescriptor (g_y x.1).desc).map (fun d => d.parameters.length) = some x.2.1) && g_in (.static (g_y x.1)) && (g_in (.methodLink own k (g_y x.1)) || g_inN (.methodLinkNest own k (g_y x.1) "DialTown"))
    | f :: _ => g_in (.methodLink own k (match f with
      | 1 => arraycopyName
      | 2 => Lib.Math.max.name
      | 3 => Lib.Math.min.name
      | _ => Lib.Math.abs.name)))
  | .ireturn => n == 1 && decide (rt = some (g_ty x.1))
  | .lreturn => n == 1 && decide (rt = some .long)
  | .return_ => n == 1 && decide (rt = none)
  | .iadd | .isub | .imul | .iand | .ior | .ixor | .ishl | .ishr | .idiv | .irem | .ineg | .i2b | .i2s | .i2c | .i2l | .l2i | .ladd | .lmul | .land | .lor | .lrem | .lshl | .lshr | .lushr | .lcmp | .dup | .dup2 | .pop | .iaload | .baload | .aaload | .arraylength | .iastore | .bastore => n == 1
  | _ => false
def g_okI (M : Nat) (q : Nat × g_I) : Bool := decide (decode (g_by M) q.1 = .ok (q.2.1, q.2.2.1)) && g_okx (g_y M).cls (g_ml M) q.1 q.2.1 q.2.2.1 q.2.2.2 (g_rt M)
/-- of a method: its words -/
def g_okM (M : Nat) : Bool := g_in (.code (g_y M) (g_by M) (g_ml M) (g_rt M)) && g_in (.initialized (g_y M).cls) && decide ((g_y M).cls ≠ "java/lang/invoke/MethodHandle") && decide ((g_y M).cls ≠ "java/lang/invoke/VarHandle") && plainName (g_y M).cls && decide (g_ml M ≤ 20)
theorem g_spl {α : Type} {l : List α} {p : α → Bool} (n : Nat) (h1 : (l.take n).all p = true) (h2 : (l.drop n).all p = true) : l.all p = true := by
  rw [← List.take_append_drop n l, List.all_append, h1, h2]; rfl
theorem g_spl2 {α : Type} {l : List α} {p : α → Bool} (a n : Nat) (h1 : ((l.drop a).take n).all p = true) (h2 : (l.drop (a + n)).all p = true) : (l.drop a).all p = true :=
  g_spl n h1 (by rw [List.drop_drop]; exact h2)
