/-! the graph of objects, by numbers, and the rows that hold code -/
abbrev g_X : Type := Nat × Nat × Int32 × Int64 × List Nat
abbrev g_I : Type := Instr × Nat × g_X
abbrev g_E : Type := (Nat → Int32) × Nat
def g_lk {α : Type} : List (Nat × α) → Nat → Option α
  | [], _ => none
  | q :: l, k => bif Nat.beq q.1 k then some q.2 else g_lk l k
def g_at0 {α : Type} : List α → Nat → α → α
  | [], _, d => d
  | a :: _, 0, _ => a
  | _ :: l, k + 1, d => g_at0 l k d
def g_N : Nat := 84
def g_kdl : List Nat := [7, 3, 100, 100, 103, 100, 100, 100, 100, 100, 100, 100, 100, 4, 100, 5, 100, 100, 100, 100, 100, 5, 100, 100, 100, 100, 100, 102, 5, 100, 100, 100, 100, 100, 5, 100, 100, 100, 100, 100, 2, 1, 100, 100, 100, 6, 100, 103, 100, 100, 100, 100, 100, 100, 100, 100, 103, 100, 100, 100, 100, 100, 100, 100, 100, 100, 0, 100, 8, 100, 100, 100, 100, 100, 100, 101, 101, 101, 101, 101, 100, 101, 100, 100]
def g_lnl : List Nat := [0, 0, 8, 8, 8, 40, 40, 40, 40, 40, 40, 40, 40, 0, 400, 0, 81, 73, 8, 8, 8, 0, 81, 73, 8, 8, 8, 2, 0, 81, 73, 8, 8, 8, 0, 81, 73, 8, 8, 8, 0, 0, 9, 73, 81, 0, 81, 8, 81, 81, 81, 81, 81, 81, 81, 81, 8, 73, 73, 73, 73, 73, 73, 73, 73, 2048, 0, 16, 0, 8, 8, 320, 185, 185, 400, 81, 20736, 20736, 5913, 5913, 81, 2, 370, 16]
def g_rfl : List (List Bool) := [[true, false], [true, false, true, true], [true, true, false, false, false, false, false, false, false], [true, true, true], [true, false], [false, false, false, false, false, false, false, false, false, true, true, true, true, true], [true, true, true, true, false, false, false], [true, true, true, true, true, true, true, true, true, false, false], [false, false, true, true, true, true, true, true, false, false, false, false, false, false, false, false, false, true, true, true, true, true, true, true, true, true, false]]
def g_bzl : List (List Bool) := [[false, false], [false, false, false, false], [false, false, false, false, false, false, false, false, false], [false, false, false], [false, false], [true, false, false, false, false, false, false, false, false, false, false, false, false, false], [false, false, false, false, false, false, false], [false, false, false, false, false, false, false, false, false, false, false], [false, false, false, false, false, false, false, false, false, false, false, false, false, false, false, false, false, false, false, false, false, false, false, false, false, false, false]]
def g_tgl : List (List Nat) := [[67, 0], [42, 0, 43, 44], [13, 21, 0, 0, 0, 0, 0, 0, 0], [2, 3, 4], [14, 0], [], [46, 47, 56, 65, 0, 0, 0], [1, 13, 15, 21, 27, 40, 41, 45, 66, 0, 0], [0, 0, 69, 70, 71, 72, 73, 74, 0, 0, 0, 0, 0, 0, 0, 0, 0, 75, 76, 77, 78, 79, 80, 81, 82, 83, 0]]
def g_rol : List (List Int32) := [[0, 1, 0, -1, 0], [-1, 0, 1, 0, 0], [1, 4, 2, 3, 5], [1, 3, 7, 15, 17, 49], [10, 11, 11, 12, 13, 14], [20, 21, 22, 24, 23, 23], [], [], [], [], [116, 111, 119, 101, 114], [119, 97, 108, 108], [115, 104, 111, 112], [100, 97, 114, 107], [115, 117, 110, 110, 121], [110, 111, 111, 110], [109, 97, 115, 115], [108, 97, 109, 112]]
def g_kd (a : Nat) : Nat := g_at0 g_kdl a 999
def g_ln (a : Nat) : Nat := g_at0 g_lnl a 0
def g_rf (ci k : Nat) : Bool := g_at0 (g_at0 g_rfl ci []) k false
def g_bz (ci k : Nat) : Bool := g_at0 (g_at0 g_bzl ci []) k false
def g_tg (ci k a : Nat) : Nat := match ci with
  | 5 => a + (k - 8)
  | _ => g_at0 (g_at0 g_tgl ci []) k 0
def g_ta (a j : Nat) : Nat := match a with
  | 27 => 28 + 6 * j
  | _ => a + 1 + j
def g_roL (q : Nat) : List Int32 := g_at0 g_rol q []
def g_ro (E : g_E) (q j : Nat) : Int32 := match q with
  | 99 => E.1 j
  | _ => g_at0 (g_roL q) j 0
def g_rn (E : g_E) (q : Nat) : Nat := match q with
  | 99 => E.2
  | _ => (g_roL q).length
def g_ty (k : Nat) : FieldType := match k with
  | 0 => .int
  | 1 => .boolean
  | 2 => .char
  | _ => .byte
def g_c (c : Jvm.ClassFile.Cond) (x y : Int32) : Prop := match c with
  | .eq => x = y
  | .ne => ¬ x = y
  | .lt => x < y
  | .ge => y ≤ x
  | .gt => y < x
  | .le => x ≤ y
