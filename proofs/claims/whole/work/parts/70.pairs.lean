/-! pairs: feed -/
def q_byte (w : Int64) (k : Nat) : Int32 := ((w >>> (((8 : Int32) * nI k).toInt64 &&& 63)) &&& (255 : Int64)).toInt32
theorem q_sh : ∀ k, k < 8 → ((8 : Int32) * nI k).toInt64.toUInt64 &&& Int64.toUInt64 63 = UInt64.ofNat (8 * k) ∧ ((8 : Int32) * nI k).toInt64 &&& (63 : Int64) = Int64.ofNat (8 * k) := by decide
theorem q_bits {x : BitVec 64} {s : Nat} (hs : s ≤ 56) : (x >>> s).setWidth 32 &&& 255#32 = ((x.sshiftRight s) &&& 255#64).setWidth 32 := by
  apply BitVec.eq_of_getLsbD_eq
  intro i hi
  simp only [BitVec.getLsbD_and, BitVec.getLsbD_setWidth, BitVec.getLsbD_ushiftRight, BitVec.getLsbD_sshiftRight]
  by_cases h8 : i < 8
  · have e1 : s + i < 64 := by omega
    have e2 : ¬ 64 ≤ i := by omega
    have e3 : (255#32).getLsbD i = (255#64).getLsbD i := by
      have : ∀ i, i < 8 → (255#32).getLsbD i = (255#64).getLsbD i := by decide
      exact this i h8
    rw [e3, if_pos e1, decide_eq_false e2, decide_eq_true hi]
    simp only [Bool.not_false, Bool.true_and]
  · have z : (255#32).getLsbD i = false ∧ (255#64).getLsbD i = false := by
      have : ∀ i, i < 32 → 8 ≤ i → (255#32).getLsbD i = false ∧ (255#64).getLsbD i = false := by decide
      exact this i hi (by omega)
    simp [z.1, z.2]
theorem q_byte_c {w : Int64} {k : Nat} (hk : k < 8) : (((w.toUInt64 >>> (((8 : Int32) * nI k).toInt64.toUInt64 &&& Int64.toUInt64 63)).toInt64).toInt32) &&& (255 : Int32) = q_byte w k := by
  unfold q_byte
  rw [(q_sh k hk).1, (q_sh k hk).2]
  apply Int32.toBitVec_inj.mp
  have e1 : (UInt64.ofNat (8 * k) % 64).toBitVec.toNat = 8 * k := by
    have : ∀ k, k < 8 → (UInt64.ofNat (8 * k) % 64).toBitVec.toNat = 8 * k := by decide
    exact this k hk
  have e2 : ((Int64.ofNat (8 * k)).toBitVec.smod 64#64).toNat = 8 * k := by
    have : ∀ k, k < 8 → ((Int64.ofNat (8 * k)).toBitVec.smod 64#64).toNat = 8 * k := by decide
    exact this k hk
  have := q_bits (x := w.toBitVec) (s := 8 * k) (by omega)
  show (BitVec.signExtend 32 (w.toBitVec >>> (UInt64.ofNat (8 * k) % 64).toBitVec)) &&& 255#32 = BitVec.signExtend 32 ((BitVec.sshiftRight' w.toBitVec ((Int64.ofNat (8 * k)).toBitVec.smod 64#64)) &&& 255#64)
  rw [BitVec.signExtend_eq_setWidth_of_le _ (by omega), BitVec.signExtend_eq_setWidth_of_le _ (by omega), BitVec.ushiftRight_eq', BitVec.sshiftRight_eq', e1, e2]
  exact this
