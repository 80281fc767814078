/-! bytes of a long -/
theorem jb255 (x : Int32) : x &&& nI 255 = nI (x.toBitVec.toNat % 256) := by
  apply Int32.toBitVec_inj.mp
  apply BitVec.eq_of_toNat_eq
  have h : x.toBitVec.toNat % 256 < 2 ^ 32 := by omega
  rw [Int32.toBitVec_and, BitVec.toNat_and, jtn (show 255 < 2 ^ 32 by omega), jtn h, show 255 = 2 ^ 8 - 1 from rfl, Nat.and_two_pow_sub_one_eq_mod]
theorem jbytest (v : BitVec 64) (k : Nat) (hk : k ≤ 56) : (BitVec.signExtend 32 (v.sshiftRight k)) &&& 255#32 = (BitVec.signExtend 32 (v >>> k)) &&& 255#32 := by
  apply BitVec.eq_of_getLsbD_eq
  intro j hj
  simp only [BitVec.getLsbD_and, BitVec.getLsbD_signExtend, BitVec.getLsbD_sshiftRight, BitVec.getLsbD_ushiftRight]
  by_cases c : j < 8
  · have h1 : k + j < 64 := by omega
    have h2 : ¬ 64 ≤ j := by omega
    have h3 : j < 64 := by omega
    simp [h1, h2, h3, hj]
  · have : (255#32).getLsbD j = false := by
      have hall : ∀ j, j < 32 → 8 ≤ j → (255#32).getLsbD j = false := by decide
      exact hall j hj (by omega)
    rw [this, Bool.and_false, Bool.and_false]
theorem jsa64 : ∀ i, i < 8 → (((nI (8 * i)).toInt64 &&& 63).toBitVec.smod 64).toNat = 8 * i := by decide +kernel
theorem jsu64 : ∀ i, i < 8 → (((nI (8 * i)).toInt64.toUInt64 &&& Int64.toUInt64 63).toBitVec % 64).toNat = 8 * i := by decide +kernel
theorem jshrA (x : Int64) {i : Nat} (hi : i < 8) : (Int64.toInt32 (xlshr x (nI (8 * i)))).toBitVec = BitVec.signExtend 32 (x.toBitVec.sshiftRight (8 * i)) := by
  unfold xlshr
  rw [Int64.toBitVec_toInt32]
  congr 1
  show x.toBitVec.sshiftRight (((nI (8 * i)).toInt64 &&& 63).toBitVec.smod 64).toNat = _
  rw [jsa64 i hi]
theorem jshrU (x : Int64) {i : Nat} (hi : i < 8) : (Int64.toInt32 (xlushr x (nI (8 * i)))).toBitVec = BitVec.signExtend 32 (x.toBitVec >>> (8 * i)) := by
  unfold xlushr
  rw [Int64.toBitVec_toInt32]
  congr 1
  show (x.toUInt64 >>> ((nI (8 * i)).toInt64.toUInt64 &&& Int64.toUInt64 63)).toBitVec = _
  rw [UInt64.toBitVec_shiftRight]
  show x.toBitVec >>> (((nI (8 * i)).toInt64.toUInt64 &&& Int64.toUInt64 63).toBitVec % 64) = _
  rw [BitVec.ushiftRight_eq', jsu64 i hi]
def jby (x : Int64) (i : Nat) : Nat := (Int64.toInt32 (xlushr x (nI (8 * i)))).toBitVec.toNat % 256
theorem jby_c (x : Int64) (i : Nat) : Int64.toInt32 (xlushr x (nI (8 * i))) &&& nI 255 = nI (jby x i) := jb255 _
theorem jnar (y : Int32) : vp_nar .byte (xi2b y) &&& nI 255 = y &&& nI 255 := by
  have e : vp_nar .byte (xi2b y) = y.toInt8.toInt32 := by
    show (y.toInt8.toInt32).toInt8.toInt32 = _
    simp
  rw [e]
  apply Int32.toBitVec_inj.mp
  rw [Int32.toBitVec_and, Int32.toBitVec_and]
  apply BitVec.eq_of_getLsbD_eq
  intro j hj
  rw [BitVec.getLsbD_and, BitVec.getLsbD_and]
  by_cases c : j < 8
  · have e2 : (y.toInt8.toInt32).toBitVec.getLsbD j = y.toBitVec.getLsbD j := by
      show (BitVec.signExtend 32 (BitVec.signExtend 8 y.toBitVec)).getLsbD j = _
      rw [BitVec.getLsbD_signExtend, BitVec.getLsbD_signExtend]
      simp [hj, c]
    rw [e2]
  · have : (nI 255).toBitVec.getLsbD j = false := by
      have hall : ∀ j, j < 32 → 8 ≤ j → (nI 255).toBitVec.getLsbD j = false := by decide +kernel
      exact hall j hj (by omega)
    rw [this, Bool.and_false, Bool.and_false]
theorem jby_m (x : Int64) {i : Nat} (hi : i < 8) : vp_nar .byte (xi2b (Int64.toInt32 (xlshr x (nI (8 * i))))) &&& nI 255 = nI (jby x i) := by
  rw [jnar, ← jby_c]
  apply Int32.toBitVec_inj.mp
  rw [Int32.toBitVec_and, Int32.toBitVec_and, jshrA x hi, jshrU x hi]
  exact jbytest x.toBitVec (8 * i) (by omega)
theorem jby_lt (x : Int64) (i : Nat) : jby x i < 256 := Nat.mod_lt _ (by decide)
