/-! bits -/
def jbit (a p : Nat) : Nat := a / 2 ^ p % 2
theorem jbit_lt (a p : Nat) : jbit a p < 2 := Nat.mod_lt _ (by decide)
theorem jtn {n : Nat} (h : n < 2 ^ 32) : (nI n).toBitVec.toNat = n := Nat.mod_eq_of_lt h
theorem jand {a b : Nat} (ha : a < 2 ^ 32) (hb : b < 2 ^ 32) : nI a &&& nI b = nI (a &&& b) := by
  apply Int32.toBitVec_inj.mp
  apply BitVec.eq_of_toNat_eq
  rw [Int32.toBitVec_and, BitVec.toNat_and, jtn ha, jtn hb, jtn (Nat.lt_of_le_of_lt Nat.and_le_left ha)]
theorem jor {a b : Nat} (ha : a < 2 ^ 32) (hb : b < 2 ^ 32) : nI a ||| nI b = nI (a ||| b) := by
  apply Int32.toBitVec_inj.mp
  apply BitVec.eq_of_toNat_eq
  rw [Int32.toBitVec_or, BitVec.toNat_or, jtn ha, jtn hb, jtn (Nat.or_lt_two_pow ha hb)]
theorem jsmod : ∀ p, p < 32 → ((nI p &&& nI 31).toBitVec.smod 32).toNat = p := by decide +kernel
theorem jshr {a p : Nat} (ha : a < 2 ^ 31) (hp : p < 32) : nI a >>> (nI p &&& nI 31) = nI (a / 2 ^ p) := by
  apply Int32.toInt_inj.mp
  have h2 : a / 2 ^ p ≤ a := Nat.div_le_self _ _
  have e : (nI a >>> (nI p &&& nI 31)).toInt = (nI a).toInt >>> p := by
    show ((nI a).toBitVec.sshiftRight ((nI p &&& nI 31).toBitVec.smod 32).toNat).toInt = _
    rw [jsmod p hp, BitVec.toInt_sshiftRight]
    rfl
  rw [e, nI_toInt ha, nI_toInt (by omega), Int.shiftRight_eq_div_pow]
  rfl
theorem jshl {a p : Nat} (hp : p < 32) (h : a * 2 ^ p < 2 ^ 32) : nI a <<< (nI p &&& nI 31) = nI (a * 2 ^ p) := by
  apply Int32.toBitVec_inj.mp
  apply BitVec.eq_of_toNat_eq
  have hn : a < 2 ^ 32 := Nat.lt_of_le_of_lt (Nat.le_mul_of_pos_right a (Nat.two_pow_pos p)) h
  have e : (nI a <<< (nI p &&& nI 31)).toBitVec.toNat = (nI a).toBitVec.toNat * 2 ^ p % 2 ^ 32 := by
    show ((nI a).toBitVec <<< ((nI p &&& nI 31).toBitVec.smod 32).toNat).toNat = _
    rw [jsmod p hp, BitVec.toNat_shiftLeft, Nat.shiftLeft_eq]
  rw [e, jtn hn, jtn h, Nat.mod_eq_of_lt h]
theorem jbt {a p : Nat} (ha : a < 2 ^ 31) (hp : p < 32) : (nI a >>> (nI p &&& nI 31)) &&& nI 1 = nI (jbit a p) := by
  have h2 : a / 2 ^ p ≤ a := Nat.div_le_self _ _
  rw [jshr ha hp, jand (by omega) (by omega), Nat.and_one_is_mod]
  rfl
theorem jbt0 {a p : Nat} (ha : a < 2 ^ 31) (hp : p < 32) : ((nI a >>> (nI p &&& nI 31)) &&& nI 1 = nI 0) ↔ jbit a p = 0 := by
  have := jbit_lt a p
  rw [jbt ha hp, nI_eq (by omega) (by omega)]
theorem jbt1 {a p : Nat} (ha : a < 2 ^ 31) (hp : p < 32) : ((nI a >>> (nI p &&& nI 31)) &&& nI 1 = nI 1) ↔ jbit a p = 1 := by
  have := jbit_lt a p
  rw [jbt ha hp, nI_eq (by omega) (by omega)]
