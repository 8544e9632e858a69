/-! NUMBERS of 64 bits: sums in halves -/
theorem z_ofInt (n : Int) : (Int64.ofInt n).toInt = n.bmod 18446744073709551616 := by
  rw [Int64.toInt_ofInt]
theorem z_bm (n : Int) : n.bmod 18446744073709551616 = if n % 18446744073709551616 < 9223372036854775808 then n % 18446744073709551616 else n % 18446744073709551616 - 18446744073709551616 := by
  rw [Int.bmod_def]
  rfl
theorem z_inj {X Y : Int64} (h : X.toInt = Y.toInt) : X = Y := Int64.toInt_inj.mp h
theorem z_R (X : Int64) : -9223372036854775808 ≤ X.toInt ∧ X.toInt ≤ 9223372036854775807 := ⟨Int64.le_toInt X, Int64.toInt_le X⟩
theorem z_add (X Y : Int64) : (X + Y).toInt = (X.toInt + Y.toInt).bmod 18446744073709551616 := by
  rw [Int64.toInt_add]
/-- the low half of a sum -/
theorem G_low (Z : Int) (X : Int64) : Int64.ofInt Z + X = Int64.ofInt (Z + X.toInt) := by
  apply z_inj
  have hx := z_R X
  rw [z_add, z_ofInt, z_ofInt, z_bm, z_bm, z_bm]
  split <;> split <;> split <;> omega
theorem z_min : (-9223372036854775808 : Int64).toInt = -9223372036854775808 := by decide
theorem G_cy (Z : Int) (X : Int64) : ((Int64.ofInt Z + X + (-9223372036854775808)).toInt < (Int64.ofInt Z + (-9223372036854775808)).toInt) ↔ 18446744073709551616 ≤ Z % 18446744073709551616 + X.toInt % 18446744073709551616 := by
  have hx := z_R X
  rw [G_low, z_add, z_add, z_min, z_ofInt, z_ofInt, z_bm, z_bm, z_bm, z_bm]
  split <;> split <;> split <;> split <;> omega
theorem z_sh (X : Int64) (k : Int64) (n : Nat) (hk : (k.toBitVec.smod 64).toNat = n) : (X >>> k).toInt = X.toInt / 2 ^ n := by
  have h1 : (X >>> k).toBitVec = X.toBitVec.sshiftRight n := by
    rw [Int64.toBitVec_shiftRight, BitVec.sshiftRight', hk]
  have h2 : (X >>> k).toInt = (X >>> k).toBitVec.toInt := rfl
  rw [h2, h1, BitVec.toInt_sshiftRight, Int.shiftRight_eq_div_pow]
  rfl
theorem z_sh63 (X : Int64) : (X >>> ((Int32.ofInt 63).toInt64 &&& 63)).toInt = if X.toInt < 0 then -1 else 0 := by
  rw [z_sh X _ 63 (by decide)]
  have := z_R X
  split <;> omega
theorem z_sh32 (X : Int64) : (X >>> ((Int32.ofInt 32).toInt64 &&& 63)).toInt = X.toInt / 4294967296 := by
  rw [z_sh X _ 32 (by decide)]
  rfl
/-- the high half -/
theorem G_high1 (Z : Int) (X : Int64) (c : Int) (hc : (c = 1 ∧ 18446744073709551616 ≤ Z % 18446744073709551616 + X.toInt % 18446744073709551616) ∨ (c = 0 ∧ ¬ 18446744073709551616 ≤ Z % 18446744073709551616 + X.toInt % 18446744073709551616)) (hZ : -9223372036854775808 * 1000 ≤ Z ∧ Z ≤ 9223372036854775808 * 1000) : Int64.ofInt (Z / 18446744073709551616) + ((X >>> ((Int32.ofInt 63).toInt64 &&& 63)) + Int64.ofInt c) = Int64.ofInt ((Z + X.toInt) / 18446744073709551616) := by
  apply z_inj
  have hx := z_R X
  rw [z_add, z_add, z_sh63, z_ofInt, z_ofInt, z_ofInt]
  simp only [z_bm]
  omega
theorem G_fit (Z : Int) (hZ : -9223372036854775808 * 1000 ≤ Z ∧ Z ≤ 9223372036854775808 * 1000) : (Int64.ofInt (Z / 18446744073709551616)).toInt = (Int64.ofInt Z >>> ((Int32.ofInt 63).toInt64 &&& 63)).toInt ↔ ¬ (Z < -9223372036854775808 ∨ 9223372036854775807 < Z) := by
  rw [z_sh63, z_ofInt, z_ofInt]
  simp only [z_bm]
  omega
/-- the reference's halves -/
theorem z_and32 (X : Int64) : (X &&& 4294967295).toInt = X.toInt % 4294967296 := by
  have h2 : (X &&& 4294967295).toInt = (X &&& 4294967295).toBitVec.toInt := rfl
  have h3 : (X &&& 4294967295).toBitVec = X.toBitVec &&& 4294967295#64 := rfl
  have h4 : (X.toBitVec &&& 4294967295#64).toNat = X.toBitVec.toNat % 2 ^ 32 := by
    rw [BitVec.toNat_and]
    exact Nat.and_two_pow_sub_one_eq_mod _ 32
  have h5 : X.toInt = X.toBitVec.toInt := rfl
  rw [h2, h3, h5, BitVec.toInt_eq_toNat_cond, BitVec.toInt_eq_toNat_cond, h4]
  have := X.toBitVec.isLt
  split <;> split <;> omega
theorem z_toI32 (X : Int64) : X.toInt32.toInt = X.toInt.bmod 4294967296 := by
  rw [Int64.toInt_toInt32]
theorem z_bm32 (n : Int) : n.bmod 4294967296 = if n % 4294967296 < 2147483648 then n % 4294967296 else n % 4294967296 - 4294967296 := by
  rw [Int.bmod_def]
  rfl
/-- two halves that are what a number is -/
theorem G_halves (Z L H : Int) (hL : 0 ≤ L ∧ L < 4294967296 * 1000) (hH : -2147483648 * 1000 ≤ H ∧ H ≤ 2147483648 * 1000) (hZ : Z = H * 4294967296 + L) : (Int64.ofInt L &&& 4294967295).toInt32.toInt = (Int64.ofInt Z).toInt32.toInt ∧ (Int64.ofInt H + (Int64.ofInt L >>> ((Int32.ofInt 32).toInt64 &&& 63))).toInt32.toInt = (Int64.ofInt Z >>> ((Int32.ofInt 32).toInt64 &&& 63)).toInt32.toInt ∧ ((Int64.ofInt H + (Int64.ofInt L >>> ((Int32.ofInt 32).toInt64 &&& 63))).toInt = H + L / 4294967296) := by
  simp only [z_toI32, z_and32, z_add, z_sh32, z_ofInt, z_bm, z_bm32]
  omega
theorem G_halfS (L H : Int) (X : Int64) (hL : 0 ≤ L ∧ L < 4294967296 * 900) : Int64.ofInt L + (X &&& 4294967295) = Int64.ofInt (L + X.toInt % 4294967296) ∧ Int64.ofInt H + (X >>> ((Int32.ofInt 32).toInt64 &&& 63)) = Int64.ofInt (H + X.toInt / 4294967296) := by
  have hx := z_R X
  constructor
  · apply z_inj
    simp only [z_and32, z_add, z_ofInt, z_bm]
    omega
  · apply z_inj
    simp only [z_sh32, z_add, z_ofInt, z_bm]
    omega
