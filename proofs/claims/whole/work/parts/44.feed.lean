/-! ===== bytes of the tape ===== -/
theorem byte_cl (x : Int32) {k : Nat} (hk : k ≤ 24) : ((x.toUInt32 >>> (Int32.toUInt32 (nI k) &&& Int32.toUInt32 31)).toInt32 &&& 255) = nI (x.toBitVec.toNat / 2 ^ k % 256) := by
  have hs : ∀ k, k ≤ 24 → (((nI k).toUInt32 &&& Int32.toUInt32 31).toBitVec % 32).toNat = k := by decide +kernel
  rw [pk_and _ 8 (by decide), pk_ushr x (nI k) k (hs k hk)]
theorem byte_rf (x : Int32) {k : Nat} (hk : k ≤ 24) : (Int8.toInt32 (Int32.toInt8 (Int8.toInt32 (Int32.toInt8 (x >>> (nI k &&& 31)))))) &&& 255 = nI (x.toBitVec.toNat / 2 ^ k % 256) := by
  have hsm : ∀ k, k ≤ 24 → (nI k &&& 31).toBitVec.smod 32 = BitVec.ofNat 32 k := by decide +kernel
  rw [pk_and _ 8 (by decide)]
  congr 1
  have h1 : ∀ y : Int32, (Int8.toInt32 (Int32.toInt8 y)).toBitVec.toNat % 2 ^ 8 = y.toBitVec.toNat % 2 ^ 8 := fun y => by
    apply Nat.eq_of_testBit_eq
    intro j
    rw [Nat.testBit_mod_two_pow, Nat.testBit_mod_two_pow]
    by_cases hj : j < 8
    · have : (Int8.toInt32 (Int32.toInt8 y)).toBitVec = (y.toBitVec.signExtend 8).signExtend 32 := by
        rw [Int8.toBitVec_toInt32, Int32.toBitVec_toInt8]
      rw [this]
      have h2 : ((y.toBitVec.signExtend 8).signExtend 32).getLsbD j = y.toBitVec.getLsbD j := by
        rw [BitVec.getLsbD_signExtend, BitVec.getLsbD_signExtend]
        simp [hj, show j < 32 by omega]
      rw [BitVec.testBit_toNat, BitVec.testBit_toNat, h2]
    · simp [hj]
  rw [h1, h1]
  apply Nat.eq_of_testBit_eq
  intro j
  rw [Nat.testBit_mod_two_pow]
  have h256 : (256 : Nat) = 2 ^ 8 := rfl
  rw [h256, Nat.testBit_mod_two_pow, Nat.testBit_div_two_pow]
  by_cases hj : j < 8
  · have h3 : (x >>> (nI k &&& 31)).toBitVec = x.toBitVec.sshiftRight k := by
      rw [Int32.toBitVec_shiftRight, hsm k hk, BitVec.sshiftRight_eq']
      congr 1
      rw [BitVec.toNat_ofNat]
      exact Nat.mod_eq_of_lt (by omega)
    rw [BitVec.testBit_toNat, h3, BitVec.getLsbD_sshiftRight, BitVec.testBit_toNat]
    simp [hj, show k + j < 32 by omega, show j < 32 by omega, Nat.add_comm]
  · simp [hj]
