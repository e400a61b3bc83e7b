/-! BITS -/
theorem sh31 : ∀ k, k < 32 → ((Int32.ofNat k &&& 31).toBitVec.smod 32) = BitVec.ofNat 32 k := by decide
theorem and1_bit (v : Int32) : decide (v &&& 1 = 1) = v.toBitVec.getLsbD 0 := by
  have e : (v &&& 1 = 1) ↔ (v.toBitVec &&& 1#32 = 1#32) := by
    rw [← Int32.toBitVec_inj, Int32.toBitVec_and]; rfl
  rw [show decide (v &&& 1 = 1) = decide (v.toBitVec &&& 1#32 = 1#32) from decide_eq_decide.mpr e]
  simp only [BitVec.and_one_eq_setWidth_ofBool_getLsbD]
  cases v.toBitVec.getLsbD 0 <;> decide
theorem hasB_bv (b : Int32) (k : Nat) (hk : k < 32) : hasB b k = b.toBitVec.getLsbD k := by
  unfold hasB
  rw [and1_bit, Int32.toBitVec_shiftRight, sh31 k hk]
  unfold BitVec.sshiftRight'
  rw [BitVec.getLsbD_sshiftRight]
  have : (BitVec.ofNat 32 k).toNat = k := by simp; omega
  rw [this]
  simp [hk]
theorem bitI_bv (k : Nat) (hk : k < 32) : (bitI k).toBitVec = BitVec.twoPow 32 k := by
  revert k; decide
theorem hasB_or {a b : Int32} {k : Nat} (hk : k < 32) : hasB (a ||| b) k = (hasB a k || hasB b k) := by
  rw [hasB_bv _ _ hk, hasB_bv _ _ hk, hasB_bv _ _ hk, Int32.toBitVec_or, BitVec.getLsbD_or]
theorem hasB_and {a b : Int32} {k : Nat} (hk : k < 32) : hasB (a &&& b) k = (hasB a k && hasB b k) := by
  rw [hasB_bv _ _ hk, hasB_bv _ _ hk, hasB_bv _ _ hk, Int32.toBitVec_and, BitVec.getLsbD_and]
theorem hasB_not {a : Int32} {k : Nat} (hk : k < 32) : hasB (a ^^^ (-1)) k = !hasB a k := by
  rw [hasB_bv _ _ hk, hasB_bv _ _ hk, Int32.toBitVec_xor, BitVec.getLsbD_xor]
  have : ((-1 : Int32).toBitVec.getLsbD k) = true := by revert k; decide
  rw [this]; simp
theorem hasB_bit {j k : Nat} (hj : j < 32) (hk : k < 32) : hasB (bitI j) k = decide (j = k) := by
  rw [hasB_bv _ _ hk, bitI_bv _ hj, BitVec.getLsbD_twoPow]
  simp [hj]
theorem hasB_ext {a b : Int32} (h : ∀ k, k < 32 → hasB a k = hasB b k) : a = b := by
  rw [← Int32.toBitVec_inj]
  apply BitVec.eq_of_getLsbD_eq
  intro i hi
  rw [← hasB_bv _ _ hi, ← hasB_bv _ _ hi]
  exact h i hi
theorem hasB_zero {k : Nat} (hk : k < 32) : hasB 0 k = false := by
  revert k; decide
