/-! names: when a number is a name, by both -/
theorem shr64 (a s : Int64) (k : Nat) (hs : (s.toBitVec.smod 64).toNat = k) : (a >>> s).toInt = a.toInt >>> k := by
  show (a.toBitVec.sshiftRight' (s.toBitVec.smod 64)).toInt = _
  rw [BitVec.sshiftRight', hs, BitVec.toInt_sshiftRight]
  rfl
theorem and64 (a : Int64) : (a &&& 31).toInt = a.toInt % 32 := by
  have h1 : (a &&& 31).toBitVec.toNat = a.toBitVec.toNat % 32 := by
    show (a.toBitVec &&& (31 : Int64).toBitVec).toNat = _
    rw [BitVec.toNat_and, show (31 : Int64).toBitVec.toNat = 2 ^ 5 - 1 from by decide, Nat.and_two_pow_sub_one_eq_mod]
  show (a &&& 31).toBitVec.toInt = a.toBitVec.toInt % 32
  rw [BitVec.toInt_eq_toNat_bmod, h1, BitVec.toInt_eq_toNat_bmod, Int.bmod_def, Int.bmod_def]
  have := a.toBitVec.isLt
  split <;> split <;> omega
theorem and32 (a : Int32) : (a &&& 31).toInt = a.toInt % 32 := by
  have h1 : (a &&& 31).toBitVec.toNat = a.toBitVec.toNat % 32 := by
    show (a.toBitVec &&& (31 : Int32).toBitVec).toNat = _
    rw [BitVec.toNat_and, show (31 : Int32).toBitVec.toNat = 2 ^ 5 - 1 from by decide, Nat.and_two_pow_sub_one_eq_mod]
  show (a &&& 31).toBitVec.toInt = a.toBitVec.toInt % 32
  rw [BitVec.toInt_eq_toNat_bmod, h1, BitVec.toInt_eq_toNat_bmod, Int.bmod_def, Int.bmod_def]
  have := a.toBitVec.isLt
  split <;> split <;> omega
theorem shr32 (a : Int32) : (a >>> (5 &&& 31)).toInt = a.toInt / 32 := by
  rw [pk_shr a (5 &&& 31) 5 (by decide), Int.shiftRight_eq_div_pow]
  rfl
theorem s5 (k : Nat) (h : k ≤ 13) : (((5 * Int32.ofNat k).toInt64 &&& 63).toBitVec.smod 64).toNat = if k = 13 then 1 else 5 * k := by
  have : k = 0 ∨ k = 1 ∨ k = 2 ∨ k = 3 ∨ k = 4 ∨ k = 5 ∨ k = 6 ∨ k = 7 ∨ k = 8 ∨ k = 9 ∨ k = 10 ∨ k = 11 ∨ k = 12 ∨ k = 13 := by omega
  rcases this with rfl | rfl | rfl | rfl | rfl | rfl | rfl | rfl | rfl | rfl | rfl | rfl | rfl | rfl <;> decide
theorem p32 (k : Nat) : ((2 : Int) ^ (5 * k)) = 32 ^ k := by
  rw [Int.pow_mul]; rfl
theorem at5 (a : Int64) (k : Nat) (h : k < 13) : (a >>> ((5 * Int32.ofNat k).toInt64 &&& 63)).toInt = a.toInt / 32 ^ k := by
  rw [shr64 a _ (5 * k) (by rw [s5 k (by omega), if_neg (by omega)]), Int.shiftRight_eq_div_pow]
  have h2 : (((2 ^ (5 * k) : Nat)) : Int) = 32 ^ k := by
    rw [Nat.pow_mul]
    norm_cast
  rw [h2]
