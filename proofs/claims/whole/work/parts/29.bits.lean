/-! Bits of a whole number -/
theorem i32_n (n : Nat) : (Int32.ofInt (n : Int)).toBitVec = BitVec.ofNat 32 n := by
  show BitVec.ofInt 32 (n : Int) = _
  exact BitVec.ofInt_natCast 32 n
theorem bv_n {n : Nat} (h : n < 2147483648) : (BitVec.ofNat 32 n).toInt = (n : Int) := by
  rw [BitVec.toInt_eq_toNat_of_lt]
  · rw [BitVec.toNat_ofNat, Nat.mod_eq_of_lt (by omega)]
  · rw [BitVec.toNat_ofNat, Nat.mod_eq_of_lt (by omega)]; omega
theorem b_and_n {n m : Nat} (hn : n < 2147483648) (hm : m < 2147483648) : b_and (n : Int) (m : Int) = ((n &&& m : Nat) : Int) := by
  unfold b_and
  show (Int32.ofInt (n : Int) &&& Int32.ofInt (m : Int)).toBitVec.toInt = _
  rw [Int32.toBitVec_and, i32_n, i32_n]
  have e : BitVec.ofNat 32 n &&& BitVec.ofNat 32 m = BitVec.ofNat 32 (n &&& m) := by
    apply BitVec.eq_of_toNat_eq
    rw [BitVec.toNat_and, BitVec.toNat_ofNat, BitVec.toNat_ofNat, BitVec.toNat_ofNat, Nat.mod_eq_of_lt (show n < 2 ^ 32 by omega), Nat.mod_eq_of_lt (show m < 2 ^ 32 by omega), Nat.mod_eq_of_lt]
    have := Nat.and_le_left (n := n) (m := m)
    omega
  rw [e, bv_n]
  have := Nat.and_le_left (n := n) (m := m)
  omega
theorem b_or_n {n m : Nat} (hn : n < 2147483648) (hm : m < 2147483648) : b_or (n : Int) (m : Int) = ((n ||| m : Nat) : Int) ∧ n ||| m < 2147483648 := by
  have hl : n ||| m < 2 ^ 31 := Nat.or_lt_two_pow (by omega) (by omega)
  refine ⟨?_, by omega⟩
  unfold b_or
  show (Int32.ofInt (n : Int) ||| Int32.ofInt (m : Int)).toBitVec.toInt = _
  rw [Int32.toBitVec_or, i32_n, i32_n]
  have e : BitVec.ofNat 32 n ||| BitVec.ofNat 32 m = BitVec.ofNat 32 (n ||| m) := by
    apply BitVec.eq_of_toNat_eq
    rw [BitVec.toNat_or, BitVec.toNat_ofNat, BitVec.toNat_ofNat, BitVec.toNat_ofNat, Nat.mod_eq_of_lt (show n < 2 ^ 32 by omega), Nat.mod_eq_of_lt (show m < 2 ^ 32 by omega), Nat.mod_eq_of_lt (by omega)]
  rw [e, bv_n (by omega)]
theorem b_shl_n : ∀ k : Fin 31, b_shl 1 ((k.val : Nat) : Int) = ((2 ^ k.val : Nat) : Int) := by decide
theorem shr_k : ∀ k : Fin 31, ((Int32.ofInt ((k.val : Nat) : Int) &&& 31).toBitVec.smod 32).toNat = k.val := by decide
theorem b_shr_n {n k : Nat} (hn : n < 2147483648) (hk : k < 31) : b_shr (n : Int) (k : Int) = ((n >>> k : Nat) : Int) := by
  unfold b_shr
  show (BitVec.sshiftRight' (Int32.ofInt (n : Int)).toBitVec ((Int32.ofInt (k : Int) &&& 31).toBitVec.smod 32)).toInt = _
  unfold BitVec.sshiftRight'
  rw [shr_k ⟨k, hk⟩, i32_n, BitVec.toInt_sshiftRight, bv_n hn]
  rfl
theorem hb_n {n k : Nat} (hn : n < 2147483648) (hk : k < 31) : X5_hasBit_v (n : Int) (k : Int) = if n.testBit k then 1 else 0 := by
  unfold X5_hasBit_v
  have hs : n >>> k ≤ n := by rw [Nat.shiftRight_eq_div_pow]; exact Nat.div_le_self _ _
  rw [b_shr_n hn hk]
  have e : b_and ((n >>> k : Nat) : Int) 1 = ((n >>> k &&& 1 : Nat) : Int) := b_and_n (m := 1) (by omega) (by omega)
  rw [e]
  have e2 : n.testBit k = (1 &&& (n >>> k) != 0) := rfl
  rw [e2, Nat.and_comm 1, Nat.and_one_is_mod]
  have := Nat.mod_lt (n >>> k) (show 0 < 2 by omega)
  by_cases q : n >>> k % 2 = 1
  · rw [q]; rfl
  · have : n >>> k % 2 = 0 := by omega
    rw [this]; rfl
