/-! Counting bits -/
theorem ush_k : ∀ k : Fin 31, ((Int32.ofInt ((k.val : Nat) : Int)).toUInt32 &&& Int32.toUInt32 31).toNat % 32 = k.val := by decide
theorem b_ushr_n {n k : Nat} (hn : n < 2147483648) (hk : k < 31) : b_ushr (n : Int) (k : Int) = ((n >>> k : Nat) : Int) := by
  have hA : (Int32.ofInt (n : Int)).toUInt32.toNat = n := by
    show (Int32.ofInt (n : Int)).toBitVec.toNat = n
    rw [i32_n, BitVec.toNat_ofNat, Nat.mod_eq_of_lt (by omega)]
  have hB := ush_k ⟨k, hk⟩
  simp only at hB
  have hX : ((Int32.ofInt (n : Int)).toUInt32 >>> ((Int32.ofInt (k : Int)).toUInt32 &&& Int32.toUInt32 31)).toNat = n >>> k := by
    rw [UInt32.toNat_shiftRight, hA, hB]
  have hs : n >>> k ≤ n := by rw [Nat.shiftRight_eq_div_pow]; exact Nat.div_le_self _ _
  unfold b_ushr
  generalize (Int32.ofInt (n : Int)).toUInt32 >>> ((Int32.ofInt (k : Int)).toUInt32 &&& Int32.toUInt32 31) = X at hX
  show X.toBitVec.toInt = _
  have hX' : X.toBitVec.toNat = n >>> k := hX
  rw [BitVec.toInt_eq_toNat_of_lt (by omega), hX']
def sw1 (n : Nat) : Nat := n - Nat.land (Nat.shiftRight n 1) 1431655765
def sw4 (n : Nat) : Nat := Nat.land n 858993459 + Nat.land (Nat.shiftRight n 2) 858993459
def sw7 (n : Nat) : Nat := Nat.land (n + Nat.shiftRight n 4) 252645135
def sw10 (n : Nat) : Nat := n + Nat.shiftRight n 8
def sw13 (n : Nat) : Nat := n + Nat.shiftRight n 16
def swarN (n : Nat) : Nat := Nat.land (sw13 (sw10 (sw7 (sw4 (sw1 n))))) 63
theorem shr_le (n k : Nat) : n >>> k ≤ n := by rw [Nat.shiftRight_eq_div_pow]; exact Nat.div_le_self _ _
theorem bc_n {n : Nat} (hn : n < 65536) : X6_bitCount_v (n : Int) = (swarN n : Nat) := by
  have l1 := shr_le n 1
  have m1 : (n >>> 1) &&& 1431655765 ≤ n >>> 1 := Nat.and_le_left
  have e1 : w32 ((n : Int) - b_and (b_ushr (n : Int) 1) 1431655765) = (sw1 n : Nat) := by
    have a := b_ushr_n (n := n) (k := 1) (by omega) (by omega)
    have b := b_and_n (n := n >>> 1) (m := 1431655765) (by omega) (by omega)
    rw [show (1 : Int) = ((1 : Nat) : Int) from rfl, a, show (1431655765 : Int) = ((1431655765 : Nat) : Int) from rfl, b, w32_eq (by omega) (by omega)]
    show (n : Int) - ((n >>> 1 &&& 1431655765 : Nat) : Int) = ((n - (n >>> 1 &&& 1431655765) : Nat) : Int)
    omega
  have b1 : sw1 n ≤ n := Nat.sub_le _ _
  have e4 : ∀ m : Nat, m ≤ 65536 → w32 (b_and (m : Int) 858993459 + b_and (b_ushr (m : Int) 2) 858993459) = (sw4 m : Nat) ∧ sw4 m ≤ 131072 := by
    intro m hm
    have l2 := shr_le m 2
    have a := b_ushr_n (n := m) (k := 2) (by omega) (by omega)
    have b := b_and_n (n := m >>> 2) (m := 858993459) (by omega) (by omega)
    have c := b_and_n (n := m) (m := 858993459) (by omega) (by omega)
    have i1 : m &&& 858993459 ≤ m := Nat.and_le_left
    have i2 : m >>> 2 &&& 858993459 ≤ m >>> 2 := Nat.and_le_left
    have es : sw4 m = (m &&& 858993459) + (m >>> 2 &&& 858993459) := rfl
    rw [show (2 : Int) = ((2 : Nat) : Int) from rfl, a, show (858993459 : Int) = ((858993459 : Nat) : Int) from rfl, b, c, w32_eq (by omega) (by omega), es]
    exact ⟨by omega, by omega⟩
  have e7 : ∀ m : Nat, m ≤ 131072 → b_and (w32 ((m : Int) + b_ushr (m : Int) 4)) 252645135 = (sw7 m : Nat) ∧ sw7 m ≤ 262144 := by
    intro m hm
    have l2 := shr_le m 4
    have a := b_ushr_n (n := m) (k := 4) (by omega) (by omega)
    have b := b_and_n (n := m + m >>> 4) (m := 252645135) (by omega) (by omega)
    have i1 : (m + m >>> 4) &&& 252645135 ≤ m + m >>> 4 := Nat.and_le_left
    have es : sw7 m = (m + m >>> 4) &&& 252645135 := rfl
    have ec : ((m + m >>> 4 : Nat) : Int) = (m : Int) + ((m >>> 4 : Nat) : Int) := by omega
    rw [show (4 : Int) = ((4 : Nat) : Int) from rfl, a, w32_eq (by omega) (by omega), ← ec, show (252645135 : Int) = ((252645135 : Nat) : Int) from rfl, b, es]
    exact ⟨rfl, by omega⟩
  have e10 : ∀ m : Nat, m ≤ 262144 → w32 ((m : Int) + b_ushr (m : Int) 8) = (sw10 m : Nat) ∧ sw10 m ≤ 524288 := by
    intro m hm
    have l2 := shr_le m 8
    have a := b_ushr_n (n := m) (k := 8) (by omega) (by omega)
    have es : sw10 m = m + m >>> 8 := rfl
    rw [show (8 : Int) = ((8 : Nat) : Int) from rfl, a, w32_eq (by omega) (by omega), es]
    exact ⟨by omega, by omega⟩
  have e13 : ∀ m : Nat, m ≤ 524288 → w32 ((m : Int) + b_ushr (m : Int) 16) = (sw13 m : Nat) ∧ sw13 m ≤ 1048576 := by
    intro m hm
    have l2 := shr_le m 16
    have a := b_ushr_n (n := m) (k := 16) (by omega) (by omega)
    have es : sw13 m = m + m >>> 16 := rfl
    rw [show (16 : Int) = ((16 : Nat) : Int) from rfl, a, w32_eq (by omega) (by omega), es]
    exact ⟨by omega, by omega⟩
  have f4 := e4 (sw1 n) (by omega)
  have f7 := e7 (sw4 (sw1 n)) f4.2
  have f10 := e10 (sw7 (sw4 (sw1 n))) f7.2
  have f13 := e13 (sw10 (sw7 (sw4 (sw1 n)))) f10.2
  unfold X6_bitCount_v
  simp only
  rw [e1, f4.1, f7.1, f10.1, f13.1]
  exact b_and_n (n := sw13 (sw10 (sw7 (sw4 (sw1 n))))) (m := 63) (by omega) (by omega)
/-- how many of the lowest k bits -/
def pcK (n : Nat) : Nat → Nat
  | 0 => 0
  | k + 1 => pcK n k + (if n.testBit k = true then 1 else 0)
theorem pcK_c {m n : Nat} : ∀ {k : Nat}, (∀ j, j < k → m.testBit j = n.testBit j) → pcK m k = pcK n k
  | 0, _ => rfl
  | k + 1, h => by
    unfold pcK
    rw [pcK_c (k := k) (fun j q => h j (by omega)), h k (by omega)]
theorem pcK_le (n : Nat) : ∀ k, pcK n k ≤ k
  | 0 => Nat.le_refl 0
  | k + 1 => by
    have := pcK_le n k
    unfold pcK
    split <;> omega
def swK : Nat → Nat → Nat → Bool
  | 0, lo, c => Nat.beq (swarN lo) c
  | d + 1, lo, c => swK d lo c && swK d (lo + 2 ^ d) (c + 1)
theorem swK_s : ∀ (d lo c : Nat), swK d lo c = true → ∀ m, m < 2 ^ d → swarN (lo + m) = c + pcK m d
  | 0, lo, c, h, m, hm => by
    have e : m = 0 := by omega
    rw [e]
    exact Nat.eq_of_beq_eq_true h
  | d + 1, lo, c, h, m, hm => by
    unfold swK at h
    rw [Bool.and_eq_true] at h
    by_cases q : m < 2 ^ d
    · have e := swK_s d lo c h.1 m q
      unfold pcK
      rw [Nat.testBit_lt_two_pow q, if_neg (by decide), Nat.add_zero]
      exact e
    · obtain ⟨m', rfl⟩ : ∃ m', m = 2 ^ d + m' := ⟨m - 2 ^ d, by omega⟩
      have hm' : m' < 2 ^ d := by rw [Nat.pow_succ] at hm; omega
      have e := swK_s d (lo + 2 ^ d) (c + 1) h.2 m' hm'
      have e2 : pcK (2 ^ d + m') d = pcK m' d := pcK_c (fun j q => Nat.testBit_two_pow_add_gt q m')
      unfold pcK
      rw [e2, Nat.testBit_two_pow_add_eq, Nat.testBit_lt_two_pow hm', if_pos (by decide), ← Nat.add_assoc, e]
      omega
theorem swK_0 : swK 13 0 0 = true := by decide +kernel
theorem swK_1 : swK 13 8192 1 = true := by decide +kernel
theorem swK_2 : swK 13 16384 1 = true := by decide +kernel
theorem swK_3 : swK 13 24576 2 = true := by decide +kernel
theorem swK_4 : swK 13 32768 1 = true := by decide +kernel
theorem swK_5 : swK 13 40960 2 = true := by decide +kernel
theorem swK_6 : swK 13 49152 2 = true := by decide +kernel
theorem swK_7 : swK 13 57344 3 = true := by decide +kernel
theorem swK_a {d lo c : Nat} (h1 : swK d lo c = true) (h2 : swK d (lo + 2 ^ d) (c + 1) = true) : swK (d + 1) lo c = true := by
  unfold swK
  rw [h1, h2]
  rfl
theorem swK_16 : swK 16 0 0 = true := swK_a (swK_a (swK_a swK_0 swK_1) (swK_a swK_2 swK_3)) (swK_a (swK_a swK_4 swK_5) (swK_a swK_6 swK_7))
/-- the bits of a set of yards -/
def pc (n : Nat) : Nat := pcK n 16
theorem c_bc {n : Nat} (hn : n < 65536) : X6_bitCount_v (n : Int) = (pc n : Nat) := by
  have e := swK_s 16 0 0 swK_16 n hn
  rw [Nat.zero_add, Nat.zero_add] at e
  rw [bc_n hn, e]
  rfl
theorem pcK_b (m : Nat) : ∀ d, pcK m (d + 1) = m % 2 + pcK (m / 2) d
  | 0 => by
    have h := Nat.mod_two_eq_zero_or_one m
    unfold pcK pcK
    rw [Nat.testBit_zero]
    rcases h with h | h
    · rw [h]; rfl
    · rw [h]; rfl
  | d + 1 => by
    have e : pcK m (d + 1 + 1) = pcK m (d + 1) + (if m.testBit (d + 1) = true then 1 else 0) := rfl
    have e2 : pcK (m / 2) (d + 1) = pcK (m / 2) d + (if (m / 2).testBit d = true then 1 else 0) := rfl
    rw [e, e2, pcK_b m d, Nat.testBit_succ]
    omega
theorem pcK_k : ∀ (d m : Nat), 0 < m → m < 2 ^ d → pcK (m &&& (m - 1)) d + 1 = pcK m d
  | 0, m, h0, h1 => by omega
  | d + 1, m, h0, h1 => by
    rw [Nat.pow_succ] at h1
    rw [pcK_b, pcK_b m d, Nat.and_div_two]
    have h := Nat.mod_two_eq_zero_or_one m
    have am : (m &&& (m - 1)) % 2 = 0 := by
      have h2 := Nat.mod_two_eq_zero_or_one (m &&& (m - 1))
      rcases h2 with h2 | h2
      · exact h2
      · have := Nat.and_mod_two_eq_one.mp h2
        omega
    rw [am]
    rcases h with h | h
    · have e : (m - 1) / 2 = m / 2 - 1 := by omega
      rw [e, h]
      have := pcK_k d (m / 2) (by omega) (by omega)
      omega
    · have e : (m - 1) / 2 = m / 2 := by omega
      rw [e, h, Nat.and_self]
      omega
theorem pc_0 : pc 0 = 0 := by
  unfold pc
  have : ∀ k, pcK 0 k = 0 := by
    intro k
    induction k with
    | zero => rfl
    | succ k ih =>
      unfold pcK
      rw [ih, Nat.zero_testBit]
      rfl
  exact this 16
theorem m_ones {n : Nat} (hn : n < 65536) : Ok (X5_onesOf (n : Int)) (fun r => r = ((pc n : Nat) : Int)) := by
  unfold X5_onesOf
  refine okB (P := fun z : Int × Int => z.1 = ((pc n : Nat) : Int)) ?_ (fun z q => okS q)
  refine okLoop (fun s => ∃ c m : Nat, s.1 = (c : Int) ∧ s.2 = (m : Int) ∧ m < 65536 ∧ c + pc m = pc n) (fun s => s.2.toNat) ?_ ⟨0, n, rfl, rfl, hn, by omega⟩
  rintro ⟨c', m'⟩ ⟨c, m, e1, e2, hm, hp⟩
  simp only at e1 e2
  subst e1
  subst e2
  have pl := pcK_le n 16
  have pn : pc n ≤ 16 := pl
  unfold X5_onesOf_s1
  simp only
  refine okI (fun q => okL (okS ⟨⟨c + 1, m &&& (m - 1), ?_, ?_, ?_, ?_⟩, ?_⟩)) (fun q => okS ?_)
  · simp only
    rw [w32_eq (by omega) (by omega)]
    omega
  · have ec : (m : Int) - 1 = ((m - 1 : Nat) : Int) := by omega
    simp only
    rw [w32_eq (by omega) (by omega), ec]
    exact b_and_n (by omega) (by omega)
  · have := Nat.and_le_left (n := m) (m := m - 1)
    omega
  · have := pcK_k 16 m (by omega) hm
    have e : pc (m &&& (m - 1)) + 1 = pc m := this
    omega
  · have ec : (m : Int) - 1 = ((m - 1 : Nat) : Int) := by omega
    simp only
    rw [w32_eq (by omega) (by omega), ec, b_and_n (by omega) (by omega)]
    have := Nat.and_le_right (n := m) (m := m - 1)
    omega
  · have e : m = 0 := by omega
    rw [e, pc_0] at hp
    show (c : Int) = _
    rw [← hp]
    rfl
