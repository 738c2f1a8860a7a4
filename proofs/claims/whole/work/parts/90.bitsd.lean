/-! the class builds the states -/
theorem n_shl_1 {a : Int} (h0 : 0 ≤ a) (h1 : a < 1073741824) : q_shl a 1 = 2 * a := by
  obtain ⟨n, rfl⟩ := Int.eq_ofNat_of_zero_le h0
  have hn : n < 1073741824 := by omega
  have e : q_shl (n : Int) 1 = ((2 * n : Nat) : Int) := by
    unfold q_shl
    refine n_toInt ?_ (by omega)
    rw [Int32.toBitVec_shiftLeft, n_bv (by omega)]
    have : ((Int32.ofInt 1 &&& 31).toBitVec.smod 32) = BitVec.ofNat 32 1 := by decide +kernel
    rw [this]
    simp [Nat.shiftLeft_eq]
    omega
  rw [e]; omega
theorem n_bit_2 {a : Int} (h0 : 0 ≤ a) (d : Nat) : n_bit (2 * a) d = true ↔ 1 ≤ d ∧ n_bit a (d - 1) = true := by
  obtain ⟨n, rfl⟩ := Int.eq_ofNat_of_zero_le h0
  unfold n_bit
  have e : (2 * (n : Int)).toNat = 2 * n := by omega
  rw [e, Int.toNat_natCast]
  cases d with
  | zero => simp
  | succ d => simp [Nat.testBit_succ]
theorem n_lt16 {a : Int} (ha : n_sm a) (h : ∀ i : Nat, 4 ≤ i → n_bit a i = false) : a < 16 := by
  have := Nat.lt_pow_two_of_testBit a.toNat (n := 4) (fun i hi => h i hi)
  have := ha.1
  omega
theorem n_bneg (a : Int) : q_and a (-2) = q_and a (q_xor 1 (-1)) := by
  have : q_xor 1 (-1) = -2 := by decide +kernel
  rw [this]
theorem n_bit_1 (i : Nat) : n_bit 1 i = true ↔ i = 0 := by
  unfold n_bit
  cases i with
  | zero => simp
  | succ i => simp [Nat.testBit_succ]
