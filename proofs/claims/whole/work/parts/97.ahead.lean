/-! what may stand behind, and bits of longs -/
def x_sc (V : v_V) (s p d : Int) : Prop := (0 ≤ s ∧ s < vSt V) ∧ vIt V s p d = 1 ∧ d < vSz V p
def x_st2 (V : v_V) (K : Int → Int → Int → Nat → Prop) (s p d : Int) (t : Nat) : Prop := x_rp V (x_nu V) (x_Fi V) p (d + 1) t ∨ (x_nr V (x_nu V) p (d + 1) ∧ K s p d t)
def x_Ah (V : v_V) (s p d : Int) (t : Nat) : Prop := ∀ K : Int → Int → Int → Nat → Prop, K 0 0 0 8 → (∀ s p d t, x_sc V s p d → K s p d t → K (vGo V s (vLt V p d)) p (d + 1) t) → (∀ s p d q t, x_sc V s p d → 1 ≤ q → q ≤ vP V → vLf V q = vLt V p d → x_st2 V K s p d t → K s q 0 t) → K s p d t
section Ahead
variable {V : v_V}
theorem x_Ah_0 : x_Ah V 0 0 0 8 := fun _ h _ _ => h
theorem x_Ah_g {s p d : Int} {t : Nat} (h : x_sc V s p d) (q : x_Ah V s p d t) : x_Ah V (vGo V s (vLt V p d)) p (d + 1) t := fun K k0 k1 k2 => k1 s p d t h (q K k0 k1 k2)
theorem x_Ah_c {s p d r : Int} {t : Nat} (h : x_sc V s p d) (r1 : 1 ≤ r) (r2 : r ≤ vP V) (e : vLf V r = vLt V p d) (q : x_st2 V (x_Ah V) s p d t) : x_Ah V s r 0 t := fun K k0 k1 k2 => k2 s p d r t h r1 r2 e (by
  rcases q with q | ⟨q1, q2⟩
  · exact Or.inl q
  · exact Or.inr ⟨q1, q2 K k0 k1 k2⟩)
theorem x_sc_v (hB : x_B V (16 * vSt V)) {s p d : Int} (h : x_sc V s p d) : x_va V p d := hB.2.2.2.2.1 s p d h.1.1 h.1.2 h.2.1
theorem x_sc_g (hV : v_gw V) (hB : x_B V (16 * vSt V)) {s p d : Int} (h : x_sc V s p d) : 0 ≤ vGo V s (vLt V p d) ∧ vGo V s (vLt V p d) < vSt V := by
  have va := x_sc_v hB h
  have z := hV.2.2.1 p d va.1.1 va.1.2 va.2.1 h.2.2
  rcases hB.2.2.2.2.2 s (vLt V p d) h.1.1 h.1.2 z.1 (by omega) (by have := h.1.2; omega) with ⟨-, q⟩ | ⟨q, -⟩
  · refine absurd ⟨?_, ?_, ?_, ?_⟩ (q p (d + 1))
    · have := va.2.1; omega
    · rw [show d + 1 - 1 = d by omega]; exact h.2.1
    · rw [show d + 1 - 1 = d by omega]; exact h.2.2
    · rw [show d + 1 - 1 = d by omega]
  · exact q
theorem x_Ah_r (hV : v_gw V) (hB : x_B V (16 * vSt V)) {s p d : Int} {t : Nat} (h : x_Ah V s p d t) : ((0 ≤ s ∧ s < vSt V) ∧ x_va V p d) ∧ t < 9 := by
  have hP := hV.1
  have z0 := hV.2.1 0 (by omega) (by omega)
  refine h (fun s p d t => ((0 ≤ s ∧ s < vSt V) ∧ x_va V p d) ∧ t < 9) ⟨⟨by have := hB.1; omega, ⟨by omega, by omega⟩, by omega, z0.1⟩, by omega⟩ (fun s p d t hs q => ?_) (fun s p d r t hs r1 r2 e q => ?_)
  · have va := x_sc_v hB hs
    exact ⟨⟨x_sc_g hV hB hs, va.1, by have := va.2.1; omega, by have := hs.2.2; omega⟩, q.2⟩
  · have va := x_sc_v hB hs
    refine ⟨⟨hs.1, ⟨by omega, r2⟩, by omega, (hV.2.1 r (by omega) r2).1⟩, ?_⟩
    rcases q with q | ⟨-, q⟩
    · have := x_rp_8 hV va.1 (by have := va.2.1; omega) q
      omega
    · exact q.2
end Ahead
def w_sm (a : Int) : Prop := 0 ≤ a ∧ a < 9223372036854775808
theorem w_sm_nat {a : Int} (h : w_sm a) : a.toNat < 2 ^ 63 := by have := h.1; have := h.2; omega
theorem w_bv {a : Int} (h0 : 0 ≤ a) : (Int64.ofInt a).toBitVec = BitVec.ofNat 64 a.toNat := by
  obtain ⟨n, rfl⟩ := Int.eq_ofNat_of_zero_le h0
  show BitVec.ofInt 64 (n : Int) = _
  simp
theorem w_toInt {x : Int64} {n : Nat} (h : x.toBitVec.toNat = n) (hn : n < 2 ^ 63) : x.toInt = (n : Int) := by
  show x.toBitVec.toInt = _
  rw [BitVec.toInt_eq_toNat_of_lt (by omega), h]
theorem w_or {a b : Int} (ha : w_sm a) (hb : w_sm b) : q_wor a b = ((a.toNat ||| b.toNat : Nat) : Int) := by
  have h1 := w_sm_nat ha
  have h2 := w_sm_nat hb
  unfold q_wor
  refine w_toInt ?_ (Nat.or_lt_two_pow h1 h2)
  rw [Int64.toBitVec_or, w_bv ha.1, w_bv hb.1, BitVec.toNat_or, BitVec.toNat_ofNat, BitVec.toNat_ofNat, Nat.mod_eq_of_lt (by omega), Nat.mod_eq_of_lt (by omega)]
theorem w_or_sm {a b : Int} (ha : w_sm a) (hb : w_sm b) : w_sm (q_wor a b) := by
  rw [w_or ha hb]
  have := Nat.or_lt_two_pow (w_sm_nat ha) (w_sm_nat hb)
  exact ⟨by omega, by omega⟩
theorem w_bit_or {a b : Int} (ha : w_sm a) (hb : w_sm b) (i : Nat) : n_bit (q_wor a b) i = (n_bit a i || n_bit b i) := by
  rw [w_or ha hb]
  unfold n_bit
  simp
theorem w_shl1 {k : Int} (h0 : 0 ≤ k) (h1 : k < 63) : q_wshl 1 k = ((2 ^ k.toNat : Nat) : Int) := by
  obtain ⟨n, rfl⟩ := Int.eq_ofNat_of_zero_le h0
  have hn : n < 63 := by omega
  have key : ∀ n : Nat, n < 63 → q_wshl 1 (n : Int) = ((2 ^ n : Nat) : Int) := by
    have : (List.range 63).all (fun n : Nat => decide (q_wshl 1 (n : Int) = ((2 ^ n : Nat) : Int))) = true := by decide +kernel
    intro n hn
    exact of_decide_eq_true (List.all_eq_true.mp this n (List.mem_range.mpr hn))
  exact key n hn
theorem w_shl1_sm {k : Int} (h0 : 0 ≤ k) (h1 : k < 63) : w_sm (q_wshl 1 k) := by
  rw [w_shl1 h0 h1]
  have : 2 ^ k.toNat < 2 ^ 63 := Nat.pow_lt_pow_right (by decide) (by omega)
  exact ⟨Int.natCast_nonneg _, Int.ofNat_lt.mpr this⟩
theorem w_bit_shl1 {k : Int} (h0 : 0 ≤ k) (h1 : k < 63) (i : Nat) : n_bit (q_wshl 1 k) i = decide (k = (i : Int)) := by
  rw [w_shl1 h0 h1]
  unfold n_bit
  have e : ((2 ^ k.toNat : Nat) : Int).toNat = 2 ^ k.toNat := Int.toNat_natCast _
  rw [e, Nat.testBit_two_pow]
  congr 1
  apply propext
  omega
theorem w_sub1 {k : Int} (h0 : 0 ≤ k) (h1 : k < 63) : w_sm (q_wsub (q_wshl 1 k) 1) ∧ ∀ i, n_bit (q_wsub (q_wshl 1 k) 1) i = decide ((i : Int) < k) := by
  obtain ⟨n, rfl⟩ := Int.eq_ofNat_of_zero_le h0
  have hn : n < 63 := by omega
  have key : ∀ n : Nat, n < 63 → q_wsub (q_wshl 1 (n : Int)) 1 = ((2 ^ n - 1 : Nat) : Int) := by
    have : (List.range 63).all (fun n : Nat => decide (q_wsub (q_wshl 1 (n : Int)) 1 = ((2 ^ n - 1 : Nat) : Int))) = true := by decide +kernel
    intro n hn
    exact of_decide_eq_true (List.all_eq_true.mp this n (List.mem_range.mpr hn))
  rw [key n hn]
  have : 2 ^ n < 2 ^ 63 := Nat.pow_lt_pow_right (by decide) (by omega)
  refine ⟨⟨Int.natCast_nonneg _, Int.ofNat_lt.mpr (Nat.lt_of_le_of_lt (Nat.sub_le _ _) this)⟩, fun i => ?_⟩
  unfold n_bit
  rw [Int.toNat_natCast, Nat.testBit_two_pow_sub_one]
  congr 1
  apply propext
  omega
theorem w_andn {a b : Int} (ha : w_sm a) (hb : w_sm b) : w_sm (q_wand a (q_wxor b (-1))) ∧ ∀ i, n_bit (q_wand a (q_wxor b (-1))) i = (n_bit a i && !n_bit b i) := by
  have h1 := w_sm_nat ha
  have h2 := w_sm_nat hb
  have e0 : Int64.ofInt (q_wxor b (-1)) = Int64.ofInt b ^^^ Int64.ofInt (-1) := by
    unfold q_wxor
    exact Int64.ofInt_toInt _
  have e1 : (Int64.ofInt a &&& (Int64.ofInt b ^^^ Int64.ofInt (-1))).toBitVec = BitVec.ofNat 64 a.toNat &&& ~~~ BitVec.ofNat 64 b.toNat := by
    rw [Int64.toBitVec_and, Int64.toBitVec_xor, w_bv ha.1, w_bv hb.1]
    have : (Int64.ofInt (-1)).toBitVec = BitVec.allOnes 64 := by decide
    rw [this, BitVec.xor_allOnes]
  have e2 : (BitVec.ofNat 64 a.toNat &&& ~~~ BitVec.ofNat 64 b.toNat).toNat < 2 ^ 63 := by
    rw [BitVec.toNat_and, BitVec.toNat_ofNat, Nat.mod_eq_of_lt (by omega)]
    exact Nat.lt_of_le_of_lt Nat.and_le_left h1
  have e3 : q_wand a (q_wxor b (-1)) = (((BitVec.ofNat 64 a.toNat &&& ~~~ BitVec.ofNat 64 b.toNat).toNat : Nat) : Int) := by
    unfold q_wand
    rw [e0]
    exact w_toInt (by rw [e1]) e2
  refine ⟨by rw [e3]; exact ⟨by omega, by omega⟩, fun i => ?_⟩
  rw [e3]
  unfold n_bit
  have e4 : (((BitVec.ofNat 64 a.toNat &&& ~~~ BitVec.ofNat 64 b.toNat).toNat : Nat) : Int).toNat = (BitVec.ofNat 64 a.toNat &&& ~~~ BitVec.ofNat 64 b.toNat).toNat := by omega
  rw [e4, BitVec.testBit_toNat, BitVec.getLsbD_and, BitVec.getLsbD_not, BitVec.getLsbD_ofNat, BitVec.getLsbD_ofNat]
  by_cases hi : i < 64
  · simp [hi]
  · have : a.toNat.testBit i = false := Nat.testBit_lt_two_pow (Nat.lt_of_lt_of_le h1 (Nat.pow_le_pow_right (by decide) (by omega)))
    simp [hi, this]
theorem w_zero {a : Int} (ha : w_sm a) : a = 0 ↔ ∀ i, n_bit a i = false := by
  constructor
  · rintro rfl i
    unfold n_bit
    simp
  · intro h
    have : a.toNat = 0 := by
      refine Nat.eq_of_testBit_eq fun i => ?_
      rw [Nat.zero_testBit]
      exact h i
    have := ha.1
    omega
theorem w_cmp0 (a : Int) : q_wcmp a 0 = 0 ↔ a = 0 := by
  unfold q_wcmp
  by_cases h : a < 0
  · rw [if_pos h]; omega
  · rw [if_neg h]
    by_cases h2 : a = 0
    · rw [if_pos h2]; exact ⟨fun _ => h2, fun _ => rfl⟩
    · rw [if_neg h2]; exact ⟨fun q => by omega, fun q => absurd q h2⟩
theorem w_shr1 {a k : Int} (ha : w_sm a) (h0 : 0 ≤ k) (h1 : k < 63) : q_wand (q_wshr a k) 1 = (if n_bit a k.toNat then 1 else 0) := by
  obtain ⟨n, rfl⟩ := Int.eq_ofNat_of_zero_le h0
  have hn : n < 63 := by omega
  have h2 := w_sm_nat ha
  have hk : ((Int32.ofInt (n : Int)).toInt64 &&& 63).toBitVec.smod 64 = BitVec.ofNat 64 n := by
    have : (List.range 63).all (fun n => decide (((Int32.ofInt (n : Int)).toInt64 &&& 63).toBitVec.smod 64 = BitVec.ofNat 64 n)) = true := by decide +kernel
    exact of_decide_eq_true (List.all_eq_true.mp this n (List.mem_range.mpr hn))
  have eb : (Int64.ofInt a >>> ((Int32.ofInt (n : Int)).toInt64 &&& 63)).toBitVec = BitVec.ofNat 64 (a.toNat >>> n) := by
    rw [Int64.toBitVec_shiftRight, hk, w_bv ha.1]
    have hm : (BitVec.ofNat 64 a.toNat).msb = false := by
      rw [BitVec.msb_eq_false_iff_two_mul_lt, BitVec.toNat_ofNat, Nat.mod_eq_of_lt (by omega)]
      omega
    rw [BitVec.sshiftRight_eq', BitVec.sshiftRight_eq_of_msb_false hm]
    apply BitVec.eq_of_toNat_eq
    rw [BitVec.toNat_ushiftRight, BitVec.toNat_ofNat, BitVec.toNat_ofNat, BitVec.toNat_ofNat, Nat.mod_eq_of_lt (by omega), Nat.mod_eq_of_lt (by omega), Nat.mod_eq_of_lt (Nat.lt_of_le_of_lt (Nat.shiftRight_le _ _) (by omega))]
  have e0 : Int64.ofInt (q_wshr a (n : Int)) = Int64.ofInt a >>> ((Int32.ofInt (n : Int)).toInt64 &&& 63) := by
    unfold q_wshr
    exact Int64.ofInt_toInt _
  have e1 : (Int64.ofInt (q_wshr a (n : Int)) &&& Int64.ofInt 1).toBitVec.toNat = a.toNat >>> n &&& 1 := by
    rw [Int64.toBitVec_and, e0, eb, BitVec.toNat_and, BitVec.toNat_ofNat, Nat.mod_eq_of_lt (Nat.lt_of_le_of_lt (Nat.shiftRight_le _ _) (by omega))]
    rfl
  have le : a.toNat >>> n &&& 1 ≤ 1 := Nat.and_le_right
  have e2 : q_wand (q_wshr a (n : Int)) 1 = ((a.toNat >>> n &&& 1 : Nat) : Int) := by
    unfold q_wand
    exact w_toInt e1 (by omega)
  rw [e2, Int.toNat_natCast]
  unfold n_bit
  have e3 : a.toNat.testBit n = decide (a.toNat >>> n &&& 1 = 1) := by
    unfold Nat.testBit
    rw [Nat.and_comm]
    cases h : (a.toNat >>> n &&& 1) with
    | zero => simp
    | succ m =>
      have : m = 0 := by omega
      subst this
      simp
  rw [e3]
  by_cases h : a.toNat >>> n &&& 1 = 1
  · simp [h]
  · have : a.toNat >>> n &&& 1 = 0 := by omega
    simp [this]
