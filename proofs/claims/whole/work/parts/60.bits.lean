/-! bits of ints that are not negative, as bits of naturals -/
theorem n_bv {a : Int} (h0 : 0 ≤ a) : (Int32.ofInt a).toBitVec = BitVec.ofNat 32 a.toNat := by
  obtain ⟨n, rfl⟩ := Int.eq_ofNat_of_zero_le h0
  show BitVec.ofInt 32 (n : Int) = _
  simp
theorem n_toInt {x : Int32} {n : Nat} (h : x.toBitVec.toNat = n) (hn : n < 2 ^ 31) : x.toInt = (n : Int) := by
  show x.toBitVec.toInt = _
  rw [BitVec.toInt_eq_toNat_of_lt (by omega), h]
def n_sm (a : Int) : Prop := 0 ≤ a ∧ a < 2147483648
theorem n_sm_nat {a : Int} (h : n_sm a) : a.toNat < 2 ^ 31 := by have := h.1; have := h.2; omega
theorem n_or {a b : Int} (ha : n_sm a) (hb : n_sm b) : q_or a b = ((a.toNat ||| b.toNat : Nat) : Int) := by
  have h1 := n_sm_nat ha
  have h2 := n_sm_nat hb
  unfold q_or
  refine n_toInt ?_ (Nat.or_lt_two_pow h1 h2)
  rw [Int32.toBitVec_or, n_bv ha.1, n_bv hb.1, BitVec.toNat_or, BitVec.toNat_ofNat, BitVec.toNat_ofNat, Nat.mod_eq_of_lt (by omega), Nat.mod_eq_of_lt (by omega)]
theorem n_and {a b : Int} (ha : n_sm a) (hb : n_sm b) : q_and a b = ((a.toNat &&& b.toNat : Nat) : Int) := by
  have h1 := n_sm_nat ha
  have h2 := n_sm_nat hb
  unfold q_and
  refine n_toInt ?_ (Nat.and_lt_two_pow _ h2)
  rw [Int32.toBitVec_and, n_bv ha.1, n_bv hb.1, BitVec.toNat_and, BitVec.toNat_ofNat, BitVec.toNat_ofNat, Nat.mod_eq_of_lt (by omega), Nat.mod_eq_of_lt (by omega)]
theorem n_or_sm {a b : Int} (ha : n_sm a) (hb : n_sm b) : n_sm (q_or a b) := by
  rw [n_or ha hb]
  have := Nat.or_lt_two_pow (n_sm_nat ha) (n_sm_nat hb)
  exact ⟨by omega, by omega⟩
theorem n_and_sm {a b : Int} (ha : n_sm a) (hb : n_sm b) : n_sm (q_and a b) := by
  rw [n_and ha hb]
  have := Nat.and_lt_two_pow a.toNat (n_sm_nat hb)
  exact ⟨by omega, by omega⟩
def n_bit (a : Int) (i : Nat) : Bool := a.toNat.testBit i
theorem n_bit_or {a b : Int} (ha : n_sm a) (hb : n_sm b) (i : Nat) : n_bit (q_or a b) i = (n_bit a i || n_bit b i) := by
  rw [n_or ha hb]
  unfold n_bit
  simp
theorem n_bit_and {a b : Int} (ha : n_sm a) (hb : n_sm b) (i : Nat) : n_bit (q_and a b) i = (n_bit a i && n_bit b i) := by
  rw [n_and ha hb]
  unfold n_bit
  simp
theorem n_shl1 {k : Int} (h0 : 0 ≤ k) (h1 : k < 31) : q_shl 1 k = ((2 ^ k.toNat : Nat) : Int) := by
  obtain ⟨n, rfl⟩ := Int.eq_ofNat_of_zero_le h0
  have hn : n < 31 := by omega
  have key : ∀ n : Nat, n < 31 → q_shl 1 (n : Int) = ((2 ^ n : Nat) : Int) := by
    have : (List.range 31).all (fun n : Nat => decide (q_shl 1 (n : Int) = ((2 ^ n : Nat) : Int))) = true := by decide +kernel
    intro n hn
    exact of_decide_eq_true (List.all_eq_true.mp this n (List.mem_range.mpr hn))
  exact key n hn
theorem n_shl1_sm {k : Int} (h0 : 0 ≤ k) (h1 : k < 31) : n_sm (q_shl 1 k) := by
  rw [n_shl1 h0 h1]
  have : 2 ^ k.toNat < 2 ^ 31 := Nat.pow_lt_pow_right (by decide) (by omega)
  exact ⟨Int.natCast_nonneg _, Int.ofNat_lt.mpr this⟩
theorem n_bit_shl1 {k : Int} (h0 : 0 ≤ k) (h1 : k < 31) (i : Nat) : n_bit (q_shl 1 k) i = decide (k = (i : Int)) := by
  rw [n_shl1 h0 h1]
  unfold n_bit
  have e : ((2 ^ k.toNat : Nat) : Int).toNat = 2 ^ k.toNat := Int.toNat_natCast _
  rw [e, Nat.testBit_two_pow]
  congr 1
  apply propext
  omega
/-- a >> k & 1 -/
theorem n_shr1 {a k : Int} (ha : n_sm a) (h0 : 0 ≤ k) (h1 : k < 32) : q_and (q_shr a k) 1 = (if n_bit a k.toNat then 1 else 0) := by
  obtain ⟨n, rfl⟩ := Int.eq_ofNat_of_zero_le h0
  have hn : n < 32 := by omega
  have h2 := n_sm_nat ha
  have e1 : q_shr a (n : Int) = ((a.toNat >>> n : Nat) : Int) := by
    unfold q_shr
    have hk : ((Int32.ofInt (n : Int) &&& 31).toBitVec.smod 32).toNat = n := by
      have : (List.range 32).all (fun n => decide (((Int32.ofInt (n : Int) &&& 31).toBitVec.smod 32).toNat = n)) = true := by decide +kernel
      exact of_decide_eq_true (List.all_eq_true.mp this n (List.mem_range.mpr hn))
    rw [pk_shr _ _ n hk, q_ti ⟨by have := ha.1; omega, by have := ha.2; omega⟩]
    obtain ⟨x, hx⟩ := Int.eq_ofNat_of_zero_le ha.1
    rw [hx]
    simp
  have h3 : n_sm (q_shr a (n : Int)) := by
    rw [e1]
    have : a.toNat >>> n ≤ a.toNat := Nat.shiftRight_le _ _
    exact ⟨Int.natCast_nonneg _, Int.ofNat_lt.mpr (Nat.lt_of_le_of_lt this h2)⟩
  rw [n_and h3 ⟨by decide, by decide⟩, e1]
  have e2 : (((a.toNat >>> n : Nat) : Int)).toNat = a.toNat >>> n := Int.toNat_natCast _
  rw [e2]
  unfold n_bit
  have e3 : ((n : Int)).toNat = n := by omega
  have e4 : (1 : Int).toNat = 1 := rfl
  rw [e3, e4, Nat.and_one_is_mod, Nat.testBit]
  rw [Nat.and_comm, Nat.and_one_is_mod]
  rcases Nat.mod_two_eq_zero_or_one (a.toNat >>> n) with h | h <;> simp [h]
/-- a masked by the complement of b -/
theorem n_andn {a b : Int} (ha : n_sm a) (hb : n_sm b) : n_sm (q_and a (q_xor b (-1))) ∧ ∀ i, n_bit (q_and a (q_xor b (-1))) i = (n_bit a i && !n_bit b i) := by
  have h1 := n_sm_nat ha
  have h2 := n_sm_nat hb
  have e0 : Int32.ofInt (q_xor b (-1)) = Int32.ofInt b ^^^ Int32.ofInt (-1) := Int32.ofInt_toInt _
  have e1 : (Int32.ofInt a &&& (Int32.ofInt b ^^^ Int32.ofInt (-1))).toBitVec = BitVec.ofNat 32 a.toNat &&& ~~~ BitVec.ofNat 32 b.toNat := by
    rw [Int32.toBitVec_and, Int32.toBitVec_xor, n_bv ha.1, n_bv hb.1]
    have : (Int32.ofInt (-1)).toBitVec = BitVec.allOnes 32 := by decide
    rw [this, BitVec.xor_allOnes]
  have e2 : (BitVec.ofNat 32 a.toNat &&& ~~~ BitVec.ofNat 32 b.toNat).toNat < 2 ^ 31 := by
    rw [BitVec.toNat_and, BitVec.toNat_ofNat, Nat.mod_eq_of_lt (by omega)]
    exact Nat.lt_of_le_of_lt Nat.and_le_left h1
  have e3 : q_and a (q_xor b (-1)) = (((BitVec.ofNat 32 a.toNat &&& ~~~ BitVec.ofNat 32 b.toNat).toNat : Nat) : Int) := by
    unfold q_and
    rw [e0]
    exact n_toInt (by rw [e1]) e2
  refine ⟨by rw [e3]; exact ⟨by omega, by omega⟩, fun i => ?_⟩
  rw [e3]
  unfold n_bit
  have e4 : (((BitVec.ofNat 32 a.toNat &&& ~~~ BitVec.ofNat 32 b.toNat).toNat : Nat) : Int).toNat = (BitVec.ofNat 32 a.toNat &&& ~~~ BitVec.ofNat 32 b.toNat).toNat := by omega
  rw [e4, BitVec.testBit_toNat, BitVec.getLsbD_and, BitVec.getLsbD_not, BitVec.getLsbD_ofNat, BitVec.getLsbD_ofNat]
  by_cases hi : i < 32
  · simp [hi]
  · have : a.toNat.testBit i = false := Nat.testBit_lt_two_pow (Nat.lt_of_lt_of_le h1 (Nat.pow_le_pow_right (by decide) (by omega)))
    simp [hi, this]
theorem n_zero {a : Int} (ha : n_sm a) : a = 0 ↔ ∀ i, n_bit a i = false := by
  constructor
  · rintro rfl i
    unfold n_bit
    simp
  · intro h
    have : a.toNat = 0 := by
      refine Nat.eq_of_testBit_eq fun i => ?_
      rw [Nat.zero_testBit]
      exact h i
    have := ha.1
    omega
theorem n_ext {a b : Int} (ha : n_sm a) (hb : n_sm b) (h : ∀ i, n_bit a i = n_bit b i) : a = b := by
  have : a.toNat = b.toNat := Nat.eq_of_testBit_eq h
  have := ha.1
  have := hb.1
  omega
-- reading behind a store
theorem n_up (S : q_S) (k : Nat) (i v : Int) (a : Nat) (j : Int) : q_up S k i v a j = if a = k ∧ j = i then v else S a j := by
  by_cases h : a = k
  · subst h
    rw [q_up_eq]
    by_cases h2 : j = i <;> simp [h2]
  · rw [q_up_ne h]
    simp [h]
-- loops
theorem n_wf {σ : Type} (μ : σ → Nat) (I G : σ → Prop) (h : ∀ x, I x → (∀ y, I y → μ y < μ x → G y) → G x) : ∀ x, I x → G x := by
  have key : ∀ n x, μ x < n → I x → G x := by
    intro n
    induction n with
    | zero => intro x hx; omega
    | succ n ih => intro x hx hi; exact h x hi (fun y hy hlt => ih y (by omega) hy)
  intro x hx
  exact key (μ x + 1) x (by omega) hx
theorem n_for {σ : Type} (hi : Int) (I G : Int → σ → Prop) (hx : ∀ x, I hi x → G hi x) (hs : ∀ i x, I i x → i < hi → (∀ y, I (i + 1) y → G (i + 1) y) → G i x) : ∀ (i : Int) (x : σ), i ≤ hi → I i x → G i x := by
  have key : ∀ (n : Nat) (i : Int) (x : σ), (hi - i).toNat = n → i ≤ hi → I i x → G i x := by
    intro n
    induction n with
    | zero =>
      intro i x hn hle h
      have : i = hi := by omega
      subst this
      exact hx x h
    | succ n ih => intro i x hn hle h; exact hs i x h (by omega) (fun y hy => ih (i + 1) y (by omega) (by omega) hy)
  intro i x
  exact key _ i x rfl
