/-! the text: write, wipe, place -/
section Text
variable {S T : q_S} {V : v_V} {b : v_B} {Q : q_Q} {Z : q_Z}
theorem j_J_t (h : n_fr [2, 37] [(1, 1), (36, 0), (36, 2)] S T) (ht : j_t T) (hJ : j_J S V b) : j_J T V b := by
  obtain ⟨-, h2, ⟨h3, h4, h5⟩, ⟨h6, h7⟩, h8, h9⟩ := hJ
  have e0 : T 0 = S 0 := n_fr_c h (by decide)
  have e9 : T 9 = S 9 := n_fr_c h (by decide)
  have e27 : T 27 = S 27 := n_fr_c h (by decide)
  have e3 : T 36 3 = S 36 3 := n_fr_f h (by decide)
  have e4 : T 36 4 = S 36 4 := n_fr_f h (by decide)
  have e24 : T 36 24 = S 36 24 := n_fr_f h (by decide)
  unfold v_bm v_bc at *
  refine ⟨ht, by rw [e9, e3]; exact h2, ⟨h3, ?_, ?_⟩, ⟨by rw [e4, e0]; exact h6, ?_⟩, by rw [e24, e27]; exact h8, ?_⟩
  · unfold v_bm
    rw [n_fr_c h (k := 52) (by decide), n_fr_c h (k := 53) (by decide)]; exact h4
  · unfold v_bc
    rw [n_fr_c h (k := 24) (by decide), n_fr_c h (k := 25) (by decide)]; exact h5
  · rw [e0]
    rcases h7 with h7 | ⟨h7, h10⟩
    · exact Or.inl h7
    · exact Or.inr ⟨h7, j_g_fr h (by decide) (by decide) h10⟩
  · rw [e27, e0]
    rcases h9 with h9 | ⟨h9, h10, h11⟩
    · exact Or.inl h9
    · exact Or.inr ⟨h9, h10, j_p_fr h (by decide) (by decide) h11⟩
-- the bytes of a long
def v_by (x i : Int) : Int := q_and (q_wint (q_wush x (8 * i))) 255
theorem v_by_bv (x k : Int) (s : Nat) (hs : s ≤ 56) (h1 : (((Int32.ofInt k).toInt64 &&& 63).toBitVec.smod 64).toNat = s) (h2 : ((Int32.ofInt k).toInt64.toUInt64 &&& Int64.toUInt64 63).toBitVec.toNat % 64 = s) : q_wint (q_wand (q_wshr x k) 255) = q_and (q_wint (q_wush x k)) 255 ∧ 0 ≤ q_and (q_wint (q_wush x k)) 255 ∧ q_and (q_wint (q_wush x k)) 255 ≤ 255 := by
  have a1 : q_wint (q_wand (q_wshr x k) 255) = (((Int64.ofInt x).toBitVec.sshiftRight s &&& 255#64).setWidth 32).toInt := by
    unfold q_wint q_wand q_wshr
    rw [Int64.ofInt_toInt, Int64.ofInt_toInt]
    show (Int64.toInt32 _).toBitVec.toInt = _
    have e : (Int64.ofInt x >>> ((Int32.ofInt k).toInt64 &&& 63)).toBitVec = (Int64.ofInt x).toBitVec.sshiftRight s := by
      rw [Int64.toBitVec_shiftRight, BitVec.sshiftRight_eq', h1]
    show BitVec.toInt (BitVec.signExtend 32 _) = _
    rw [BitVec.signExtend_eq_setWidth_of_le _ (by decide), Int64.toBitVec_and, e]
    rfl
  have a2 : q_and (q_wint (q_wush x k)) 255 = (((Int64.ofInt x).toBitVec >>> s).setWidth 32 &&& 255#32).toInt := by
    unfold q_and q_wint q_wush
    rw [Int64.ofInt_toInt, Int32.ofInt_toInt]
    show BitVec.toInt (Int32.toBitVec _) = _
    rw [Int32.toBitVec_and]
    have e : ((Int64.ofInt x).toUInt64 >>> ((Int32.ofInt k).toInt64.toUInt64 &&& Int64.toUInt64 63)).toBitVec = (Int64.ofInt x).toBitVec >>> s := by
      rw [UInt64.toBitVec_shiftRight, BitVec.ushiftRight_eq', BitVec.toNat_umod]
      have e64 : BitVec.toNat (64 : BitVec 64) = 64 := by decide
      rw [e64, h2]; rfl
    show BitVec.toInt (BitVec.signExtend 32 _ &&& _) = _
    rw [BitVec.signExtend_eq_setWidth_of_le _ (by decide)]
    show BitVec.toInt (BitVec.setWidth 32 (((Int64.ofInt x).toUInt64 >>> ((Int32.ofInt k).toInt64.toUInt64 &&& Int64.toUInt64 63)).toBitVec) &&& _) = _
    rw [e]
    rfl
  have a3 : ((Int64.ofInt x).toBitVec.sshiftRight s &&& 255#64).setWidth 32 = ((Int64.ofInt x).toBitVec >>> s).setWidth 32 &&& 255#32 := by
    refine BitVec.eq_of_getLsbD_eq fun j hj => ?_
    rw [BitVec.getLsbD_setWidth, BitVec.getLsbD_and, BitVec.getLsbD_and, BitVec.getLsbD_setWidth, BitVec.getLsbD_sshiftRight, BitVec.getLsbD_ushiftRight]
    have m : ∀ j : Nat, j < 32 → (255#64).getLsbD j = (255#32).getLsbD j ∧ (8 ≤ j → (255#32).getLsbD j = false) := by decide
    by_cases h8 : j < 8
    · have : s + j < 64 := by omega
      rw [(m j hj).1]
      have hj64 : j < 64 := by omega
      have hj65 : ¬ 64 ≤ j := by omega
      simp [hj, this, hj64, hj65]
    · rw [(m j hj).1, (m j hj).2 (by omega)]
      simp
  have a4 : (((Int64.ofInt x).toBitVec >>> s).setWidth 32 &&& 255#32).toNat ≤ 255 := by
    rw [BitVec.toNat_and]
    exact Nat.and_le_right
  rw [a1, a2, a3]
  refine ⟨rfl, ?_⟩
  rw [BitVec.toInt_eq_toNat_of_lt (by omega)]
  omega
theorem v_by_eq (x i : Int) (hi : 0 ≤ i ∧ i < 8) : q_wint (q_wand (q_wshr x (8 * i)) 255) = v_by x i ∧ 0 ≤ v_by x i ∧ v_by x i ≤ 255 := by
  have h8 : i = 0 ∨ i = 1 ∨ i = 2 ∨ i = 3 ∨ i = 4 ∨ i = 5 ∨ i = 6 ∨ i = 7 := by omega
  unfold v_by
  rcases h8 with rfl | rfl | rfl | rfl | rfl | rfl | rfl | rfl
  · exact v_by_bv x (8 * 0) 0 (by decide) (by decide) (by decide)
  · exact v_by_bv x (8 * 1) 8 (by decide) (by decide) (by decide)
  · exact v_by_bv x (8 * 2) 16 (by decide) (by decide) (by decide)
  · exact v_by_bv x (8 * 3) 24 (by decide) (by decide) (by decide)
  · exact v_by_bv x (8 * 4) 32 (by decide) (by decide) (by decide)
  · exact v_by_bv x (8 * 5) 40 (by decide) (by decide) (by decide)
  · exact v_by_bv x (8 * 6) 48 (by decide) (by decide) (by decide)
  · exact v_by_bv x (8 * 7) 56 (by decide) (by decide) (by decide)
end Text
