/-! rows of masks that grow to a least set -/
def x_sN (N : Nat) (L : Int → Nat → Prop) (M : Int → Int) : Prop := ∀ n : Int, 0 ≤ n → n < N → n_sm (M n) ∧ ∀ t : Nat, n_bit (M n) t = true → L n t
def x_cN (N : Nat) (L : Int → Nat → Prop) (M : Int → Int) : Prop := ∀ n : Int, 0 ≤ n → n < N → ∀ t : Nat, L n t → n_bit (M n) t = true
def x_gN (N : Nat) (M M' : Int → Int) : Prop := ∀ n : Int, 0 ≤ n → n < N → ∀ t : Nat, n_bit (M n) t = true → n_bit (M' n) t = true
noncomputable def x_cn (N T : Nat) (M : Int → Int) : Nat := n_ct (fun e => n_bit (M (e / T)) (e % T).toNat = true) (N * T)
section Grow
variable {N T : Nat} {L : Int → Nat → Prop} {M M' M'' : Int → Int}
theorem x_cn_le : x_cn N T M ≤ N * T := n_ct_le _ _
theorem x_gN_r : x_gN N M M := fun _ _ _ _ h => h
theorem x_gN_t (h : x_gN N M M') (h' : x_gN N M' M'') : x_gN N M M'' := fun n a b t q => h' n a b t (h n a b t q)
theorem x_ix {n t T : Int} (hT : 0 < T) (h0 : 0 ≤ t) (h1 : t < T) : (t + T * n) / T = n ∧ (t + T * n) % T = t := by
  constructor
  · rw [Int.add_mul_ediv_left _ _ (by omega), Int.ediv_eq_zero_of_lt h0 h1]; omega
  · rw [Int.add_mul_emod_self_left, Int.emod_eq_of_lt h0 h1]
theorem x_ixr {e N T : Int} (hT : 0 < T) (h0 : 0 ≤ e) (h1 : e < N * T) : 0 ≤ e / T ∧ e / T < N := ⟨Int.ediv_nonneg h0 (by omega), Int.ediv_lt_of_lt_mul hT h1⟩
theorem x_ixb {n t N T : Int} (h0 : 0 ≤ t) (h1 : t < T) (n0 : 0 ≤ n) (n1 : n < N) : 0 ≤ t + T * n ∧ t + T * n < N * T := by
  have a := Int.mul_nonneg (show 0 ≤ T by omega) n0
  have b : T * (n + 1) ≤ T * N := Int.mul_le_mul_of_nonneg_left (by omega) (by omega)
  rw [Int.mul_add, Int.mul_one] at b
  rw [Int.mul_comm N T]
  omega
theorem x_cn_m (hT : 0 < T) (hg : x_gN N M M') : x_cn N T M ≤ x_cn N T M' := by
  refine n_ct_mono _ fun e e0 e1 h => ?_
  have := x_ixr (N := N) (T := T) (e := e) (by omega) e0 (by rw [← Int.natCast_mul]; exact e1)
  exact hg _ this.1 this.2 _ h
theorem x_pass {r : Nat} (hT : 0 < T) (hL : ∀ n t, L n t → t < T) (hs : x_sN N L M) (hs' : x_sN N L M') (hg : x_gN N M M') (hst : (∀ n : Int, 0 ≤ n → n < N → M' n = M n) → x_cN N L M) (h : x_cN N L M ∨ r ≤ x_cn N T M) : x_cN N L M' ∨ r + 1 ≤ x_cn N T M' := by
  by_cases e : ∃ (n : Int) (t : Nat), (0 ≤ n ∧ n < N) ∧ n_bit (M' n) t = true ∧ n_bit (M n) t = false
  · rcases h with h | h
    · exact Or.inl fun n n0 n1 t q => hg n n0 n1 t (h n n0 n1 t q)
    · obtain ⟨n, t, n1, t1, t2⟩ := e
      have tT := hL n t ((hs' n n1.1 n1.2).2 t t1)
      have ix := x_ix (n := n) (t := t) (T := T) (by omega) (by omega) (by omega)
      have ib := x_ixb (n := n) (t := t) (T := T) (N := N) (by omega) (by omega) n1.1 n1.2
      have : x_cn N T M < x_cn N T M' := by
        refine n_ct_lt _ (fun e e0 e1 h => ?_) ⟨(t : Int) + T * n, ⟨ib.1, by rw [Int.natCast_mul]; exact ib.2⟩, ?_, ?_⟩
        · have := x_ixr (N := N) (T := T) (e := e) (by omega) e0 (by rw [← Int.natCast_mul]; exact e1)
          exact hg _ this.1 this.2 _ h
        · rw [ix.1, ix.2, Int.toNat_natCast]; exact t1
        · rw [ix.1, ix.2, Int.toNat_natCast, t2]; decide
      exact Or.inr (by omega)
  · refine Or.inl ?_
    have same : ∀ n : Int, 0 ≤ n → n < N → M' n = M n := fun n n0 n1 => n_ext (hs' n n0 n1).1 (hs n n0 n1).1 fun t => by
      cases e1 : n_bit (M' n) t <;> cases e2 : n_bit (M n) t
      · rfl
      · rw [hg n n0 n1 t e2] at e1; cases e1
      · exact absurd ⟨n, t, ⟨n0, n1⟩, e1, e2⟩ e
      · rfl
    intro n n0 n1 t q
    exact hg n n0 n1 t (hst same n n0 n1 t q)
end Grow
/-- what a row begins with, N what is nullable, K what the nonterminals begin with -/
def x_rp (V : v_V) (N : Int → Prop) (K : Int → Nat → Prop) (p i : Int) (t : Nat) : Prop := ∃ j, (i ≤ j ∧ j < vSz V p) ∧ (∀ l, i ≤ l → l < j → N (vLt V p l)) ∧ (vLt V p j = 8 + t ∨ (vLt V p j < 8 ∧ K (vLt V p j) t))
def x_nr (V : v_V) (N : Int → Prop) (p i : Int) : Prop := ∀ l, i ≤ l → l < vSz V p → N (vLt V p l)
def x_nu (V : v_V) (n : Int) : Prop := x_gr V (fun _ => False) n
def x_Fi (V : v_V) (n : Int) (t : Nat) : Prop := ∀ K : Int → Nat → Prop, (∀ p t, 1 ≤ p → p ≤ vP V → x_rp V (x_nu V) K p 0 t → K (vLf V p) t) → K n t
def x_fs (V : v_V) (K : Int → Nat → Prop) (p i : Int) (t : Nat) : Prop := x_rp V (x_nu V) (x_Fi V) p i t ∨ (x_nr V (x_nu V) p i ∧ K (vLf V p) t)
def x_Fo (V : v_V) (n : Int) (t : Nat) : Prop := ∀ K : Int → Nat → Prop, K (vLf V 1) 8 → (∀ p i t, 1 ≤ p → p ≤ vP V → 0 ≤ i → i < vSz V p → vLt V p i < 8 → x_fs V K p (i + 1) t → K (vLt V p i) t) → K n t
def n_mb (M : Int → Int) (n : Int) (t : Nat) : Prop := n_bit (M n) t = true
section SetsA
variable {V : v_V} {N : Int → Prop} {K K' : Int → Nat → Prop}
theorem x_rp_m (h : ∀ n t, 0 ≤ n → n < 8 → K n t → K' n t) (hV : v_gw V) {p i : Int} {t : Nat} (hp : 0 ≤ p ∧ p ≤ vP V) (i0 : 0 ≤ i) (q : x_rp V N K p i t) : x_rp V N K' p i t := by
  obtain ⟨j, j1, j2, j3⟩ := q
  refine ⟨j, j1, j2, ?_⟩
  rcases j3 with j3 | ⟨j3, j4⟩
  · exact Or.inl j3
  · have := hV.2.2.1 p j hp.1 hp.2 (by omega) j1.2
    exact Or.inr ⟨j3, h _ _ this.1 j3 j4⟩
theorem x_Fi_c {p : Int} {t : Nat} (h1 : 1 ≤ p) (h2 : p ≤ vP V) (h : x_rp V (x_nu V) (x_Fi V) p 0 t) : x_Fi V (vLf V p) t := by
  intro K hK
  refine hK p t h1 h2 ?_
  obtain ⟨j, j1, j2, j3⟩ := h
  refine ⟨j, j1, j2, ?_⟩
  rcases j3 with j3 | ⟨j3, j4⟩
  · exact Or.inl j3
  · exact Or.inr ⟨j3, j4 K hK⟩
theorem x_Fi_r (hV : v_gw V) {n : Int} {t : Nat} (h : x_Fi V n t) : (0 ≤ n ∧ n ≤ 7) ∧ t < 8 := by
  refine h (fun n t => (0 ≤ n ∧ n ≤ 7) ∧ t < 8) fun p t p1 p2 q => ⟨hV.2.2.2 p p1 p2, ?_⟩
  obtain ⟨j, j1, j2, j3⟩ := q
  have := hV.2.2.1 p j (by omega) p2 (by omega) j1.2
  rcases j3 with j3 | ⟨j3, j4⟩
  · omega
  · exact j4.2
theorem x_rp_8 (hV : v_gw V) {p i : Int} {t : Nat} (hp : 0 ≤ p ∧ p ≤ vP V) (i0 : 0 ≤ i) (q : x_rp V N (x_Fi V) p i t) : t < 8 := by
  obtain ⟨j, j1, j2, j3⟩ := q
  have := hV.2.2.1 p j hp.1 hp.2 (by omega) j1.2
  rcases j3 with j3 | ⟨j3, j4⟩
  · omega
  · exact (x_Fi_r hV j4).2
theorem x_Fo_c {p i : Int} {t : Nat} (h1 : 1 ≤ p) (h2 : p ≤ vP V) (i0 : 0 ≤ i) (i1 : i < vSz V p) (i8 : vLt V p i < 8) (h : x_fs V (x_Fo V) p (i + 1) t) : x_Fo V (vLt V p i) t := by
  intro K k0 hK
  refine hK p i t h1 h2 i0 i1 i8 ?_
  rcases h with h | ⟨h, h'⟩
  · exact Or.inl h
  · exact Or.inr ⟨h, h' K k0 hK⟩
theorem x_Fo_0 : x_Fo V (vLf V 1) 8 := fun _ h _ => h
theorem x_Fo_r (hV : v_gw V) {n : Int} {t : Nat} (h : x_Fo V n t) : (0 ≤ n ∧ n ≤ 7) ∧ t < 9 := by
  have := hV.1
  refine h (fun n t => (0 ≤ n ∧ n ≤ 7) ∧ t < 9) ⟨hV.2.2.2 1 (by omega) this.1, by omega⟩ fun p i t p1 p2 i0 i1 i8 q => ⟨⟨(hV.2.2.1 p i (by omega) p2 i0 i1).1, by omega⟩, ?_⟩
  rcases q with q | ⟨-, q⟩
  · have := x_rp_8 hV ⟨by omega, p2⟩ (by omega) q
    omega
  · exact q.2
theorem x_nu_8 (hV : v_gw V) {n : Int} (h : x_nu V n) : 0 ≤ n ∧ n ≤ 7 := x_gr_r hV h
end SetsA
