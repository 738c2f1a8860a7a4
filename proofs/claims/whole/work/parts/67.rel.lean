/-! the law's invariant: class and reference stand for one abstract state -/
def v_tok (c : Int) : Int := if c = 46 then 8 else if c < 97 ∨ 104 < c then -1 else c - 97
def v_sym (c : Int) : Int := if 65 ≤ c ∧ c ≤ 72 then c - 65 else if 97 ≤ c ∧ c ≤ 104 then c - 97 + 8 else -1
def v_cod (y : Int) : Int := if y < 8 then 65 + y else 97 + y - 8
section Leaf
variable {S : q_S} {Q : q_Q} {Z : q_Z}
theorem v_tok_r (c : Int) : -1 ≤ v_tok c ∧ v_tok c ≤ 8 := by
  unfold v_tok
  split
  · omega
  · split <;> omega
theorem v_sym_r (c : Int) : -1 ≤ v_sym c ∧ v_sym c ≤ 15 := by
  unfold v_sym
  split
  · omega
  · split <;> omega
theorem c_26 {c : Int} (h : Q (v_tok c) S) : q_c 26 [vI c] S Q Z := by
  unfold v_tok at h
  refine b_26_0 ⟨fun h1 => ⟨fun h2 => ?_, fun h2 => ⟨fun h3 => ?_, fun h3 => ⟨by unfold q_rg; omega, ?_⟩⟩⟩, fun h1 => ?_⟩
  · rw [if_neg h1, if_pos (by omega)] at h; exact h
  · rw [if_neg h1, if_pos (by omega)] at h; exact h
  · rw [if_neg h1, if_neg (by omega)] at h; exact h
  · rw [if_pos (by omega)] at h; exact h
theorem m_31 {c : Int} (h : Q (v_tok c) S) : q_c 31 [vI c] S Q Z := by
  unfold v_tok at h
  refine b_31_0 ⟨fun h1 => ⟨fun h2 => ?_, fun h2 => ⟨fun h3 => ?_, fun h3 => ⟨by unfold q_rg; omega, ?_⟩⟩⟩, fun h1 => ?_⟩
  · rw [if_neg h1, if_pos (by omega)] at h; exact h
  · rw [if_neg h1, if_pos (by omega)] at h; exact h
  · rw [if_neg h1, if_neg (by omega)] at h; exact h
  · rw [if_pos (by omega)] at h; exact h
theorem c_25 {c : Int} (h : Q (v_sym c) S) : q_c 25 [vI c] S Q Z := by
  unfold v_sym at h
  refine b_25_0 ?_
  repeat' (first | omega | apply And.intro | intro _)
  · rw [if_neg (by omega), if_neg (by omega)] at h; exact h
  · rw [if_neg (by omega), if_neg (by omega)] at h; exact h
  · rw [if_neg (by omega), if_neg (by omega)] at h; exact h
  · rw [if_neg (by omega), if_pos (by omega), show c - 97 + 8 = 8 + c - 97 by omega] at h; exact h
  · rw [if_pos (by omega)] at h; exact h
theorem m_29 {c : Int} (h : Q (v_sym c) S) : q_c 29 [vI c] S Q Z := by
  unfold v_sym at h
  refine b_29_0 ?_
  repeat' (first | omega | apply And.intro | intro _)
  · rw [if_neg (by omega), if_neg (by omega)] at h; exact h
  · rw [if_neg (by omega), if_neg (by omega)] at h; exact h
  · rw [if_neg (by omega), if_neg (by omega)] at h; exact h
  · rw [if_neg (by omega), if_pos (by omega)] at h; exact h
  · rw [if_pos (by omega)] at h; exact h
theorem c_27 {y : Int} (hy : 0 ≤ y ∧ y ≤ 15) (h : Q (v_cod y) S) : q_c 27 [vI y] S Q Z := by
  unfold v_cod at h
  refine b_27_0 ⟨fun h1 => ⟨by unfold q_rg; omega, by unfold q_rg; omega, ?_⟩, fun h1 => ⟨by unfold q_rg; omega, ?_⟩⟩
  · rw [if_neg (by omega)] at h; exact h
  · rw [if_pos (by omega)] at h; exact h
theorem m_30 {y : Int} (hy : 0 ≤ y ∧ y ≤ 15) (h : Q (v_cod y) S) : q_c 30 [vI y] S Q Z := by
  unfold v_cod at h
  refine b_30_0 ⟨fun h1 => ⟨by unfold q_rg; omega, by unfold q_rg; omega, ?_⟩, fun h1 => ⟨by unfold q_rg; omega, ?_⟩⟩
  · rw [if_neg (by omega)] at h; exact h
  · rw [if_pos (by omega)] at h; exact h
theorem c_24 {c : Int} (h : v_tok c ≠ -1 → Q (v_tok c) S) (hz : v_tok c = -1 → S 65 0 < 1000 ∧ Z 0 (q_tk S)) : q_c 24 [vI c] S Q Z := by
  refine b_24_0 ?_
  refine c_26 ⟨fun h1 => h h1, fun h1 => hz (by omega)⟩
end Leaf
/-- what the parser needs of the states -/
def v_px (V : v_V) : Prop := (∀ s y, 0 ≤ s → s < vSt V → 0 ≤ y → y < 16 → vGo V s y ≠ -1 → ∀ p d, 1 ≤ d → vIt V (vGo V s y) p d = 1 → vIt V s p (d - 1) = 1 ∧ vLt V p (d - 1) = y) ∧ (∀ p d, 1 ≤ d → vIt V 0 p d ≠ 1) ∧ (∀ s p, 0 ≤ s → s < vSt V → 1 ≤ p → vIt V s p 0 = 1 → vGo V s (vLf V p) ≠ -1)
def v_nn (V : v_V) : Prop := ∀ n, vNu V n = 0 ∨ vNu V n = 1
def j_t (S : q_S) : Prop := S 1 1 = S 36 2 ∧ (0 ≤ S 1 1 ∧ S 1 1 ≤ 200) ∧ ∀ i, 0 ≤ i → i < S 1 1 → S 37 i = S 2 i ∧ 32 ≤ S 2 i ∧ S 2 i ≤ 126
def j_g (S : q_S) (V : v_V) : Prop := v_wf V ∧ v_wi V ∧ v_px V ∧ v_nn V ∧ v_rm S V ∧ v_rc S V
def j_nz (S : q_S) (V : v_V) (k : Int) : Int := if S 32 k = 0 then 0 else vSz V (S 32 k)
def j_p (S : q_S) (V : v_V) : Prop := S 36 25 = S 27 1 ∧ (0 ≤ S 27 1 ∧ S 27 1 ≤ 3) ∧ S 36 28 = S 27 2 ∧ (1 ≤ S 27 2 ∧ S 27 2 ≤ S 27 10) ∧ S 36 29 = S 27 3 ∧ (0 ≤ S 27 3 ∧ S 27 3 ≤ S 30 5) ∧ S 36 30 = S 30 5 ∧ (0 ≤ S 30 5 ∧ S 30 5 ≤ S 27 11) ∧ S 36 26 = S 27 10 ∧ S 27 10 ≤ 24 ∧ S 36 27 = S 27 11 ∧ S 27 11 ≤ 60
  ∧ (∀ k, 0 ≤ k → k < S 27 2 → S 54 k = S 28 k ∧ 0 ≤ S 28 k ∧ S 28 k < vSt V) ∧ S 28 0 = 0 ∧ (∀ k, 1 ≤ k → k < S 27 2 → ∃ y, (0 ≤ y ∧ y < 16) ∧ vGo V (S 28 (k - 1)) y = S 28 k) ∧ (∀ k, 1 ≤ k → k < S 27 2 → S 55 k = S 29 k ∧ 0 ≤ S 29 k ∧ S 29 k < S 30 5)
  ∧ (∀ k, 0 ≤ k → k < S 30 5 → (0 ≤ S 31 k ∧ S 31 k ≤ 15) ∧ S 56 k = v_cod (S 31 k) ∧ S 57 k = S 32 k ∧ (0 ≤ S 32 k ∧ S 32 k ≤ vP V) ∧ S 58 k = j_nz S V k ∧ S 59 k = S 33 k ∧ S 60 k = S 34 k ∧ ∀ i, 0 ≤ i → i < S 58 k → S 61 (4 * k + i) = S 35 (4 * k + i))
def j_J (S : q_S) (V : v_V) (b : v_B) : Prop := j_t S ∧ S 9 0 = S 36 3 ∧ (v_bw b ∧ v_bm S b ∧ v_bc S b) ∧ (S 36 4 = S 0 9 ∧ (S 0 9 = 0 ∨ S 0 9 = 1 ∧ j_g S V)) ∧ (S 36 24 = S 27 0 ∧ (S 27 0 = 0 ∨ S 27 0 = 1 ∧ S 0 9 = 1 ∧ j_p S V))
/-- the same but for what the law itself writes and the reference's note of what it threw -/
def j_ag (S T : q_S) : Prop := ∀ k i, ¬ (k = 36 ∧ i = 0) → k ≠ 62 → k ≠ 65 → T k i = S k i
section Agree
variable {S T : q_S} {V : v_V} {b : v_B}
theorem j_ag_f (h : j_ag S T) {k : Nat} (h1 : k ≠ 36) (h2 : k ≠ 62) (h3 : k ≠ 65) : T k = S k := funext fun i => h k i (fun e => h1 e.1) h2 h3
theorem j_ag_36 (h : j_ag S T) {i : Int} (h1 : i ≠ 0) : T 36 i = S 36 i := h 36 i (fun e => h1 e.2) (by decide) (by decide)
theorem j_ag_r : j_ag S S := fun _ _ _ _ _ => rfl
theorem j_ag_t {U : q_S} (h : j_ag S T) (h' : j_ag T U) : j_ag S U := fun k i h1 h2 h3 => (h' k i h1 h2 h3).trans (h k i h1 h2 h3)
theorem j_ag_62 {a : Int} : j_ag S (q_up S 62 0 a) := fun k i _ h2 _ => by rw [n_up, if_neg (fun e => h2 e.1)]
theorem j_ag_tk : j_ag S (q_tk S) := fun k i _ _ h3 => by unfold q_tk; rw [n_up, if_neg (fun e => h3 e.1)]
theorem j_ag_0 {a : Int} : j_ag S (q_up S 36 0 a) := fun k i h1 _ _ => by rw [n_up, if_neg h1]
theorem j_J_ag (h : j_ag S T) (hJ : j_J S V b) : j_J T V b := by
  unfold j_J j_t j_g j_p j_nz v_rm v_rc v_bm v_bc at hJ ⊢
  rw [j_ag_f h (k := 0) (by decide) (by decide) (by decide), j_ag_f h (k := 1) (by decide) (by decide) (by decide), j_ag_f h (k := 2) (by decide) (by decide) (by decide), j_ag_f h (k := 3) (by decide) (by decide) (by decide), j_ag_f h (k := 4) (by decide) (by decide) (by decide), j_ag_f h (k := 5) (by decide) (by decide) (by decide), j_ag_f h (k := 6) (by decide) (by decide) (by decide), j_ag_f h (k := 8) (by decide) (by decide) (by decide), j_ag_f h (k := 9) (by decide) (by decide) (by decide),
    j_ag_f h (k := 12) (by decide) (by decide) (by decide), j_ag_f h (k := 13) (by decide) (by decide) (by decide), j_ag_f h (k := 14) (by decide) (by decide) (by decide), j_ag_f h (k := 16) (by decide) (by decide) (by decide), j_ag_f h (k := 17) (by decide) (by decide) (by decide), j_ag_f h (k := 18) (by decide) (by decide) (by decide), j_ag_f h (k := 22) (by decide) (by decide) (by decide), j_ag_f h (k := 24) (by decide) (by decide) (by decide), j_ag_f h (k := 25) (by decide) (by decide) (by decide),
    j_ag_f h (k := 27) (by decide) (by decide) (by decide), j_ag_f h (k := 28) (by decide) (by decide) (by decide), j_ag_f h (k := 29) (by decide) (by decide) (by decide), j_ag_f h (k := 30) (by decide) (by decide) (by decide), j_ag_f h (k := 31) (by decide) (by decide) (by decide), j_ag_f h (k := 32) (by decide) (by decide) (by decide), j_ag_f h (k := 33) (by decide) (by decide) (by decide), j_ag_f h (k := 34) (by decide) (by decide) (by decide), j_ag_f h (k := 35) (by decide) (by decide) (by decide),
    j_ag_f h (k := 37) (by decide) (by decide) (by decide), j_ag_f h (k := 38) (by decide) (by decide) (by decide), j_ag_f h (k := 39) (by decide) (by decide) (by decide), j_ag_f h (k := 40) (by decide) (by decide) (by decide), j_ag_f h (k := 43) (by decide) (by decide) (by decide), j_ag_f h (k := 45) (by decide) (by decide) (by decide), j_ag_f h (k := 46) (by decide) (by decide) (by decide), j_ag_f h (k := 47) (by decide) (by decide) (by decide), j_ag_f h (k := 48) (by decide) (by decide) (by decide), j_ag_f h (k := 49) (by decide) (by decide) (by decide), j_ag_f h (k := 50) (by decide) (by decide) (by decide), j_ag_f h (k := 52) (by decide) (by decide) (by decide), j_ag_f h (k := 53) (by decide) (by decide) (by decide), j_ag_f h (k := 54) (by decide) (by decide) (by decide), j_ag_f h (k := 55) (by decide) (by decide) (by decide), j_ag_f h (k := 56) (by decide) (by decide) (by decide), j_ag_f h (k := 57) (by decide) (by decide) (by decide), j_ag_f h (k := 58) (by decide) (by decide) (by decide), j_ag_f h (k := 59) (by decide) (by decide) (by decide), j_ag_f h (k := 60) (by decide) (by decide) (by decide), j_ag_f h (k := 61) (by decide) (by decide) (by decide),
    j_ag_36 h (i := 2) (by decide), j_ag_36 h (i := 3) (by decide), j_ag_36 h (i := 4) (by decide), j_ag_36 h (i := 5) (by decide), j_ag_36 h (i := 17) (by decide), j_ag_36 h (i := 24) (by decide), j_ag_36 h (i := 25) (by decide), j_ag_36 h (i := 26) (by decide), j_ag_36 h (i := 27) (by decide), j_ag_36 h (i := 28) (by decide), j_ag_36 h (i := 29) (by decide), j_ag_36 h (i := 30) (by decide)]
  exact hJ
end Agree
-- answers with what was thrown: k the number of the exception by the law's helper
def j_sp (c1 c2 c3 : Prop) (R : Int → Prop) (k a : Int) : Prop := (c1 ∧ k = 1) ∨ (¬ c1 ∧ c2 ∧ k = 2) ∨ (¬ c1 ∧ ¬ c2 ∧ c3 ∧ k = 3) ∨ (¬ c1 ∧ ¬ c2 ∧ ¬ c3 ∧ k = 0 ∧ R a)
theorem j_sp_u {c1 c2 c3 : Prop} {R : Int → Prop} (hR : ∀ a a', R a → R a' → a = a') {k a k' a' : Int} (h : j_sp c1 c2 c3 R k a) (h' : j_sp c1 c2 c3 R k' a') : k = k' ∧ (k = 0 → a = a') := by
  rcases h with ⟨x1, x2⟩ | ⟨x1, x2, x3⟩ | ⟨x1, x2, x3, x4⟩ | ⟨x1, x2, x3, x4, x5⟩ <;> rcases h' with ⟨y1, y2⟩ | ⟨y1, y2, y3⟩ | ⟨y1, y2, y3, y4⟩ | ⟨y1, y2, y3, y4, y5⟩
  all_goals first | (exfalso; first | exact y1 x1 | exact x1 y1 | exact x2 y2 | exact y2 x2 | exact x3 y3 | exact y3 x3) | exact ⟨by omega, fun _ => hR _ _ (by assumption) (by assumption)⟩ | exact ⟨by omega, fun _ => by omega⟩
