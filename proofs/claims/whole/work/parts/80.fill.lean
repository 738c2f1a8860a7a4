/-! Arrays.fill, for the cells that it is called with -/
section Fill
variable {S : q_S} {Q : q_Q} {Z : q_Z} {v : Int}
theorem n_fill {k : Nat} {N : Int} (hN : 0 ≤ N ∧ N < 10000) (h0 : ∀ (S : q_S), q_r 176 5 [vR k, vI v, vI 0, vI N] [] S Q Z → q_c 176 [vR k, vI v] S Q Z)
    (h5 : ∀ (S : q_S) (i : Int), ((i ≥ N → Q 0 S) ∧ (¬ i ≥ N → 0 ≤ i ∧ i < N ∧ q_rg (i + 1) ∧ q_r 176 5 [vR k, vI v, vI (i + 1), vI N] [] (q_up S k i v) Q Z)) → q_r 176 5 [vR k, vI v, vI i, vI N] [] S Q Z)
    (h : ∀ S', n_fr [k] [] S S' → (∀ i, 0 ≤ i → i < N → S' k i = v) → Q 0 S') : q_c 176 [vR k, vI v] S Q Z := by
  have kk : [k].contains k = true := by simp
  have key : ∀ (i : Int) (T : q_S), i ≤ N → (0 ≤ i ∧ n_fr [k] [] S T ∧ ∀ j, 0 ≤ j → j < i → T k j = v) → q_r 176 5 [vR k, vI v, vI i, vI N] [] T Q Z := by
    refine n_for N (fun (i : Int) (T : q_S) => 0 ≤ i ∧ n_fr [k] [] S T ∧ ∀ j, 0 ≤ j → j < i → T k j = v) (fun (i : Int) (T : q_S) => q_r 176 5 [vR k, vI v, vI i, vI N] [] T Q Z) ?_ ?_
    · rintro T ⟨-, f, e⟩
      exact h5 T N ⟨fun _ => h T f e, fun g => by omega⟩
    · rintro i T ⟨i0, f, e⟩ hi ih
      refine h5 T i ⟨fun g => by omega, fun _ => ⟨i0, hi, by unfold q_rg; omega, ih (q_up T k i v) ⟨by omega, n_fr_k f kk, fun j j0 j1 => ?_⟩⟩⟩
      rw [n_up]
      by_cases q : j = i
      · rw [if_pos ⟨rfl, q⟩]
      · rw [if_neg (fun q2 => q q2.2)]; exact e j j0 (by omega)
  exact h0 S (key 0 S hN.1 ⟨by omega, n_fr_r, fun j j0 j1 => by omega⟩)
theorem f_6 (h : ∀ S', n_fr [6] [] S S' → (∀ i, 0 ≤ i → i < 8 → S' 6 i = v) → Q 0 S') : q_c 176 [vR 6, vI v] S Q Z := n_fill (by decide) (fun _ h => q_blk 5 h) (fun _ _ h => q_blk 10 h) h
theorem f_11 (h : ∀ S', n_fr [11] [] S S' → (∀ i, 0 ≤ i → i < 8 → S' 11 i = v) → Q 0 S') : q_c 176 [vR 11, vI v] S Q Z := n_fill (by decide) (fun _ h => q_blk 5 h) (fun _ _ h => q_blk 10 h) h
theorem f_13 (h : ∀ S', n_fr [13] [] S S' → (∀ i, 0 ≤ i → i < 8 → S' 13 i = v) → Q 0 S') : q_c 176 [vR 13, vI v] S Q Z := n_fill (by decide) (fun _ h => q_blk 5 h) (fun _ _ h => q_blk 10 h) h
theorem f_14 (h : ∀ S', n_fr [14] [] S S' → (∀ i, 0 ≤ i → i < 8 → S' 14 i = v) → Q 0 S') : q_c 176 [vR 14, vI v] S Q Z := n_fill (by decide) (fun _ h => q_blk 5 h) (fun _ _ h => q_blk 10 h) h
theorem f_19 (h : ∀ S', n_fr [19] [] S S' → (∀ i, 0 ≤ i → i < 256 → S' 19 i = v) → Q 0 S') : q_c 176 [vR 19, vI v] S Q Z := n_fill (by decide) (fun _ h => q_blk 5 h) (fun _ _ h => q_blk 10 h) h
theorem f_20 (h : ∀ S', n_fr [20] [] S S' → (∀ i, 0 ≤ i → i < 16 → S' 20 i = v) → Q 0 S') : q_c 176 [vR 20, vI v] S Q Z := n_fill (by decide) (fun _ h => q_blk 5 h) (fun _ _ h => q_blk 10 h) h
theorem f_22 (h : ∀ S', n_fr [22] [] S S' → (∀ i, 0 ≤ i → i < 3200 → S' 22 i = v) → Q 0 S') : q_c 176 [vR 22, vI v] S Q Z := n_fill (by decide) (fun _ h => q_blk 5 h) (fun _ _ h => q_blk 10 h) h
end Fill
