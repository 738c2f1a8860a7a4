theorem l_start (Ls : Nat) (xs : Nat → Int32) : j_J (q_S0 Ls xs) (fun _ _ _ _ => 0) (fun _ => 0, fun _ => 0) := by
  have e : ∀ k : Nat, k < 63 → q_S0 Ls xs k = b_S k := fun k hk => q_S0_b hk
  refine ⟨?_, ?_, ⟨?_, ?_, ?_⟩, ⟨?_, Or.inl ?_⟩, ?_, Or.inl ?_⟩
  · unfold j_t
    rw [e 1 (by decide), e 36 (by decide)]
    refine ⟨by decide, by decide, fun i h0 h1 => ?_⟩
    have : b_S 1 1 = 0 := by decide
    omega
  · rw [e 9 (by decide), e 36 (by decide)]; decide
  · intro t _ _
    show (0 ≤ (0 : Int) ∧ (0 : Int) ≤ 9) ∧ (0 ≤ (0 : Int) ∧ (0 : Int) ≤ 2)
    decide
  · intro t _ _
    rw [e 52 (by decide), e 53 (by decide)]
    exact ⟨rfl, rfl⟩
  · intro t _ _
    rw [e 24 (by decide), e 25 (by decide)]
    exact ⟨rfl, rfl⟩
  · rw [e 36 (by decide), e 0 (by decide)]; decide
  · rw [e 0 (by decide)]; decide
  · rw [e 36 (by decide), e 27 (by decide)]; decide
  · rw [e 27 (by decide)]; decide
theorem l_goal (hRD : l_RD) (hTK : l_TK) : q_goal := by
  intro Ls xs h
  have e64 : q_S0 Ls xs 64 0 = Ls := rfl
  have e65 : q_S0 Ls xs 65 0 = 0 := rfl
  exact l_law hRD hTK _ 0 (q_S0 Ls xs) _ _ _ _ (Nat.lt_succ_self _) (by omega) (by omega) (by omega) (by omega) (l_start Ls xs)
