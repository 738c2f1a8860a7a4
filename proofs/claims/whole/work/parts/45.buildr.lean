/-! the small program is sound -/
section Build
variable {D : va_G} {cA : Nat → ClassId} {H0 : Heap} {y pc : Nat} {p : Program} {l : Launch} {e : Env} {R : Room} {s : State} {m : MethodId} {args : Array Value} {below : List Frame} {meth : Method} {c : Code} {H : Heap} {locs : List Loc} {cells slots : Nat} {ls : Array Slot} {Qf : State → Prop}
theorem b_dec {i : Instr} {n : Nat} (hy : y < 12) (h : b_cd y pc = some (i, n)) : decode (b_by y) pc = .ok (i, n) ∧ q_lk pc i n = true ∧ b_ckr y pc = true := by
  have hp : pc < b_sz y := by
    unfold b_cd at h
    cases hb : Nat.blt pc (b_sz y) <;> rw [hb] at h
    · cases h
    · exact b_blt hb
  have h1 := q_all_of (q_all_of b_k0 y hy) pc hp
  have h2 := h1
  unfold b_ckr at h1
  rw [h] at h1
  simp only [Bool.and_eq_true, decide_eq_true_eq] at h1
  exact ⟨h1.1.1, h1.1.2, h2⟩
theorem b_x400 {x z : Nat} (h : b_iv y x = some z) : x < 400 := by
  by_cases e2 : x < 400
  · exact e2
  · have : Nat.blt x 400 = false := by cases e3 : Nat.blt x 400 with | false => rfl | true => exact absurd (b_blt e3) e2
    unfold b_iv at h
    rw [this] at h
    cases h
theorem b_n400 {x z : Nat} (h : b_nw y x = some z) : x < 400 := by
  by_cases e2 : x < 400
  · exact e2
  · have : Nat.blt x 400 = false := by cases e3 : Nat.blt x 400 with | false => rfl | true => exact absurd (b_blt e3) e2
    unfold b_nw at h
    rw [this] at h
    cases h
theorem b_f400 {x : Nat} {z : Nat × Nat} (h : b_fl y x = some z) : x < 400 := by
  by_cases e2 : x < 400
  · exact e2
  · have : Nat.blt x 400 = false := by cases e3 : Nat.blt x 400 with | false => rfl | true => exact absurd (b_blt e3) e2
    unfold b_fl at h
    rw [this] at h
    cases h
theorem b_fl_o {x ci j : Nat} (hy : y < 12) (h : b_fl y x = some (ci, j)) : ∃ C T n, q_cls[ci]? = some (C, T, n) ∧ j < n ∧ (T j).1 = C ∧ Cond.fieldLink (q_own y) x C (T j).2.1 (T j).2.2.1 ∈ lw_tbl ∧ q_gd (Cond.fieldLink (q_own y) x C (T j).2.1 (T j).2.2.1) = true := by
  have h1 := q_all_of (q_all_of b_k1 y hy) x (b_f400 h)
  unfold b_ckl at h1
  simp only [h, Bool.and_eq_true] at h1
  cases hc : q_cls[ci]? with
  | none => simp [hc] at h1
  | some q =>
    obtain ⟨C, T, n⟩ := q
    have h2 := h1.2
    simp only [hc, Bool.and_eq_true, decide_eq_true_eq] at h2
    have h6 := q_w_mem h2.2
    exact ⟨C, T, n, rfl, b_blt h2.1.1, h2.1.2, h6.1, h6.2⟩
theorem b_lay {ci n : Nat} {C : String} {T : u_T} (hct : b_Ct D cA s) (hc : q_cls[ci]? = some (C, T, n)) : ∀ w ∈ u_ws C T n, w.before args s = true := by
  have h12 : ci < 12 := (List.getElem?_eq_some_iff.mp hc).1
  have h := q_all_of k_y ci h12
  simp only [q_cky, hc, Bool.and_eq_true] at h
  intro w hw
  obtain ⟨j, hj, rfl⟩ := List.mem_map.mp hw
  have h6 := q_w_mem (q_all_of h.1 j (List.mem_range.mp hj))
  exact hct.1 _ h6.1 (Or.inl h6.2) _
theorem b_cls {ci : Nat} (h : ci < 12) : ∃ T, q_cls[ci]? = some (q_own ci, T, (b_df ci).length) ∧ (∀ j, j < (b_df ci).length → ∃ ty k, parseFieldDescriptor (T j).2.2.1 = some ty ∧ (b_df ci)[j]? = some (k, 0) ∧ ((k = 0 ∧ ty = .int) ∨ (k = 1 ∧ ty = .boolean) ∨ (k = 2 ∧ ty = .long) ∨ (k = 4 ∧ b_rt ty = true)))
    ∧ (∀ a, a < (b_df ci).length → ∀ b, b < (b_df ci).length → a ≠ b → (T a).2.1 ≠ (T b).2.1) := by
  have h1 := q_all_of b_k3 ci h
  unfold b_ckt at h1
  cases hc : q_cls[ci]? with
  | none => simp [hc] at h1
  | some q =>
    obtain ⟨C, T, n⟩ := q
    simp only [hc, Bool.and_eq_true, decide_eq_true_eq] at h1
    obtain ⟨⟨h2, h3⟩, h4⟩ := h1
    have h3 := Nat.eq_of_beq_eq_true h3
    subst h2; subst h3
    refine ⟨T, rfl, fun j hj => ?_, fun a ha b hb hab => ?_⟩
    · have h5 := q_all_of h4 j hj
      rw [Bool.and_eq_true] at h5
      have h6 := h5.1
      cases hp : parseFieldDescriptor (T j).2.2.1 with
      | none => simp [hp] at h6
      | some ty =>
        cases hd : (b_df ci)[j]? with
        | none => simp [hp, hd] at h6
        | some kv =>
          obtain ⟨k, v⟩ := kv
          rw [hp, hd] at h6
          simp only [Bool.and_eq_true, decide_eq_true_eq] at h6
          obtain ⟨rfl, h7⟩ := h6
          refine ⟨ty, k, rfl, rfl, ?_⟩
          split at h7
          · exact Or.inl ⟨rfl, of_decide_eq_true h7⟩
          · exact Or.inr (Or.inl ⟨rfl, of_decide_eq_true h7⟩)
          · exact Or.inr (Or.inr (Or.inl ⟨rfl, of_decide_eq_true h7⟩))
          · exact Or.inr (Or.inr (Or.inr ⟨rfl, h7⟩))
          · cases h7
    · have h5 := q_all_of h4 b hb
      rw [Bool.and_eq_true] at h5
      have h6 := q_all_of h5.2 a ha
      rw [Bool.or_eq_true, decide_eq_true_eq] at h6
      rcases h6 with h6 | h6
      · exact absurd (Nat.eq_of_beq_eq_true h6) hab
      · exact h6
end Build
