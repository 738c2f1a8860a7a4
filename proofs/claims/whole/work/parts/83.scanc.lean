/-! the class reads the text -/
def r_fo (S G : q_S) (n : Int) : Prop := (S 6 n = 0 ∧ ∀ p, g_pr G p → G 1 p ≠ n) ∨ ((1 ≤ S 6 n ∧ S 6 n ≤ S 7 n ∧ S 7 n ≤ G 0 2) ∧ ∀ p, g_pr G p → (G 1 p = n ↔ S 6 n ≤ p ∧ p ≤ S 7 n))
def r_us (S G : q_S) (n : Int) : Prop := (S 11 n = -1 ∧ ∀ p i, g_le G p i → G 3 (4 * p + i) ≠ n) ∨ (∃ p i, g_le G p i ∧ G 3 (4 * p + i) = n ∧ S 11 n = G 4 (4 * p + i) ∧ ∀ p' i', g_le G p' i' → G 3 (4 * p' + i') = n → G 4 (4 * p + i) ≤ G 4 (4 * p' + i'))
def r_cb (S G : q_S) : Prop := S 9 5 = G 0 0 ∧ (G 0 0 ≠ 0 → S 9 6 = G 0 1) ∧ S 3 4 = G 0 2 ∧ (∀ p, g_pr G p → S 4 p = G 1 p ∧ S 5 p = G 2 p) ∧ (∀ p i, g_le G p i → S 8 (4 * p + i) = G 3 (4 * p + i)) ∧ (∀ n, 0 ≤ n → n ≤ 7 → r_fo S G n) ∧ (∀ n, 0 ≤ n → n ≤ 7 → 0 ≤ G 6 n → S 10 n = G 6 n) ∧ (∀ n, 0 ≤ n → n ≤ 7 → r_us S G n) ∧ S 9 0 = -1
def r_c (S G : q_S) : Prop := r_cb S G ∧ S 5 0 = 0
abbrev r_ck : List Nat := [4, 5, 6, 7, 8, 10, 11]
abbrev r_cf : List (Nat × Int) := [(3, 4), (9, 0), (9, 5), (9, 6)]
section ScanC
variable {S U G : q_S} {Q : q_Q} {Z : q_Z} {T : Int → Int} {L : Nat}
theorem r_c_0 {y pl : Int} (hI : g_I G pl) (hm : G 0 0 = 0) (hy : 0 ≤ y ∧ y ≤ 7) (h : r_c S G) : r_c (q_up (q_up (q_up S 9 6 y) 10 y pl) 9 5 1) (q_up (q_up (q_up (q_up (q_up G 6 y pl) 5 (G 0 3) y) 0 3 (G 0 3 + 1)) 0 1 y) 0 0 1) := by
  obtain ⟨⟨h1, h2, h3, h4, h5, h6, h7, h8, h9⟩, h10⟩ := h
  refine ⟨⟨by simp [n_up], fun _ => by simp [n_up], by simpa [n_up] using h3, fun p hp => ?_, fun p i hp => ?_, fun n n0 n1 => ?_, fun n n0 n1 hn => ?_, fun n n0 n1 => ?_, by simpa [n_up] using h9⟩, by simpa [n_up] using h10⟩
  · have hp' : g_pr G p := by unfold g_pr at hp ⊢; simpa [n_up] using hp
    simpa [n_up] using h4 p hp'
  · have hp' : g_le G p i := by unfold g_le g_pr at hp ⊢; simpa [n_up] using hp
    simpa [n_up] using h5 p i hp'
  · have := h6 n n0 n1
    unfold r_fo g_pr at this ⊢
    simpa [n_up] using this
  · by_cases e : n = y
    · simp [n_up, e]
    · have hn' : 0 ≤ G 6 n := by simpa [n_up, e] using hn
      simpa [n_up, e] using h7 n n0 n1 hn'
  · have := h8 n n0 n1
    unfold r_us g_le g_pr at this ⊢
    simpa [n_up] using this
theorem r_c_1 {pl : Int} (hI : g_I G pl) (hm : G 0 0 = 1 ∨ G 0 0 = 2) (h : r_c S G) (X : q_S) (hX : ∀ k i, X k i = if k = 3 ∧ i = 4 then G 0 2 + 1 else if k = 4 ∧ i = G 0 2 + 1 then G 0 1 else if k = 5 ∧ i = G 0 2 + 1 then 0 else if k = 6 ∧ i = G 0 1 ∧ S 6 (G 0 1) = 0 then G 0 2 + 1 else if k = 7 ∧ i = G 0 1 then G 0 2 + 1 else if k = 9 ∧ i = 5 then 2 else S k i) : r_c X (q_up (q_up (q_up (q_up G 0 2 (G 0 2 + 1)) 1 (G 0 2 + 1) (G 0 1)) 2 (G 0 2 + 1) 0) 0 0 2) := by
  obtain ⟨⟨h1, h2, h3, h4, h5, h6, h7, h8, h9⟩, h10⟩ := h
  obtain ⟨⟨i1, i2, i3⟩, i4, -, -, i5, -, -, i8, -, -, i11, i12, -⟩ := hI
  have i8' := i8 (by omega)
  have inow := (i5 (G 0 3 - 1) (by omega) (by omega)).1
  rw [← i8'.2] at inow
  have h2' := h2 (by omega)
  have hpr : ∀ p, g_pr (q_up (q_up (q_up (q_up G 0 2 (G 0 2 + 1)) 1 (G 0 2 + 1) (G 0 1)) 2 (G 0 2 + 1) 0) 0 0 2) p → p ≠ G 0 2 + 1 → g_pr G p := fun p hp e => by
    unfold g_pr at hp ⊢
    simp [n_up] at hp
    omega
  have hle : ∀ p i, g_le (q_up (q_up (q_up (q_up G 0 2 (G 0 2 + 1)) 1 (G 0 2 + 1) (G 0 1)) 2 (G 0 2 + 1) 0) 0 0 2) p i ↔ g_le G p i := fun p i => by
    unfold g_le g_pr
    by_cases e : p = G 0 2 + 1
    · simp [n_up, e]; omega
    · simp [n_up, e]; omega
  refine ⟨⟨by simp [hX, n_up], fun _ => ?_, by simp [hX, n_up], fun p hp => ?_, fun p i hp => ?_, fun n n0 n1 => ?_, fun n n0 n1 hn => ?_, fun n n0 n1 => ?_, by simpa [hX] using h9⟩, ?_⟩
  · rw [hX]
    simpa [n_up] using h2'
  · by_cases e : p = G 0 2 + 1
    · simp [hX, n_up, e]
    · simpa [hX, n_up, e] using h4 p (hpr p hp e)
  · simpa [hX, n_up] using h5 p i ((hle p i).mp hp)
  · have old := h6 n n0 n1
    by_cases e : n = G 0 1
    · -- the rule itself
      have x7 : X 7 n = G 0 2 + 1 := by simp [hX, e]
      rcases old with ⟨o1, o2⟩ | ⟨o1, o2⟩
      · have x6 : X 6 n = G 0 2 + 1 := by
          rw [e] at o1
          simp [hX, e, o1]
        refine Or.inr ⟨⟨by omega, by omega, by simp [x7, n_up]⟩, fun p hp => ?_⟩
        by_cases e2 : p = G 0 2 + 1
        · rw [x6, x7]; simp [n_up, e2, e]
        · have hp' := hpr p hp e2
          have := o2 p hp'
          unfold g_pr at hp'
          rw [x6, x7]
          simp [n_up, e2]
          constructor
          · intro q; exact absurd q this
          · intro q; omega
      · have x6 : X 6 n = S 6 n := by
          have : S 6 (G 0 1) ≠ 0 := by rw [← e]; omega
          simp [hX, e, this]
        have top : G 1 (G 0 2) = n := by
          rcases hm with hm | hm
          · exact absurd ((o2 (S 6 n) ⟨o1.1, by omega⟩).mpr ⟨by omega, o1.2.1⟩) (by rw [e]; exact i11 hm _ ⟨by rw [e] at o1; exact o1.1, by rw [e] at o1; omega⟩)
          · rw [e]; exact (i12 hm).2
        have s7 : S 7 n = G 0 2 := by
          have := (o2 (G 0 2) ⟨by omega, by omega⟩).mp top
          omega
        refine Or.inr ⟨⟨by omega, by omega, by simp [x7, n_up]⟩, fun p hp => ?_⟩
        by_cases e2 : p = G 0 2 + 1
        · rw [x6, x7]; simp [n_up, e2, e]
          rw [← e]; omega
        · have hp' := hpr p hp e2
          have := o2 p hp'
          unfold g_pr at hp'
          rw [x6, x7]
          simp [n_up, e2]
          rw [this]
          omega
    · have x6 : X 6 n = S 6 n := by simp [hX, e]
      have x7 : X 7 n = S 7 n := by simp [hX, e]
      rcases old with ⟨o1, o2⟩ | ⟨o1, o2⟩
      · refine Or.inl ⟨by rw [x6]; exact o1, fun p hp => ?_⟩
        by_cases e2 : p = G 0 2 + 1
        · simp [n_up, e2]; exact fun q => e q.symm
        · simpa [n_up, e2] using o2 p (hpr p hp e2)
      · refine Or.inr ⟨by rw [x6, x7]; exact ⟨o1.1, o1.2.1, by simp [n_up]; omega⟩, fun p hp => ?_⟩
        rw [x6, x7]
        by_cases e2 : p = G 0 2 + 1
        · simp [n_up, e2]
          constructor
          · intro q; exact absurd q.symm e
          · intro q; omega
        · simpa [n_up, e2] using o2 p (hpr p hp e2)
  · simp [n_up] at hn
    simpa [hX, n_up] using h7 n n0 n1 hn
  · have x11 : X 11 n = S 11 n := by simp [hX]
    rcases h8 n n0 n1 with ⟨o1, o2⟩ | ⟨p, i, o1, o2, o3, o4⟩
    · refine Or.inl ⟨by rw [x11]; exact o1, fun p i hp => ?_⟩
      simpa [n_up] using o2 p i ((hle p i).mp hp)
    · refine Or.inr ⟨p, i, (hle p i).mpr o1, by simpa [n_up] using o2, by rw [x11]; simpa [n_up] using o3, fun p' i' hp' hn' => ?_⟩
      simp [n_up] at hn'
      simpa [n_up] using o4 p' i' ((hle p' i').mp hp') hn'
  · have : (0 : Int) ≠ G 0 2 + 1 := by omega
    simpa [hX, this] using h10
theorem r_c_2 (h : r_c S G) : r_c (q_up S 9 5 0) (q_up G 0 0 0) := by
  obtain ⟨⟨h1, h2, h3, h4, h5, h6, h7, h8, h9⟩, h10⟩ := h
  refine ⟨⟨by simp [n_up], fun q => by simp [n_up] at q, by simpa [n_up] using h3, fun p hp => ?_, fun p i hp => ?_, fun n n0 n1 => ?_, fun n n0 n1 hn => ?_, fun n n0 n1 => ?_, by simpa [n_up] using h9⟩, by simpa [n_up] using h10⟩
  · have hp' : g_pr G p := by unfold g_pr at hp ⊢; simpa [n_up] using hp
    simpa [n_up] using h4 p hp'
  · have hp' : g_le G p i := by unfold g_le g_pr at hp ⊢; simpa [n_up] using hp
    simpa [n_up] using h5 p i hp'
  · have := h6 n n0 n1
    unfold r_fo g_pr at this ⊢
    simpa [n_up] using this
  · simp [n_up] at hn
    simpa [n_up] using h7 n n0 n1 hn
  · have := h8 n n0 n1
    unfold r_us g_le g_pr at this ⊢
    simpa [n_up] using this
theorem r_c_3 {y pl : Int} (hI : g_I G pl) (hm : G 0 0 = 2) (hy : 0 ≤ y ∧ y ≤ 15) (h4' : G 2 (G 0 2) ≠ 4) (h : r_c S G) (X : q_S) (hX : ∀ k i, X k i = if k = 8 ∧ i = 4 * G 0 2 + G 2 (G 0 2) then y else if k = 5 ∧ i = G 0 2 then G 2 (G 0 2) + 1 else if k = 11 ∧ i = y ∧ y < 8 ∧ S 11 y = -1 then pl else S k i) : r_c X (q_up (q_up (q_up G 3 (4 * G 0 2 + G 2 (G 0 2)) y) 4 (4 * G 0 2 + G 2 (G 0 2)) pl) 2 (G 0 2) (G 2 (G 0 2) + 1)) := by
  obtain ⟨⟨h1, h2, h3, h4, h5, h6, h7, h8, h9⟩, h10⟩ := h
  obtain ⟨⟨i1, i2, i3⟩, i4, i5, -, -, -, -, -, -, -, -, i12, -⟩ := hI
  have hP := (i12 hm).1
  have hz := (i4 (G 0 2) ⟨hP, by omega⟩).2.2
  have hpr : ∀ p, g_pr (q_up (q_up (q_up G 3 (4 * G 0 2 + G 2 (G 0 2)) y) 4 (4 * G 0 2 + G 2 (G 0 2)) pl) 2 (G 0 2) (G 2 (G 0 2) + 1)) p ↔ g_pr G p := fun p => by unfold g_pr; simp [n_up]
  have el : ∀ p i, g_le (q_up (q_up (q_up G 3 (4 * G 0 2 + G 2 (G 0 2)) y) 4 (4 * G 0 2 + G 2 (G 0 2)) pl) 2 (G 0 2) (G 2 (G 0 2) + 1)) p i ↔ (g_le G p i ∧ 4 * p + i < 4 * G 0 2 + G 2 (G 0 2)) ∨ (p = G 0 2 ∧ i = G 2 (G 0 2)) := fun p i => by
    constructor
    · intro hl
      have hp := (hpr p).mp hl.1
      have hi := hl.2
      by_cases q : p = G 0 2
      · rw [q] at hi
        simp [n_up] at hi
        by_cases q2 : i = G 2 (G 0 2)
        · exact Or.inr ⟨q, q2⟩
        · refine Or.inl ⟨⟨hp, hi.1, ?_⟩, ?_⟩
          · rw [q]; omega
          · omega
      · simp [n_up, q] at hi
        have := (i4 p hp).2.2
        refine Or.inl ⟨⟨hp, hi⟩, ?_⟩
        unfold g_pr at hp
        omega
    · rintro (⟨⟨q1, q2⟩, q3⟩ | ⟨rfl, rfl⟩)
      · refine ⟨(hpr p).mpr q1, q2.1, ?_⟩
        by_cases q : p = G 0 2
        · rw [q] at q2 ⊢
          simp [n_up]; omega
        · simp [n_up, q]; exact q2.2
      · exact ⟨(hpr _).mpr ⟨hP, by omega⟩, by omega, by simp [n_up]; omega⟩
  have f3 : ∀ p i, 4 * p + i < 4 * G 0 2 + G 2 (G 0 2) → q_up (q_up (q_up G 3 (4 * G 0 2 + G 2 (G 0 2)) y) 4 (4 * G 0 2 + G 2 (G 0 2)) pl) 2 (G 0 2) (G 2 (G 0 2) + 1) 3 (4 * p + i) = G 3 (4 * p + i) ∧ q_up (q_up (q_up G 3 (4 * G 0 2 + G 2 (G 0 2)) y) 4 (4 * G 0 2 + G 2 (G 0 2)) pl) 2 (G 0 2) (G 2 (G 0 2) + 1) 4 (4 * p + i) = G 4 (4 * p + i) := fun p i q => by
    have : 4 * p + i ≠ 4 * G 0 2 + G 2 (G 0 2) := by omega
    simp [n_up, this]
  have f3n : q_up (q_up (q_up G 3 (4 * G 0 2 + G 2 (G 0 2)) y) 4 (4 * G 0 2 + G 2 (G 0 2)) pl) 2 (G 0 2) (G 2 (G 0 2) + 1) 3 (4 * G 0 2 + G 2 (G 0 2)) = y ∧ q_up (q_up (q_up G 3 (4 * G 0 2 + G 2 (G 0 2)) y) 4 (4 * G 0 2 + G 2 (G 0 2)) pl) 2 (G 0 2) (G 2 (G 0 2) + 1) 4 (4 * G 0 2 + G 2 (G 0 2)) = pl := by simp [n_up]
  refine ⟨⟨by simpa [hX, n_up] using h1, fun q => ?_, by simpa [hX, n_up] using h3, fun p hp => ?_, fun p i hp => ?_, fun n n0 n1 => ?_, fun n n0 n1 hn => ?_, fun n n0 n1 => ?_, by simpa [hX] using h9⟩, ?_⟩
  · have := h2 (by omega)
    simpa [hX, n_up] using this
  · have := h4 p ((hpr p).mp hp)
    by_cases e : p = G 0 2
    · simp [hX, n_up, e]
      rw [← e]; exact this.1
    · simpa [hX, n_up, e] using this
  · rcases (el p i).mp hp with ⟨q1, q2⟩ | ⟨rfl, rfl⟩
    · rw [(f3 p i q2).1, hX]
      have : 4 * p + i ≠ 4 * G 0 2 + G 2 (G 0 2) := by omega
      simpa [this] using h5 p i q1
    · rw [f3n.1, hX]; simp
  · have := h6 n n0 n1
    unfold r_fo g_pr at this ⊢
    simpa [hX, n_up] using this
  · simp [n_up] at hn
    simpa [hX, n_up] using h7 n n0 n1 hn
  · by_cases e : n = y
    · subst e
      rcases h8 n n0 n1 with ⟨o1, o2⟩ | ⟨p, i, o1, o2, o3, o4⟩
      · refine Or.inr ⟨G 0 2, G 2 (G 0 2), (el _ _).mpr (Or.inr ⟨rfl, rfl⟩), f3n.1, ?_, fun p' i' hp' hn' => ?_⟩
        · rw [f3n.2, hX]
          have : n < 8 := by omega
          simp [o1, this]
        · rcases (el p' i').mp hp' with ⟨q1, q2⟩ | ⟨rfl, rfl⟩
          · rw [(f3 p' i' q2).1] at hn'
            exact absurd hn' (o2 p' i' q1)
          · omega
      · have lt : 4 * p + i < 4 * G 0 2 + G 2 (G 0 2) := by
          have q1 := o1.1
          have q2 := o1.2
          have q3 := (i4 p q1).2.2
          unfold g_pr at q1
          by_cases q : p = G 0 2
          · rw [q] at q2; omega
          · omega
        have w := i5 p i o1
        refine Or.inr ⟨p, i, (el p i).mpr (Or.inl ⟨o1, lt⟩), by rw [(f3 p i lt).1]; exact o2, ?_, fun p' i' hp' hn' => ?_⟩
        · rw [(f3 p i lt).2, hX]
          have : S 11 n ≠ -1 := by omega
          simpa [this] using o3
        · rw [(f3 p i lt).2]
          rcases (el p' i').mp hp' with ⟨q1, q2⟩ | ⟨rfl, rfl⟩
          · rw [(f3 p' i' q2).1] at hn'
            rw [(f3 p' i' q2).2]
            exact o4 p' i' q1 hn'
          · rw [f3n.2]; omega
    · have x11 : X 11 n = S 11 n := by rw [hX]; simp [e]
      rcases h8 n n0 n1 with ⟨o1, o2⟩ | ⟨p, i, o1, o2, o3, o4⟩
      · refine Or.inl ⟨by rw [x11]; exact o1, fun p i hp => ?_⟩
        rcases (el p i).mp hp with ⟨q1, q2⟩ | ⟨rfl, rfl⟩
        · rw [(f3 p i q2).1]; exact o2 p i q1
        · rw [f3n.1]; exact fun q => e q.symm
      · have lt : 4 * p + i < 4 * G 0 2 + G 2 (G 0 2) := by
          have q1 := o1.1
          have q2 := o1.2
          have q3 := (i4 p q1).2.2
          unfold g_pr at q1
          by_cases q : p = G 0 2
          · rw [q] at q2; omega
          · omega
        refine Or.inr ⟨p, i, (el p i).mpr (Or.inl ⟨o1, lt⟩), by rw [(f3 p i lt).1]; exact o2, by rw [x11, (f3 p i lt).2]; exact o3, fun p' i' hp' hn' => ?_⟩
        rcases (el p' i').mp hp' with ⟨q1, q2⟩ | ⟨rfl, rfl⟩
        · rw [(f3 p' i' q2).1] at hn'
          rw [(f3 p i lt).2, (f3 p' i' q2).2]
          exact o4 p' i' q1 hn'
        · rw [f3n.1] at hn'; exact absurd hn'.symm e
  · have : (0 : Int) ≠ G 0 2 := by omega
    simpa [hX, this] using h10
end ScanC
