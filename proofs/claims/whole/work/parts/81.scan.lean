/-! the text read, abstractly: G 0 holds mode, rule, productions, rules; 1 left, 2 size, 3 letters, 4 places, 5 rules in order, 6 where rules begin -/
def g_k (G : q_S) (c : Int) : Int :=
  if G 0 0 = 0 then (if v_sym c < 0 ∨ 7 < v_sym c then 1 else if 0 ≤ G 6 (v_sym c) then 2 else 0)
  else if G 0 0 = 1 then (if c ≠ 58 then 1 else if G 0 2 = 15 then 4 else 0)
  else if c = 124 then (if G 0 2 = 15 then 4 else 0)
  else if c = 59 then 0
  else if v_sym c < 0 then 1 else if G 2 (G 0 2) = 4 then 3 else 0
def g_n (G : q_S) (c pl : Int) : q_S :=
  if G 0 0 = 0 then q_up (q_up (q_up (q_up (q_up G 6 (v_sym c) pl) 5 (G 0 3) (v_sym c)) 0 3 (G 0 3 + 1)) 0 1 (v_sym c)) 0 0 1
  else if G 0 0 = 1 ∨ c = 124 then q_up (q_up (q_up (q_up G 0 2 (G 0 2 + 1)) 1 (G 0 2 + 1) (G 0 1)) 2 (G 0 2 + 1) 0) 0 0 2
  else if c = 59 then q_up G 0 0 0
  else q_up (q_up (q_up G 3 (4 * G 0 2 + G 2 (G 0 2)) (v_sym c)) 4 (4 * G 0 2 + G 2 (G 0 2)) pl) 2 (G 0 2) (G 2 (G 0 2) + 1)
def g_c8 (G : q_S) : Int := (if 0 ≤ G 6 0 then 1 else 0) + (if 0 ≤ G 6 1 then 1 else 0) + (if 0 ≤ G 6 2 then 1 else 0) + (if 0 ≤ G 6 3 then 1 else 0) + (if 0 ≤ G 6 4 then 1 else 0) + (if 0 ≤ G 6 5 then 1 else 0) + (if 0 ≤ G 6 6 then 1 else 0) + (if 0 ≤ G 6 7 then 1 else 0)
def g_pr (G : q_S) (p : Int) : Prop := 1 ≤ p ∧ p ≤ G 0 2
def g_le (G : q_S) (p i : Int) : Prop := g_pr G p ∧ 0 ≤ i ∧ i < G 2 p
def g_I (G : q_S) (pl : Int) : Prop := ((0 ≤ G 0 0 ∧ G 0 0 ≤ 2) ∧ (0 ≤ G 0 2 ∧ G 0 2 ≤ 15) ∧ 0 ≤ G 0 3)
  ∧ (∀ p, g_pr G p → (0 ≤ G 1 p ∧ G 1 p ≤ 7) ∧ 0 ≤ G 6 (G 1 p) ∧ (0 ≤ G 2 p ∧ G 2 p ≤ 4))
  ∧ (∀ p i, g_le G p i → (0 ≤ G 3 (4 * p + i) ∧ G 3 (4 * p + i) ≤ 15) ∧ 0 ≤ G 4 (4 * p + i) ∧ G 4 (4 * p + i) < pl)
  ∧ (∀ n, 0 ≤ n → n ≤ 7 → -1 ≤ G 6 n ∧ G 6 n < pl)
  ∧ (∀ r, 0 ≤ r → r < G 0 3 → (0 ≤ G 5 r ∧ G 5 r ≤ 7) ∧ 0 ≤ G 6 (G 5 r))
  ∧ (∀ r r', 0 ≤ r → r < r' → r' < G 0 3 → G 6 (G 5 r) < G 6 (G 5 r'))
  ∧ (∀ n, 0 ≤ n → n ≤ 7 → 0 ≤ G 6 n → ∃ r, (0 ≤ r ∧ r < G 0 3) ∧ G 5 r = n)
  ∧ (G 0 0 ≠ 0 → 1 ≤ G 0 3 ∧ G 0 1 = G 5 (G 0 3 - 1))
  ∧ (∀ p p', g_pr G p → g_pr G p' → p ≤ p' → G 6 (G 1 p) ≤ G 6 (G 1 p'))
  ∧ (∀ n, 0 ≤ n → n ≤ 7 → 0 ≤ G 6 n → (∃ p, g_pr G p ∧ G 1 p = n) ∨ (G 0 0 = 1 ∧ n = G 0 1))
  ∧ (G 0 0 = 1 → ∀ p, g_pr G p → G 1 p ≠ G 0 1)
  ∧ (G 0 0 = 2 → 1 ≤ G 0 2 ∧ G 1 (G 0 2) = G 0 1)
  ∧ (∀ p i p' i', g_le G p i → g_le G p' i' → 4 * p + i < 4 * p' + i' → G 4 (4 * p + i) < G 4 (4 * p' + i'))
  ∧ (1 ≤ G 0 2 → G 1 1 = G 5 0)
  ∧ (G 0 2 = 0 → (G 0 0 = 0 → G 0 3 = 0) ∧ (G 0 0 ≠ 0 → G 0 3 = 1))
  ∧ G 0 3 = g_c8 G
section Scan
variable {G G' : q_S} {pl c : Int}
theorem g_I_w (h : g_I G pl) : g_I G (pl + 1) := by
  obtain ⟨i1, i2, i3, i4, h⟩ := h
  refine ⟨i1, i2, fun p i hl => ?_, fun n h0 h1 => ?_, h⟩
  · have := i3 p i hl; omega
  · have := i4 n h0 h1; omega
theorem g_c8_r (G : q_S) : 0 ≤ g_c8 G ∧ g_c8 G ≤ 8 := by
  unfold g_c8
  repeat' split
  all_goals omega
/-- a rule begins -/
theorem g_I_0 (h : g_I G pl) (hpl : 0 ≤ pl) {y : Int} (hy : 0 ≤ y ∧ y ≤ 7) (hb : G 6 y < 0) (hm : G 0 0 = 0) (e1 : G' 1 = G 1) (e2 : G' 2 = G 2) (e3 : G' 3 = G 3) (e4 : G' 4 = G 4) (e00 : G' 0 0 = 1) (e01 : G' 0 1 = y) (e02 : G' 0 2 = G 0 2) (e03 : G' 0 3 = G 0 3 + 1) (e5 : ∀ r, G' 5 r = if r = G 0 3 then y else G 5 r) (e6 : ∀ n, G' 6 n = if n = y then pl else G 6 n) : g_I G' (pl + 1) := by
  obtain ⟨i1, i2, i3, i4, i5, i6, i7, i8, i9, i10, i11, i12, i13, i14, i15, i16⟩ := h
  have ep : ∀ p, g_pr G' p ↔ g_pr G p := fun p => by unfold g_pr; rw [e02]
  have el : ∀ p i, g_le G' p i ↔ g_le G p i := fun p i => by unfold g_le; rw [ep, e2]
  have ne : ∀ n, 0 ≤ G 6 n → G' 6 n = G 6 n := fun n hn => by
    rw [e6, if_neg]
    rintro rfl; omega
  have n5 : ∀ r, 0 ≤ r → r < G 0 3 → G' 5 r = G 5 r := fun r r0 r1 => by rw [e5, if_neg (by omega)]
  have l5 : G' 5 (G 0 3) = y := by rw [e5, if_pos rfl]
  have y6 : G' 6 y = pl := by rw [e6, if_pos rfl]
  refine ⟨⟨by omega, by omega, by omega⟩, fun p hp => ?_, fun p i hl => ?_, fun n n0 n1 => ?_, fun r r0 r1 => ?_, fun r r' r0 r1 r2 => ?_, fun n n0 n1 hn => ?_, fun _ => ⟨by omega, ?_⟩, fun p p' hp hp' hle => ?_, fun n n0 n1 hn => ?_, fun _ p hp => ?_, fun q => by omega, fun p i p' i' hl hl' hlt => ?_, fun q => ?_, fun q => ⟨fun q2 => by omega, fun _ => ?_⟩, ?_⟩
  · have := i2 p ((ep p).mp hp)
    rw [e1, e2, ne _ this.2.1]; exact this
  · have := i3 p i ((el p i).mp hl)
    rw [e3, e4]; omega
  · rw [e6]
    have := i4 n n0 n1
    split <;> omega
  · by_cases q : r = G 0 3
    · rw [q, l5, y6]; omega
    · have := i5 r r0 (by omega)
      rw [n5 r r0 (by omega), ne _ this.2]; exact this
  · by_cases q : r' = G 0 3
    · have := i5 r r0 (by omega)
      have q2 := i4 _ this.1.1 this.1.2
      rw [q, l5, y6, n5 r r0 (by omega), ne _ this.2]; omega
    · have a := i5 r r0 (by omega)
      have b := i5 r' (by omega) (by omega)
      rw [n5 r r0 (by omega), n5 r' (by omega) (by omega), ne _ a.2, ne _ b.2]
      exact i6 r r' r0 r1 (by omega)
  · by_cases q : n = y
    · exact ⟨G 0 3, by omega, by rw [l5, q]⟩
    · rw [e6, if_neg q] at hn
      obtain ⟨r, r1, r2⟩ := i7 n n0 n1 hn
      exact ⟨r, by omega, by rw [n5 r r1.1 r1.2]; exact r2⟩
  · rw [e01, e03, show G 0 3 + 1 - 1 = G 0 3 by omega, l5]
  · have a := i2 p ((ep p).mp hp)
    have b := i2 p' ((ep p').mp hp')
    rw [e1, ne _ a.2.1, ne _ b.2.1]
    exact i9 p p' ((ep p).mp hp) ((ep p').mp hp') hle
  · by_cases q : n = y
    · exact Or.inr ⟨e00, by rw [e01]; exact q⟩
    · rw [e6, if_neg q] at hn
      rcases i10 n n0 n1 hn with ⟨p, p1, p2⟩ | ⟨p1, -⟩
      · exact Or.inl ⟨p, (ep p).mpr p1, by rw [e1]; exact p2⟩
      · omega
  · have a := i2 p ((ep p).mp hp)
    rw [e1, e01]
    intro e
    rw [e] at a; omega
  · rw [e4]
    exact i13 p i p' i' ((el p i).mp hl) ((el p' i').mp hl') hlt
  · rw [e1]
    have hP : 1 ≤ G 0 2 := by omega
    have h1 : g_pr G 1 := ⟨by omega, hP⟩
    have a := i2 1 h1
    have : 0 < G 0 3 := by
      obtain ⟨r, r1, -⟩ := i7 (G 1 1) a.1.1 a.1.2 a.2.1
      omega
    rw [n5 0 (by omega) this]
    exact i14 hP
  · have := (i15 (by omega)).1 hm
    omega
  · rw [e03, i16]
    unfold g_c8
    have h8 : y = 0 ∨ y = 1 ∨ y = 2 ∨ y = 3 ∨ y = 4 ∨ y = 5 ∨ y = 6 ∨ y = 7 := by omega
    rw [e6, e6, e6, e6, e6, e6, e6, e6]
    have hbn : ¬ 0 ≤ G 6 y := by omega
    clear i1 i2 i3 i4 i5 i6 i7 i8 i9 i10 i11 i12 i13 i14 i15 i16
    rcases h8 with rfl | rfl | rfl | rfl | rfl | rfl | rfl | rfl <;> simp [hpl, hbn] <;> omega
/-- an alternative begins -/
theorem g_I_1 (h : g_I G pl) (hm : G 0 0 = 1 ∨ G 0 0 = 2) (hP : G 0 2 < 15) (e3 : G' 3 = G 3) (e4 : G' 4 = G 4) (e5 : G' 5 = G 5) (e6 : G' 6 = G 6) (e00 : G' 0 0 = 2) (e01 : G' 0 1 = G 0 1) (e02 : G' 0 2 = G 0 2 + 1) (e03 : G' 0 3 = G 0 3) (e1 : ∀ p, G' 1 p = if p = G 0 2 + 1 then G 0 1 else G 1 p) (e2 : ∀ p, G' 2 p = if p = G 0 2 + 1 then 0 else G 2 p) : g_I G' (pl + 1) := by
  obtain ⟨i1, i2, i3, i4, i5, i6, i7, i8, i9, i10, i11, i12, i13, i14, i15, i16⟩ := h
  have i8' := i8 (by omega)
  have inow := i5 (G 0 3 - 1) (by omega) (by omega)
  rw [← i8'.2] at inow
  have ep : ∀ p, g_pr G' p → p ≠ G 0 2 + 1 → g_pr G p := fun p hp q => by unfold g_pr at hp ⊢; omega
  have n1 : ∀ p, g_pr G p → G' 1 p = G 1 p := fun p hp => by rw [e1, if_neg (by unfold g_pr at hp; omega)]
  have n2 : ∀ p, g_pr G p → G' 2 p = G 2 p := fun p hp => by rw [e2, if_neg (by unfold g_pr at hp; omega)]
  have l1 : G' 1 (G 0 2 + 1) = G 0 1 := by rw [e1, if_pos rfl]
  have l2 : G' 2 (G 0 2 + 1) = 0 := by rw [e2, if_pos rfl]
  have el : ∀ p i, g_le G' p i → g_le G p i := fun p i hl => by
    have q : p ≠ G 0 2 + 1 := by
      rintro rfl
      have := hl.2
      rw [l2] at this
      omega
    have hp := ep p hl.1 q
    have := hl.2
    rw [n2 p hp] at this
    exact ⟨hp, this⟩
  have top : ∀ p, g_pr G p → G 6 (G 1 p) ≤ G 6 (G 0 1) := fun p hp => by
    have a := i2 p hp
    obtain ⟨r, r1, r2⟩ := i7 (G 1 p) a.1.1 a.1.2 a.2.1
    by_cases q : r = G 0 3 - 1
    · rw [i8'.2, ← q, r2]; omega
    · have := i6 r (G 0 3 - 1) r1.1 (by omega) (by omega)
      rw [r2, ← i8'.2] at this; omega
  refine ⟨⟨by omega, by omega, by omega⟩, fun p hp => ?_, fun p i hl => ?_, fun n n0 n1 => ?_, fun r r0 r1 => ?_, fun r r' r0 r1 r2 => ?_, fun n n0 n1 hn => ?_, fun _ => ⟨by omega, ?_⟩, fun p p' hp hp' hle => ?_, fun n n0 n1 hn => ?_, fun q => by omega, fun _ => ⟨by omega, ?_⟩, fun p i p' i' hl hl' hlt => ?_, fun _ => ?_, fun q => by omega, ?_⟩
  · by_cases q : p = G 0 2 + 1
    · rw [q, l1, l2, e6]; exact ⟨inow.1, inow.2, by omega⟩
    · rw [n1 p (ep p hp q), n2 p (ep p hp q), e6]; exact i2 p (ep p hp q)
  · have := i3 p i (el p i hl)
    rw [e3, e4]; omega
  · have := i4 n n0 n1
    rw [e6]; omega
  · rw [e5, e6]; exact i5 r r0 (by omega)
  · rw [e5, e6]; exact i6 r r' r0 r1 (by omega)
  · rw [e6] at hn
    obtain ⟨r, r1, r2⟩ := i7 n n0 n1 hn
    exact ⟨r, by omega, by rw [e5]; exact r2⟩
  · rw [e01, e03, e5]; exact i8'.2
  · rw [e6]
    by_cases q' : p' = G 0 2 + 1
    · rw [q', l1]
      by_cases q : p = G 0 2 + 1
      · rw [q, l1]; omega
      · rw [n1 p (ep p hp q)]; exact top p (ep p hp q)
    · have q : p ≠ G 0 2 + 1 := by unfold g_pr at hp'; omega
      rw [n1 p (ep p hp q), n1 p' (ep p' hp' q')]
      exact i9 p p' (ep p hp q) (ep p' hp' q') hle
  · rw [e6] at hn
    rcases i10 n n0 n1 hn with ⟨p, p1, p2⟩ | ⟨-, p2⟩
    · refine Or.inl ⟨p, ?_, ?_⟩
      · unfold g_pr at p1 ⊢; omega
      · rw [e1, if_neg (by unfold g_pr at p1; omega)]; exact p2
    · exact Or.inl ⟨G 0 2 + 1, by unfold g_pr; omega, by rw [l1, p2]⟩
  · rw [e02, l1, e01]
  · rw [e4]
    exact i13 p i p' i' (el p i hl) (el p' i' hl') hlt
  · rw [e5]
    by_cases q : G 0 2 = 0
    · have := (i15 q).2 (by omega)
      rw [show (1 : Int) = G 0 2 + 1 by omega, l1, i8'.2, this]; rfl
    · rw [n1 1 ⟨by omega, by omega⟩]; exact i14 (by omega)
  · rw [e03, i16]
    unfold g_c8
    rw [e6]
/-- a rule ends -/
theorem g_I_2 (h : g_I G pl) (hm : G 0 0 = 2) (e1 : G' 1 = G 1) (e2 : G' 2 = G 2) (e3 : G' 3 = G 3) (e4 : G' 4 = G 4) (e5 : G' 5 = G 5) (e6 : G' 6 = G 6) (e00 : G' 0 0 = 0) (e02 : G' 0 2 = G 0 2) (e03 : G' 0 3 = G 0 3) : g_I G' (pl + 1) := by
  have h' := g_I_w h
  unfold g_I g_le g_pr g_c8 at h' ⊢
  rw [e1, e2, e3, e4, e5, e6, e00, e02, e03]
  obtain ⟨i1, i2, i3, i4, i5, i6, i7, i8, i9, i10, i11, i12, i13, i14, i15, i16⟩ := h'
  refine ⟨⟨by omega, i1.2⟩, i2, i3, i4, i5, i6, i7, fun q => absurd rfl q, i9, fun n n0 n1 hn => ?_, fun q => by omega, fun q => by omega, i13, i14, fun q => ?_, i16⟩
  · rcases i10 n n0 n1 hn with q | ⟨q, -⟩
    · exact Or.inl q
    · omega
  · have := i12 hm; omega
/-- a letter -/
theorem g_I_3 (h : g_I G pl) (hpl : 0 ≤ pl) (hm : G 0 0 = 2) {y : Int} (hy : 0 ≤ y ∧ y ≤ 15) (h4 : G 2 (G 0 2) ≠ 4) (e0 : G' 0 = G 0) (e1 : G' 1 = G 1) (e5 : G' 5 = G 5) (e6 : G' 6 = G 6) (e2 : ∀ p, G' 2 p = if p = G 0 2 then G 2 (G 0 2) + 1 else G 2 p) (e3 : ∀ e, G' 3 e = if e = 4 * G 0 2 + G 2 (G 0 2) then y else G 3 e) (e4 : ∀ e, G' 4 e = if e = 4 * G 0 2 + G 2 (G 0 2) then pl else G 4 e) : g_I G' (pl + 1) := by
  obtain ⟨i1, i2, i3, i4, i5, i6, i7, i8, i9, i10, i11, i12, i13, i14, i15, i16⟩ := h
  have hP := i12 hm
  have hz := (i2 (G 0 2) ⟨hP.1, by omega⟩).2.2
  have ep : ∀ p, g_pr G' p ↔ g_pr G p := fun p => by unfold g_pr; rw [e0]
  -- a letter is an old one or the new one
  have el : ∀ p i, g_le G' p i → (g_le G p i ∧ 4 * p + i < 4 * G 0 2 + G 2 (G 0 2)) ∨ (p = G 0 2 ∧ i = G 2 (G 0 2)) := fun p i hl => by
    have hp := (ep p).mp hl.1
    have hi := hl.2
    rw [e2] at hi
    by_cases q : p = G 0 2
    · rw [if_pos q] at hi
      by_cases q2 : i = G 2 (G 0 2)
      · exact Or.inr ⟨q, q2⟩
      · refine Or.inl ⟨⟨hp, hi.1, ?_⟩, ?_⟩
        · rw [q]; omega
        · omega
    · rw [if_neg q] at hi
      have := (i2 p hp).2.2
      refine Or.inl ⟨⟨hp, hi⟩, ?_⟩
      unfold g_pr at hp
      omega
  refine ⟨by rw [e0]; exact i1, fun p hp => ?_, fun p i hl => ?_, fun n n0 n1 => ?_, ?_, ?_, ?_, ?_, ?_, ?_, ?_, ?_, fun p i p' i' hl hl' hlt => ?_, ?_, ?_, ?_⟩
  · have := i2 p ((ep p).mp hp)
    rw [e1, e6, e2]
    refine ⟨this.1, this.2.1, ?_⟩
    split <;> omega
  · rw [e3, e4]
    rcases el p i hl with ⟨q1, q2⟩ | ⟨q1, q2⟩
    · have := i3 p i q1
      rw [if_neg (by omega), if_neg (by omega)]; omega
    · rw [if_pos (by omega), if_pos (by omega)]; omega
  · have := i4 n n0 n1
    rw [e6]; omega
  · rw [e0, e5, e6]; exact i5
  · rw [e0, e5, e6]; exact i6
  · rw [e0, e5, e6]; exact i7
  · rw [e0, e5]; exact i8
  · intro p p' hp hp'
    rw [e1, e6]; exact i9 p p' ((ep p).mp hp) ((ep p').mp hp')
  · intro n n0 n1 hn
    rw [e6] at hn
    rcases i10 n n0 n1 hn with ⟨p, p1, p2⟩ | q
    · exact Or.inl ⟨p, (ep p).mpr p1, by rw [e1]; exact p2⟩
    · exact Or.inr (by rw [e0]; exact q)
  · intro q
    rw [e0] at q; omega
  · rw [e0, e1]; exact i12
  · rcases el p i hl with ⟨q1, q2⟩ | ⟨q1, q2⟩ <;> rcases el p' i' hl' with ⟨q3, q4⟩ | ⟨q3, q4⟩
    · rw [e4, e4, if_neg (by omega), if_neg (by omega)]; exact i13 p i p' i' q1 q3 hlt
    · have := i3 p i q1
      rw [e4, e4, if_neg (by omega), if_pos (by omega)]; omega
    · omega
    · omega
  · rw [e0, e1, e5]; exact i14
  · rw [e0]; exact i15
  · unfold g_c8
    rw [e0, e6]; exact i16
theorem g_I_n (h : g_I G pl) (hpl : 0 ≤ pl) (hk : g_k G c = 0) : g_I (g_n G c pl) (pl + 1) := by
  have i1 := h.1
  unfold g_k at hk
  unfold g_n
  have hr := v_sym_r c
  by_cases m0 : G 0 0 = 0
  · rw [if_pos m0] at hk ⊢
    by_cases hy : v_sym c < 0 ∨ 7 < v_sym c
    · rw [if_pos hy] at hk; exact absurd hk (by decide)
    · rw [if_neg hy] at hk
      by_cases hb : 0 ≤ G 6 (v_sym c)
      · rw [if_pos hb] at hk; exact absurd hk (by decide)
      · refine g_I_0 h hpl (y := v_sym c) (by omega) (by omega) m0 ?_ ?_ ?_ ?_ ?_ ?_ ?_ ?_ (fun r => ?_) (fun n => ?_)
        all_goals first | (funext k; simp [n_up]; done) | (simp [n_up]; done)
  · rw [if_neg m0] at hk ⊢
    by_cases m1 : G 0 0 = 1
    · rw [if_pos m1] at hk
      rw [if_pos (Or.inl m1)]
      by_cases hc : c ≠ 58
      · rw [if_pos hc] at hk; exact absurd hk (by decide)
      · rw [if_neg hc] at hk
        by_cases hP : G 0 2 = 15
        · rw [if_pos hP] at hk; exact absurd hk (by decide)
        · refine g_I_1 h (Or.inl m1) (by omega) ?_ ?_ ?_ ?_ ?_ ?_ ?_ ?_ (fun p => ?_) (fun p => ?_)
          all_goals first | (funext k; simp [n_up]; done) | (simp [n_up]; done)
    · rw [if_neg m1] at hk
      by_cases hc : c = 124
      · rw [if_pos hc] at hk
        rw [if_pos (Or.inr hc)]
        by_cases hP : G 0 2 = 15
        · rw [if_pos hP] at hk; exact absurd hk (by decide)
        · refine g_I_1 h (Or.inr (by omega)) (by omega) ?_ ?_ ?_ ?_ ?_ ?_ ?_ ?_ (fun p => ?_) (fun p => ?_)
          all_goals first | (funext k; simp [n_up]; done) | (simp [n_up]; done)
      · rw [if_neg hc] at hk
        rw [if_neg (by omega)]
        by_cases hs : c = 59
        · rw [if_pos hs]
          refine g_I_2 h (by omega) ?_ ?_ ?_ ?_ ?_ ?_ ?_ ?_ ?_
          all_goals first | (funext k; simp [n_up]; done) | (simp [n_up]; done)
        · rw [if_neg hs] at hk ⊢
          by_cases hy : v_sym c < 0
          · rw [if_pos hy] at hk; exact absurd hk (by decide)
          · rw [if_neg hy] at hk
            by_cases h4 : G 2 (G 0 2) = 4
            · rw [if_pos h4] at hk; exact absurd hk (by decide)
            · refine g_I_3 h hpl (by omega) (y := v_sym c) (by omega) h4 ?_ ?_ ?_ ?_ (fun p => ?_) (fun e => ?_) (fun e => ?_)
              all_goals first | (funext k; simp [n_up]; done) | (simp [n_up]; done)
-- the whole text
def g_0 : q_S := fun k _ => if k = 6 then -1 else 0
def g_s (T : Int → Int) : Nat → q_S
  | 0 => g_0
  | n + 1 => if T n = 32 then g_s T n else g_n (g_s T n) (T n) n
def g_ok (T : Int → Int) (m : Nat) : Prop := T m = 32 ∨ g_k (g_s T m) (T m) = 0
theorem g_I_00 : g_I g_0 0 := by
  have e : ∀ n, g_0 6 n = -1 := fun _ => rfl
  have np : ∀ p, ¬ g_pr g_0 p := fun p hp => by unfold g_pr at hp; have : g_0 0 2 = 0 := rfl; omega
  have r0 : g_0 0 3 = 0 := rfl
  have m0 : g_0 0 0 = 0 := rfl
  have p0 : g_0 0 2 = 0 := rfl
  refine ⟨by omega, fun p hp => absurd hp (np p), fun p i hl => absurd hl.1 (np p), fun n _ _ => ?_, fun r _ _ => by omega, fun r r' _ _ _ => by omega, fun n _ _ hn => ?_, fun q => by omega, fun p p' hp => absurd hp (np p), fun n _ _ hn => ?_, fun q => by omega, fun q => by omega, fun p i p' i' hl => absurd hl.1 (np p), fun q => by omega, fun _ => ⟨fun _ => r0, fun q => by omega⟩, rfl⟩
  · rw [e]; omega
  · rw [e] at hn; omega
  · rw [e] at hn; omega
theorem g_s_I {T : Int → Int} (n : Nat) (h : ∀ m : Nat, m < n → g_ok T m) : g_I (g_s T n) n := by
  induction n with
  | zero => exact g_I_00
  | succ n ih =>
    have i := ih (fun m hm => h m (by omega))
    show g_I (if T n = 32 then g_s T n else g_n (g_s T n) (T n) n) ((n : Int) + 1)
    rcases h n (by omega) with q | q
    · rw [if_pos q]; exact g_I_w i
    · by_cases q2 : T n = 32
      · rw [if_pos q2]; exact g_I_w i
      · rw [if_neg q2]; exact g_I_n i (by omega) q
end Scan
