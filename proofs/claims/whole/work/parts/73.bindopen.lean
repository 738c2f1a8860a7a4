section BindOpen
variable {S T : q_S} {V : v_V} {b : v_B} {Q : q_Q} {Z : q_Z}
def v_bg (c l s : Int) : Prop := (97 ≤ c ∧ c ≤ 104) ∧ (0 ≤ l ∧ l ≤ 9) ∧ (0 ≤ s ∧ s ≤ 2)
theorem c_160 {c l s : Int} (hc : 0 ≤ c ∧ c < 65536) (hx : S 65 0 < 1000) (h : v_bg c l s → Q 0 (q_up (q_up (q_up S 24 (c - 97) l) 25 (c - 97) s) 27 0 0)) (h' : ¬ v_bg c l s → Q 1 (q_tk S)) : q_c 160 [vR 0, vI c, vI l, vI s] S Q Z := by
  unfold v_bg at h h'
  refine b_160_0 ?_
  refine b_4_0 ?_
  refine c_26 ?_
  by_cases e : 97 ≤ c ∧ c ≤ 104
  · have et : v_tok c = c - 97 := by unfold v_tok; rw [if_neg (by omega), if_neg (by omega)]
    rw [et]
    exact ⟨fun g => by omega, fun _ => ⟨fun g => by omega, fun _ => ⟨fun g => ⟨hx, h' (by omega)⟩, fun g => ⟨fun g2 => ⟨hx, h' (by omega)⟩, fun g2 => ⟨fun g3 => ⟨hx, h' (by omega)⟩, fun g3 => ⟨fun g4 => ⟨by omega, by omega, by omega, by omega, b_112_0 ⟨⟨by omega, by omega⟩, h (by omega)⟩⟩, fun g4 => ⟨hx, h' (by omega)⟩⟩⟩⟩⟩⟩⟩
  · have et : v_tok c = -1 ∨ v_tok c = 8 := by
      unfold v_tok
      by_cases q : c = 46
      · rw [if_pos q]; exact Or.inr rfl
      · rw [if_neg q, if_pos (by omega)]; exact Or.inl rfl
    exact ⟨fun g => ⟨hx, h' (by omega)⟩, fun g => ⟨fun g2 => ⟨hx, h' (by omega)⟩, fun g2 => by omega⟩⟩
theorem m_61 {c l s : Int} (hc : 0 ≤ c ∧ c < 65536) (h : v_bg c l s → Q 0 (q_up (q_up (q_up (q_up S 36 0 0) 52 (c - 97) l) 53 (c - 97) s) 36 24 0)) (h' : ¬ v_bg c l s → Q 0 (q_up S 36 0 1)) : q_c 61 [vR 36, vI c, vI l, vI s] S Q Z := by
  unfold v_bg at h h'
  refine b_61_0 ?_
  repeat' (first | omega | apply And.intro | intro _)
  all_goals first | exact h' (by omega) | exact h (by omega)
theorem j_bind {c l s : Int} (hg : v_bg c l s) (hJ : j_J S V b) : ∃ b', j_J (q_up (q_up (q_up (q_up (q_up (q_up (q_up S 24 (c - 97) l) 25 (c - 97) s) 27 0 0) 36 0 0) 52 (c - 97) l) 53 (c - 97) s) 36 24 0) V b' := by
  obtain ⟨h1, h2, ⟨h3, h4, h5⟩, ⟨h6, h7⟩, h8, h9⟩ := hJ
  have fr : n_fr [24, 25, 52, 53] [(27, 0), (36, 0), (36, 24)] S (q_up (q_up (q_up (q_up (q_up (q_up (q_up S 24 (c - 97) l) 25 (c - 97) s) 27 0 0) 36 0 0) 52 (c - 97) l) 53 (c - 97) s) 36 24 0) := n_fr_i (n_fr_k (n_fr_k (n_fr_i (n_fr_i (n_fr_k (n_fr_k n_fr_r (by decide)) (by decide)) (by decide)) (by decide)) (by decide)) (by decide)) (by decide)
  obtain ⟨T, hT⟩ : ∃ T, T = (q_up (q_up (q_up (q_up (q_up (q_up (q_up S 24 (c - 97) l) 25 (c - 97) s) 27 0 0) 36 0 0) 52 (c - 97) l) 53 (c - 97) s) 36 24 0) := ⟨_, rfl⟩
  have e24 : ∀ t, T 24 t = if t = c - 97 then l else S 24 t := fun t => by rw [hT]; simp [n_up]
  have e25 : ∀ t, T 25 t = if t = c - 97 then s else S 25 t := fun t => by rw [hT]; simp [n_up]
  have e52 : ∀ t, T 52 t = if t = c - 97 then l else S 52 t := fun t => by rw [hT]; simp [n_up]
  have e53 : ∀ t, T 53 t = if t = c - 97 then s else S 53 t := fun t => by rw [hT]; simp [n_up]
  have e27 : T 27 0 = 0 := by rw [hT]; simp [n_up]
  have e3624 : T 36 24 = 0 := by rw [hT, n_up1]
  rw [← hT] at fr ⊢
  clear hT
  have e0 : T 0 = S 0 := n_fr_c fr (by decide)
  refine ⟨(fun t => if t = c - 97 then l else b.1 t, fun t => if t = c - 97 then s else b.2 t), ?_, ?_, ⟨?_, ?_, ?_⟩, ⟨?_, ?_⟩, ?_, Or.inl e27⟩
  · unfold j_t at h1 ⊢
    rw [n_fr_c fr (k := 1) (by decide), n_fr_c fr (k := 2) (by decide), n_fr_c fr (k := 37) (by decide), n_fr_f fr (k := 36) (i := 2) (by decide)]
    exact h1
  · rw [n_fr_c fr (k := 9) (by decide), n_fr_f fr (k := 36) (i := 3) (by decide)]; exact h2
  · intro t t0 t1
    have := h3 t t0 t1
    obtain ⟨g1, g2, g3⟩ := hg
    simp only
    by_cases e : t = c - 97
    · rw [if_pos e, if_pos e]; exact ⟨g2, g3⟩
    · rw [if_neg e, if_neg e]; exact this
  · intro t t0 t1
    rw [e52, e53, (h4 t t0 t1).1, (h4 t t0 t1).2]
    exact ⟨rfl, rfl⟩
  · intro t t0 t1
    rw [e24, e25, (h5 t t0 t1).1, (h5 t t0 t1).2]
    exact ⟨rfl, rfl⟩
  · rw [n_fr_f fr (k := 36) (i := 4) (by decide), e0]; exact h6
  · rw [e0]
    rcases h7 with h7 | ⟨h7, h10⟩
    · exact Or.inl h7
    · exact Or.inr ⟨h7, j_g_fr fr (by decide) (by decide) h10⟩
  · rw [e27, e3624]
theorem c_169 {a n : Int} (hJ : j_J S V b) (hx : S 65 0 < 1000) (h1 : S 0 9 = 0 → Q 1 (q_tk S)) (h2 : S 0 9 = 1 → ¬ ((1 ≤ a ∧ a ≤ 24) ∧ 0 ≤ n ∧ n ≤ 60) → Q 2 (q_tk S))
    (h0 : S 0 9 = 1 → ((1 ≤ a ∧ a ≤ 24) ∧ 0 ≤ n ∧ n ≤ 60) → Q 0 (q_up (q_up (q_up (q_up (q_up (q_up (q_up (q_up S 27 0 1) 27 1 0) 27 2 1) 28 0 0) 27 3 0) 30 5 0) 27 10 a) 27 11 n)) : q_c 169 [vR 0, vI a, vI n] S Q Z := by
  obtain ⟨e4, hg⟩ := j_has hJ
  refine b_169_0 ?_
  refine b_13_0 ?_
  rcases hg with hg | ⟨hg, -⟩
  · exact b_20_0 ⟨fun g => absurd hg g, fun _ => ⟨hx, h1 hg⟩⟩
  · refine b_20_0 ⟨fun _ => ?_, fun g => absurd (by omega) g⟩
    exact ⟨fun g => ⟨hx, h2 hg (by omega)⟩, fun g => ⟨fun g2 => ⟨hx, h2 hg (by omega)⟩, fun g2 => ⟨fun g3 => ⟨hx, h2 hg (by omega)⟩, fun g3 => ⟨fun g4 => b_113_0 ⟨⟨by omega, by omega⟩, by omega, by omega, h0 hg (by omega)⟩, fun g4 => ⟨hx, h2 hg (by omega)⟩⟩⟩⟩⟩
theorem m_72 {a n : Int} (hJ : j_J S V b) (h1 : S 0 9 = 0 → Q 0 (q_up S 36 0 1)) (h2 : S 0 9 = 1 → ¬ ((1 ≤ a ∧ a ≤ 24) ∧ 0 ≤ n ∧ n ≤ 60) → Q 0 (q_up S 36 0 2))
    (h0 : S 0 9 = 1 → ((1 ≤ a ∧ a ≤ 24) ∧ 0 ≤ n ∧ n ≤ 60) → Q 0 (q_up (q_up (q_up (q_up (q_up (q_up (q_up (q_up (q_up S 36 0 0) 36 24 1) 36 25 0) 36 26 a) 36 27 n) 36 28 1) 36 29 0) 36 30 0) 54 0 0)) : q_c 72 [vR 36, vI a, vI n] S Q Z := by
  obtain ⟨e4, hg⟩ := j_has hJ
  refine b_72_0 ?_
  rcases hg with hg | ⟨hg, -⟩
  · refine ⟨fun g => by omega, fun _ => ⟨fun _ => h1 hg, fun g => absurd (by decide) g⟩⟩
  · clear hJ h1
    repeat' (first | omega | apply And.intro | intro _)
    all_goals first | exact h2 hg (by omega) | exact h0 hg (by omega)
/-- what a parser needs to begin -/
theorem j_beg {a n : Int} (ha : (1 ≤ a ∧ a ≤ 24) ∧ 0 ≤ n ∧ n ≤ 60) (hg : S 0 9 = 1) (hJ : j_J S V b) (fr : n_fr [] [(27, 0), (27, 1), (27, 2), (28, 0), (27, 3), (30, 5), (27, 10), (27, 11), (36, 0), (36, 24), (36, 25), (36, 26), (36, 27), (36, 28), (36, 29), (36, 30), (54, 0)] S T)
    (e1 : T 27 0 = 1) (e2 : T 27 1 = 0) (e3 : T 27 2 = 1) (e4 : T 28 0 = 0) (e5 : T 27 3 = 0) (e6 : T 30 5 = 0) (e7 : T 27 10 = a) (e8 : T 27 11 = n) (e9 : T 36 24 = 1) (e10 : T 36 25 = 0) (e11 : T 36 26 = a) (e12 : T 36 27 = n) (e13 : T 36 28 = 1) (e14 : T 36 29 = 0) (e15 : T 36 30 = 0) (e16 : T 54 0 = 0) : j_J T V b := by
  obtain ⟨h1, h2, ⟨h3, h4, h5⟩, ⟨h6, h7⟩, h8, h9⟩ := hJ
  have e0 : T 0 = S 0 := n_fr_c fr (by decide)
  have hv : 1 ≤ vSt V := by
    rcases h7 with h7 | ⟨-, h7⟩
    · omega
    · exact h7.1.2.2.2.2.1.1
  refine ⟨?_, ?_, ⟨h3, ?_, ?_⟩, ⟨?_, ?_⟩, ?_, Or.inr ⟨e1, by rw [e0]; exact hg, ?_⟩⟩
  · unfold j_t at h1 ⊢
    rw [n_fr_c fr (k := 1) (by decide), n_fr_c fr (k := 2) (by decide), n_fr_c fr (k := 37) (by decide), n_fr_f fr (k := 36) (i := 2) (by decide)]
    exact h1
  · rw [n_fr_c fr (k := 9) (by decide), n_fr_f fr (k := 36) (i := 3) (by decide)]; exact h2
  · unfold v_bm
    rw [n_fr_c fr (k := 52) (by decide), n_fr_c fr (k := 53) (by decide)]; exact h4
  · unfold v_bc
    rw [n_fr_c fr (k := 24) (by decide), n_fr_c fr (k := 25) (by decide)]; exact h5
  · rw [n_fr_f fr (k := 36) (i := 4) (by decide), e0]; exact h6
  · rw [e0]
    rcases h7 with h7 | ⟨h7, h10⟩
    · exact Or.inl h7
    · exact Or.inr ⟨h7, j_g_fr fr (by decide) (by decide) h10⟩
  · rw [e1, e9]
  · refine ⟨by omega, by omega, by omega, by omega, by omega, by omega, by omega, by omega, by omega, by omega, by omega, by omega, ?_, e4, ?_, ?_, ?_⟩
    · intro k k0 k1
      have : k = 0 := by omega
      subst this
      omega
    · intro k k0 k1; omega
    · intro k k0 k1; omega
    · intro k k0 k1; omega
theorem c_15 {w : Int} (h : Q (if S 27 0 = 0 then -1 else if w = 0 then S 27 1 else if w = 1 then S 27 2 else if w = 2 then S 27 3 else if w = 3 then S 30 5 else -1) S) : q_c 15 [vR 0, vI w] S Q Z := by
  refine b_15_0 ⟨fun g => ⟨⟨fun g2 => ?_, ⟨fun g2 => ?_, ⟨fun g2 => ?_, ⟨fun g2 => ?_, trivial⟩⟩⟩⟩, fun g2 => ?_⟩, fun g => ?_⟩
  · rw [if_neg g, if_pos g2] at h; exact h
  · rw [if_neg g, if_neg (by omega), if_pos g2] at h; exact h
  · rw [if_neg g, if_neg (by omega), if_neg (by omega), if_pos g2] at h; exact h
  · rw [if_neg g, if_neg (by omega), if_neg (by omega), if_neg (by omega), if_pos g2] at h; exact h
  · rw [if_neg g, if_neg (by omega), if_neg (by omega), if_neg (by omega), if_neg (by omega)] at h; exact h
  · rw [if_pos (by omega)] at h; exact h
theorem m_76 {w : Int} (hJ : j_J S V b) (h : Q (if S 27 0 = 0 then -1 else if w = 0 then S 27 1 else if w = 1 then S 27 2 else if w = 2 then S 27 3 else if w = 3 then S 30 5 else -1) (q_up S 36 0 0)) : q_c 76 [vR 36, vI w] S Q Z := by
  obtain ⟨-, -, -, -, ⟨e4, hg⟩⟩ := hJ
  refine b_76_0 ?_
  rcases hg with hg | ⟨hg, h09, hp⟩
  · rw [if_pos hg] at h
    exact ⟨fun g => by omega, fun _ => h⟩
  · obtain ⟨p1, p2, p3, p4, p5, p6, p7, -⟩ := hp
    rw [if_neg (by omega)] at h
    rw [p1, p3, p5, p7]
    refine ⟨fun g => ⟨fun g2 => ⟨fun g3 => ⟨fun g4 => ⟨fun g5 => ?_, fun g5 => ?_⟩, fun g4 => ?_⟩, fun g3 => ?_⟩, fun g2 => ?_⟩, fun g => by omega⟩
    · rw [if_neg g2, if_neg g3, if_neg g4, if_neg g5] at h; exact h
    · rw [if_neg g2, if_neg g3, if_neg g4, if_pos (by omega)] at h; exact h
    · rw [if_neg g2, if_neg g3, if_pos (by omega)] at h; exact h
    · rw [if_neg g2, if_pos (by omega)] at h; exact h
    · rw [if_pos (by omega)] at h; exact h
end BindOpen
