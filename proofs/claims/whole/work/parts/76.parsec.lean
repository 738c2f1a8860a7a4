/-! the parser: class -/
def j_pc (X : q_S) (V : v_V) : Prop := (0 ≤ X 27 1 ∧ X 27 1 ≤ 3) ∧ (1 ≤ X 27 2 ∧ X 27 2 ≤ X 27 10) ∧ (0 ≤ X 27 3 ∧ X 27 3 ≤ X 30 5) ∧ (0 ≤ X 30 5 ∧ X 30 5 ≤ X 27 11) ∧ X 27 10 ≤ 24 ∧ X 27 11 ≤ 60 ∧ (∀ k, 0 ≤ k → k < X 27 2 → 0 ≤ X 28 k ∧ X 28 k < vSt V) ∧ X 28 0 = 0 ∧ (∀ k, 1 ≤ k → k < X 27 2 → ∃ y, (0 ≤ y ∧ y < 16) ∧ vGo V (X 28 (k - 1)) y = X 28 k) ∧ (∀ k, 1 ≤ k → k < X 27 2 → 0 ≤ X 29 k ∧ X 29 k < X 30 5) ∧ (∀ k, 0 ≤ k → k < X 30 5 → (0 ≤ X 31 k ∧ X 31 k ≤ 15) ∧ (0 ≤ X 32 k ∧ X 32 k ≤ vP V))
def j_pr (X U : q_S) (V : v_V) : Prop := U 36 25 = X 27 1 ∧ U 36 28 = X 27 2 ∧ U 36 29 = X 27 3 ∧ U 36 30 = X 30 5 ∧ U 36 26 = X 27 10 ∧ U 36 27 = X 27 11 ∧ (∀ k, 0 ≤ k → k < X 27 2 → U 54 k = X 28 k) ∧ (∀ k, 1 ≤ k → k < X 27 2 → U 55 k = X 29 k)
  ∧ (∀ k, 0 ≤ k → k < X 30 5 → U 56 k = v_cod (X 31 k) ∧ U 57 k = X 32 k ∧ U 58 k = j_nz X V k ∧ U 59 k = X 33 k ∧ U 60 k = X 34 k ∧ ∀ i, 0 ≤ i → i < U 58 k → U 61 (4 * k + i) = X 35 (4 * k + i))
theorem j_p_of {S : q_S} {V : v_V} (h : j_pc S V) (h' : j_pr S S V) : j_p S V := by
  obtain ⟨a1, a2, a3, a4, a5, a6, a7, a8, a9, a10, a11⟩ := h
  obtain ⟨b1, b2, b3, b4, b5, b6, b7, b8, b9⟩ := h'
  refine ⟨b1, a1, b2, a2, b3, a3, b4, a4, b5, a5, b6, a6, fun k h0 h1 => ⟨b7 k h0 h1, a7 k h0 h1⟩, a8, a9, fun k h0 h1 => ⟨b8 k h0 h1, a10 k h0 h1⟩, fun k h0 h1 => ?_⟩
  obtain ⟨c1, c2, c3, c4, c5, c6⟩ := b9 k h0 h1
  exact ⟨(a11 k h0 h1).1, c1, c2, (a11 k h0 h1).2, c3, c4, c5, c6⟩
theorem j_p_to {S : q_S} {V : v_V} (h : j_p S V) : j_pc S V ∧ j_pr S S V := by
  obtain ⟨b1, a1, b2, a2, b3, a3, b4, a4, b5, a5, b6, a6, c7, a8, a9, c10, c11⟩ := h
  refine ⟨⟨a1, a2, a3, a4, a5, a6, fun k h0 h1 => (c7 k h0 h1).2, a8, a9, fun k h0 h1 => (c10 k h0 h1).2, fun k h0 h1 => ⟨(c11 k h0 h1).1, (c11 k h0 h1).2.2.2.1⟩⟩, b1, b2, b3, b4, b5, b6, fun k h0 h1 => (c7 k h0 h1).1, fun k h0 h1 => (c10 k h0 h1).1, fun k h0 h1 => ?_⟩
  obtain ⟨d1, d2, d3, d4, d5, d6, d7, d8⟩ := c11 k h0 h1
  exact ⟨d2, d3, d5, d6, d7, d8⟩
def p_nw (X X' : q_S) (h g tk sy pr bg en n : Int) : Prop := X' 27 1 = X 27 1 ∧ X' 27 2 = h + 1 ∧ X' 27 3 = tk ∧ X' 30 5 = X 30 5 + 1 ∧ X' 27 10 = X 27 10 ∧ X' 27 11 = X 27 11 ∧ (∀ k, X' 28 k = if k = h then g else X 28 k) ∧ (∀ k, X' 29 k = if k = h then X 30 5 else X 29 k) ∧ (∀ k, X' 31 k = if k = X 30 5 then sy else X 31 k) ∧ (∀ k, X' 32 k = if k = X 30 5 then pr else X 32 k) ∧ (∀ k, X' 33 k = if k = X 30 5 then bg else X 33 k) ∧ (∀ k, X' 34 k = if k = X 30 5 then en else X 34 k)
  ∧ (∀ i, X' 35 i = if 4 * X 30 5 ≤ i ∧ i < 4 * X 30 5 + n then X 29 (h + (i - 4 * X 30 5)) else X 35 i)
section ParseC
variable {S X X' : q_S} {V : v_V} {b : v_B} {Q : q_Q} {Z : q_Z}
theorem p_nw_c {h g tk sy pr bg en n : Int} (hX : j_pc X V) (hn : p_nw X X' h g tk sy pr bg en n) (h1 : 1 ≤ h ∧ h ≤ X 27 2) (h2 : h + 1 ≤ X 27 10) (h3 : X 30 5 < X 27 11) (hg : 0 ≤ g ∧ g < vSt V) (hy : ∃ y, (0 ≤ y ∧ y < 16) ∧ vGo V (X 28 (h - 1)) y = g) (hs : 0 ≤ sy ∧ sy ≤ 15) (hp : 0 ≤ pr ∧ pr ≤ vP V) (ht : 0 ≤ tk ∧ tk ≤ X 30 5 + 1) : j_pc X' V := by
  obtain ⟨a1, a2, a3, a4, a5, a6, a7, a8, a9, a10, a11⟩ := hX
  obtain ⟨n1, n2, n3, n4, n5, n6, n7, n8, n9, n10, n11, n12, n13⟩ := hn
  refine ⟨by omega, by omega, by omega, by omega, by omega, by omega, fun k k0 k1 => ?_, ?_, fun k k0 k1 => ?_, fun k k0 k1 => ?_, fun k k0 k1 => ?_⟩
  · rw [n7]
    split
    · exact hg
    · exact a7 k k0 (by omega)
  · rw [n7, if_neg (by omega)]; exact a8
  · rw [n7, n7, if_neg (by omega)]
    split
    · rename_i e; rw [e]; exact hy
    · exact a9 k k0 (by omega)
  · rw [n8, n4]
    split
    · omega
    · have := a10 k k0 (by omega)
      omega
  · rw [n9, n10]
    split
    · exact ⟨hs, hp⟩
    · exact a11 k k0 (by omega)
theorem p_low (hX : j_pc X V) (hpx : v_px V) {p d : Int} (hd : 0 ≤ d) (hi : vIt V (X 28 (X 27 2 - 1)) p d = 1) : ∀ j : Nat, (j : Int) ≤ d → (j : Int) ≤ X 27 2 - 1 ∧ vIt V (X 28 (X 27 2 - 1 - j)) p (d - j) = 1 := by
  obtain ⟨a1, a2, a3, a4, a5, a6, a7, a8, a9, a10, a11⟩ := hX
  intro j
  induction j with
  | zero =>
    intro _
    refine ⟨by omega, ?_⟩
    rw [show X 27 2 - 1 - ((0 : Nat) : Int) = X 27 2 - 1 by omega, show d - ((0 : Nat) : Int) = d by omega]; exact hi
  | succ j ih =>
    intro hj
    obtain ⟨i1, i2⟩ := ih (by omega)
    have hne : X 27 2 - 1 - (j : Int) ≠ 0 := by
      intro e
      rw [e, a8] at i2
      exact hpx.2.1 p _ (by omega) i2
    refine ⟨by omega, ?_⟩
    obtain ⟨y, y1, y2⟩ := a9 (X 27 2 - 1 - j) (by omega) (by omega)
    have r1 := a7 (X 27 2 - 1 - j) (by omega) (by omega)
    have r2 := a7 (X 27 2 - 1 - j - 1) (by omega) (by omega)
    rw [← y2] at i2
    have := (hpx.1 _ y r2.1 r2.2 y1.1 y1.2 (by omega) p (d - j) (by omega) i2).1
    rw [show X 27 2 - 1 - ((j + 1 : Nat) : Int) = X 27 2 - 1 - j - 1 by omega, show d - ((j + 1 : Nat) : Int) = d - j - 1 by omega]
    exact this
/-- where a reduction lands -/
theorem p_red (hX : j_pc X V) (hV : v_wf V) (hpx : v_px V) {p : Int} (hp : 1 ≤ p ∧ p ≤ vP V) (hi : vIt V (X 28 (X 27 2 - 1)) p (vSz V p) = 1) : 1 ≤ X 27 2 - vSz V p ∧ (0 ≤ vGo V (X 28 (X 27 2 - vSz V p - 1)) (vLf V p) ∧ vGo V (X 28 (X 27 2 - vSz V p - 1)) (vLf V p) < vSt V) ∧ (0 ≤ X 28 (X 27 2 - vSz V p - 1) ∧ X 28 (X 27 2 - vSz V p - 1) < vSt V) := by
  have hz := hV.2.1 p (by omega) hp.2
  have hl := hV.2.2.2.1 p hp.1 hp.2
  obtain ⟨h1, h2⟩ := p_low hX hpx hz.1 hi (vSz V p).toNat (by omega)
  have e : (((vSz V p).toNat : Nat) : Int) = vSz V p := by omega
  rw [e] at h1 h2
  rw [show vSz V p - vSz V p = 0 by omega, show X 27 2 - 1 - vSz V p = X 27 2 - vSz V p - 1 by omega] at h2
  have r := hX.2.2.2.2.2.2.1 (X 27 2 - vSz V p - 1) (by omega) (by omega)
  have g := hpx.2.2 _ p r.1 r.2 hp.1 h2
  have w := hV.2.2.2.2.2.1 _ (vLf V p) r.1 r.2 (by omega) (by omega)
  exact ⟨by omega, by omega, r⟩
/-- what an action is -/
theorem v_act_r {s t a : Int} (hV : v_wf V) (hs : 0 ≤ s ∧ s < vSt V) (ht : 0 ≤ t ∧ t ≤ 8) (h : v_act V b s t a) : a = 0 ∨ a = 16 ∨ (20 ≤ a ∧ a - 20 < vSt V ∧ t < 8 ∧ vGo V s (8 + t) = a - 20) ∨ ((1 ≤ a ∧ a ≤ vP V) ∧ vIt V s a (vSz V a) = 1) := by
  obtain ⟨r, h1, h2⟩ := h
  obtain ⟨g1, g2⟩ := v_sh_r hV hs ht
  have hP := hV.1
  have sh : v_sh V s t ≠ -1 → 20 ≤ 20 + v_sh V s t ∧ 20 + v_sh V s t - 20 < vSt V ∧ t < 8 ∧ vGo V s (8 + t) = 20 + v_sh V s t - 20 := by
    intro hne
    have t8 := g2 hne
    have e : v_sh V s t = vGo V s (8 + t) := by unfold v_sh; rw [if_neg (by omega)]
    have w := hV.2.2.2.2.2.1 s (8 + t) hs.1 hs.2 (by omega) (by omega)
    rw [e] at hne ⊢
    exact ⟨by omega, by omega, t8, by omega⟩
  have rd : r ≠ -1 → r ≠ 0 → (1 ≤ r ∧ r ≤ vP V) ∧ vIt V s r (vSz V r) = 1 := by
    intro q1 q2
    rcases h1 with ⟨h1, -⟩ | ⟨h1, h3, -⟩
    · exact absurd h1 q1
    · refine ⟨by omega, ?_⟩
      rcases hV.2.2.2.2.2.2.1 s r (vSz V r) with e | e
      · unfold v_bt v_sb at h3
        rw [if_pos e] at h3
        unfold n_bit at h3
        simp at h3
      · exact e
  unfold v_af at h2
  split at h2
  · split at h2
    · exact Or.inl h2
    · rename_i q1 q2
      rw [h2]; exact Or.inr (Or.inr (Or.inl (sh q2)))
  · rename_i q1
    have both : a = (if r = 0 then 16 else r) → a = 0 ∨ a = 16 ∨ (20 ≤ a ∧ a - 20 < vSt V ∧ t < 8 ∧ vGo V s (8 + t) = a - 20) ∨ ((1 ≤ a ∧ a ≤ vP V) ∧ vIt V s a (vSz V a) = 1) := by
      intro e
      split at e
      · exact Or.inr (Or.inl e)
      · rename_i q2
        rw [e]; exact Or.inr (Or.inr (Or.inr (rd q1 q2)))
    split at h2
    · exact both h2
    · rename_i q2
      split at h2
      · rw [h2]; exact Or.inr (Or.inr (Or.inl (sh q2)))
      · split at h2
        · exact both h2
        · split at h2
          · exact both h2
          · split at h2
            · rw [h2]; exact Or.inr (Or.inr (Or.inl (sh q2)))
            · exact Or.inl h2
abbrev p_ks : List Nat := [28, 29, 31, 32, 33, 34, 35]
abbrev p_fs : List (Nat × Int) := [(27, 1), (27, 2), (27, 3), (30, 5)]
theorem c_120 {a : Int} (h : ∀ r, v_b01 (a ≤ X 27 10 ∧ X 30 5 < X 27 11) r → Q r X) : q_c 120 [vR 27, vI a] X Q Z := by
  exact b_120_0 ⟨fun g => ⟨⟨by omega, by omega⟩, h _ (Or.inr ⟨by omega, rfl⟩)⟩, fun g => ⟨fun g2 => ⟨⟨by omega, by omega⟩, h _ (Or.inr ⟨by omega, rfl⟩)⟩, fun g2 => ⟨⟨by omega, by omega⟩, h _ (Or.inl ⟨by omega, rfl⟩)⟩⟩⟩
/-- shift -/
theorem c_117 {g t : Int} (hX : j_pc X V) (ht : 0 ≤ t ∧ t < 8) (hf : ¬ (X 27 2 + 1 ≤ X 27 10 ∧ X 30 5 < X 27 11) → Q 0 (q_up X 27 1 3)) (ho : (X 27 2 + 1 ≤ X 27 10 ∧ X 30 5 < X 27 11) → ∀ X', n_fr p_ks p_fs X X' → p_nw X X' (X 27 2) g (X 27 3 + 1) (8 + t) 0 (X 27 3) (X 27 3 + 1) 0 → Q 0 X') : q_c 117 [vR 27, vI g, vI t] X Q Z := by
  obtain ⟨a1, a2, a3, a4, a5, a6, -⟩ := hX
  refine b_117_0 ⟨by unfold q_rg; omega, ?_⟩
  refine c_120 ?_
  rintro r (⟨hr, rfl⟩ | ⟨hr, rfl⟩)
  · refine ⟨fun _ => b_158_0 ⟨by unfold q_rg; omega, by omega, by omega, by omega, by omega, by omega, by omega, by unfold q_rg; omega, by omega, by omega, by unfold q_rg; omega, ?_⟩, fun q => by omega⟩
    obtain ⟨Y, hY⟩ : ∃ Y, Y = q_up (q_up (q_up (q_up (q_up X 31 (X 30 5) (8 + t)) 32 (X 30 5) 0) 33 (X 30 5) (X 27 3)) 34 (X 30 5) (X 27 3 + 1)) 30 5 (X 30 5 + 1) := ⟨_, rfl⟩
    rw [← hY]
    have e27 : Y 27 = X 27 := by rw [hY]; simp only [q_up_ne (show (27 : Nat) ≠ 30 by decide), q_up_ne (show (27 : Nat) ≠ 34 by decide), q_up_ne (show (27 : Nat) ≠ 33 by decide), q_up_ne (show (27 : Nat) ≠ 32 by decide), q_up_ne (show (27 : Nat) ≠ 31 by decide)]
    refine b_121_0 ?_
    rw [e27]
    refine ⟨by omega, by omega, by omega, by omega, by unfold q_rg; omega, ?_⟩
    have e3 : q_up (q_up (q_up Y 28 (X 27 2) g) 29 (X 27 2) (X 30 5)) 27 2 (X 27 2 + 1) 27 3 = X 27 3 := by simp [n_up, e27]
    rw [e3]
    refine ⟨by unfold q_rg; omega, ho hr _ ?_ ?_⟩
    · rw [hY]
      exact n_fr_i (n_fr_i (n_fr_k (n_fr_k (n_fr_i (n_fr_k (n_fr_k (n_fr_k (n_fr_k n_fr_r (by decide)) (by decide)) (by decide)) (by decide)) (by decide)) (by decide)) (by decide)) (by decide)) (by decide)
    · rw [hY]
      refine ⟨?_, ?_, ?_, ?_, ?_, ?_, fun k => ?_, fun k => ?_, fun k => ?_, fun k => ?_, fun k => ?_, fun k => ?_, fun i => ?_⟩
      all_goals first | (simp [n_up]; done) | (rw [if_neg (by omega)]; simp [n_up]; done)
  · exact ⟨fun q => absurd rfl q, fun _ => hf hr⟩
end ParseC
