theorem n_up1 (S : q_S) (k : Nat) (i v : Int) : q_up S k i v k i = v := by
  rw [n_up]; simp
section Write
variable {S T : q_S} {V : v_V} {b : v_B} {Q : q_Q} {Z : q_Z}
def v_nz (f : Int → Int) : Nat → Int
  | 0 => 0
  | n + 1 => v_nz f n + (if f n = 0 then 0 else 1)
theorem v_nz_s (f : Int → Int) (n : Nat) : v_nz f (n + 1) = v_nz f n + (if f n = 0 then 0 else 1) := rfl
theorem v_nz_r (f : Int → Int) (n : Nat) : 0 ≤ v_nz f n ∧ v_nz f n ≤ n := by
  induction n with
  | zero => show 0 ≤ (0 : Int) ∧ (0 : Int) ≤ ((0 : Nat) : Int); omega
  | succ n ih => rw [v_nz_s]; split <;> omega
theorem v_nz_m (f : Int → Int) (n k : Nat) : v_nz f n ≤ v_nz f (n + k) := by
  induction k with
  | zero => exact Int.le_refl _
  | succ k ih => rw [← Nat.add_assoc, v_nz_s]; split <;> omega
def v_gd (f : Int → Int) (n : Int) : Prop := ∀ i, 0 ≤ i → i < n → f i = 0 ∨ (32 ≤ f i ∧ f i ≤ 126)
def v_tx (g : Int → Int) (l : Int) (f : Int → Int) : Nat → Int → Int
  | 0 => g
  | n + 1 => if f n = 0 then v_tx g l f n else fun i => if i = l + v_nz f n then f n else v_tx g l f n i
theorem v_tx_s (g : Int → Int) (l : Int) (f : Int → Int) (n : Nat) : v_tx g l f (n + 1) = if f n = 0 then v_tx g l f n else fun i => if i = l + v_nz f n then f n else v_tx g l f n i := rfl
theorem c_155 {x : Int} (hl : 0 ≤ S 1 1 ∧ S 1 1 ≤ 200) (h : ∀ a, v_b01 (v_gd (v_by x) 8 ∧ S 1 1 + v_nz (v_by x) 8 ≤ 200) a → Q a S) : q_c 155 [vR 1, vL x] S Q Z := by
  refine b_155_0 ?_
  have key : ∀ (i : Int) (y : Int × q_J × q_J), i ≤ 8 → (0 ≤ i ∧ y.1 = v_nz (v_by x) i.toNat ∧ v_gd (v_by x) i) → q_r 155 5 [vR 1, vL x, vJ y.2.1, vI y.1, vI i, vJ y.2.2] [] S Q Z := by
    refine n_for 8 (fun (i : Int) (y : Int × q_J × q_J) => 0 ≤ i ∧ y.1 = v_nz (v_by x) i.toNat ∧ v_gd (v_by x) i) (fun (i : Int) (y : Int × q_J × q_J) => q_r 155 5 [vR 1, vL x, vJ y.2.1, vI y.1, vI i, vJ y.2.2] [] S Q Z) ?_ ?_
    · rintro ⟨n, j1, j2⟩ ⟨-, h1, h2⟩
      simp only at h1
      have hr := v_nz_r (v_by x) 8
      have e8 : (8 : Int).toNat = 8 := rfl
      rw [e8] at h1
      subst h1
      refine b_155_5 ⟨fun _ => ⟨by unfold q_rg; omega, fun g => ⟨⟨by omega, by omega⟩, h _ (Or.inr ⟨fun g2 => by omega, rfl⟩)⟩, fun g => ⟨⟨by omega, by omega⟩, h _ (Or.inl ⟨⟨h2, by omega⟩, rfl⟩)⟩⟩, fun g => by omega⟩
    · rintro i ⟨n, j1, j2⟩ ⟨h0, h1, h2⟩ hi ih
      simp only at h1
      subst h1
      have hr := v_nz_r (v_by x) i.toNat
      have en : (i + 1).toNat = i.toNat + 1 := by omega
      have ei : ((i.toNat : Nat) : Int) = i := by omega
      refine b_155_5 ⟨fun g => by omega, fun _ => b_156_0 ⟨by unfold q_rg; omega, ?_⟩⟩
      show (v_by x i = 0 → _) ∧ (¬ v_by x i = 0 → _)
      refine ⟨fun g => ⟨by unfold q_rg; omega, ih (_, _, .inl _) ⟨by omega, ?_, ?_⟩⟩, fun g => ⟨fun g1 => ⟨⟨by omega, by omega⟩, h _ (Or.inr ⟨fun g2 => ?_, rfl⟩)⟩, fun g1 => ⟨fun g2 => ⟨by unfold q_rg; omega, by unfold q_rg; omega, ih (_, _, .inl _) ⟨by omega, ?_, ?_⟩⟩, fun g2 => ⟨⟨by omega, by omega⟩, h _ (Or.inr ⟨fun g3 => ?_, rfl⟩)⟩⟩⟩⟩
      · show _ = v_nz (v_by x) (i + 1).toNat
        rw [en, v_nz_s, ei, if_pos g]; omega
      · intro k k0 k1
        by_cases e : k = i
        · rw [e]; exact Or.inl g
        · exact h2 k k0 (by omega)
      · have := g2.1 i h0 hi
        change v_by x i < 32 at g1
        omega
      · show _ = v_nz (v_by x) (i + 1).toNat
        rw [en, v_nz_s, ei, if_neg g]
      · intro k k0 k1
        by_cases e : k = i
        · rw [e]
          change ¬ v_by x i < 32 at g1
          change v_by x i ≤ 126 at g2
          exact Or.inr (by omega)
        · exact h2 k k0 (by omega)
      · have := g3.1 i h0 hi
        change ¬ v_by x i ≤ 126 at g2
        omega
  exact key 0 (0, _, _) (by omega) ⟨by omega, rfl, fun k k0 k1 => by omega⟩
theorem c_0 {x : Int} (hl : 0 ≤ S 1 1 ∧ S 1 1 ≤ 200) (h : ¬ (v_gd (v_by x) 8 ∧ S 1 1 + v_nz (v_by x) 8 ≤ 200) → Q (-1) S)
    (h' : v_gd (v_by x) 8 ∧ S 1 1 + v_nz (v_by x) 8 ≤ 200 → ∀ T, n_fr [2] [(1, 1)] S T → T 1 1 = S 1 1 + v_nz (v_by x) 8 → (∀ i, 0 ≤ i → i < T 1 1 → T 2 i = v_tx (S 2) (S 1 1) (v_by x) 8 i) → Q (S 1 1 + v_nz (v_by x) 8) T) : q_c 0 [vR 0, vL x] S Q Z := by
  refine b_0_0 ?_
  refine b_153_0 ?_
  refine c_155 hl ?_
  rintro a (⟨hc, rfl⟩ | ⟨hc, rfl⟩)
  · refine ⟨fun _ => ?_, fun g => by omega⟩
    have key : ∀ (i : Int) (y : q_S × q_J × q_J), i ≤ 8 → (0 ≤ i ∧ n_fr [2] [(1, 1)] S y.1 ∧ y.1 1 1 = S 1 1 + v_nz (v_by x) i.toNat ∧ (∀ k, 0 ≤ k → k < y.1 1 1 → y.1 2 k = v_tx (S 2) (S 1 1) (v_by x) i.toNat k)) → q_r 153 12 [vR 1, vL x, vJ y.2.1, vI i, vJ y.2.2] [] y.1 Q Z := by
      refine n_for 8 (fun (i : Int) (y : q_S × q_J × q_J) => 0 ≤ i ∧ n_fr [2] [(1, 1)] S y.1 ∧ y.1 1 1 = S 1 1 + v_nz (v_by x) i.toNat ∧ (∀ k, 0 ≤ k → k < y.1 1 1 → y.1 2 k = v_tx (S 2) (S 1 1) (v_by x) i.toNat k)) (fun (i : Int) (y : q_S × q_J × q_J) => q_r 153 12 [vR 1, vL x, vJ y.2.1, vI i, vJ y.2.2] [] y.1 Q Z) ?_ ?_
      · rintro ⟨T, j1, j2⟩ ⟨-, h1, h2, h3⟩
        refine b_153_12 ⟨fun _ => ?_, fun g => by omega⟩
        have h2' : T 1 1 = S 1 1 + v_nz (v_by x) 8 := h2
        simp only
        rw [h2']
        exact h' hc T h1 h2' h3
      · rintro i ⟨T, j1, j2⟩ ⟨h0, h1, h2, h3⟩ hi ih
        simp only at h1 h2 h3 ⊢
        have hr := v_nz_r (v_by x) i.toNat
        have en : (i + 1).toNat = i.toNat + 1 := by omega
        have ei : ((i.toNat : Nat) : Int) = i := by omega
        have hm := v_nz_m (v_by x) (i.toNat + 1) (8 - (i.toNat + 1))
        rw [show i.toNat + 1 + (8 - (i.toNat + 1)) = 8 by omega, v_nz_s, ei] at hm
        refine b_153_12 ⟨fun g => by omega, fun _ => b_156_0 ⟨by unfold q_rg; omega, ?_⟩⟩
        show (v_by x i = 0 → _) ∧ (¬ v_by x i = 0 → _)
        refine ⟨fun g => ⟨by unfold q_rg; omega, ih (T, _, .inl _) ⟨by omega, h1, ?_, ?_⟩⟩, fun g => ?_⟩
        · simp only
          rw [en, v_nz_s, ei, if_pos g, Int.add_zero]; exact h2
        · simp only
          rw [en, v_tx_s, ei, if_pos g]; exact h3
        · have hb := hc.1 i h0 hi
          rw [if_neg g] at hm
          have em : v_by x i % 65536 = v_by x i := by omega
          have hc2 := hc.2
          refine ⟨by omega, by omega, ?_, by unfold q_rg; omega, by unfold q_rg; omega, ih (q_up (q_up T 2 (T 1 1) (v_by x i % 65536)) 1 1 (T 1 1 + 1), _, .inl _) ⟨by omega, n_fr_i (n_fr_k h1 (by decide)) (by decide), ?_, ?_⟩⟩
          · show q_ch (v_by x i % 65536)
            rw [em]; unfold q_ch; omega
          · simp only
            rw [n_up1, en, v_nz_s, ei, if_neg g]; omega
          · intro k k0 k1
            simp only at k1 ⊢
            rw [n_up1] at k1
            rw [n_up, if_neg (by omega), n_up, en, v_tx_s, ei, if_neg g]
            show (if 2 = 2 ∧ k = T 1 1 then v_by x i % 65536 else T 2 k) = if k = S 1 1 + v_nz (v_by x) i.toNat then v_by x i else v_tx (S 2) (S 1 1) (v_by x) i.toNat k
            by_cases e : k = T 1 1
            · rw [if_pos ⟨rfl, e⟩, if_pos (by omega), em]
            · rw [if_neg (fun q => e q.2), if_neg (by omega), h3 k k0 (by omega)]
    exact key 0 (S, _, _) (by omega) ⟨by omega, n_fr_r, by show S 1 1 = S 1 1 + 0; omega, fun k _ _ => rfl⟩
  · exact ⟨fun g => absurd rfl g, fun _ => h hc⟩
theorem m_32 {x : Int} (hl : 0 ≤ S 36 2 ∧ S 36 2 ≤ 200) (h : ¬ (v_gd (v_by x) 8 ∧ S 36 2 + v_nz (v_by x) 8 ≤ 200) → Q (-1) (q_up S 36 0 0))
    (h' : v_gd (v_by x) 8 ∧ S 36 2 + v_nz (v_by x) 8 ≤ 200 → ∀ T, n_fr [37] [(36, 0), (36, 2)] S T → T 36 2 = S 36 2 + v_nz (v_by x) 8 → (∀ i, 0 ≤ i → i < T 36 2 → T 37 i = v_tx (S 37) (S 36 2) (v_by x) 8 i) → Q (S 36 2 + v_nz (v_by x) 8) T) : q_c 32 [vR 36, vL x] S Q Z := by
  refine b_32_0 ?_
  have e2 : q_up S 36 0 0 36 2 = S 36 2 := by rw [n_up, if_neg (by omega)]
  have key2 : (v_gd (v_by x) 8 ∧ S 36 2 + v_nz (v_by x) 8 ≤ 200) → ∀ (i : Int) (y : q_S × q_J × q_J × q_J × q_J), i ≤ 8 → (0 ≤ i ∧ n_fr [37] [(36, 0), (36, 2)] S y.1 ∧ y.1 36 2 = S 36 2 + v_nz (v_by x) i.toNat ∧ (∀ k, 0 ≤ k → k < y.1 36 2 → y.1 37 k = v_tx (S 37) (S 36 2) (v_by x) i.toNat k)) → q_r 32 106 [vR 36, vL x, vJ y.2.1, vJ y.2.2.1, vJ y.2.2.2.1, vI i, vJ y.2.2.2.2] [] y.1 Q Z := by
    intro hc
    refine n_for 8 (fun (i : Int) (y : q_S × q_J × q_J × q_J × q_J) => 0 ≤ i ∧ n_fr [37] [(36, 0), (36, 2)] S y.1 ∧ y.1 36 2 = S 36 2 + v_nz (v_by x) i.toNat ∧ (∀ k, 0 ≤ k → k < y.1 36 2 → y.1 37 k = v_tx (S 37) (S 36 2) (v_by x) i.toNat k)) (fun (i : Int) (y : q_S × q_J × q_J × q_J × q_J) => q_r 32 106 [vR 36, vL x, vJ y.2.1, vJ y.2.2.1, vJ y.2.2.2.1, vI i, vJ y.2.2.2.2] [] y.1 Q Z) ?_ ?_
    · rintro ⟨T, j1, j2, j3, j4⟩ ⟨-, h1, h2, h3⟩
      refine b_32_106 ⟨fun _ => ?_, fun g => by omega⟩
      have h2' : T 36 2 = S 36 2 + v_nz (v_by x) 8 := h2
      simp only
      rw [h2']
      exact h' hc T h1 h2' h3
    · rintro i ⟨T, j1, j2, j3, j4⟩ ⟨h0, h1, h2, h3⟩ hi ih
      simp only at h1 h2 h3 ⊢
      have hr := v_nz_r (v_by x) i.toNat
      have en : (i + 1).toNat = i.toNat + 1 := by omega
      have ei : ((i.toNat : Nat) : Int) = i := by omega
      have hm := v_nz_m (v_by x) (i.toNat + 1) (8 - (i.toNat + 1))
      rw [show i.toNat + 1 + (8 - (i.toNat + 1)) = 8 by omega, v_nz_s, ei] at hm
      refine b_32_106 ⟨fun g => by omega, fun _ => ⟨by unfold q_rg; omega, ?_⟩⟩
      rw [(v_by_eq x i ⟨h0, hi⟩).1]
      refine ⟨fun g => ⟨by unfold q_rg; omega, ih (T, _, _, _, .inl _) ⟨by omega, h1, ?_, ?_⟩⟩, fun g => ?_⟩
      · simp only
        rw [en, v_nz_s, ei, if_pos g, Int.add_zero]; exact h2
      · simp only
        rw [en, v_tx_s, ei, if_pos g]; exact h3
      · rw [if_neg g] at hm
        have hc2 := hc.2
        refine ⟨by omega, by omega, by unfold q_rg; omega, by unfold q_rg; omega, ih (q_up (q_up T 37 (T 36 2) (v_by x i)) 36 2 (T 36 2 + 1), _, _, _, .inl _) ⟨by omega, n_fr_i (n_fr_k h1 (by decide)) (by decide), ?_, ?_⟩⟩
        · simp only
          rw [n_up1, en, v_nz_s, ei, if_neg g]; omega
        · intro k k0 k1
          simp only at k1 ⊢
          rw [n_up1] at k1
          rw [n_up, if_neg (by omega), n_up, en, v_tx_s, ei, if_neg g]
          show (if 37 = 37 ∧ k = T 36 2 then v_by x i else T 37 k) = if k = S 36 2 + v_nz (v_by x) i.toNat then v_by x i else v_tx (S 37) (S 36 2) (v_by x) i.toNat k
          by_cases e : k = T 36 2
          · rw [if_pos ⟨rfl, e⟩, if_pos (by omega)]
          · rw [if_neg (fun q => e q.2), if_neg (by omega), h3 k k0 (by omega)]
  have key : ∀ (i : Int) (y : Int × Int × q_J × q_J), i ≤ 8 → (0 ≤ i ∧ y.1 = v_nz (v_by x) i.toNat ∧ v_b01 (v_gd (v_by x) i) y.2.1) → q_r 32 13 [vR 36, vL x, vJ y.2.2.1, vI y.1, vI y.2.1, vI i, vJ y.2.2.2] [] (q_up S 36 0 0) Q Z := by
    refine n_for 8 (fun (i : Int) (y : Int × Int × q_J × q_J) => 0 ≤ i ∧ y.1 = v_nz (v_by x) i.toNat ∧ v_b01 (v_gd (v_by x) i) y.2.1) (fun (i : Int) (y : Int × Int × q_J × q_J) => q_r 32 13 [vR 36, vL x, vJ y.2.2.1, vI y.1, vI y.2.1, vI i, vJ y.2.2.2] [] (q_up S 36 0 0) Q Z) ?_ ?_
    · rintro ⟨n, gd, j1, j2⟩ ⟨-, h1, h2⟩
      simp only at h1 h2 ⊢
      have hr := v_nz_r (v_by x) 8
      have e8 : (8 : Int).toNat = 8 := rfl
      rw [e8] at h1
      subst h1
      refine b_32_13 ?_
      rw [e2]
      rcases h2 with ⟨h2, rfl⟩ | ⟨h2, rfl⟩
      · refine ⟨fun _ => ⟨fun g => by omega, fun _ => ⟨by unfold q_rg; omega, fun g => ?_, fun g => h (fun q => by omega)⟩⟩, fun g => by omega⟩
        exact key2 ⟨h2, g⟩ 0 (q_up S 36 0 0, _, _, _, _) (by omega) ⟨by omega, n_fr_i n_fr_r (by decide), by simp only; rw [e2]; show S 36 2 = S 36 2 + 0; omega, fun k _ _ => rfl⟩
      · exact ⟨fun _ => ⟨fun _ => h (fun q => h2 q.1), fun g => absurd rfl g⟩, fun g => by omega⟩
    · rintro i ⟨n, gd, j1, j2⟩ ⟨h0, h1, h2⟩ hi ih
      simp only at h1 h2 ⊢
      subst h1
      have hr := v_nz_r (v_by x) i.toNat
      have en : (i + 1).toNat = i.toNat + 1 := by omega
      have ei : ((i.toNat : Nat) : Int) = i := by omega
      have hs := v_nz_s (v_by x) i.toNat
      rw [ei] at hs
      have good : (v_by x i = 0 ∨ (32 ≤ v_by x i ∧ v_by x i ≤ 126)) → v_gd (v_by x) i → v_gd (v_by x) (i + 1) := fun q1 q2 k k0 k1 => by
        by_cases e : k = i
        · rw [e]; exact q1
        · exact q2 k k0 (by omega)
      have bad1 : ¬ v_gd (v_by x) i → ¬ v_gd (v_by x) (i + 1) := fun q1 q2 => q1 fun k k0 k1 => q2 k k0 (by omega)
      have bad2 : ¬ (v_by x i = 0 ∨ (32 ≤ v_by x i ∧ v_by x i ≤ 126)) → ¬ v_gd (v_by x) (i + 1) := fun q1 q2 => q1 (q2 i h0 (by omega))
      refine b_32_13 ⟨fun g => by omega, fun _ => ⟨by unfold q_rg; omega, ?_⟩⟩
      rw [(v_by_eq x i ⟨h0, hi⟩).1]
      have nx : ∀ (n gd : Int) (j : q_J), n = v_nz (v_by x) (i + 1).toNat → v_b01 (v_gd (v_by x) (i + 1)) gd → q_r 32 13 [vR 36, vL x, vJ j1, vI n, vI gd, vI (i + 1), vJ j] [] (q_up S 36 0 0) Q Z := fun n gd j q1 q2 => ih (n, gd, j1, j) ⟨by omega, q1, q2⟩
      have r1 : q_rg (i + 1) := by unfold q_rg; omega
      have r2 : q_rg (v_nz (v_by x) i.toNat + 1) := by unfold q_rg; omega
      have y1 : ¬ v_by x i = 0 → v_nz (v_by x) i.toNat + 1 = v_nz (v_by x) (i + 1).toNat := fun g => by rw [en, hs, if_neg g]
      have y0 : v_by x i = 0 → v_nz (v_by x) i.toNat = v_nz (v_by x) (i + 1).toNat := fun g => by rw [en, hs, if_pos g, Int.add_zero]
      rcases h2 with ⟨h2, rfl⟩ | ⟨h2, rfl⟩
      · refine ⟨fun g => by omega, fun _ => ⟨fun g => ⟨fun g2 => absurd g g2, fun _ => ⟨r1, nx _ _ (.inl _) (y0 g) (Or.inl ⟨good (Or.inl g) h2, rfl⟩)⟩⟩, fun g => ⟨fun g2 => ⟨fun _ => ⟨r2, r1, nx _ _ (.inl _) (y1 g) (Or.inr ⟨bad2 (by omega), rfl⟩)⟩, fun g3 => absurd g g3⟩, fun g2 => ⟨fun g3 => ⟨fun _ => ⟨r2, r1, nx _ _ (.inl _) (y1 g) (Or.inr ⟨bad2 (by omega), rfl⟩)⟩, fun g4 => absurd g g4⟩, fun g3 => ⟨fun _ => ⟨r2, r1, nx _ _ (.inl _) (y1 g) (Or.inl ⟨good (by omega) h2, rfl⟩)⟩, fun g4 => absurd g g4⟩⟩⟩⟩⟩
      · refine ⟨fun _ => ⟨fun g => ⟨r2, r1, nx _ _ (.inl _) (y1 g) (Or.inr ⟨bad1 h2, rfl⟩)⟩, fun g => ⟨r1, nx _ _ (.inl _) (y0 (by omega)) (Or.inr ⟨bad1 h2, rfl⟩)⟩⟩, fun g => absurd rfl g⟩
  exact key 0 (0, 1, _, _) (by omega) ⟨by omega, rfl, Or.inl ⟨fun k k0 k1 => by omega, rfl⟩⟩
theorem v_tx_eq {g g' f : Int → Int} {l : Int} (h : ∀ i, 0 ≤ i → i < l → g i = g' i) (n : Nat) : ∀ i, 0 ≤ i → i < l + v_nz f n → v_tx g l f n i = v_tx g' l f n i := by
  induction n with
  | zero => intro i h0 h1; exact h i h0 (by rw [show v_nz f 0 = 0 from rfl] at h1; omega)
  | succ n ih =>
    intro i h0 h1
    rw [v_nz_s] at h1
    rw [v_tx_s, v_tx_s]
    split
    · rename_i e
      rw [if_pos e] at h1
      exact ih i h0 (by omega)
    · rename_i e
      rw [if_neg e] at h1
      by_cases q : i = l + v_nz f n
      · simp only [q, if_true]
      · simp only [q, if_false]
        exact ih i h0 (by omega)
theorem v_tx_gd {g f : Int → Int} {l : Int} (h : ∀ i, 0 ≤ i → i < l → 32 ≤ g i ∧ g i ≤ 126) (hf : v_gd f 8) (n : Nat) (hn : n ≤ 8) : ∀ i, 0 ≤ i → i < l + v_nz f n → 32 ≤ v_tx g l f n i ∧ v_tx g l f n i ≤ 126 := by
  induction n with
  | zero => intro i h0 h1; exact h i h0 (by rw [show v_nz f 0 = 0 from rfl] at h1; omega)
  | succ n ih =>
    intro i h0 h1
    rw [v_nz_s] at h1
    rw [v_tx_s]
    split
    · rename_i e
      rw [if_pos e] at h1
      exact ih (by omega) i h0 (by omega)
    · rename_i e
      rw [if_neg e] at h1
      have := hf n (by omega) (by omega)
      by_cases q : i = l + v_nz f n
      · simp only [q, if_true]
        omega
      · simp only [q, if_false]
        exact ih (by omega) i h0 (by omega)
/-- write, both -/
theorem l_write {x : Int} (hJ : j_J S V b) (h : ∀ r T, n_fr [2] [(1, 1)] S T → (∀ (Q' : q_Q) (Z' : q_Z), (∀ U, j_J U V b → n_fr [2, 37] [(1, 1), (36, 0), (36, 2)] S U → Q' r U) → q_c 32 [vR 36, vL x] T Q' Z') → Q r T) : q_c 0 [vR 0, vL x] S Q Z := by
  obtain ⟨t1, t2, t3⟩ := hJ.1
  refine c_0 t2 (fun hn => h _ S n_fr_r fun Q' Z' hq => ?_) (fun hy T f1 e1 e2 => h _ T f1 fun Q' Z' hq => ?_)
  · refine m_32 (by omega) (fun _ => hq _ (j_J_ag j_ag_0 hJ) (n_fr_i n_fr_r (by decide))) (fun g => absurd (by rw [t1]; exact g) hn)
  · have e36 : T 36 = S 36 := n_fr_c f1 (by decide)
    have e37 : T 37 = S 37 := n_fr_c f1 (by decide)
    refine m_32 (by rw [e36]; omega) (fun g => absurd (by rw [e36, ← t1]; exact hy) g) (fun _ U f2 e3 e4 => ?_)
    have fr : n_fr [2, 37] [(1, 1), (36, 0), (36, 2)] S U := n_fr_t (n_fr_w f1 (by decide) (by decide)) (n_fr_w f2 (by decide) (by decide))
    have u1 : U 1 1 = T 1 1 := n_fr_f f2 (by decide)
    have u2 : U 2 = T 2 := n_fr_c f2 (by decide)
    rw [e36, ← t1]
    refine hq U (j_J_t fr ⟨?_, ?_, fun i i0 i1 => ?_⟩ hJ) fr
    · rw [u1, e1, e3, e36, t1]
    · have := v_nz_r (v_by x) 8
      omega
    · have q1 := e2 i i0 (by omega)
      have q2 := e4 i i0 (by rw [e3, e36, ← t1, ← e1, ← u1]; exact i1)
      rw [u2, q1, q2, e36, e37, ← t1]
      refine ⟨v_tx_eq (fun k k0 k1 => (t3 k k0 k1).1) 8 i i0 (by omega), v_tx_gd (fun k k0 k1 => (t3 k k0 k1).2) hy.1 8 (by omega) i i0 (by omega)⟩
end Write
