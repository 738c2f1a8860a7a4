/-! the parser: reference -/
abbrev p_rk : List Nat := [54, 55, 56, 57, 58, 59, 60, 61]
def p_nr (U U' : q_S) (h c g cd pr n bg en : Int) : Prop := U' 36 28 = h + 1 ∧ U' 36 30 = c + 1 ∧ (∀ k, U' 54 k = if k = h then g else U 54 k) ∧ (∀ k, U' 55 k = if k = h then c else U 55 k) ∧ (∀ k, U' 56 k = if k = c then cd else U 56 k) ∧ (∀ k, U' 57 k = if k = c then pr else U 57 k) ∧ (∀ k, U' 58 k = if k = c then n else U 58 k) ∧ (∀ k, U' 59 k = if k = c then bg else U 59 k) ∧ (∀ k, U' 60 k = if k = c then en else U 60 k) ∧ (∀ i, U' 61 i = if 4 * c ≤ i ∧ i < 4 * c + n then U 55 (h + (i - 4 * c)) else U 61 i)
section ParseM
variable {S U X X' : q_S} {V : v_V} {b : v_B} {Q : q_Q} {Z : q_Z}
theorem m_73 {g sy pr n h c tk : Int} (e1 : U 36 28 = h) (e2 : U 36 30 = c) (e3 : U 36 29 = tk) (hh : 1 ≤ h ∧ h < 24) (hc : 0 ≤ c ∧ c < 60) (hn : 0 ≤ n ∧ n ≤ 4 ∧ h + n ≤ 24) (hs : 0 ≤ sy ∧ sy ≤ 15) (ht : 0 ≤ tk ∧ tk ≤ 60) (hr : 0 < n → (0 ≤ U 55 h ∧ U 55 h < 60) ∧ 0 ≤ U 55 (h + n - 1) ∧ U 55 (h + n - 1) < 60)
    (hq : ∀ U', n_fr p_rk [(36, 28), (36, 30)] U U' → p_nr U U' h c g (v_cod sy) pr n (if n = 0 then tk else U 59 (U 55 h)) (if n = 0 then (if sy < 8 then tk else tk + 1) else U 60 (U 55 (h + n - 1))) → Q 0 U') : q_c 73 [vR 36, vI g, vI sy, vI pr, vI n] U Q Z := by
  refine b_73_0 ?_
  refine m_30 hs ?_
  rw [e2]
  refine ⟨by omega, by omega, by omega, by omega, by omega, by omega, ?_⟩
  have key : ∀ (i : Int) (W : q_S), i ≤ n → (0 ≤ i ∧ n_fr [61] [] (q_up (q_up (q_up U 56 c (v_cod sy)) 57 c pr) 58 c n) W ∧ ∀ j, W 61 j = if 4 * c ≤ j ∧ j < 4 * c + i then U 55 (h + (j - 4 * c)) else U 61 j) → q_r 73 37 [vR 36, vI g, vI sy, vI pr, vI n, vI i] [] W Q Z := by
    refine n_for n (fun (i : Int) (W : q_S) => 0 ≤ i ∧ n_fr [61] [] (q_up (q_up (q_up U 56 c (v_cod sy)) 57 c pr) 58 c n) W ∧ ∀ j, W 61 j = if 4 * c ≤ j ∧ j < 4 * c + i then U 55 (h + (j - 4 * c)) else U 61 j) (fun (i : Int) (W : q_S) => q_r 73 37 [vR 36, vI g, vI sy, vI pr, vI n, vI i] [] W Q Z) ?_ ?_
    · rintro W ⟨i0, fW, eW⟩
      have w36 : W 36 = U 36 := by rw [n_fr_c fW (by decide), q_up_ne (by decide), q_up_ne (by decide), q_up_ne (by decide)]
      have w54 : W 54 = U 54 := by rw [n_fr_c fW (by decide), q_up_ne (by decide), q_up_ne (by decide), q_up_ne (by decide)]
      have w55 : W 55 = U 55 := by rw [n_fr_c fW (by decide), q_up_ne (by decide), q_up_ne (by decide), q_up_ne (by decide)]
      have w59 : W 59 = U 59 := by rw [n_fr_c fW (by decide), q_up_ne (by decide), q_up_ne (by decide), q_up_ne (by decide)]
      have w60 : W 60 = U 60 := by rw [n_fr_c fW (by decide), q_up_ne (by decide), q_up_ne (by decide), q_up_ne (by decide)]
      have w56 : W 56 = q_up U 56 c (v_cod sy) 56 := by rw [n_fr_c fW (by decide), q_up_ne (by decide), q_up_ne (by decide)]
      have w57 : W 57 = q_up U 57 c pr 57 := by
        rw [n_fr_c fW (by decide), q_up_ne (by decide)]
        funext k; simp [n_up]
      have w58 : W 58 = q_up U 58 c n 58 := by
        rw [n_fr_c fW (by decide)]
        funext k; simp [n_up]
      have frU : n_fr p_rk [(36, 28), (36, 30)] U W := n_fr_t (n_fr_k (n_fr_k (n_fr_k n_fr_r (by decide)) (by decide)) (by decide)) (n_fr_w fW (by decide) (by decide))
      have fin : ∀ bg en : Int, bg = (if n = 0 then tk else U 59 (U 55 h)) → en = (if n = 0 then (if sy < 8 then tk else tk + 1) else U 60 (U 55 (h + n - 1))) → Q 0 (q_up (q_up (q_up (q_up (q_up (q_up W 59 c bg) 60 c en) 54 h g) 55 h c) 36 28 (h + 1)) 36 30 (c + 1)) := by
        intro bg en hbg hen
        refine hq _ (n_fr_i (n_fr_i (n_fr_k (n_fr_k (n_fr_k (n_fr_k frU (by decide)) (by decide)) (by decide)) (by decide)) (by decide)) (by decide)) ?_
        rw [← hbg, ← hen]
        refine ⟨?_, ?_, fun k => ?_, fun k => ?_, fun k => ?_, fun k => ?_, fun k => ?_, fun k => ?_, fun k => ?_, fun i => ?_⟩
        · simp [n_up]
        · simp [n_up]
        · simp [n_up, w54]
        · simp [n_up, w55]
        · simp [n_up, w56]
        · simp [n_up, w57]
        · simp [n_up, w58]
        · simp [n_up, w59]
        · simp [n_up, w60]
        · have := eW i
          simp [n_up, this]
      refine b_73_37 ?_
      rw [w36, w55, w59, w60, e1, e2, e3]
      refine ⟨fun _ => ⟨fun g1 => ⟨by omega, by omega, fun g2 => ⟨fun g3 => ⟨by unfold q_rg; omega, by omega, by omega, by omega, by omega, by omega, by omega, by unfold q_rg; omega, by unfold q_rg; omega, fin _ _ ?_ ?_⟩, fun g3 => ⟨by omega, by omega, by omega, by omega, by omega, by omega, by unfold q_rg; omega, by unfold q_rg; omega, fin _ _ ?_ ?_⟩⟩, fun g2 => absurd g1 g2⟩, fun g1 => ⟨by omega, by omega, (hr (by omega)).1.1, (hr (by omega)).1.2, by omega, by omega, fun g2 => absurd g2 g1, fun g2 => ⟨by unfold q_rg; omega, by unfold q_rg; omega, by omega, by omega, (hr (by omega)).2.1, (hr (by omega)).2.2, by omega, by omega, by omega, by omega, by omega, by omega, by unfold q_rg; omega, by unfold q_rg; omega, fin _ _ ?_ ?_⟩⟩⟩, fun g1 => by omega⟩
      · rw [if_pos (by omega)]
      · rw [if_pos (by omega), if_neg (by omega)]
      · rw [if_pos (by omega)]
      · rw [if_pos (by omega), if_pos (by omega)]
      · rw [if_neg (by omega)]
      · rw [if_neg (by omega)]
    · rintro i W ⟨i0, fW, eW⟩ hi ih
      have w36 : W 36 = U 36 := by rw [n_fr_c fW (by decide), q_up_ne (by decide), q_up_ne (by decide), q_up_ne (by decide)]
      have w55 : W 55 = U 55 := by rw [n_fr_c fW (by decide), q_up_ne (by decide), q_up_ne (by decide), q_up_ne (by decide)]
      refine b_73_37 ?_
      rw [w36, w55, e1, e2]
      refine ⟨fun g1 => by omega, fun _ => ⟨by unfold q_rg; omega, by unfold q_rg; omega, by unfold q_rg; omega, by omega, by omega, by omega, by omega, by unfold q_rg; omega, ih (q_up W 61 (4 * c + i) (U 55 (h + i))) ⟨by omega, n_fr_k fW (by decide), fun j => ?_⟩⟩⟩
      rw [n_up, eW]
      by_cases e : j = 4 * c + i
      · rw [if_pos ⟨rfl, e⟩, if_pos (by omega), e, show h + (4 * c + i - 4 * c) = h + i by omega]
      · rw [if_neg (fun q => e q.2)]
        by_cases e2 : 4 * c ≤ j ∧ j < 4 * c + i
        · rw [if_pos e2, if_pos (by omega)]
        · rw [if_neg e2, if_neg (by omega)]
  refine key 0 _ hn.1 ⟨by omega, n_fr_r, fun j => ?_⟩
  rw [if_neg (by omega), q_up_ne (by decide), q_up_ne (by decide), q_up_ne (by decide)]
theorem v_jnz {X X' : q_S} {k : Int} (h : X' 32 k = X 32 k) : j_nz X' V k = j_nz X V k := by
  unfold j_nz; rw [h]
/-- class and reference push alike -/
theorem p_both {U' : q_S} {h g tk sy pr bg en bg' en' n : Int} (hR : j_pr X U V) (hX : j_pc X V) (hn : p_nw X X' h g tk sy pr bg en n) (hr : p_nr U U' h (X 30 5) g (v_cod sy) pr n bg' en') (fr : n_fr p_rk [(36, 28), (36, 29), (36, 30)] U U') (ht : U' 36 29 = tk) (hz : n = if pr = 0 then 0 else vSz V pr) (h1 : 1 ≤ h ∧ h ≤ X 27 2) (hh : h + n ≤ X 27 2) (hbg : bg' = bg) (hen : en' = en) : j_pr X' U' V := by
  obtain ⟨b1, b2, b3, b4, b5, b6, b7, b8, b9⟩ := hR
  obtain ⟨n1, n2, n3, n4, n5, n6, n7, n8, n9, n10, n11, n12, n13⟩ := hn
  obtain ⟨r1, r2, r3, r4, r5, r6, r7, r8, r9, r10⟩ := hr
  have hc : 0 ≤ X 30 5 := hX.2.2.2.1.1
  refine ⟨?_, by omega, by omega, by omega, ?_, ?_, fun k k0 k1 => ?_, fun k k0 k1 => ?_, fun k k0 k1 => ?_⟩
  · rw [n_fr_f fr (by decide), n1]; exact b1
  · rw [n_fr_f fr (by decide), n5]; exact b5
  · rw [n_fr_f fr (by decide), n6]; exact b6
  · rw [r3, n7]
    split
    · rfl
    · exact b7 k k0 (by omega)
  · rw [r4, n8]
    split
    · rfl
    · exact b8 k k0 (by omega)
  · rw [r5, r6, r7, r8, r9, n9, n10, n11, n12]
    by_cases e : k = X 30 5
    · rw [if_pos e, if_pos e, if_pos e, if_pos e, if_pos e, if_pos e, if_pos e, if_pos e, if_pos e]
      refine ⟨rfl, rfl, ?_, hbg, hen, fun i i0 i1 => ?_⟩
      · unfold j_nz
        rw [n10, if_pos e]; exact hz
      · rw [r10, n13, if_pos (by omega), if_pos (by omega)]
        exact b8 _ (by omega) (by omega)
    · rw [if_neg e, if_neg e, if_neg e, if_neg e, if_neg e, if_neg e, if_neg e, if_neg e, if_neg e]
      obtain ⟨c1, c2, c3, c4, c5, c6⟩ := b9 k k0 (by omega)
      refine ⟨c1, c2, ?_, c4, c5, fun i i0 i1 => ?_⟩
      · rw [v_jnz (X' := X') (X := X) (by rw [n10, if_neg e])]; exact c3
      · have h4 : U 58 k ≤ 4 ∨ ¬ U 58 k ≤ 4 := by omega
        have c7 := c6 i i0 i1
        rw [r10, n13]
        by_cases q : 4 * X 30 5 ≤ 4 * k + i ∧ 4 * k + i < 4 * X 30 5 + n
        · rw [if_pos q, if_pos q]
          exact b8 _ (by omega) (by omega)
        · rw [if_neg q, if_neg q]; exact c7
end ParseM
