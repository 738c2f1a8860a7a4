section StatesN
variable {S : q_S} {V V' : v_V} {K : Int → Int → Prop} {Q : q_Q} {Z : q_Z}
theorem m_43 (hR : v_gn S V) (hV : v_gw V) (hN : k_nx S K) (hK : ∀ p d, K p d → x_va V p d) (hT : k_it S V) (h17 : S 36 17 = vSt V) (h40 : 0 ≤ vSt V ∧ vSt V ≤ 40) (hi : ∀ s p d, vIt V s p d = 0 ∨ vIt V s p d = 1) (hva : ∀ t p d, 0 ≤ t → t < vSt V → vIt V t p d = 1 → x_va V p d)
    (h : ∀ t S', (0 ≤ t ∧ t < vSt V) → x_sm V t K → (∀ t', 0 ≤ t' → t' < t → ¬ x_sm V t' K) → n_fr [48, 51] [(36, 17)] S S' → k_it S' V → S' 36 17 = vSt V → Q t S')
    (hf : (∀ t, 0 ≤ t → t < vSt V → ¬ x_sm V t K) → vSt V = 40 → ∀ S', n_fr [48, 51] [(36, 17)] S S' → Q (-1) S')
    (hn : (∀ t, 0 ≤ t → t < vSt V → ¬ x_sm V t K) → vSt V < 40 → ∀ S', n_fr [48, 51] [(36, 17)] S S' → k_it S' (w_st V K) → S' 36 17 = vSt V + 1 → Q (vSt V) S') : q_c 43 [vR 36] S Q Z := by
  have hP := hV.1
  refine b_43_0 (m_42 hR hV hN hK fun S1 fr nx => ?_)
  have it1 := k_it_fr fr (by decide) hT
  have e17 : S1 36 17 = vSt V := (n_fr_f fr (by decide)).trans h17
  have fw : n_fr [48, 51] [(36, 17)] S S1 := n_fr_w fr (by decide) (by decide)
  have clv : ∀ p d, x_cl V K p d → x_va V p d := fun p d q => x_cl_v hV hK q
  have ix : ∀ p d, x_va V p d → (0 ≤ 8 * p + d ∧ 8 * p + d < 128) ∧ (8 * p + d) / 8 = p ∧ (8 * p + d) % 8 = d := fun p d v => by
    have v1 := v.1
    have v2 := v.2
    have z := hV.2.1 p v1.1 v1.2
    omega
  have sm : ∀ t, 0 ≤ t → t < vSt V → (x_sm V t K ↔ ∀ j, 0 ≤ j → j < 128 → S1 48 (128 * t + j) = S1 51 j) := fun t t0 t1 => by
    constructor
    · intro q j j0 j1
      rw [it1 t j t0 t1 j0 j1]
      rcases nx j j0 j1 with ⟨g1, g2⟩ | ⟨g1, g2⟩
      · rw [g2]; exact (q _ _).mpr g1
      · rw [g2]
        rcases hi t (j / 8) (j % 8) with e | e
        · exact e
        · exact absurd ((q _ _).mp e) g1
    · intro q p d
      constructor
      · intro g
        obtain ⟨i1, i2, i3⟩ := ix p d (hva t p d t0 t1 g)
        have e := q (8 * p + d) i1.1 i1.2
        rw [it1 t _ t0 t1 i1.1 i1.2, i2, i3, g] at e
        rcases nx (8 * p + d) i1.1 i1.2 with ⟨g1, -⟩ | ⟨-, g2⟩
        · rwa [i2, i3] at g1
        · omega
      · intro g
        obtain ⟨i1, i2, i3⟩ := ix p d (clv p d g)
        have e := q (8 * p + d) i1.1 i1.2
        rw [it1 t _ t0 t1 i1.1 i1.2, i2, i3] at e
        rcases nx (8 * p + d) i1.1 i1.2 with ⟨-, g2⟩ | ⟨g1, -⟩
        · omega
        · rw [i2, i3] at g1; exact absurd g g1
  have outer : ∀ (t : Int) (x : q_J × q_J), t ≤ vSt V → (0 ≤ t ∧ ∀ t', 0 ≤ t' → t' < t → ¬ x_sm V t' K) → q_r 43 6 [vR 36, vI t, vJ x.1, vJ x.2] [] S1 Q Z := by
    refine n_for (vSt V) (fun (t : Int) (x : q_J × q_J) => 0 ≤ t ∧ ∀ t', 0 ≤ t' → t' < t → ¬ x_sm V t' K) (fun (t : Int) (x : q_J × q_J) => q_r 43 6 [vR 36, vI t, vJ x.1, vJ x.2] [] S1 Q Z) ?_ ?_
    · rintro ⟨j2, j3⟩ ⟨-, hI⟩
      simp only
      refine b_43_6 ?_
      rw [e17]
      refine ⟨fun _ => ⟨fun g => ?_, fun g => hf hI (by omega) S1 fw⟩, fun g => by omega⟩
      have put : ∀ (i : Int) (U : q_S), i ≤ 128 → (0 ≤ i ∧ n_fr [48, 51] [(36, 17)] S U ∧ U 36 17 = vSt V ∧ U 51 = S1 51 ∧ (∀ j, 0 ≤ j → j < 128 * vSt V → U 48 j = S1 48 j) ∧ ∀ j, 0 ≤ j → j < i → U 48 (128 * vSt V + j) = S1 51 j) → q_r 43 87 [vR 36, vI i, vJ j2, vJ j3] [] U Q Z := by
        refine n_for 128 (fun (i : Int) (U : q_S) => 0 ≤ i ∧ n_fr [48, 51] [(36, 17)] S U ∧ U 36 17 = vSt V ∧ U 51 = S1 51 ∧ (∀ j, 0 ≤ j → j < 128 * vSt V → U 48 j = S1 48 j) ∧ ∀ j, 0 ≤ j → j < i → U 48 (128 * vSt V + j) = S1 51 j) (fun (i : Int) (U : q_S) => q_r 43 87 [vR 36, vI i, vJ j2, vJ j3] [] U Q Z) ?_ ?_
        · rintro U ⟨-, fU, u17, u51, uo, un⟩
          refine b_43_87 ?_
          rw [u17]
          refine ⟨fun _ => ⟨by unfold q_rg; omega, by unfold q_rg; omega, ?_⟩, fun g => by omega⟩
          rw [show vSt V + 1 - 1 = vSt V by omega]
          refine hn hI (by omega) _ (n_fr_i fU (by decide)) (fun t j t0 t1 j0 j1 => ?_) (n_up1 _ _ _ _)
          rw [w_st_s] at t1
          rw [q_up_ne (by decide), w_st_i]
          by_cases e : t = vSt V
          · rw [if_pos e, e, un j j0 j1]
            unfold x_ind
            rcases nx j j0 j1 with ⟨g1, g2⟩ | ⟨g1, g2⟩
            · rw [g2, if_pos g1]
            · rw [g2, if_neg g1]
          · rw [if_neg e, uo _ (by omega) (by omega)]
            exact it1 t j t0 (by omega) j0 j1
        · rintro i U ⟨i0, fU, u17, u51, uo, un⟩ il ih
          have b51 : q_bo (S1 51 i) := by
            rcases nx i i0 il with ⟨-, g2⟩ | ⟨-, g2⟩ <;> (rw [g2]; exact ⟨by omega, by omega⟩)
          refine b_43_87 ?_
          rw [u17, u51]
          refine ⟨fun g => by omega, fun _ => ⟨by unfold q_rg; omega, by unfold q_rg; omega, by omega, by omega, by omega, by omega, b51, by unfold q_rg; omega, ih _ ⟨by omega, n_fr_k fU (by decide), by rw [q_up_ne (by decide)]; exact u17, by rw [q_up_ne (by decide)]; exact u51, fun j j0 j1 => ?_, fun j j0 j1 => ?_⟩⟩⟩
          · rw [n_up, if_neg (by omega)]; exact uo j j0 j1
          · rw [n_up]
            by_cases e : j = i
            · rw [if_pos ⟨rfl, by omega⟩, e]
            · rw [if_neg (by omega)]; exact un j j0 (by omega)
      exact put 0 S1 (by omega) ⟨by omega, fw, e17, rfl, fun _ _ _ => rfl, fun j a b => by omega⟩
    · rintro t ⟨j2, j3⟩ ⟨t0, hI⟩ tl ih
      simp only
      refine b_43_6 ?_
      rw [e17]
      refine ⟨fun g => by omega, fun _ => ?_⟩
      have cmp : ∀ (i : Int) (m : Int), i ≤ 128 → (0 ≤ i ∧ v_b01 (∀ j, 0 ≤ j → j < i → S1 48 (128 * t + j) = S1 51 j) m) → q_r 43 18 [vR 36, vI t, vI m, vI i] [] S1 Q Z := by
        refine n_for 128 (fun (i : Int) (m : Int) => 0 ≤ i ∧ v_b01 (∀ j, 0 ≤ j → j < i → S1 48 (128 * t + j) = S1 51 j) m) (fun (i : Int) (m : Int) => q_r 43 18 [vR 36, vI t, vI m, vI i] [] S1 Q Z) ?_ ?_
        · rintro m ⟨-, hm⟩
          refine b_43_18 ⟨fun _ => ⟨fun g => ⟨by unfold q_rg; omega, ih (.inl m, .inl 128) ⟨by omega, fun t' a b => ?_⟩⟩, fun g => h t S1 ⟨t0, tl⟩ ?_ hI fw it1 e17⟩, fun g => by omega⟩
          · by_cases e : t' = t
            · rw [e, sm t t0 tl]
              rcases hm with ⟨-, hm⟩ | ⟨hm, -⟩
              · omega
              · exact hm
            · exact hI t' a (by omega)
          · rw [sm t t0 tl]
            rcases hm with ⟨hm, -⟩ | ⟨-, hm⟩
            · exact hm
            · exact absurd hm g
        · rintro i m ⟨i0, hm⟩ il ih2
          have rg : q_rg (i + 1) := by unfold q_rg; omega
          refine b_43_18 ⟨fun g => by omega, fun _ => ⟨fun g => ⟨rg, ih2 0 ⟨by omega, Or.inr ⟨fun q => ?_, rfl⟩⟩⟩, fun g => ⟨by unfold q_rg; omega, by unfold q_rg; omega, by omega, by omega, by omega, by omega, fun g2 => ⟨rg, ih2 0 ⟨by omega, Or.inr ⟨fun q => g2 (q i i0 (by omega)), rfl⟩⟩⟩, fun g2 => ⟨rg, ih2 1 ⟨by omega, Or.inl ⟨fun j j0 j1 => ?_, rfl⟩⟩⟩⟩⟩⟩
          · rcases hm with ⟨-, hm⟩ | ⟨hm, -⟩
            · omega
            · exact hm fun j j0 j1 => q j j0 (by omega)
          · by_cases e : j = i
            · rw [e]
              by_cases e2 : S1 48 (128 * t + i) = S1 51 i
              · exact e2
              · exact absurd e2 g2
            · rcases hm with ⟨hm, -⟩ | ⟨-, hm⟩
              · exact hm j j0 (by omega)
              · exact absurd hm g
      exact cmp 0 1 (by omega) ⟨by omega, Or.inl ⟨fun j a b => by omega, rfl⟩⟩
  exact outer 0 (_, _) (by omega) ⟨by omega, fun t' a b => by omega⟩
theorem m_44 {k s y : Int} (hR : v_gn S V) (hV : v_gw V) (hT : k_it S V) (hB : x_B V k) (hs : 0 ≤ s ∧ s < vSt V) (h : ∀ a S', n_fr [51] [] S S' → k_nx S' (x_mv V s y) → v_b01 (∃ p d, x_mv V s y p d) a → Q a S') : q_c 44 [vR 36, vI s, vI y] S Q Z := by
  have hP := hV.1
  have b1 := hB.1
  have va := hB.2.2.2.2.1
  refine b_44_0 ?_
  have go : ∀ (j : Int) (x : q_S × Int × q_J), j ≤ 128 → (0 ≤ j ∧ n_fr [51] [] S x.1 ∧ v_b01 (∃ p d, 8 * p + d ≤ j ∧ x_mv V s y p d) x.2.1 ∧ ∀ i, 0 ≤ i → i < 128 → v_b01 (i ≤ j ∧ x_mv V s y (i / 8) (i % 8)) (x.1 51 i)) → q_r 44 30 [vR 36, vI s, vI y, vI x.2.1, vI j, vJ x.2.2] [] x.1 Q Z := by
    refine n_for 128 (fun (j : Int) (x : q_S × Int × q_J) => 0 ≤ j ∧ n_fr [51] [] S x.1 ∧ v_b01 (∃ p d, 8 * p + d ≤ j ∧ x_mv V s y p d) x.2.1 ∧ ∀ i, 0 ≤ i → i < 128 → v_b01 (i ≤ j ∧ x_mv V s y (i / 8) (i % 8)) (x.1 51 i)) (fun (j : Int) (x : q_S × Int × q_J) => q_r 44 30 [vR 36, vI s, vI y, vI x.2.1, vI j, vJ x.2.2] [] x.1 Q Z) ?_ ?_
    · rintro ⟨U, a, j5⟩ ⟨-, fr, ha, hn⟩
      simp only at fr ha hn ⊢
      refine b_44_30 ⟨fun _ => ⟨?_, h a U fr (fun i i0 i1 => ?_) ?_⟩, fun g => by omega⟩
      · rcases ha with ⟨-, q⟩ | ⟨-, q⟩ <;> (rw [q]; exact ⟨by omega, by omega⟩)
      · rcases hn i i0 i1 with ⟨q1, q2⟩ | ⟨q1, q2⟩
        · exact Or.inl ⟨q1.2, q2⟩
        · exact Or.inr ⟨fun q => q1 ⟨by omega, q⟩, q2⟩
      · rcases ha with ⟨⟨p, d, -, q⟩, q2⟩ | ⟨q, q2⟩
        · exact Or.inl ⟨⟨p, d, q⟩, q2⟩
        · refine Or.inr ⟨?_, q2⟩
          rintro ⟨p, d, q3⟩
          have v := x_mv_v hV hB hs q3
          have v1 := v.1.1
          exact q ⟨p, d, by omega, q3⟩
    · rintro j ⟨U, a, j5⟩ ⟨j0, fr, ha, hn⟩ jl ih
      simp only at fr ha hn ⊢
      have hRU := v_gn_fr fr (by decide) hR
      have e48 := k_it_fr fr (by decide) hT s j hs.1 hs.2 j0 jl
      have rg : q_rg (j + 1) := by unfold q_rg; omega
      have nope : ¬ x_mv V s y ((j + 1) / 8) ((j + 1) % 8) → ∀ jj : q_J, q_r 44 30 [vR 36, vI s, vI y, vI a, vI (j + 1), vJ jj] [] U Q Z := fun no jj => by
        refine ih (U, a, jj) ⟨by omega, fr, ?_, fun i i0 i1 => ?_⟩
        · simp only
          rcases ha with ⟨⟨p, d, q0, q⟩, q2⟩ | ⟨q, q2⟩
          · exact Or.inl ⟨⟨p, d, by omega, q⟩, q2⟩
          · refine Or.inr ⟨?_, q2⟩
            rintro ⟨p, d, q3, q4⟩
            by_cases e : 8 * p + d = j + 1
            · have v := x_mv_v hV hB hs q4
              rw [show (j + 1) / 8 = p by omega, show (j + 1) % 8 = d by omega] at no
              exact no q4
            · exact q ⟨p, d, by omega, q4⟩
        · simp only
          rcases hn i i0 i1 with ⟨q1, q2⟩ | ⟨q1, q2⟩
          · exact Or.inl ⟨⟨by omega, q1.2⟩, q2⟩
          · refine Or.inr ⟨fun q => ?_, q2⟩
            by_cases e : i = j + 1
            · rw [e] at q; exact no q.2
            · exact q1 ⟨by omega, q.2⟩
      have back : x_mv V s y ((j + 1) / 8) ((j + 1) % 8) → (j + 1) / 8 = j / 8 ∧ (j + 1) % 8 - 1 = j % 8 := fun q => by
        have := q.1
        omega
      refine b_44_30 ⟨fun g => by omega, fun _ => ⟨by omega, by omega, by unfold q_rg; omega, by unfold q_rg; omega, by omega, by omega, fun g => ⟨rg, nope (fun q => ?_) _⟩, fun g => ?_⟩⟩
      · obtain ⟨a1, a2⟩ := back q
        have q2 := q.2.1
        rw [a1, a2, ← e48] at q2
        omega
      have it1 : vIt V s (j / 8) (j % 8) = 1 := by
        rw [e48] at g
        rcases hB.2.1 s (j / 8) (j % 8) with e | e
        · exact absurd e g
        · exact e
      have v := va s _ _ hs.1 hs.2 it1
      have v1 := v.1
      have z := hV.2.1 (j / 8) v.1.1 v.1.2
      rw [hRU.2.1 (j / 8) v.1.1 v.1.2]
      refine ⟨by omega, by omega, by omega, by omega, fun g2 => ⟨rg, nope (fun q => ?_) _⟩, fun g2 => ?_⟩
      · obtain ⟨a1, a2⟩ := back q
        have q2 := q.2.2.1
        rw [a1, a2] at q2
        omega
      rw [hRU.2.2.2 (j / 8) (j % 8) v.1.1 v.1.2 (by omega) (by omega)]
      refine ⟨by unfold q_rg; omega, by omega, by omega, by unfold q_rg; omega, by omega, by omega, fun g3 => ⟨rg, nope (fun q => ?_) _⟩, fun g3 => ⟨rg, by omega, by omega, ⟨by omega, by omega⟩, rg, ?_⟩⟩
      · obtain ⟨a1, a2⟩ := back q
        have q2 := q.2.2.2
        rw [a1, a2] at q2
        exact g3 q2
      have yes : x_mv V s y ((j + 1) / 8) ((j + 1) % 8) := by
        rw [show (j + 1) / 8 = j / 8 by omega, show (j + 1) % 8 = j % 8 + 1 by omega]
        refine ⟨by omega, ?_, ?_, ?_⟩
        · rw [show j % 8 + 1 - 1 = j % 8 by omega]; exact it1
        · omega
        · rw [show j % 8 + 1 - 1 = j % 8 by omega]; omega
      refine ih (q_up U 51 (j + 1) 1, 1, _) ⟨by omega, n_fr_k fr (by decide), Or.inl ⟨⟨_, _, by omega, yes⟩, rfl⟩, fun i i0 i1 => ?_⟩
      simp only
      rw [n_up]
      by_cases e : i = j + 1
      · rw [if_pos ⟨rfl, e⟩, e]
        exact Or.inl ⟨⟨by omega, yes⟩, rfl⟩
      · rw [if_neg (by omega)]
        rcases hn i i0 i1 with ⟨q1, q2⟩ | ⟨q1, q2⟩
        · exact Or.inl ⟨⟨by omega, q1.2⟩, q2⟩
        · exact Or.inr ⟨fun q => q1 ⟨by omega, q.2⟩, q2⟩
  have clr : ∀ (j : Int) (U : q_S), j ≤ 128 → (0 ≤ j ∧ n_fr [51] [] S U ∧ ∀ i, 0 ≤ i → i < j → U 51 i = 0) → q_r 44 5 [vR 36, vI s, vI y, vI 0, vI j, vU] [] U Q Z := by
    refine n_for 128 (fun (j : Int) (U : q_S) => 0 ≤ j ∧ n_fr [51] [] S U ∧ ∀ i, 0 ≤ i → i < j → U 51 i = 0) (fun (j : Int) (U : q_S) => q_r 44 5 [vR 36, vI s, vI y, vI 0, vI j, vU] [] U Q Z) ?_ ?_
    · rintro U ⟨-, fr, hz⟩
      refine b_44_5 ⟨fun _ => go 0 (U, 0, _) (by omega) ⟨by omega, fr, Or.inr ⟨?_, rfl⟩, fun i i0 i1 => Or.inr ⟨fun q => ?_, hz i i0 i1⟩⟩, fun g => by omega⟩
      · rintro ⟨p, d, q1, q2⟩
        have v := x_mv_v hV hB hs q2
        have v1 := v.1.1
        omega
      · have := q.2.1
        omega
    · rintro j U ⟨j0, fr, hz⟩ jl ih
      refine b_44_5 ⟨fun g => by omega, fun _ => ⟨by omega, by omega, ⟨by omega, by omega⟩, by unfold q_rg; omega, ih _ ⟨by omega, n_fr_k fr (by decide), fun i i0 i1 => ?_⟩⟩⟩
      rw [n_up]
      split
      · rfl
      · exact hz i i0 (by omega)
  exact clr 0 S (by omega) ⟨by omega, n_fr_r, fun i a b => by omega⟩
def k_gm (S : q_S) (V : v_V) (k : Int) : Prop := ∀ s y, 0 ≤ s → s < vSt V → 0 ≤ y → y < 16 → 16 * s + y < k → S 50 (16 * s + y) = vGo V s y
def m_R (S : q_S) (V : v_V) (k : Int) : Prop := v_gn S V ∧ k_it S V ∧ S 36 17 = vSt V ∧ k_gm S V k
abbrev m_Rk : List Nat := [48, 50, 51]
abbrev m_Rf : List (Nat × Int) := [(36, 17)]
theorem m_45 (hR : v_gn S V) (hV : v_gw V) (h0 : vSt V = 0) (hi : ∀ s p d, vIt V s p d = 0 ∨ vIt V s p d = 1)
    (h : ∀ n S', x_dn (x_V0 V) n → 16 * vSt (x_sq (x_V0 V) n) = n → x_B (x_sq (x_V0 V) n) n → v_geq V (x_sq (x_V0 V) n) → n_fr m_Rk m_Rf S S' → m_R S' (x_sq (x_V0 V) n) n → Q 1 S')
    (hf : ∀ n S', x_dn (x_V0 V) n → (n : Int) < 16 * vSt (x_sq (x_V0 V) n) → n_fr m_Rk m_Rf S S' → Q 0 S') : q_c 45 [vR 36] S Q Z := by
  have hP := hV.1
  have B0 : x_B (x_V0 V) 0 := x_B_0 hV h0 hi
  refine b_45_0 ?_
  let I : Nat → q_S → Prop := fun n U => x_B (x_sq (x_V0 V) n) n ∧ v_geq V (x_sq (x_V0 V) n) ∧ n_fr m_Rk m_Rf S U ∧ m_R U (x_sq (x_V0 V) n) n ∧ ∀ m, m < n → ¬ x_sp (x_V0 V) m
  have outer : ∀ (x : Nat × q_S × q_J × q_J × q_J), (I x.1 x.2.1 ∧ x.1 % 16 = 0 ∧ (x.1 : Int) ≤ 16 * vSt (x_sq (x_V0 V) x.1)) → q_r 45 42 [vR 36, vJ x.2.2.1, vI ((x.1 / 16 : Nat) : Int), vJ x.2.2.2.1, vJ x.2.2.2.2] [] x.2.1 Q Z := by
    refine n_wf (fun x : Nat × q_S × q_J × q_J × q_J => 700 - x.1) (fun x : Nat × q_S × q_J × q_J × q_J => I x.1 x.2.1 ∧ x.1 % 16 = 0 ∧ (x.1 : Int) ≤ 16 * vSt (x_sq (x_V0 V) x.1)) (fun x : Nat × q_S × q_J × q_J × q_J => q_r 45 42 [vR 36, vJ x.2.2.1, vI ((x.1 / 16 : Nat) : Int), vJ x.2.2.2.1, vJ x.2.2.2.2] [] x.2.1 Q Z) ?_
    rintro ⟨n, U, j1, j3, j4⟩ ⟨⟨hB, hg, fr, hRU, hno⟩, hm, hle⟩ ih
    simp only at hB hg fr hRU hno hm hle ih ⊢
    have b1 := hB.1
    have e17 := hRU.2.2.1
    refine b_45_42 ?_
    rw [e17]
    refine ⟨fun g => ⟨⟨by omega, by omega⟩, h n U ⟨Or.inl (by omega), hno⟩ (by omega) hB hg fr hRU⟩, fun g => ?_⟩
    have inner : ∀ (i : Int) (x : q_S × q_J), i ≤ 16 → (0 ≤ i ∧ I (n + i.toNat) x.1 ∧ ((n / 16 : Nat) : Int) < vSt (x_sq (x_V0 V) (n + i.toNat))) → q_r 45 52 [vR 36, vJ j1, vI ((n / 16 : Nat) : Int), vI i, vJ x.2] [] x.1 Q Z := by
      refine n_for 16 (fun (i : Int) (x : q_S × q_J) => 0 ≤ i ∧ I (n + i.toNat) x.1 ∧ ((n / 16 : Nat) : Int) < vSt (x_sq (x_V0 V) (n + i.toNat))) (fun (i : Int) (x : q_S × q_J) => q_r 45 52 [vR 36, vJ j1, vI ((n / 16 : Nat) : Int), vI i, vJ x.2] [] x.1 Q Z) ?_ ?_
      · rintro ⟨W, k4⟩ ⟨-, hI, hlt⟩
        have e : n + (16 : Int).toNat = n + 16 := rfl
        rw [e] at hI hlt
        simp only at hI ⊢
        have := ih (n + 16, W, j1, .inl 16, k4) ⟨hI, by omega, by simp only; omega⟩ (by simp only; omega)
        simp only at this
        rw [show (((n + 16) / 16 : Nat) : Int) = ((n / 16 : Nat) : Int) + 1 by omega] at this
        exact b_45_52 ⟨fun _ => ⟨by unfold q_rg; omega, this⟩, fun g => by omega⟩
      · rintro i ⟨W, k4⟩ ⟨i0, ⟨hB', hg', fr', hR', hno'⟩, hlt⟩ il ih2
        simp only at hB' hg' fr' hR' hno' hlt ⊢
        have b1' := hB'.1
        have ek : (((n + i.toNat : Nat)) : Int) = 16 * ((n / 16 : Nat) : Int) + i := by omega
        have ek2 : (n + (i + 1).toNat) = n + i.toNat + 1 := by omega
        have hV' := v_gw_geq hg' hV
        rw [ek] at hB' hR'
        obtain ⟨r1, r2, r3, r4⟩ := hR'
        -- what a step leaves
        have fin : ∀ (T : q_S) (V' : v_V) (t : Int), x_st (x_sq (x_V0 V) (n + i.toNat)) ((n / 16 : Nat) : Int) i (w_go V' ((n / 16 : Nat) : Int) i t) → n_fr m_Rk m_Rf S T → v_gn T V' → k_it T V' → T 36 17 = vSt V' → T 50 = W 50 → (vSt (x_sq (x_V0 V) (n + i.toNat)) ≤ vSt V') → (∀ a b, a < vSt (x_sq (x_V0 V) (n + i.toNat)) → vGo V' a b = vGo (x_sq (x_V0 V) (n + i.toNat)) a b) → q_r 45 52 [vR 36, vJ j1, vI ((n / 16 : Nat) : Int), vI (i + 1), vI t] [] (q_up T 50 (16 * ((n / 16 : Nat) : Int) + i) t) Q Z := by
          intro T V' t st fT g1 g2 g3 g4 g5 g6
          obtain ⟨k1, k2, k3⟩ := x_st_B hV' hB' ⟨by omega, hlt⟩ ⟨i0, il⟩ st
          have es := x_sq_s ek ⟨i0, il⟩ st
          refine ih2 (q_up T 50 (16 * ((n / 16 : Nat) : Int) + i) t, .inl t) ?_
          rw [ek2, es]
          refine ⟨by omega, ⟨?_, ?_, n_fr_k fT (by decide), ?_, fun m hm => ?_⟩, by omega⟩
          · rw [es, show (((n + i.toNat + 1 : Nat)) : Int) = 16 * ((n / 16 : Nat) : Int) + i + 1 by omega]; exact k1
          · rw [es]; exact v_geq_t hg' k2
          · rw [es, show (((n + i.toNat + 1 : Nat)) : Int) = 16 * ((n / 16 : Nat) : Int) + i + 1 by omega]
            refine ⟨v_gn_g w_go_g (v_gn_fr (n_fr_k n_fr_r (ks := [50]) (fs := []) (by decide)) (by decide) g1), (k_it_fr (n_fr_k n_fr_r (ks := [50]) (fs := []) (by decide)) (by decide) g2 : k_it (q_up T 50 (16 * ((n / 16 : Nat) : Int) + i) t) V'), ?_, fun s' y' s0 s1 y0 y1 hlt' => ?_⟩
            · simp only
              rw [q_up_ne (by decide)]; exact g3
            · simp only
              rw [w_go_o, n_up]
              by_cases e : s' = ((n / 16 : Nat) : Int) ∧ y' = i
              · rw [if_pos e, if_pos ⟨rfl, by omega⟩]
              · rw [if_neg e, if_neg (by omega), g4, g6 s' y' (by omega)]
                exact r4 s' y' s0 (by omega) y0 y1 (by omega)
          · by_cases e : m = n + i.toNat
            · subst e
              rintro (q | q)
              · omega
              · rw [ek, show (16 * ((n / 16 : Nat) : Int) + i) / 16 = ((n / 16 : Nat) : Int) by omega, show (16 * ((n / 16 : Nat) : Int) + i) % 16 = i by omega] at q
                exact x_fl_n st q
            · exact hno' m (by omega)
        have rgs : q_rg (16 * ((n / 16 : Nat) : Int)) ∧ q_rg (16 * ((n / 16 : Nat) : Int) + i) ∧ 0 ≤ 16 * ((n / 16 : Nat) : Int) + i ∧ 16 * ((n / 16 : Nat) : Int) + i < 640 ∧ q_rg (i + 1) := ⟨by unfold q_rg; omega, by unfold q_rg; omega, by omega, by omega, by unfold q_rg; omega⟩
        obtain ⟨c1, c2, c3, c4, c5⟩ := rgs
        refine b_45_52 ⟨fun g => by omega, fun _ => m_44 r1 hV' r2 hB' ⟨by omega, hlt⟩ fun a T frT nx ha => ?_⟩
        have fT : n_fr m_Rk m_Rf S T := n_fr_t fr' (n_fr_w frT (by decide) (by decide))
        have t1 := v_gn_fr frT (by decide) r1
        have t2 := k_it_fr frT (by decide) r2
        have t3 : T 36 17 = vSt (x_sq (x_V0 V) (n + i.toNat)) := (n_fr_f frT (by decide)).trans r3
        have t4 : T 50 = W 50 := n_fr_c frT (by decide)
        rcases ha with ⟨ha, rfl⟩ | ⟨ha, rfl⟩
        · refine ⟨fun g => by omega, fun _ => m_43 t1 hV' nx (fun p d q => (x_mv_v hV' hB' ⟨by omega, hlt⟩ q).1) t2 t3 ⟨by omega, by omega⟩ hB'.2.1 hB'.2.2.2.2.1 (fun t X tt sm ls fX itX e17X => ?_) (fun no e40 X fX => ?_) (fun no e40 X fX itX e17X => ?_)⟩
          · refine ⟨fun _ => ⟨c1, c2, c3, c4, c5, fin X _ t (Or.inr ⟨ha, Or.inl ⟨t, tt, sm, ls, rfl⟩⟩) (n_fr_t fT (n_fr_w fX (by decide) (by decide))) (v_gn_fr fX (by decide) t1) itX e17X ((n_fr_c fX (by decide)).trans t4) (Int.le_refl _) (fun _ _ _ => rfl)⟩, fun g => by omega⟩
          · refine ⟨fun g => by omega, fun _ => ⟨⟨by omega, by omega⟩, hf (n + i.toNat) X ⟨Or.inr ?_, hno'⟩ (by omega) (n_fr_t fT (n_fr_w fX (by decide) (by decide)))⟩⟩
            rw [ek, show (16 * ((n / 16 : Nat) : Int) + i) / 16 = ((n / 16 : Nat) : Int) by omega, show (16 * ((n / 16 : Nat) : Int) + i) % 16 = i by omega]
            exact ⟨ha, no, e40⟩
          · refine ⟨fun _ => ⟨c1, c2, c3, c4, c5, fin X _ _ (Or.inr ⟨ha, Or.inr ⟨no, e40, rfl⟩⟩) (n_fr_t fT (n_fr_w fX (by decide) (by decide))) (v_gn_g w_st_g (v_gn_fr fX (by decide) t1)) itX (by rw [w_st_s]; exact e17X) ((n_fr_c fX (by decide)).trans t4) (by rw [w_st_s]; omega) (fun _ _ _ => w_st_o)⟩, fun g => by omega⟩
        · exact ⟨fun _ => ⟨c1, c2, c3, c4, c5, fin T _ (-1) (Or.inl ⟨fun p d q => ha ⟨p, d, q⟩, rfl⟩) fT t1 t2 t3 t4 (Int.le_refl _) (fun _ _ _ => rfl)⟩, fun g => absurd rfl g⟩
    exact inner 0 (U, _) (by omega) ⟨by omega, ⟨hB, hg, fr, hRU, hno⟩, by simp only [Int.toNat_zero, Nat.add_zero]; omega⟩
  have ini : ∀ (j : Int) (U : q_S), j ≤ 128 → (0 ≤ j ∧ n_fr [51] [] S U ∧ ∀ i, 0 ≤ i → i < j → v_b01 (i / 8 = 0 ∧ i % 8 = 0) (U 51 i)) → q_r 45 2 [vR 36, vI j, vU, vU, vU] [] U Q Z := by
    refine n_for 128 (fun (j : Int) (U : q_S) => 0 ≤ j ∧ n_fr [51] [] S U ∧ ∀ i, 0 ≤ i → i < j → v_b01 (i / 8 = 0 ∧ i % 8 = 0) (U 51 i)) (fun (j : Int) (U : q_S) => q_r 45 2 [vR 36, vI j, vU, vU, vU] [] U Q Z) ?_ ?_
    · rintro U ⟨-, fr, hn⟩
      have fr1 : n_fr [51] [(36, 17)] S (q_up U 36 17 0) := n_fr_i (n_fr_w fr (by decide) (by decide)) (by decide)
      refine b_45_2 ⟨fun _ => ?_, fun g => by omega⟩
      refine m_43 (K := fun p d => p = 0 ∧ d = 0) (V := V) (v_gn_fr fr1 (by decide) hR) hV (fun i i0 i1 => ?_) (fun p d q => ?_) (fun t j t0 t1 => by omega) (by rw [n_up1, h0]) ⟨by omega, by omega⟩ hi (fun t p d t0 t1 => by omega) (fun t X tt => by omega) (fun _ e => by omega) (fun no _ X fX itX e17X => ?_)
      · rw [q_up_ne (by decide)]; exact hn i i0 i1
      · have := hV.2.1 p (by omega) (by omega)
        exact ⟨by omega, by omega, by omega⟩
      · have fX' : n_fr m_Rk m_Rf S X := n_fr_t (n_fr_w fr1 (by decide) (by decide)) (n_fr_w fX (by decide) (by decide))
        have e0 : (((0 : Nat) / 16 : Nat) : Int) = 0 := by decide
        have last := outer (0, X, .inl (vSt V), .inr (.inr ()), .inr (.inr ())) ⟨⟨B0, w_st_g, fX', ⟨v_gn_g w_st_g (v_gn_fr fX' (by decide) hR), itX, e17X, fun s y s0 s1 y0 y1 hlt => by omega⟩, fun m hm => by omega⟩, rfl, by show (0 : Int) ≤ 16 * vSt (x_V0 V); have := B0.1; omega⟩
        change q_r 45 42 [vR 36, vI (vSt V), vI (((0 : Nat) / 16 : Nat) : Int), vU, vU] [] X Q Z at last
        rw [e0] at last
        exact last
    · rintro j U ⟨j0, fr, hn⟩ jl ih
      refine b_45_2 ⟨fun g => by omega, fun _ => ⟨fun g => ⟨by omega, by omega, ⟨by omega, by omega⟩, by unfold q_rg; omega, ih _ ⟨by omega, n_fr_k fr (by decide), fun i i0 i1 => ?_⟩⟩, fun g => ⟨by omega, by omega, ⟨by omega, by omega⟩, by unfold q_rg; omega, ih _ ⟨by omega, n_fr_k fr (by decide), fun i i0 i1 => ?_⟩⟩⟩⟩
      · rw [n_up]
        by_cases e : i = j
        · rw [if_pos ⟨rfl, e⟩]; exact Or.inr ⟨fun q => by omega, rfl⟩
        · rw [if_neg (by omega)]; exact hn i i0 (by omega)
      · rw [n_up]
        by_cases e : i = j
        · rw [if_pos ⟨rfl, e⟩]; exact Or.inl ⟨by omega, rfl⟩
        · rw [if_neg (by omega)]; exact hn i i0 (by omega)
  exact ini 0 S (by omega) ⟨by omega, n_fr_r, fun i a b => by omega⟩
end StatesN
