/-! the reference finds the states -/
def v_gn (S : q_S) (V : v_V) : Prop := S 36 5 = vP V ∧ (∀ p, 0 ≤ p → p ≤ vP V → S 39 p = vSz V p) ∧ (∀ p, 1 ≤ p → p ≤ vP V → S 38 p = vLf V p) ∧ (∀ p i, 0 ≤ p → p ≤ vP V → 0 ≤ i → i < vSz V p → S 40 (4 * p + i) = vLt V p i)
def k_nx (S : q_S) (K : Int → Int → Prop) : Prop := ∀ j, 0 ≤ j → j < 128 → v_b01 (K (j / 8) (j % 8)) (S 51 j)
def k_it (S : q_S) (V : v_V) : Prop := ∀ t j, 0 ≤ t → t < vSt V → 0 ≤ j → j < 128 → S 48 (128 * t + j) = vIt V t (j / 8) (j % 8)
section StatesM
variable {S : q_S} {V V' : v_V} {K : Int → Int → Prop} {Q : q_Q} {Z : q_Z}
theorem v_gn_fr {T : q_S} {ks : List Nat} {fs : List (Nat × Int)} (h : n_fr ks fs S T) (h1 : (n_ok ks fs 38 && n_ok ks fs 39 && n_ok ks fs 40 && n_okf ks fs 36 5) = true) (hg : v_gn S V) : v_gn T V := by
  rw [Bool.and_eq_true, Bool.and_eq_true, Bool.and_eq_true] at h1
  obtain ⟨⟨⟨a4, a5⟩, a8⟩, a3⟩ := h1
  unfold v_gn
  rw [n_fr_c h a4, n_fr_c h a5, n_fr_c h a8, n_fr_f h a3]
  exact hg
theorem v_gn_g (h : v_geq V V') (hg : v_gn S V) : v_gn S V' := by
  obtain ⟨h1, h2, h3, h4⟩ := h
  unfold v_gn
  simp only [h1, h2, h3, h4]
  exact hg
theorem k_it_fr {T : q_S} {ks : List Nat} {fs : List (Nat × Int)} (h : n_fr ks fs S T) (h1 : n_ok ks fs 48 = true) (hg : k_it S V) : k_it T V := by
  unfold k_it
  rw [n_fr_c h h1]
  exact hg
theorem m_42 (hR : v_gn S V) (hV : v_gw V) (hN : k_nx S K) (hK : ∀ p d, K p d → x_va V p d) (h : ∀ S', n_fr [51] [] S S' → k_nx S' (x_cl V K) → Q 0 S') : q_c 42 [vR 36] S Q Z := by
  have hP := hV.1
  refine b_42_0 ?_
  let so : q_S → Prop := fun U => n_fr [51] [] S U ∧ (∀ j, 0 ≤ j → j < 128 → U 51 j = 0 ∨ U 51 j = 1) ∧ (∀ j, 0 ≤ j → j < 128 → S 51 j = 1 → U 51 j = 1) ∧ ∀ j, 0 ≤ j → j < 128 → U 51 j = 1 → x_cl V K (j / 8) (j % 8)
  let cj : q_S → Int → Prop := fun U j => U 51 j = 1 → j % 8 < vSz V (j / 8) → ∀ q, 1 ≤ q → q ≤ vP V → vLf V q = vLt V (j / 8) (j % 8) → U 51 (8 * q) = 1
  let co : q_S → Prop := fun U => ∀ j, 0 ≤ j → j < 128 → cj U j
  let ct : q_S → Nat := fun U => n_ct (fun j => U 51 j = 1) 128
  have clv : ∀ p d, x_cl V K p d → x_va V p d := fun p d q => x_cl_v hV hK q
  have fin : ∀ U, so U → co U → Q 0 U := fun U hs hc => by
    obtain ⟨h1, h2, h3, h4⟩ := hs
    refine h U h1 fun j j0 j1 => ?_
    rcases h2 j j0 j1 with e | e
    · refine Or.inr ⟨fun q => ?_, e⟩
      have := q (fun p d => x_va V p d ∧ U 51 (8 * p + d) = 1) (fun p d k => ?_) (fun p d q m d0 d1 q1 q2 e => ?_)
      · rw [show 8 * (j / 8) + j % 8 = j by omega] at this
        omega
      · have v := hK p d k
        have z := hV.2.1 p v.1.1 v.1.2
        have v1 := v.1
        have v2 := v.2
        refine ⟨v, h3 _ (by omega) (by omega) ?_⟩
        rcases hN (8 * p + d) (by omega) (by omega) with ⟨-, q⟩ | ⟨q, -⟩
        · exact q
        · rw [show (8 * p + d) / 8 = p by omega, show (8 * p + d) % 8 = d by omega] at q
          exact absurd k q
      · have v1 := m.1.1
        have z := hV.2.1 p v1.1 v1.2
        have g := hc (8 * p + d) (by omega) (by omega) m.2
        rw [show (8 * p + d) / 8 = p by omega, show (8 * p + d) % 8 = d by omega] at g
        have := g d1 q q1 q2 e
        refine ⟨⟨⟨by omega, q2⟩, by omega, (hV.2.1 q (by omega) q2).1⟩, ?_⟩
        rw [show 8 * q + 0 = 8 * q by omega]; exact this
    · exact Or.inl ⟨h4 j j0 j1 e, e⟩
  have key : ∀ x : q_S × Int × q_J × q_J × q_J × q_J, (so x.1 ∧ ((x.2.1 = 0 ∧ co x.1) ∨ x.2.1 = 1)) → q_r 42 2 [vR 36, vI x.2.1, vJ x.2.2.1, vJ x.2.2.2.1, vJ x.2.2.2.2.1, vJ x.2.2.2.2.2] [] x.1 Q Z := by
    refine n_wf (fun x : q_S × Int × q_J × q_J × q_J × q_J => 2 * (128 - ct x.1) + x.2.1.toNat) (fun x : q_S × Int × q_J × q_J × q_J × q_J => so x.1 ∧ ((x.2.1 = 0 ∧ co x.1) ∨ x.2.1 = 1)) (fun x : q_S × Int × q_J × q_J × q_J × q_J => q_r 42 2 [vR 36, vI x.2.1, vJ x.2.2.1, vJ x.2.2.2.1, vJ x.2.2.2.2.1, vJ x.2.2.2.2.2] [] x.1 Q Z) ?_
    rintro ⟨U, mo, j2, j3, j4, j5⟩ ⟨hs, hc⟩ ih
    simp only at hs hc ih ⊢
    refine b_42_2 ⟨fun g => fin U hs ?_, fun g => ?_⟩
    · rcases hc with ⟨-, hc⟩ | hc
      · exact hc
      · omega
    have hmo : mo = 1 := by
      rcases hc with ⟨hc, -⟩ | hc
      · exact absurd hc g
      · exact hc
    subst hmo
    have lt2 : ∀ W, so W → (∀ j, 0 ≤ j → j < 128 → U 51 j = 1 → W 51 j = 1) → ct U ≤ ct W := fun W _ hw => n_ct_mono 128 fun j j0 j1 => hw j j0 j1
    let J : Int → q_S → Int → (Int → Prop) → Prop := fun j W m X => 0 ≤ j ∧ ((m = 0 ∧ W = U ∧ (∀ j', 0 ≤ j' → j' < j → cj U j') ∧ X j) ∨ (m = 1 ∧ so W ∧ ct U < ct W))
    have mid : ∀ (j : Int) (x : q_S × Int × q_J × q_J × q_J), j ≤ 128 → J j x.1 x.2.1 (fun _ => True) → q_r 42 10 [vR 36, vI x.2.1, vI j, vJ x.2.2.1, vJ x.2.2.2.1, vJ x.2.2.2.2] [] x.1 Q Z := by
      refine n_for 128 (fun (j : Int) (x : q_S × Int × q_J × q_J × q_J) => J j x.1 x.2.1 (fun _ => True)) (fun (j : Int) (x : q_S × Int × q_J × q_J × q_J) => q_r 42 10 [vR 36, vI x.2.1, vI j, vJ x.2.2.1, vJ x.2.2.2.1, vJ x.2.2.2.2] [] x.1 Q Z) ?_ ?_
      · rintro ⟨W, m, k3, k4, k5⟩ ⟨-, hJ⟩
        simp only at hJ ⊢
        refine b_42_10 ⟨fun _ => ?_, fun g => by omega⟩
        rcases hJ with ⟨rfl, rfl, h3, -⟩ | ⟨rfl, h2, h3⟩
        · exact ih (W, 0, .inl 128, k3, k4, k5) ⟨hs, Or.inl ⟨rfl, h3⟩⟩ (by simp only; omega)
        · have := n_ct_le (fun j => W 51 j = 1) 128
          exact ih (W, 1, .inl 128, k3, k4, k5) ⟨h2, Or.inr rfl⟩ (by simp only [ct] at h3 ⊢; omega)
      · rintro j ⟨W, m, k3, k4, k5⟩ ⟨j0, hJ⟩ jl ih2
        simp only at hJ ⊢
        have hsW : so W := by
          rcases hJ with ⟨-, rfl, -⟩ | ⟨-, h2, -⟩
          · exact hs
          · exact h2
        have hRW := v_gn_fr hsW.1 (by decide) hR
        -- the loop over the productions
        have inner : ∀ y : Int, ((y = 8 ∧ (W = U → ¬ (U 51 j = 1 ∧ j % 8 < vSz V (j / 8)))) ∨ (W 51 j = 1 ∧ j % 8 < vSz V (j / 8) ∧ y = vLt V (j / 8) (j % 8))) → q_r 42 67 [vR 36, vI m, vI j, vI (j / 8), vI y, vI 1] [] W Q Z := by
          intro y hy
          let X : q_S → Int → Prop := fun W' q => W' 51 j = 1 → j % 8 < vSz V (j / 8) → ∀ q', 1 ≤ q' → q' < q → vLf V q' = vLt V (j / 8) (j % 8) → W' 51 (8 * q') = 1
          have hsrc : y < 8 → x_cl V K (j / 8) (j % 8) ∧ 0 ≤ j % 8 ∧ j % 8 < vSz V (j / 8) ∧ y = vLt V (j / 8) (j % 8) := fun hlt => by
            rcases hy with ⟨hy, -⟩ | ⟨h1, h2, h3⟩
            · omega
            · exact ⟨hsW.2.2.2 j j0 jl h1, by omega, h2, h3⟩
          have step : ∀ (q : Int) (x : q_S × Int), q ≤ vP V + 1 → (1 ≤ q ∧ ((x.2 = 0 ∧ x.1 = U ∧ W = U ∧ (∀ j', 0 ≤ j' → j' < j → cj U j') ∧ X U q) ∨ (x.2 = 1 ∧ so x.1 ∧ ct U < ct x.1))) → q_r 42 67 [vR 36, vI x.2, vI j, vI (j / 8), vI y, vI q] [] x.1 Q Z := by
            refine n_for (vP V + 1) (fun (q : Int) (x : q_S × Int) => 1 ≤ q ∧ ((x.2 = 0 ∧ x.1 = U ∧ W = U ∧ (∀ j', 0 ≤ j' → j' < j → cj U j') ∧ X U q) ∨ (x.2 = 1 ∧ so x.1 ∧ ct U < ct x.1))) (fun (q : Int) (x : q_S × Int) => q_r 42 67 [vR 36, vI x.2, vI j, vI (j / 8), vI y, vI q] [] x.1 Q Z) ?_ ?_
            · rintro ⟨T, m'⟩ ⟨-, hJ'⟩
              simp only at hJ' ⊢
              have hsT : so T := by
                rcases hJ' with ⟨-, rfl, -⟩ | ⟨-, h2, -⟩
                · exact hs
                · exact h2
              refine b_42_67 ?_
              rw [(v_gn_fr hsT.1 (by decide) hR).1]
              refine ⟨fun _ => ⟨by unfold q_rg; omega, ih2 (T, m', _, _, _) ⟨by omega, ?_⟩⟩, fun g => by omega⟩
              rcases hJ' with ⟨h1, h2, h3, h4, h5⟩ | ⟨h1, h2, h3⟩
              · refine Or.inl ⟨h1, h2, fun j' a b => ?_, trivial⟩
                by_cases e : j' = j
                · subst e
                  exact fun u1 u2 q q1 q2 => h5 u1 u2 q q1 (by omega)
                · exact h4 j' a (by omega)
              · exact Or.inr ⟨h1, h2, h3⟩
            · rintro q ⟨T, m'⟩ ⟨q1, hJ'⟩ ql ih3
              simp only at hJ' ⊢
              have hsT : so T := by
                rcases hJ' with ⟨-, rfl, -⟩ | ⟨-, h2, -⟩
                · exact hs
                · exact h2
              have hRT := v_gn_fr hsT.1 (by decide) hR
              have rg : q_rg (q + 1) := by unfold q_rg; omega
              refine b_42_67 ?_
              rw [hRT.1, hRT.2.2.1 q q1 (by omega)]
              refine ⟨fun g => by omega, fun _ => ⟨fun g => ⟨by unfold q_rg; omega, ih2 (T, m', _, _, _) ⟨by omega, ?_⟩⟩, fun g => ⟨by omega, by omega, fun g2 => ⟨rg, ih3 (T, m') ⟨by omega, ?_⟩⟩, fun g2 => ⟨by unfold q_rg; omega, by omega, by omega, fun g3 => ⟨rg, ih3 (T, m') ⟨by omega, ?_⟩⟩, fun g3 => ⟨by unfold q_rg; omega, by omega, by omega, ⟨by omega, by omega⟩, rg, ih3 (q_up T 51 (8 * q) 1, 1) ⟨by omega, Or.inr ⟨rfl, ?_, ?_⟩⟩⟩⟩⟩⟩⟩
              · rcases hJ' with ⟨h1, h2, h3, h4, h5⟩ | ⟨h1, h2, h3⟩
                · refine Or.inl ⟨h1, h2, fun j' a b => ?_, trivial⟩
                  by_cases e : j' = j
                  · subst e
                    intro u1 u2 q' q1' q2' e'
                    rcases hy with ⟨-, hy⟩ | ⟨-, h2', h3'⟩
                    · exact absurd ⟨u1, u2⟩ (hy h3)
                    · have := hV.2.2.2 q' q1' q2'
                      omega
                  · exact h4 j' a (by omega)
                · exact Or.inr ⟨h1, h2, h3⟩
              · rcases hJ' with ⟨h1, h2, h3, h4, h5⟩ | h1
                · refine Or.inl ⟨h1, h2, h3, h4, fun u1 u2 q' q1' q2' e' => ?_⟩
                  by_cases e : q' = q
                  · subst e
                    have := (hsrc (by omega)).2.2.2
                    omega
                  · exact h5 u1 u2 q' q1' (by omega) e'
                · exact Or.inr h1
              · rcases hJ' with ⟨h1, h2, h3, h4, h5⟩ | h1
                · refine Or.inl ⟨h1, h2, h3, h4, fun u1 u2 q' q1' q2' e' => ?_⟩
                  by_cases e : q' = q
                  · subst e
                    rcases hs.2.1 (8 * q') (by omega) (by omega) with e2 | e2
                    · rw [h2] at g3; exact absurd e2 g3
                    · exact e2
                  · exact h5 u1 u2 q' q1' (by omega) e'
                · exact Or.inr h1
              · obtain ⟨k1, k2, k3, k4⟩ := hsT
                refine ⟨n_fr_k k1 (by decide), fun i i0 i1 => ?_, fun i i0 i1 hi => ?_, fun i i0 i1 hi => ?_⟩
                · simp only; rw [n_up]
                  split
                  · exact Or.inr rfl
                  · exact k2 i i0 i1
                · simp only; rw [n_up]
                  split
                  · rfl
                  · exact k3 i i0 i1 hi
                · simp only at hi; rw [n_up] at hi
                  by_cases e : i = 8 * q
                  · obtain ⟨s1, s2, s3, s4⟩ := hsrc (by omega)
                    rw [e, show 8 * q / 8 = q by omega, show 8 * q % 8 = 0 by omega]
                    exact x_cl_c s1 s2 s3 q1 (by omega) (by omega)
                  · rw [if_neg (by omega)] at hi
                    exact k4 i i0 i1 hi
              · have : ct T < ct (q_up T 51 (8 * q) 1) := by
                  refine n_ct_lt 128 (fun i i0 i1 hi => ?_) ⟨8 * q, ⟨by omega, by omega⟩, n_up1 _ _ _ _, fun q2 => by omega⟩
                  rw [n_up]
                  split
                  · rfl
                  · exact hi
                simp only
                rcases hJ' with ⟨h1, h2, -⟩ | ⟨-, -, h3⟩
                · rw [h2] at this ⊢; exact this
                · omega
          refine step 1 (W, m) (by omega) ⟨by omega, ?_⟩
          rcases hJ with ⟨h1, h2, h3, -⟩ | h1
          · exact Or.inl ⟨h1, h2, h2, h3, fun _ _ q' a b => by omega⟩
          · exact Or.inr h1
        refine b_42_10 ⟨fun g => by omega, fun _ => ⟨by omega, by omega, by omega, by omega, fun g => inner 8 (Or.inl ⟨rfl, fun e q => ?_⟩), fun g => ?_⟩⟩
        · rw [e] at g; omega
        have w1 : W 51 j = 1 := by
          rcases hsW.2.1 j j0 jl with e | e
          · exact absurd e g
          · exact e
        have va := clv _ _ (hsW.2.2.2 j j0 jl w1)
        have va1 := va.1
        have z2 := hV.2.1 (j / 8) va.1.1 va.1.2
        rw [hRW.2.1 (j / 8) va.1.1 va.1.2]
        refine ⟨by omega, by omega, by omega, by omega, fun g2 => inner 8 (Or.inl ⟨rfl, fun e q => by omega⟩), fun g2 => ⟨by unfold q_rg; omega, by omega, by omega, by unfold q_rg; omega, by omega, by omega, ?_⟩⟩
        rw [hRW.2.2.2 (j / 8) (j % 8) va.1.1 va.1.2 (by omega) (by omega)]
        exact inner _ (Or.inr ⟨w1, by omega, rfl⟩)
    exact mid 0 (U, 0, j3, j4, j5) (by omega) ⟨by omega, Or.inl ⟨rfl, rfl, fun j' a b => by omega, trivial⟩⟩
  refine key (S, 1, .inr (.inr ()), .inr (.inr ()), .inr (.inr ()), .inr (.inr ())) ⟨⟨n_fr_r, fun j j0 j1 => ?_, fun j _ _ q => q, fun j j0 j1 q => ?_⟩, Or.inr rfl⟩
  · rcases hN j j0 j1 with ⟨-, q⟩ | ⟨-, q⟩
    · exact Or.inr q
    · exact Or.inl q
  · rcases hN j j0 j1 with ⟨q2, -⟩ | ⟨-, q2⟩
    · exact x_cl_k q2
    · simp only at q; omega
end StatesM
