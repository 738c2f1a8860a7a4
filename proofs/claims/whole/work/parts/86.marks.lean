section Marks
variable {S : q_S} {V : v_V} {Q : q_Q} {Z : q_Z}
def v_m7 (y : Int) : Prop := 7 < y
def v_mk (U : q_S) (n : Int) : Prop := U 44 n = 1
def v_so (X : Int → Prop) (U : q_S) : Prop := ∀ n, 0 ≤ n → n ≤ 7 → U 44 n = 0 ∨ (U 44 n = 1 ∧ X n)
def v_co (X : Int → Prop) (U : q_S) : Prop := ∀ n, 0 ≤ n → n ≤ 7 → X n → U 44 n = 1
theorem v_gm_fr {T : q_S} {ks : List Nat} {fs : List (Nat × Int)} (h : n_fr ks fs S T) (h1 : (n_ok ks fs 38 && n_ok ks fs 39 && n_ok ks fs 40 && n_okf ks fs 36 5) = true) (hg : v_gm S V) : v_gm T V := by
  rw [Bool.and_eq_true, Bool.and_eq_true, Bool.and_eq_true] at h1
  unfold v_gm at hg ⊢
  rw [n_fr_c h (k := 38) h1.1.1.1, n_fr_c h (k := 39) h1.1.1.2, n_fr_c h (k := 40) h1.1.2, n_fr_f h (k := 36) (i := 5) h1.2]
  exact hg
/-- a round of marking grows or is the last -/
theorem v_round {X : Int → Prop} {A U : q_S} {r : Int} (hA : v_co X A ∨ r ≤ n_ct (v_mk A) 8) (hs : v_so X U) (hAU : ∀ n, 0 ≤ n → n ≤ 7 → A 44 n = 1 → U 44 n = 1) (hst : (∀ n, 0 ≤ n → n ≤ 7 → U 44 n = 1 → A 44 n = 1) → v_co X U) : v_co X U ∨ r + 1 ≤ n_ct (v_mk U) 8 := by
  rcases hA with hA | hA
  · exact Or.inl fun n n0 n1 hn => hAU n n0 n1 (hA n n0 n1 hn)
  · by_cases e : ∃ i : Int, (0 ≤ i ∧ i < (8 : Nat)) ∧ v_mk U i ∧ ¬ v_mk A i
    · have := n_ct_lt 8 (f := v_mk A) (g := v_mk U) (fun i i0 i1 hi => hAU i i0 (by omega) hi) e
      exact Or.inr (by omega)
    · refine Or.inl (hst fun n n0 n1 hn => ?_)
      by_cases e2 : A 44 n = 1
      · exact e2
      · exact absurd ⟨n, by omega, hn, e2⟩ e
theorem m_36 (hR : v_gm S V) (hV : v_gw V) (h : ∀ S', n_fr [44] [] S S' → (∀ n, 0 ≤ n → n ≤ 7 → v_b01 (x_gr V v_m7 n) (S' 44 n)) → Q 0 S') : q_c 36 [vR 36] S Q Z := by
  have hP := hV.1
  refine b_36_0 ?_
  have rounds : ∀ (r : Int) (x : q_S × q_J × q_J × q_J), r ≤ 8 → (0 ≤ r ∧ n_fr [44] [] S x.1 ∧ v_so (x_gr V v_m7) x.1 ∧ (v_co (x_gr V v_m7) x.1 ∨ r ≤ n_ct (v_mk x.1) 8)) → q_r 36 23 [vR 36, vI r, vJ x.2.1, vJ x.2.2.1, vJ x.2.2.2] [] x.1 Q Z := by
    refine n_for 8 (fun (r : Int) (x : q_S × q_J × q_J × q_J) => 0 ≤ r ∧ n_fr [44] [] S x.1 ∧ v_so (x_gr V v_m7) x.1 ∧ (v_co (x_gr V v_m7) x.1 ∨ r ≤ n_ct (v_mk x.1) 8)) (fun (r : Int) (x : q_S × q_J × q_J × q_J) => q_r 36 23 [vR 36, vI r, vJ x.2.1, vJ x.2.2.1, vJ x.2.2.2] [] x.1 Q Z) ?_ ?_
    · rintro ⟨U, j2, j3, j4⟩ ⟨-, fr, hs, hc⟩
      simp only at fr hs hc ⊢
      refine b_36_23 ⟨fun _ => h U fr fun n n0 n1 => ?_, fun q => by omega⟩
      have hc' : v_co (x_gr V v_m7) U := by
        rcases hc with hc | hc
        · exact hc
        · exact fun n n0 n1 _ => n_ct_all 8 (f := v_mk U) (by omega) n n0 (by omega)
      rcases hs n n0 n1 with q | ⟨q1, q2⟩
      · exact Or.inr ⟨fun q2 => by have := hc' n n0 n1 q2; omega, q⟩
      · exact Or.inl ⟨q2, q1⟩
    · rintro r ⟨A, j2, j3, j4⟩ ⟨r0, frA, hsA, hcA⟩ hr ih
      simp only at frA hsA hcA ⊢
      refine b_36_23 ⟨fun q => by omega, fun _ => ?_⟩
      have prods : ∀ (p : Int) (x : q_S × q_J × q_J), p ≤ vP V + 1 → (1 ≤ p ∧ n_fr [44] [] S x.1 ∧ v_so (x_gr V v_m7) x.1 ∧ (∀ n, 0 ≤ n → n ≤ 7 → A 44 n = 1 → x.1 44 n = 1) ∧ ∀ p', 1 ≤ p' → p' < p → (∀ i, 0 ≤ i → i < vSz V p' → 7 < vLt V p' i ∨ A 44 (vLt V p' i) = 1) → x.1 44 (vLf V p') = 1) → q_r 36 31 [vR 36, vI r, vI p, vJ x.2.1, vJ x.2.2] [] x.1 Q Z := by
        refine n_for (vP V + 1) (fun (p : Int) (x : q_S × q_J × q_J) => 1 ≤ p ∧ n_fr [44] [] S x.1 ∧ v_so (x_gr V v_m7) x.1 ∧ (∀ n, 0 ≤ n → n ≤ 7 → A 44 n = 1 → x.1 44 n = 1) ∧ ∀ p', 1 ≤ p' → p' < p → (∀ i, 0 ≤ i → i < vSz V p' → 7 < vLt V p' i ∨ A 44 (vLt V p' i) = 1) → x.1 44 (vLf V p') = 1) (fun (p : Int) (x : q_S × q_J × q_J) => q_r 36 31 [vR 36, vI r, vI p, vJ x.2.1, vJ x.2.2] [] x.1 Q Z) ?_ ?_
        · rintro ⟨U, j3, j4⟩ ⟨-, fr, hs, hAU, hcl⟩
          simp only at fr hs hAU hcl ⊢
          have e5 := (v_gm_fr fr (by decide) hR).1
          refine b_36_31 ?_
          rw [e5]
          refine ⟨fun _ => ⟨by unfold q_rg; omega, ih (U, .inl _, j3, j4) ⟨by omega, fr, hs, ?_⟩⟩, fun q => by omega⟩
          refine v_round hcA hs hAU fun hback n n0 n1 hn => ?_
          refine (hn (fun n => 0 ≤ n ∧ n ≤ 7 ∧ U 44 n = 1) fun p p1 p2 hp => ?_).2.2
          have z4 := hV.2.2.2 p p1 p2
          refine ⟨z4.1, z4.2, hcl p p1 (by omega) fun i i0 i1 => ?_⟩
          rcases hp i i0 i1 with q | q
          · exact Or.inl q
          · exact Or.inr (hback _ q.1 q.2.1 q.2.2)
        · rintro p ⟨U, j3, j4⟩ ⟨p1, fr, hs, hAU, hcl⟩ pl ih2
          simp only at fr hs hAU hcl ⊢
          have hRU := v_gm_fr fr (by decide) hR
          have e5 := hRU.1
          have z2 := hV.2.1 p (by omega) (by omega)
          have z4 := hV.2.2.2 p p1 (by omega)
          have e39 := hRU.2.1 p p1 (by omega)
          have e38 := hRU.2.2.1 p p1 (by omega)
          refine b_36_31 ?_
          rw [e5]
          refine ⟨fun q => by omega, fun _ => ?_⟩
          have lets : ∀ (i a : Int), i ≤ vSz V p → (0 ≤ i ∧ v_b01 (∀ j, 0 ≤ j → j < i → 7 < vLt V p j ∨ U 44 (vLt V p j) = 1) a) → q_r 36 44 [vR 36, vI r, vI p, vI a, vI i] [] U Q Z := by
            refine n_for (vSz V p) (fun i a => 0 ≤ i ∧ v_b01 (∀ j, 0 ≤ j → j < i → 7 < vLt V p j ∨ U 44 (vLt V p j) = 1) a) (fun i a => q_r 36 44 [vR 36, vI r, vI p, vI a, vI i] [] U Q Z) ?_ ?_
            · rintro a ⟨-, ha⟩
              refine b_36_44 ?_
              rw [e39, e38]
              have sl := hs (vLf V p) (by omega) (by omega)
              have nx : ∀ v : Int, (v = 0 → U 44 (vLf V p) = 0 ∧ ¬ (∀ j, 0 ≤ j → j < vSz V p → 7 < vLt V p j ∨ U 44 (vLt V p j) = 1)) → (v = 0 ∨ v = 1) → (v = 1 → x_gr V v_m7 (vLf V p)) → q_r 36 31 [vR 36, vI r, vI (p + 1), vI a, vI (vSz V p)] [] (q_up U 44 (vLf V p) v) Q Z := by
                intro v h1 h2 h3
                refine ih2 (q_up U 44 (vLf V p) v, .inl _, .inl _) ⟨by omega, n_fr_k fr (by decide), fun n n0 n1 => ?_, fun n n0 n1 hn => ?_, fun p' q1 q2 q3 => ?_⟩
                · simp only
                  rw [n_up]
                  by_cases e : n = vLf V p
                  · rw [if_pos ⟨rfl, e⟩]
                    rcases h2 with h2 | h2
                    · exact Or.inl h2
                    · exact Or.inr ⟨h2, by rw [e]; exact h3 h2⟩
                  · rw [if_neg (fun q => e q.2)]; exact hs n n0 n1
                · simp only
                  rw [n_up]
                  have hU := hAU n n0 n1 hn
                  by_cases e : n = vLf V p
                  · rw [if_pos ⟨rfl, e⟩]
                    rcases h2 with h2 | h2
                    · have := (h1 h2).1
                      rw [e] at hU; omega
                    · exact h2
                  · rw [if_neg (fun q => e q.2)]; exact hU
                · simp only
                  rw [n_up]
                  by_cases e : vLf V p' = vLf V p
                  · rw [if_pos ⟨rfl, e⟩]
                    rcases h2 with h2 | h2
                    · obtain ⟨k1, k2⟩ := h1 h2
                      by_cases ep : p' = p
                      · subst ep
                        refine absurd (fun j j0 j1 => ?_) k2
                        have z3 := hV.2.2.1 p' j (by omega) (by omega) j0 j1
                        rcases q3 j j0 j1 with q | q
                        · exact Or.inl q
                        · by_cases e7 : 7 < vLt V p' j
                          · exact Or.inl e7
                          · exact Or.inr (hAU _ (by omega) (by omega) q)
                      · have := hcl p' q1 (by omega) q3
                        rw [e] at this; omega
                    · exact h2
                  · rw [if_neg (fun q => e q.2)]
                    by_cases ep : p' = p
                    · subst ep; exact absurd rfl e
                    · exact hcl p' q1 (by omega) q3
              have mk : (∀ j, 0 ≤ j → j < vSz V p → 7 < vLt V p j ∨ U 44 (vLt V p j) = 1) → x_gr V v_m7 (vLf V p) := fun q => x_gr_c p1 (by omega) fun j j0 j1 => by
                rcases q j j0 j1 with q2 | q2
                · exact Or.inl q2
                · have z3 := hV.2.2.1 p j (by omega) (by omega) j0 j1
                  by_cases e7 : 7 < vLt V p j
                  · exact Or.inl e7
                  · rcases hs (vLt V p j) (by omega) (by omega) with q3 | ⟨-, q3⟩
                    · omega
                    · exact Or.inr q3
              refine ⟨by omega, by omega, fun _ => ⟨by omega, by omega, by omega, by omega, by omega, by omega, fun q => ⟨by omega, by omega, ⟨by omega, by omega⟩, by unfold q_rg; omega, nx 1 (fun q2 => by omega) (Or.inr rfl) (fun _ => ?_)⟩, fun q => ⟨fun q2 => ⟨by omega, by omega, ⟨by omega, by omega⟩, by unfold q_rg; omega, nx 0 (fun _ => ⟨by omega, ?_⟩) (Or.inl rfl) (fun q3 => by omega)⟩, fun q2 => ⟨by omega, by omega, ⟨by omega, by omega⟩, by unfold q_rg; omega, nx 1 (fun q3 => by omega) (Or.inr rfl) (fun _ => ?_)⟩⟩⟩, fun q => by omega⟩
              · rcases sl with sl | ⟨-, sl⟩
                · omega
                · exact sl
              · rcases ha with ⟨-, ha⟩ | ⟨ha, -⟩
                · omega
                · exact ha
              · rcases ha with ⟨ha, -⟩ | ⟨-, ha⟩
                · exact mk ha
                · omega
            · rintro i a ⟨i0, ha⟩ il ih3
              have z3 := hV.2.2.1 p i (by omega) (by omega) i0 il
              have e40 := hRU.2.2.2 p i p1 (by omega) i0 il
              have ext : ∀ c : Prop, (c ↔ (7 < vLt V p i ∨ U 44 (vLt V p i) = 1)) → ((∀ j, 0 ≤ j → j < i + 1 → 7 < vLt V p j ∨ U 44 (vLt V p j) = 1) ↔ ((∀ j, 0 ≤ j → j < i → 7 < vLt V p j ∨ U 44 (vLt V p j) = 1) ∧ c)) := fun c hc => by
                constructor
                · intro q
                  exact ⟨fun j j0 j1 => q j j0 (by omega), hc.mpr (q i i0 (by omega))⟩
                · rintro ⟨q1, q2⟩ j j0 j1
                  by_cases e : j = i
                  · rw [e]; exact hc.mp q2
                  · exact q1 j j0 (by omega)
              have rg : q_rg (i + 1) := by unfold q_rg; omega
              refine b_36_44 ?_
              rw [e39, e40]
              refine ⟨by omega, by omega, fun q => by omega, fun _ => ?_⟩
              rcases ha with ⟨ha, rfl⟩ | ⟨ha, rfl⟩
              · refine ⟨fun q => by omega, fun _ => ⟨by unfold q_rg; omega, by unfold q_rg; omega, by omega, by omega, fun q => ⟨rg, ih3 _ ⟨by omega, Or.inl ⟨(ext True ⟨fun _ => Or.inl (by omega), fun _ => trivial⟩).mpr ⟨ha, trivial⟩, rfl⟩⟩⟩, fun q => ⟨by unfold q_rg; omega, by unfold q_rg; omega, by omega, by omega, by omega, by omega, fun q2 => ⟨rg, ih3 _ ⟨by omega, Or.inr ⟨fun q3 => ?_, rfl⟩⟩⟩, fun q2 => ⟨rg, ih3 _ ⟨by omega, Or.inl ⟨(ext True ⟨fun _ => Or.inr ?_, fun _ => trivial⟩).mpr ⟨ha, trivial⟩, rfl⟩⟩⟩⟩⟩⟩
                · rcases q3 i i0 (by omega) with q4 | q4
                  · omega
                  · omega
                · rcases hs (vLt V p i) (by omega) (by omega) with q3 | ⟨q3, -⟩
                  · omega
                  · exact q3
              · exact ⟨fun _ => ⟨rg, ih3 _ ⟨by omega, Or.inr ⟨fun q => ha fun j j0 j1 => q j j0 (by omega), rfl⟩⟩⟩, fun q => absurd rfl q⟩
          exact lets 0 1 (by omega) ⟨by omega, Or.inl ⟨fun j j0 j1 => by omega, rfl⟩⟩
      exact prods 1 (A, j3, j4) (by omega) ⟨by omega, frA, hsA, fun n n0 n1 hn => hn, fun p' q1 q2 => by omega⟩
  have init : ∀ (n : Int) (x : q_S × q_J × q_J × q_J), n ≤ 8 → (0 ≤ n ∧ n_fr [44] [] S x.1 ∧ ∀ k, 0 ≤ k → k < n → x.1 44 k = 0) → q_r 36 2 [vR 36, vI n, vJ x.2.1, vJ x.2.2.1, vJ x.2.2.2] [] x.1 Q Z := by
    refine n_for 8 (fun (n : Int) (x : q_S × q_J × q_J × q_J) => 0 ≤ n ∧ n_fr [44] [] S x.1 ∧ ∀ k, 0 ≤ k → k < n → x.1 44 k = 0) (fun (n : Int) (x : q_S × q_J × q_J × q_J) => q_r 36 2 [vR 36, vI n, vJ x.2.1, vJ x.2.2.1, vJ x.2.2.2] [] x.1 Q Z) ?_ ?_
    · rintro ⟨U, j2, j3, j4⟩ ⟨-, fr, e⟩
      simp only at fr e ⊢
      exact b_36_2 ⟨fun _ => rounds 0 (U, j2, j3, j4) (by omega) ⟨by omega, fr, fun n n0 n1 => Or.inl (e n n0 (by omega)), Or.inr (by omega)⟩, fun q => by omega⟩
    · rintro n ⟨U, j2, j3, j4⟩ ⟨n0, fr, e⟩ hn ih
      simp only at fr e ⊢
      refine b_36_2 ⟨fun q => by omega, fun _ => ⟨by omega, by omega, ⟨by omega, by omega⟩, by unfold q_rg; omega, ih (q_up U 44 n 0, j2, j3, j4) ⟨by omega, n_fr_k fr (by decide), fun k k0 k1 => ?_⟩⟩⟩
      simp only
      rw [n_up]
      by_cases q : k = n
      · rw [if_pos ⟨rfl, q⟩]
      · rw [if_neg (fun q2 => q q2.2)]; exact e k k0 (by omega)
  exact init 0 (S, _, _, _) (by omega) ⟨by omega, n_fr_r, fun k k0 k1 => by omega⟩
theorem m_37 (hR : v_gm S V) (hV : v_gw V) (h42 : S 42 0 = vLf V 1) (h : ∀ S', n_fr [44] [] S S' → (∀ n, 0 ≤ n → n ≤ 7 → v_b01 (x_re V n) (S' 44 n)) → Q 0 S') : q_c 37 [vR 36] S Q Z := by
  have hP := hV.1
  have l1 := hV.2.2.2 1 (by omega) hP.1
  refine b_37_0 ?_
  have rounds : ∀ (r : Int) (x : q_S × q_J × q_J), r ≤ 8 → (0 ≤ r ∧ n_fr [44] [] S x.1 ∧ v_so (x_re V) x.1 ∧ x.1 44 (vLf V 1) = 1 ∧ (v_co (x_re V) x.1 ∨ r ≤ n_ct (v_mk x.1) 8)) → q_r 37 37 [vR 36, vI r, vJ x.2.1, vJ x.2.2] [] x.1 Q Z := by
    refine n_for 8 (fun (r : Int) (x : q_S × q_J × q_J) => 0 ≤ r ∧ n_fr [44] [] S x.1 ∧ v_so (x_re V) x.1 ∧ x.1 44 (vLf V 1) = 1 ∧ (v_co (x_re V) x.1 ∨ r ≤ n_ct (v_mk x.1) 8)) (fun (r : Int) (x : q_S × q_J × q_J) => q_r 37 37 [vR 36, vI r, vJ x.2.1, vJ x.2.2] [] x.1 Q Z) ?_ ?_
    · rintro ⟨U, j2, j3⟩ ⟨-, fr, hs, -, hc⟩
      simp only at fr hs hc ⊢
      refine b_37_37 ⟨fun _ => h U fr fun n n0 n1 => ?_, fun q => by omega⟩
      have hc' : v_co (x_re V) U := by
        rcases hc with hc | hc
        · exact hc
        · exact fun n n0 n1 _ => n_ct_all 8 (f := v_mk U) (by omega) n n0 (by omega)
      rcases hs n n0 n1 with q | ⟨q1, q2⟩
      · exact Or.inr ⟨fun q2 => by have := hc' n n0 n1 q2; omega, q⟩
      · exact Or.inl ⟨q2, q1⟩
    · rintro r ⟨A, j2, j3⟩ ⟨r0, frA, hsA, h1A, hcA⟩ hr ih
      simp only at frA hsA h1A hcA ⊢
      refine b_37_37 ⟨fun q => by omega, fun _ => ?_⟩
      have prods : ∀ (p : Int) (x : q_S × q_J), p ≤ vP V + 1 → (1 ≤ p ∧ n_fr [44] [] S x.1 ∧ v_so (x_re V) x.1 ∧ (∀ n, 0 ≤ n → n ≤ 7 → A 44 n = 1 → x.1 44 n = 1) ∧ ∀ p', 1 ≤ p' → p' < p → A 44 (vLf V p') = 1 → ∀ i, 0 ≤ i → i < vSz V p' → vLt V p' i < 8 → x.1 44 (vLt V p' i) = 1) → q_r 37 45 [vR 36, vI r, vI p, vJ x.2] [] x.1 Q Z := by
        refine n_for (vP V + 1) (fun (p : Int) (x : q_S × q_J) => 1 ≤ p ∧ n_fr [44] [] S x.1 ∧ v_so (x_re V) x.1 ∧ (∀ n, 0 ≤ n → n ≤ 7 → A 44 n = 1 → x.1 44 n = 1) ∧ ∀ p', 1 ≤ p' → p' < p → A 44 (vLf V p') = 1 → ∀ i, 0 ≤ i → i < vSz V p' → vLt V p' i < 8 → x.1 44 (vLt V p' i) = 1) (fun (p : Int) (x : q_S × q_J) => q_r 37 45 [vR 36, vI r, vI p, vJ x.2] [] x.1 Q Z) ?_ ?_
        · rintro ⟨U, j3⟩ ⟨-, fr, hs, hAU, hcl⟩
          simp only at fr hs hAU hcl ⊢
          have e5 := (v_gm_fr fr (by decide) hR).1
          refine b_37_45 ?_
          rw [e5]
          refine ⟨fun _ => ⟨by unfold q_rg; omega, ih (U, .inl _, j3) ⟨by omega, fr, hs, hAU _ (by omega) (by omega) h1A, ?_⟩⟩, fun q => by omega⟩
          refine v_round hcA hs hAU fun hback n n0 n1 hn => ?_
          refine (hn (fun n => 0 ≤ n ∧ n ≤ 7 ∧ U 44 n = 1) ⟨by omega, by omega, hAU _ (by omega) (by omega) h1A⟩ fun p i p1 p2 k i0 i1 i8 => ?_).2.2
          have z3 := hV.2.2.1 p i (by omega) p2 i0 i1
          exact ⟨z3.1, by omega, hcl p p1 (by omega) (hback _ k.1 k.2.1 k.2.2) i i0 i1 i8⟩
        · rintro p ⟨U, j3⟩ ⟨p1, fr, hs, hAU, hcl⟩ pl ih2
          simp only at fr hs hAU hcl ⊢
          have e5 := (v_gm_fr fr (by decide) hR).1
          have z2 := hV.2.1 p (by omega) (by omega)
          have z4 := hV.2.2.2 p p1 (by omega)
          refine b_37_45 ?_
          rw [e5]
          refine ⟨fun q => by omega, fun _ => ?_⟩
          have lets : ∀ (i : Int) (W : q_S), i ≤ vSz V p → (0 ≤ i ∧ n_fr [44] [] S W ∧ v_so (x_re V) W ∧ (∀ n, 0 ≤ n → n ≤ 7 → U 44 n = 1 → W 44 n = 1) ∧ (W 44 (vLf V p) = 1 → U 44 (vLf V p) = 1 ∨ True) ∧ (U 44 (vLf V p) = 1 → ∀ j, 0 ≤ j → j < i → vLt V p j < 8 → W 44 (vLt V p j) = 1)) → q_r 37 55 [vR 36, vI r, vI p, vI i] [] W Q Z := by
            refine n_for (vSz V p) (fun (i : Int) (W : q_S) => 0 ≤ i ∧ n_fr [44] [] S W ∧ v_so (x_re V) W ∧ (∀ n, 0 ≤ n → n ≤ 7 → U 44 n = 1 → W 44 n = 1) ∧ (W 44 (vLf V p) = 1 → U 44 (vLf V p) = 1 ∨ True) ∧ (U 44 (vLf V p) = 1 → ∀ j, 0 ≤ j → j < i → vLt V p j < 8 → W 44 (vLt V p j) = 1)) (fun (i : Int) (W : q_S) => q_r 37 55 [vR 36, vI r, vI p, vI i] [] W Q Z) ?_ ?_
            · rintro W ⟨-, frW, hsW, hUW, -, hclW⟩
              have e39 := (v_gm_fr frW (by decide) hR).2.1 p p1 (by omega)
              refine b_37_55 ?_
              rw [e39]
              refine ⟨by omega, by omega, fun _ => ⟨by unfold q_rg; omega, ih2 (W, .inl _) ⟨by omega, frW, hsW, fun n n0 n1 hn => hUW n n0 n1 (hAU n n0 n1 hn), fun p' q1 q2 q3 i i0 i1 i8 => ?_⟩⟩, fun q => by omega⟩
              by_cases e : p' = p
              · subst e
                exact hclW (hAU _ (by omega) (by omega) q3) i i0 i1 i8
              · have z3 := hV.2.2.1 p' i (by omega) (by omega) i0 i1
                exact hUW _ (by omega) (by omega) (hcl p' q1 (by omega) q3 i i0 i1 i8)
            · rintro i W ⟨i0, frW, hsW, hUW, -, hclW⟩ il ih3
              have hRW := v_gm_fr frW (by decide) hR
              have e39 := hRW.2.1 p p1 (by omega)
              have e38 := hRW.2.2.1 p p1 (by omega)
              have e40 := hRW.2.2.2 p i p1 (by omega) i0 il
              have z3 := hV.2.2.1 p i (by omega) (by omega) i0 il
              have rg : q_rg (i + 1) := by unfold q_rg; omega
              refine b_37_55 ?_
              rw [e39, e38, e40]
              refine ⟨by omega, by omega, fun q => by omega, fun _ => ⟨by omega, by omega, by omega, by omega, fun q => ⟨rg, ih3 W ⟨by omega, frW, hsW, hUW, fun _ => Or.inr trivial, fun q2 => ?_⟩⟩, fun q => ⟨by unfold q_rg; omega, by unfold q_rg; omega, by omega, by omega, fun q2 => ⟨rg, ih3 W ⟨by omega, frW, hsW, hUW, fun _ => Or.inr trivial, fun q3 j j0 j1 j8 => ?_⟩⟩, fun q2 => ⟨by unfold q_rg; omega, by unfold q_rg; omega, by omega, by omega, by omega, by omega, ⟨by omega, by omega⟩, rg, ih3 (q_up W 44 (vLt V p i) 1) ⟨by omega, n_fr_k frW (by decide), fun n n0 n1 => ?_, fun n n0 n1 hn => ?_, fun _ => Or.inr trivial, fun q3 j j0 j1 j8 => ?_⟩⟩⟩⟩⟩
              · have := hUW (vLf V p) (by omega) (by omega) q2
                omega
              · by_cases e : j = i
                · subst e; omega
                · exact hclW q3 j j0 (by omega) j8
              · rw [n_up]
                by_cases e : n = vLt V p i
                · rw [if_pos ⟨rfl, e⟩]
                  refine Or.inr ⟨rfl, ?_⟩
                  rw [e]
                  refine x_re_c p1 (by omega) ?_ i0 il (by omega)
                  rcases hsW (vLf V p) (by omega) (by omega) with q3 | ⟨-, q3⟩
                  · exact absurd q3 q
                  · exact q3
                · rw [if_neg (fun q3 => e q3.2)]; exact hsW n n0 n1
              · rw [n_up]
                split
                · rfl
                · exact hUW n n0 n1 hn
              · rw [n_up]
                by_cases e : j = i
                · subst e; rw [if_pos ⟨rfl, rfl⟩]
                · split
                  · rfl
                  · exact hclW q3 j j0 (by omega) j8
          exact lets 0 U (by omega) ⟨by omega, fr, hs, fun n n0 n1 hn => hn, fun _ => Or.inr trivial, fun _ j j0 j1 => by omega⟩
      exact prods 1 (A, j3) (by omega) ⟨by omega, frA, hsA, fun n n0 n1 hn => hn, fun p' q1 q2 => by omega⟩
  have init : ∀ (n : Int) (x : q_S × q_J × q_J), n ≤ 8 → (0 ≤ n ∧ n_fr [44] [] S x.1 ∧ ∀ k, 0 ≤ k → k < n → x.1 44 k = if k = vLf V 1 then 1 else 0) → q_r 37 2 [vR 36, vI n, vJ x.2.1, vJ x.2.2] [] x.1 Q Z := by
    refine n_for 8 (fun (n : Int) (x : q_S × q_J × q_J) => 0 ≤ n ∧ n_fr [44] [] S x.1 ∧ ∀ k, 0 ≤ k → k < n → x.1 44 k = if k = vLf V 1 then 1 else 0) (fun (n : Int) (x : q_S × q_J × q_J) => q_r 37 2 [vR 36, vI n, vJ x.2.1, vJ x.2.2] [] x.1 Q Z) ?_ ?_
    · rintro ⟨U, j2, j3⟩ ⟨-, fr, e⟩
      simp only at fr e ⊢
      refine b_37_2 ⟨fun _ => rounds 0 (U, j2, j3) (by omega) ⟨by omega, fr, fun n n0 n1 => ?_, by simp only; rw [e _ (by omega) (by omega), if_pos rfl], Or.inr (by omega)⟩, fun q => by omega⟩
      simp only
      rw [e n n0 (by omega)]
      by_cases q : n = vLf V 1
      · rw [if_pos q]; exact Or.inr ⟨rfl, by rw [q]; exact x_re_0⟩
      · rw [if_neg q]; exact Or.inl rfl
    · rintro n ⟨U, j2, j3⟩ ⟨n0, fr, e⟩ hn ih
      simp only at fr e ⊢
      have e42 : U 42 0 = vLf V 1 := by rw [n_fr_c fr (by decide)]; exact h42
      have nx : ∀ v : Int, v = (if n = vLf V 1 then 1 else 0) → q_r 37 2 [vR 36, vI (n + 1), vJ j2, vJ j3] [] (q_up U 44 n v) Q Z := by
        intro v hv
        refine ih (q_up U 44 n v, j2, j3) ⟨by omega, n_fr_k fr (by decide), fun k k0 k1 => ?_⟩
        simp only
        rw [n_up]
        by_cases q : k = n
        · rw [if_pos ⟨rfl, q⟩, q]; exact hv
        · rw [if_neg (fun q2 => q q2.2)]; exact e k k0 (by omega)
      refine b_37_2 ?_
      rw [e42]
      refine ⟨fun q => by omega, fun _ => ⟨by omega, by omega, fun q => ⟨by omega, by omega, ⟨by omega, by omega⟩, by unfold q_rg; omega, nx 0 (by rw [if_neg q])⟩, fun q => ⟨by omega, by omega, ⟨by omega, by omega⟩, by unfold q_rg; omega, nx 1 (by rw [if_pos (by omega)])⟩⟩⟩
  exact init 0 (S, _, _) (by omega) ⟨by omega, n_fr_r, fun k k0 k1 => by omega⟩
end Marks
