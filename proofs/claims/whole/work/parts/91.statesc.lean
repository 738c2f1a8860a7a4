def k_sd (S : q_S) (V : v_V) : Prop := ∀ y p, 0 ≤ y → y < 16 → 0 ≤ p → p ≤ vP V → n_sm (S 19 (y * 16 + p)) ∧ ∀ d : Nat, n_bit (S 19 (y * 16 + p)) d = true ↔ ((d : Int) < vSz V p ∧ vLt V p d = y)
def k_md (S : q_S) (V : v_V) (K : Int → Int → Prop) : Prop := ∀ p, 0 ≤ p → p ≤ vP V → n_sm (S 20 p) ∧ ∀ d : Nat, n_bit (S 20 p) d = true ↔ K p d
def k_dt (S : q_S) (V : v_V) : Prop := ∀ t p, 0 ≤ t → t < vSt V → 0 ≤ p → p ≤ vP V → n_sm (S 17 (t * 16 + p)) ∧ ∀ d : Nat, n_bit (S 17 (t * 16 + p)) d = true ↔ vIt V t p d = 1
section StatesC
variable {S : q_S} {V : v_V} {K : Int → Int → Prop} {Q : q_Q} {Z : q_Z}
theorem v_gc_fr {T : q_S} {ks : List Nat} {fs : List (Nat × Int)} (h : n_fr ks fs S T) (h1 : (n_ok ks fs 4 && n_ok ks fs 5 && n_ok ks fs 8 && n_okf ks fs 3 4) = true) (hg : v_gc S V) : v_gc T V := by
  rw [Bool.and_eq_true, Bool.and_eq_true, Bool.and_eq_true] at h1
  obtain ⟨⟨⟨a4, a5⟩, a8⟩, a3⟩ := h1
  unfold v_gc
  rw [n_fr_c h a4, n_fr_c h a5, n_fr_c h a8, n_fr_f h a3]
  exact hg
theorem c_144 (hR : v_gc S V) (hV : v_gw V) (h : ∀ S', n_fr [19] [] S S' → k_sd S' V → Q 0 S') : q_c 144 [vR 16] S Q Z := by
  have hP := hV.1
  refine b_144_0 (f_19 fun S1 fr1 z1 => ?_)
  let I : Int → Int → q_S → Prop := fun p i U => n_fr [19] [] S U ∧ ∀ y p', 0 ≤ y → y < 16 → 0 ≤ p' → p' ≤ vP V → n_sm (U 19 (y * 16 + p')) ∧ ∀ d : Nat, n_bit (U 19 (y * 16 + p')) d = true ↔ (((d : Int) < vSz V p' ∧ vLt V p' d = y) ∧ (p' < p ∨ p' = p ∧ (d : Int) < i))
  have key : ∀ (p : Int) (x : q_S × q_J), p ≤ vP V + 1 → (0 ≤ p ∧ I p 0 x.1) → q_r 144 10 [vR 16, vI p, vJ x.2] [] x.1 Q Z := by
    refine n_for (vP V + 1) (fun (p : Int) (x : q_S × q_J) => 0 ≤ p ∧ I p 0 x.1) (fun (p : Int) (x : q_S × q_J) => q_r 144 10 [vR 16, vI p, vJ x.2] [] x.1 Q Z) ?_ ?_
    · rintro ⟨U, j⟩ ⟨-, fr, hI⟩
      simp only at fr hI ⊢
      have hR' := v_gc_fr fr (by decide) hR
      refine b_144_10 ?_
      rw [hR'.1]
      refine ⟨fun _ => h U fr fun y p y0 y1 p0 p1 => ⟨(hI y p y0 y1 p0 p1).1, fun d => ?_⟩, fun g => by omega⟩
      rw [(hI y p y0 y1 p0 p1).2 d]
      exact ⟨fun q => q.1, fun q => ⟨q, Or.inl (by omega)⟩⟩
    · rintro p ⟨U, j⟩ ⟨p0, fr, hI⟩ pl ih
      simp only at fr hI ⊢
      have hR' := v_gc_fr fr (by decide) hR
      have z2 := hV.2.1 p p0 (by omega)
      refine b_144_10 ?_
      rw [hR'.1]
      refine ⟨fun g => by omega, fun _ => ?_⟩
      have inner : ∀ (i : Int) (W : q_S), i ≤ vSz V p → (0 ≤ i ∧ I p i W) → q_r 144 23 [vR 16, vI p, vI i] [] W Q Z := by
        refine n_for (vSz V p) (fun (i : Int) (W : q_S) => 0 ≤ i ∧ I p i W) (fun (i : Int) (W : q_S) => q_r 144 23 [vR 16, vI p, vI i] [] W Q Z) ?_ ?_
        · rintro W ⟨-, frW, hW⟩
          have hRW := v_gc_fr frW (by decide) hR
          refine b_144_23 ?_
          rw [hRW.2.1 p p0 (by omega)]
          refine ⟨by omega, by omega, fun _ => ⟨by unfold q_rg; omega, ih (W, .inl (vSz V p)) ⟨by omega, frW, fun y p' y0 y1 p0 p1 => ⟨(hW y p' y0 y1 p0 p1).1, fun d => ?_⟩⟩⟩, fun g => by omega⟩
          rw [(hW y p' y0 y1 p0 p1).2 d]
          constructor
          · rintro ⟨q1, q2 | ⟨q2, q3⟩⟩
            · exact ⟨q1, Or.inl (by omega)⟩
            · exact ⟨q1, Or.inl (by omega)⟩
          · rintro ⟨q1, q2 | ⟨q2, q3⟩⟩
            · by_cases e : p' = p
              · subst e; exact ⟨q1, Or.inr ⟨rfl, q1.1⟩⟩
              · exact ⟨q1, Or.inl (by omega)⟩
            · omega
        · rintro i W ⟨i0, frW, hW⟩ il ih2
          have hRW := v_gc_fr frW (by decide) hR
          have z3 := hV.2.2.1 p i p0 (by omega) i0 il
          refine b_144_23 ?_
          rw [hRW.2.1 p p0 (by omega)]
          refine ⟨by omega, by omega, fun g => by omega, fun _ => k_105 hRW hV ⟨p0, by omega⟩ ⟨i0, il⟩ ⟨by unfold q_rg; omega, by unfold q_rg; omega, by omega, by omega, by omega, by omega, by unfold q_rg; omega, ?_⟩⟩
          have hw := hW (vLt V p i) p z3.1 (by omega) p0 (by omega)
          have sm := n_shl1_sm i0 (show i < 31 by omega)
          refine ih2 _ ⟨by omega, n_fr_k frW (by decide), fun y p' y0 y1 p0' p1' => ?_⟩
          have hw' := hW y p' y0 y1 p0' p1'
          rw [n_up]
          by_cases e : y = vLt V p i ∧ p' = p
          · obtain ⟨e1, e2⟩ := e
            subst e2
            rw [e1, if_pos ⟨rfl, rfl⟩]
            refine ⟨n_or_sm hw.1 sm, fun d => ?_⟩
            rw [n_bit_or hw.1 sm, n_bit_shl1 i0 (by omega), Bool.or_eq_true, hw.2 d, decide_eq_true_eq]
            constructor
            · rintro (⟨q1, q2⟩ | q)
              · exact ⟨q1, by omega⟩
              · rw [← q]; exact ⟨⟨by omega, rfl⟩, by omega⟩
            · rintro ⟨q1, q2⟩
              by_cases e : i = d
              · exact Or.inr e
              · exact Or.inl ⟨q1, by omega⟩
          · rw [if_neg (by omega)]
            refine ⟨hw'.1, fun d => ?_⟩
            rw [hw'.2 d]
            constructor
            · rintro ⟨q1, q2⟩
              exact ⟨q1, by omega⟩
            · rintro ⟨q1, q2⟩
              refine ⟨q1, ?_⟩
              by_cases e2 : p' = p ∧ (d : Int) = i
              · exfalso
                refine e ⟨?_, e2.1⟩
                rw [← q1.2, e2.1, e2.2]
              · omega
      exact inner 0 U (by omega) ⟨by omega, fr, hI⟩
  refine key 0 (S1, _) (by omega) ⟨by omega, fr1, fun y p' y0 y1 p0 p1 => ?_⟩
  simp only
  rw [z1 _ (by omega) (by omega)]
  refine ⟨n_sm0, fun d => ?_⟩
  rw [n_bit0]
  constructor
  · intro q; cases q
  · rintro ⟨-, q | ⟨q1, q2⟩⟩ <;> omega
/-- what the states' table must hold while it grows -/
theorem c_146 {k s y : Int} (hR : v_gc S V) (hV : v_gw V) (hD : k_dt S V) (hS : k_sd S V) (hB : x_B V k) (hs : 0 ≤ s ∧ s < vSt V) (hy : 0 ≤ y ∧ y < 16) (h : ∀ a S', n_fr [20] [] S S' → k_md S' V (x_mv V s y) → v_b01 (∃ p d, x_mv V s y p d) a → Q a S') : q_c 146 [vR 16, vI s, vI y] S Q Z := by
  have hP := hV.1
  have b1 := hB.1
  have va := hB.2.2.2.2.1
  refine b_146_0 ?_
  let I : Int → q_S → Int → Prop := fun p U a => 0 ≤ p ∧ n_fr [20] [] S U ∧ n_sm a ∧ (a ≠ 0 ↔ ∃ p' d, p' < p ∧ x_mv V s y p' d) ∧ ∀ p', 0 ≤ p' → p' < p → n_sm (U 20 p') ∧ ∀ d : Nat, n_bit (U 20 p') d = true ↔ x_mv V s y p' d
  have key : ∀ (p : Int) (x : q_S × Int × q_J), p ≤ vP V + 1 → I p x.1 x.2.1 → q_r 146 5 [vR 16, vI s, vI y, vI x.2.1, vI p, vJ x.2.2] [] x.1 Q Z := by
    refine n_for (vP V + 1) (fun (p : Int) (x : q_S × Int × q_J) => I p x.1 x.2.1) (fun (p : Int) (x : q_S × Int × q_J) => q_r 146 5 [vR 16, vI s, vI y, vI x.2.1, vI p, vJ x.2.2] [] x.1 Q Z) ?_ ?_
    · rintro ⟨U, a, j⟩ ⟨-, fr, sm, ha, hm⟩
      simp only at fr sm ha hm ⊢
      have hR' := v_gc_fr fr (by decide) hR
      have md : k_md U V (x_mv V s y) := fun p p0 p1 => hm p p0 (by omega)
      have all : a ≠ 0 ↔ ∃ p d, x_mv V s y p d := by
        rw [ha]
        constructor
        · rintro ⟨p, d, -, q⟩; exact ⟨p, d, q⟩
        · rintro ⟨p, d, q⟩
          have := (va s p (d - 1) hs.1 hs.2 q.2.1).1
          exact ⟨p, d, by omega, q⟩
      refine b_146_5 ?_
      rw [hR'.1]
      refine ⟨fun _ => ⟨fun g => ⟨⟨by omega, by omega⟩, h 0 U fr md (Or.inr ⟨fun q => all.mpr q g, rfl⟩)⟩, fun g => ⟨⟨by omega, by omega⟩, h 1 U fr md (Or.inl ⟨all.mp g, rfl⟩)⟩⟩, fun g => by omega⟩
    · rintro p ⟨U, a, j⟩ ⟨p0, fr, sm, ha, hm⟩ pl ih
      simp only at fr sm ha hm ⊢
      have hR' := v_gc_fr fr (by decide) hR
      have e17 : U 17 = S 17 := n_fr_c fr (by decide)
      have e19 : U 19 = S 19 := n_fr_c fr (by decide)
      have d1 := hD s p hs.1 hs.2 p0 (by omega)
      have d2 := hS y p hy.1 hy.2 p0 (by omega)
      have z2 := hV.2.1 p p0 (by omega)
      refine b_146_5 ?_
      rw [hR'.1, e17, e19]
      refine ⟨fun g => by omega, fun _ => ⟨by unfold q_rg; omega, by unfold q_rg; omega, by omega, by omega, by unfold q_rg; omega, by unfold q_rg; omega, by omega, by omega, by omega, by omega, by unfold q_rg; omega, ?_⟩⟩
      have sb := n_and_sm d1.1 d2.1
      have bb : ∀ d : Nat, n_bit (q_and (S 17 (s * 16 + p)) (S 19 (y * 16 + p))) d = true ↔ x_mv V s y p (d + 1) := fun d => by
        rw [n_bit_and d1.1 d2.1, Bool.and_eq_true, d1.2 d, d2.2 d]
        unfold x_mv
        rw [show (d : Int) + 1 - 1 = d by omega]
        exact ⟨fun q => ⟨by omega, q⟩, fun q => q.2⟩
      have lt := n_lt16 sb (fun i hi => by
        cases e : n_bit (q_and (S 17 (s * 16 + p)) (S 19 (y * 16 + p))) i with
        | false => rfl
        | true =>
          have := ((bb i).mp e).2.2.1
          omega)
      rw [n_shl_1 sb.1 (by omega)]
      refine ih (q_up U 20 p (2 * q_and (S 17 (s * 16 + p)) (S 19 (y * 16 + p))), q_or a (q_and (S 17 (s * 16 + p)) (S 19 (y * 16 + p))), _) ⟨by omega, n_fr_k fr (by decide), n_or_sm sm sb, ?_, fun p' p0' p1' => ?_⟩
      · simp only
        have ez := n_zero (n_or_sm sm sb)
        have ea := n_zero sm
        constructor
        · intro g
          have : ∃ i : Nat, n_bit (q_or a (q_and (S 17 (s * 16 + p)) (S 19 (y * 16 + p)))) i = true := by
            by_cases e : ∃ i : Nat, n_bit (q_or a (q_and (S 17 (s * 16 + p)) (S 19 (y * 16 + p)))) i = true
            · exact e
            · refine absurd (ez.mpr fun i => ?_) g
              cases e2 : n_bit (q_or a (q_and (S 17 (s * 16 + p)) (S 19 (y * 16 + p)))) i with
              | false => rfl
              | true => exact absurd ⟨i, e2⟩ e
          obtain ⟨i, hi⟩ := this
          rw [n_bit_or sm sb, Bool.or_eq_true] at hi
          rcases hi with hi | hi
          · have : a ≠ 0 := fun e => by rw [ea.mp e i] at hi; cases hi
            obtain ⟨p', d, q1, q2⟩ := ha.mp this
            exact ⟨p', d, by omega, q2⟩
          · exact ⟨p, _, by omega, (bb i).mp hi⟩
        · rintro ⟨p', d, q1, q2⟩ g
          by_cases e : p' = p
          · subst e
            have d1' := q2.1
            have := ez.mp g (d - 1).toNat
            rw [n_bit_or sm sb, Bool.or_eq_false_iff] at this
            have t := (bb (d - 1).toNat).mpr (by rw [show (((d - 1).toNat : Nat) : Int) + 1 = d by omega]; exact q2)
            rw [t] at this
            cases this.2
          · refine ha.mpr ⟨p', d, by omega, q2⟩ (ea.mpr fun i => ?_)
            have := ez.mp g i
            rw [n_bit_or sm sb, Bool.or_eq_false_iff] at this
            exact this.1
      · simp only
        rw [n_up]
        by_cases e : p' = p
        · rw [if_pos ⟨rfl, e⟩]
          refine ⟨⟨by have := sb.1; omega, by omega⟩, fun d => ?_⟩
          rw [n_bit_2 sb.1, bb, e]
          constructor
          · rintro ⟨q1, q2⟩
            rwa [show (((d - 1 : Nat) : Int)) + 1 = d by omega] at q2
          · intro q
            have := q.1
            refine ⟨by omega, ?_⟩
            rwa [show (((d - 1 : Nat) : Int)) + 1 = d by omega]
        · rw [if_neg (by omega)]
          exact hm p' p0' (by omega)
  exact key 0 (S, 0, _) (by omega) ⟨by omega, n_fr_r, n_sm0, ⟨fun g => absurd rfl g, by
    rintro ⟨p, d, q1, q2⟩
    have := (va s p (d - 1) hs.1 hs.2 q2.2.1).1
    omega⟩, fun p' p0 p1 => by omega⟩
theorem c_148 {k t : Int} (hR : v_gc S V) (hV : v_gw V) (hD : k_dt S V) (hM : k_md S V K) (hB : x_B V k) (ht : 0 ≤ t ∧ t < vSt V) (hK : ∀ p d, K p d → 1 ≤ d ∧ x_va V p d) (h : ∀ a, v_b01 (∀ p d, 1 ≤ d → (vIt V t p d = 1 ↔ K p d)) a → Q a S) : q_c 148 [vR 16, vI t] S Q Z := by
  have hP := hV.1
  have b1 := hB.1
  have va := hB.2.2.2.2.1
  refine b_148_0 ?_
  have key : ∀ (p : Int) (x : Unit), p ≤ vP V + 1 → (0 ≤ p ∧ ∀ p' d, p' < p → 1 ≤ d → (vIt V t p' d = 1 ↔ K p' d)) → q_r 148 2 [vR 16, vI t, vI p] [] S Q Z := by
    refine n_for (vP V + 1) (fun (p : Int) (x : Unit) => 0 ≤ p ∧ ∀ p' d, p' < p → 1 ≤ d → (vIt V t p' d = 1 ↔ K p' d)) (fun (p : Int) (x : Unit) => q_r 148 2 [vR 16, vI t, vI p] [] S Q Z) ?_ ?_
    · rintro - ⟨-, hI⟩
      refine b_148_2 ?_
      rw [hR.1]
      refine ⟨fun _ => ⟨⟨by omega, by omega⟩, h 1 (Or.inl ⟨fun p d hd => ?_, rfl⟩)⟩, fun g => by omega⟩
      by_cases e : p < vP V + 1
      · exact hI p d e hd
      · constructor
        · intro q
          have := (va t p d ht.1 ht.2 q).1
          omega
        · intro q
          have := (hK p d q).2.1
          omega
    · rintro p - ⟨p0, hI⟩ pl ih
      have d1 := hD t p ht.1 ht.2 p0 (by omega)
      have d2 := hM p p0 (by omega)
      obtain ⟨s1, s2⟩ := n_andn d1.1 (show n_sm 1 from ⟨by decide, by decide⟩)
      rw [← n_bneg] at s1 s2
      refine b_148_2 ?_
      rw [hR.1]
      refine ⟨fun g => by omega, fun _ => ⟨by unfold q_rg; omega, by unfold q_rg; omega, by omega, by omega, by omega, by omega, fun g => ⟨by unfold q_rg; omega, ih () ⟨by omega, fun p' d p1 hd => ?_⟩⟩, fun g => ⟨⟨by omega, by omega⟩, h 0 (Or.inr ⟨fun q => g (n_ext s1 d2.1 fun i => ?_), rfl⟩)⟩⟩⟩
      · by_cases e : p' = p
        · subst e
          have e2 := d2.2 d.toNat
          rw [← g, s2, show ((d.toNat : Nat) : Int) = d by omega] at e2
          rw [← e2, Bool.and_eq_true, d1.2, show ((d.toNat : Nat) : Int) = d by omega]
          refine ⟨fun q => ⟨q, ?_⟩, fun q => q.1⟩
          cases e3 : n_bit 1 d.toNat with
          | false => rfl
          | true => have := (n_bit_1 _).mp e3; omega
        · exact hI p' d (by omega) hd
      · rw [s2]
        apply Bool.eq_iff_iff.mpr
        rw [Bool.and_eq_true, d1.2, d2.2]
        by_cases e : i = 0
        · subst e
          constructor
          · rintro ⟨-, q2⟩
            rw [show n_bit 1 0 = true from (n_bit_1 0).mpr rfl] at q2
            cases q2
          · intro q2
            have := (hK p _ q2).1
            omega
        · rw [← q p i (by omega)]
          refine ⟨fun q2 => q2.1, fun q2 => ⟨q2, ?_⟩⟩
          cases e3 : n_bit 1 i with
          | false => rfl
          | true => exact absurd ((n_bit_1 _).mp e3) e
  exact key 0 () (by omega) ⟨by omega, fun p' d p1 hd => ⟨fun q => by have := (va t p' d ht.1 ht.2 q).1; omega, fun q => by have := (hK p' d q).2.1; omega⟩⟩
theorem c_147 {k : Int} (hR : v_gc S V) (hV : v_gw V) (hD : k_dt S V) (hM : k_md S V K) (hB : x_B V k) (h16 : S 16 0 = vSt V) (hK : ∀ p d, K p d → 1 ≤ d ∧ x_va V p d) (hne : ∃ p d, K p d) (h : ∀ t, (0 ≤ t ∧ t < vSt V) → x_sm V t K → (∀ t', 0 ≤ t' → t' < t → ¬ x_sm V t' K) → Q t S) (h0 : (∀ t, 0 ≤ t → t < vSt V → ¬ x_sm V t K) → Q (-1) S) : q_c 147 [vR 16] S Q Z := by
  have b1 := hB.1
  refine b_147_0 ?_
  have key : ∀ (t : Int) (x : Unit), t ≤ vSt V → (0 ≤ t ∧ ∀ t', 0 ≤ t' → t' < t → ¬ x_sm V t' K) → q_r 147 2 [vR 16, vI t] [] S Q Z := by
    refine n_for (vSt V) (fun (t : Int) (x : Unit) => 0 ≤ t ∧ ∀ t', 0 ≤ t' → t' < t → ¬ x_sm V t' K) (fun (t : Int) (x : Unit) => q_r 147 2 [vR 16, vI t] [] S Q Z) ?_ ?_
    · rintro - ⟨t0, hI⟩
      refine b_147_2 ?_
      rw [h16]
      exact ⟨fun _ => h0 hI, fun g => by omega⟩
    · rintro t - ⟨t0, hI⟩ tl ih
      refine b_147_2 ?_
      rw [h16]
      refine ⟨fun g => by omega, fun _ => c_148 hR hV hD hM hB ⟨t0, tl⟩ hK ?_⟩
      have eq := x_eqk hB ⟨t0, tl⟩ (fun p d q => (hK p d q).1) hne
      rintro a (⟨ha, rfl⟩ | ⟨ha, rfl⟩)
      · exact ⟨fun g => by omega, fun _ => h t ⟨t0, tl⟩ (eq.mpr ha) hI⟩
      · refine ⟨fun _ => ⟨by unfold q_rg; omega, ih () ⟨by omega, fun t' t0' t1' => ?_⟩⟩, fun g => absurd rfl g⟩
        by_cases e : t' = t
        · rw [e]; exact fun q => ha (eq.mp q)
        · exact hI t' t0' (by omega)
  exact key 0 () (by omega) ⟨by omega, fun t' a b => by omega⟩
end StatesC
