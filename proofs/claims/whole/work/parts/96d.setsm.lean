/-! the reference finds its sets -/
def k_45 (S : q_S) (y : Int) : Prop := y < 8 ∧ S 45 y ≠ 0
section SetsM
variable {S : q_S} {V : v_V} {N N' : Int → Prop} {K : Int → Nat → Prop} {Q : q_Q} {Z : q_Z}
theorem x_nr_n (hV : v_gw V) (h : ∀ y, 0 ≤ y → y ≤ 15 → N y → N' y) {p i : Int} (hp : 0 ≤ p ∧ p ≤ vP V) (i0 : 0 ≤ i) (q : x_nr V N p i) : x_nr V N' p i := fun l l0 l1 => by
  have := hV.2.2.1 p l hp.1 hp.2 (by omega) l1
  exact h _ this.1 this.2 (q l l0 l1)
theorem x_rp_n (hV : v_gw V) (h : ∀ y, 0 ≤ y → y ≤ 15 → N y → N' y) {p i : Int} {t : Nat} (hp : 0 ≤ p ∧ p ≤ vP V) (i0 : 0 ≤ i) (q : x_rp V N K p i t) : x_rp V N' K p i t := by
  obtain ⟨j, j1, j2, j3⟩ := q
  refine ⟨j, j1, fun l l0 l1 => ?_, j3⟩
  have := hV.2.2.1 p l hp.1 hp.2 (by omega) (by omega)
  exact h _ this.1 this.2 (j2 l l0 l1)
theorem m_46 {p f : Int} (hR : v_gn S V) (hV : v_gw V) (hp : 0 ≤ p ∧ p ≤ vP V) (hf : 0 ≤ f ∧ f ≤ vSz V p) (h : ∀ a, v_b01 (x_nr V (k_45 S) p f) a → Q a S) : q_c 46 [vR 36, vI p, vI f] S Q Z := by
  have hP := hV.1
  have z2 := hV.2.1 p hp.1 hp.2
  refine b_46_0 ?_
  have key : ∀ (i : Int) (a : Int), i ≤ vSz V p → (f ≤ i ∧ v_b01 (∀ l, f ≤ l → l < i → k_45 S (vLt V p l)) a) → q_r 46 5 [vR 36, vI p, vI f, vI a, vI i] [] S Q Z := by
    refine n_for (vSz V p) (fun (i : Int) (a : Int) => f ≤ i ∧ v_b01 (∀ l, f ≤ l → l < i → k_45 S (vLt V p l)) a) (fun (i : Int) (a : Int) => q_r 46 5 [vR 36, vI p, vI f, vI a, vI i] [] S Q Z) ?_ ?_
    · rintro a ⟨-, ha⟩
      refine b_46_5 ?_
      rw [hR.2.1 p hp.1 hp.2]
      refine ⟨by omega, by omega, fun _ => ⟨?_, h a ha⟩, fun g => by omega⟩
      rcases ha with ⟨-, q⟩ | ⟨-, q⟩ <;> (rw [q]; exact ⟨by omega, by omega⟩)
    · rintro i a ⟨i0, ha⟩ il ih
      have z3 := hV.2.2.1 p i hp.1 hp.2 (by omega) il
      have rg : q_rg (i + 1) := by unfold q_rg; omega
      have no : ¬ k_45 S (vLt V p i) → q_r 46 5 [vR 36, vI p, vI f, vI 0, vI (i + 1)] [] S Q Z := fun hn => ih 0 ⟨by omega, Or.inr ⟨fun q => hn (q i i0 (by omega)), rfl⟩⟩
      refine b_46_5 ?_
      rw [hR.2.1 p hp.1 hp.2, hR.2.2.2 p i hp.1 hp.2 (by omega) il]
      refine ⟨by omega, by omega, fun g => by omega, fun _ => ⟨fun g => ⟨rg, ih 0 ⟨by omega, Or.inr ⟨fun q => ?_, rfl⟩⟩⟩, fun g => ⟨by unfold q_rg; omega, by unfold q_rg; omega, by omega, by omega, fun g8 => ⟨rg, no (fun q => by have := q.1; omega)⟩, fun g8 => ⟨by unfold q_rg; omega, by unfold q_rg; omega, by omega, by omega, by omega, by omega, fun g0 => ⟨rg, no (fun q => q.2 g0)⟩, fun g0 => ⟨rg, ih 1 ⟨by omega, Or.inl ⟨fun l l0 l1 => ?_, rfl⟩⟩⟩⟩⟩⟩⟩
      · rcases ha with ⟨-, ha⟩ | ⟨ha, -⟩
        · omega
        · exact ha fun l l0 l1 => q l l0 (by omega)
      · by_cases e : l = i
        · rw [e]; exact ⟨by omega, g0⟩
        · rcases ha with ⟨ha, -⟩ | ⟨-, ha⟩
          · exact ha l l0 (by omega)
          · exact absurd ha g
  exact key f 1 hf.2 ⟨by omega, Or.inl ⟨fun l a b => by omega, rfl⟩⟩
theorem m_47 {p f : Int} (hR : v_gn S V) (hV : v_gw V) (hM : ∀ n, 0 ≤ n → n < 8 → n_sm (S 46 n)) (hp : 0 ≤ p ∧ p ≤ vP V) (hf : 0 ≤ f ∧ f ≤ vSz V p) (h : ∀ a, n_sm a → (∀ t : Nat, n_bit a t = true ↔ x_rp V (k_45 S) (n_mb (S 46)) p f t) → Q a S) : q_c 47 [vR 36, vI p, vI f] S Q Z := by
  have hP := hV.1
  have z2 := hV.2.1 p hp.1 hp.2
  refine b_47_0 ?_
  let I : Int → Int → Int → Prop := fun i a e => f ≤ i ∧ n_sm a ∧ v_b01 (∀ l, f ≤ l → l < i → k_45 S (vLt V p l)) e ∧ ∀ t : Nat, n_bit a t = true ↔ ∃ j, (f ≤ j ∧ j < i) ∧ (∀ l, f ≤ l → l < j → k_45 S (vLt V p l)) ∧ (vLt V p j = 8 + t ∨ (vLt V p j < 8 ∧ n_mb (S 46) (vLt V p j) t))
  have key : ∀ (i : Int) (x : Int × Int × q_J), i ≤ vSz V p → I i x.1 x.2.1 → q_r 47 8 [vR 36, vI p, vI f, vI x.1, vI x.2.1, vI i, vJ x.2.2] [] S Q Z := by
    refine n_for (vSz V p) (fun (i : Int) (x : Int × Int × q_J) => I i x.1 x.2.1) (fun (i : Int) (x : Int × Int × q_J) => q_r 47 8 [vR 36, vI p, vI f, vI x.1, vI x.2.1, vI i, vJ x.2.2] [] S Q Z) ?_ ?_
    · rintro ⟨a, e, j⟩ ⟨i0, sa, -, ba⟩
      simp only at sa ba ⊢
      refine b_47_8 ?_
      rw [hR.2.1 p hp.1 hp.2]
      exact ⟨by omega, by omega, fun _ => h a sa ba, fun g => by omega⟩
    · rintro i ⟨a, e, j⟩ ⟨i0, sa, he, ba⟩ il ih
      simp only at sa he ba ⊢
      have z3 := hV.2.2.1 p i hp.1 hp.2 (by omega) il
      have rg : q_rg (i + 1) := by unfold q_rg; omega
      refine b_47_8 ?_
      rw [hR.2.1 p hp.1 hp.2, hR.2.2.2 p i hp.1 hp.2 (by omega) il]
      -- with the letter's mask
      have on : (∀ l, f ≤ l → l < i → k_45 S (vLt V p l)) → ∀ m, n_sm m → (∀ t : Nat, n_bit m t = true ↔ (vLt V p i = 8 + t ∨ (vLt V p i < 8 ∧ n_mb (S 46) (vLt V p i) t))) → ∀ e', v_b01 (k_45 S (vLt V p i)) e' → ∀ jj : q_J, q_r 47 8 [vR 36, vI p, vI f, vI (q_or a m), vI e', vI (i + 1), vJ jj] [] S Q Z := fun nu m sm bm e' he' jj => by
        refine ih (q_or a m, e', jj) ⟨by omega, n_or_sm sa sm, ?_, fun t => ?_⟩
        · simp only
          rcases he' with ⟨q1, q2⟩ | ⟨q1, q2⟩
          · refine Or.inl ⟨fun l l0 l1 => ?_, q2⟩
            by_cases e : l = i
            · rw [e]; exact q1
            · exact nu l l0 (by omega)
          · exact Or.inr ⟨fun q => q1 (q i i0 (by omega)), q2⟩
        · simp only
          rw [n_bit_or sa sm, Bool.or_eq_true, ba t, bm t]
          constructor
          · rintro (⟨j, j1, j2⟩ | q)
            · exact ⟨j, by omega, j2⟩
            · exact ⟨i, by omega, nu, q⟩
          · rintro ⟨j, j1, j2, j3⟩
            by_cases e : j = i
            · subst e; exact Or.inr j3
            · exact Or.inl ⟨j, by omega, j2, j3⟩
      have off : (¬ ∀ l, f ≤ l → l < i → k_45 S (vLt V p l)) → ∀ jj : q_J, q_r 47 8 [vR 36, vI p, vI f, vI a, vI 0, vI (i + 1), vJ jj] [] S Q Z := fun nu jj => by
        refine ih (a, 0, jj) ⟨by omega, sa, Or.inr ⟨fun q => nu fun l l0 l1 => q l l0 (by omega), rfl⟩, fun t => ?_⟩
        simp only
        rw [ba t]
        constructor
        · rintro ⟨j, j1, j2⟩; exact ⟨j, by omega, j2⟩
        · rintro ⟨j, j1, j2, j3⟩
          by_cases e : j = i
          · subst e; exact absurd j2 nu
          · exact ⟨j, by omega, j2, j3⟩
      have b8 : 8 ≤ vLt V p i → ∀ t : Nat, n_bit (q_shl 1 (vLt V p i - 8)) t = true ↔ (vLt V p i = 8 + t ∨ (vLt V p i < 8 ∧ n_mb (S 46) (vLt V p i) t)) := fun g t => by
        rw [n_bit_shl1 (by omega) (by omega), decide_eq_true_eq]
        constructor
        · intro q; exact Or.inl (by omega)
        · rintro (q | ⟨q, -⟩) <;> omega
      have b7 : vLt V p i < 8 → ∀ t : Nat, n_bit (S 46 (vLt V p i)) t = true ↔ (vLt V p i = 8 + t ∨ (vLt V p i < 8 ∧ n_mb (S 46) (vLt V p i) t)) := fun g t => by
        constructor
        · intro q; exact Or.inr ⟨by omega, q⟩
        · rintro (q | ⟨-, q⟩)
          · omega
          · exact q
      have n8 : 8 ≤ vLt V p i → v_b01 (k_45 S (vLt V p i)) 0 := fun g => Or.inr ⟨fun q => by have := q.1; omega, rfl⟩
      refine ⟨by omega, by omega, fun g => by omega, fun _ => ⟨by unfold q_rg; omega, by unfold q_rg; omega, by omega, by omega, fun g => ?_, fun g => ?_⟩⟩
      · have nu : ∀ l, f ≤ l → l < i → k_45 S (vLt V p l) := by
          rcases he with ⟨q, -⟩ | ⟨-, q⟩
          · exact q
          · exact absurd q g
        refine ⟨fun g8 => ⟨by unfold q_rg; omega, fun q => absurd q g, fun _ => ⟨fun _ => ⟨rg, on nu _ (n_shl1_sm (by omega) (by omega)) (b8 g8) 0 (n8 g8) _⟩, fun q => by omega⟩⟩, fun g8 => ⟨by omega, by omega, fun q => absurd q g, fun _ => ⟨fun q => by omega, fun _ => ⟨by omega, by omega, fun g0 => ⟨rg, on nu _ (hM _ (by omega) (by omega)) (b7 (by omega)) 0 (Or.inr ⟨fun q => q.2 g0, rfl⟩) _⟩, fun g0 => ⟨rg, on nu _ (hM _ (by omega) (by omega)) (b7 (by omega)) 1 (Or.inl ⟨⟨by omega, g0⟩, rfl⟩) _⟩⟩⟩⟩⟩
      · have e0 : e = 0 := by
          by_cases q : e = 0
          · exact q
          · exact absurd q g
        have nu : ¬ ∀ l, f ≤ l → l < i → k_45 S (vLt V p l) := by
          rcases he with ⟨-, q⟩ | ⟨q, -⟩
          · omega
          · exact q
        exact ⟨fun _ => ⟨rg, off nu _⟩, fun q => absurd e0 q⟩
  refine key f (0, 1, _) hf.2 ⟨by omega, n_sm0, Or.inl ⟨fun l a b => by omega, rfl⟩, fun t => ?_⟩
  simp only
  rw [n_bit0]
  constructor
  · intro q; cases q
  · rintro ⟨j, j1, -⟩; omega
def k_ms (S : q_S) (V : v_V) : Prop := ∀ n, 0 ≤ n → n < 8 → v_b01 (x_nu V n) (S 45 n) ∧ (n_sm (S 46 n) ∧ ∀ t : Nat, n_bit (S 46 n) t = true ↔ x_Fi V n t) ∧ (n_sm (S 47 n) ∧ ∀ t : Nat, n_bit (S 47 n) t = true ↔ x_Fo V n t)
theorem k_45_e (hV : v_gw V) (h : ∀ n, 0 ≤ n → n < 8 → v_b01 (x_nu V n) (S 45 n)) (y : Int) (y0 : 0 ≤ y) : k_45 S y ↔ x_nu V y := by
  constructor
  · rintro ⟨q1, q2⟩
    rcases h y y0 q1 with ⟨q, -⟩ | ⟨-, q⟩
    · exact q
    · exact absurd q q2
  · intro q
    have := x_nu_8 hV q
    refine ⟨by omega, ?_⟩
    rcases h y y0 (by omega) with ⟨-, q2⟩ | ⟨q2, -⟩
    · omega
    · exact absurd q q2
abbrev k_mk : List Nat := [45, 46, 47]
/-- FOLLOW -/
theorem m_48c (hR : v_gn S V) (hV : v_gw V) (h45 : ∀ n, 0 ≤ n → n < 8 → v_b01 (x_nu V n) (S 45 n)) (h46 : ∀ n, 0 ≤ n → n < 8 → n_sm (S 46 n) ∧ ∀ t : Nat, n_bit (S 46 n) t = true ↔ x_Fi V n t) (h47 : x_sN 8 (x_Fo V) (S 47)) (hb : n_bit (S 47 (vLf V 1)) 8 = true) {j2 j3 j4 : q_J} (h : ∀ S', n_fr [47] [] S S' → k_ms S' V → Q 0 S') : q_r 48 182 [vR 36, vI 0, vJ j2, vJ j3, vJ j4] [] S Q Z := by
  have hP := hV.1
  have l1 := hV.2.2.2 1 (by omega) hP.1
  let I : Int → q_S → Prop := fun r U => 0 ≤ r ∧ n_fr [47] [] S U ∧ x_sN 8 (x_Fo V) (U 47) ∧ n_bit (U 47 (vLf V 1)) 8 = true ∧ (x_cN 8 (x_Fo V) (U 47) ∨ r.toNat ≤ x_cn 8 9 (U 47))
  have key : ∀ (r : Int) (x : q_S × q_J × q_J × q_J), r ≤ 80 → I r x.1 → q_r 48 182 [vR 36, vI r, vJ x.2.1, vJ x.2.2.1, vJ x.2.2.2] [] x.1 Q Z := by
    refine n_for 80 (fun (r : Int) (x : q_S × q_J × q_J × q_J) => I r x.1) (fun (r : Int) (x : q_S × q_J × q_J × q_J) => q_r 48 182 [vR 36, vI r, vJ x.2.1, vJ x.2.2.1, vJ x.2.2.2] [] x.1 Q Z) ?_ ?_
    · rintro ⟨U, k2, k3, k4⟩ ⟨-, fU, hs, -, hc⟩
      simp only at fU hs hc ⊢
      have hc' : x_cN 8 (x_Fo V) (U 47) := by
        rcases hc with hc | hc
        · exact hc
        · have := x_cn_le (N := 8) (T := 9) (M := U 47)
          omega
      refine b_48_182 ⟨fun _ => h U fU fun n n0 n1 => ⟨?_, ?_, (hs n n0 (by omega)).1, fun t => ⟨(hs n n0 (by omega)).2 t, hc' n n0 (by omega) t⟩⟩, fun g => by omega⟩
      · rw [n_fr_c fU (by decide)]; exact h45 n n0 n1
      · rw [n_fr_c fU (by decide)]; exact h46 n n0 n1
    · rintro r ⟨U, k2, k3, k4⟩ ⟨r0, fU, hs, hb, hc⟩ rl ih
      simp only at fU hs hb hc ⊢
      refine b_48_182 ⟨fun g => by omega, fun _ => ?_⟩
      let J : Int → Int → q_S → Prop := fun p i W => 1 ≤ p ∧ n_fr [47] [] S W ∧ x_sN 8 (x_Fo V) (W 47) ∧ x_gN 8 (U 47) (W 47) ∧ ∀ p' i', 1 ≤ p' → p' ≤ vP V → 0 ≤ i' → i' < vSz V p' → (p' < p ∨ p' = p ∧ i' < i) → vLt V p' i' < 8 → ∀ t, x_fs V (n_mb (U 47)) p' (i' + 1) t → n_bit (W 47 (vLt V p' i')) t = true
      have mid : ∀ (p : Int) (x : q_S × q_J × q_J), p ≤ vP V + 1 → J p 0 x.1 → q_r 48 190 [vR 36, vI r, vI p, vJ x.2.1, vJ x.2.2] [] x.1 Q Z := by
        refine n_for (vP V + 1) (fun (p : Int) (x : q_S × q_J × q_J) => J p 0 x.1) (fun (p : Int) (x : q_S × q_J × q_J) => q_r 48 190 [vR 36, vI r, vI p, vJ x.2.1, vJ x.2.2] [] x.1 Q Z) ?_ ?_
        · rintro ⟨W, k3, k4⟩ ⟨-, fW, sW, gW, cl⟩
          simp only at fW sW gW cl ⊢
          refine b_48_190 ?_
          rw [(v_gn_fr fW (by decide) hR).1]
          refine ⟨fun _ => ⟨by unfold q_rg; omega, ih (W, .inl (vP V + 1), k3, k4) ⟨by omega, fW, sW, gW _ l1.1 (by omega) 8 hb, ?_⟩⟩, fun g => by omega⟩
          have := x_pass (T := 9) (r := r.toNat) (by decide) (fun n t q => (x_Fo_r hV q).2) hs sW gW (fun same n n0 n1 t q => by
            refine q (fun n t => n_bit (U 47 n) t = true) hb fun p i t p1 p2 i0 i1 i8 q2 => ?_
            rw [← same _ (hV.2.2.1 p i (by omega) p2 i0 i1).1 (by omega)]
            exact cl p i p1 p2 i0 i1 (Or.inl (by omega)) i8 t q2) hc
          rw [show (r + 1).toNat = r.toNat + 1 by omega]
          exact this
        · rintro p ⟨W, k3, k4⟩ ⟨p1, fW, sW, gW, cl⟩ pl ih2
          simp only at fW sW gW cl ⊢
          have z2 := hV.2.1 p (by omega) (by omega)
          have z4 := hV.2.2.2 p p1 (by omega)
          refine b_48_190 ?_
          rw [(v_gn_fr fW (by decide) hR).1]
          refine ⟨fun g => by omega, fun _ => ?_⟩
          have inner : ∀ (i : Int) (x : q_S × q_J), i ≤ vSz V p → (0 ≤ i ∧ J p i x.1) → q_r 48 200 [vR 36, vI r, vI p, vI i, vJ x.2] [] x.1 Q Z := by
            refine n_for (vSz V p) (fun (i : Int) (x : q_S × q_J) => 0 ≤ i ∧ J p i x.1) (fun (i : Int) (x : q_S × q_J) => q_r 48 200 [vR 36, vI r, vI p, vI i, vJ x.2] [] x.1 Q Z) ?_ ?_
            · rintro ⟨X, k4⟩ ⟨-, -, fX, sX, gX, clX⟩
              simp only at fX sX gX clX ⊢
              refine b_48_200 ?_
              rw [(v_gn_fr fX (by decide) hR).2.1 p (by omega) (by omega)]
              refine ⟨by omega, by omega, fun _ => ⟨by unfold q_rg; omega, ih2 (X, .inl (vSz V p), k4) ⟨by omega, fX, sX, gX, fun p' i' a b c d e => clX p' i' a b c d ?_⟩⟩, fun g => by omega⟩
              rcases e with e | e
              · by_cases e2 : p' = p
                · subst e2; exact Or.inr ⟨rfl, d⟩
                · exact Or.inl (by omega)
              · omega
            · rintro i ⟨X, k4⟩ ⟨i0, -, fX, sX, gX, clX⟩ il ih3
              simp only at fX sX gX clX ⊢
              have hRX := v_gn_fr fX (by decide) hR
              have z3 := hV.2.2.1 p i (by omega) (by omega) i0 il
              have rg : q_rg (i + 1) := by unfold q_rg; omega
              have e45 : X 45 = S 45 := n_fr_c fX (by decide)
              have e46 : X 46 = S 46 := n_fr_c fX (by decide)
              have n45 : ∀ n, 0 ≤ n → n < 8 → v_b01 (x_nu V n) (X 45 n) := fun n n0 n1 => by rw [e45]; exact h45 n n0 n1
              refine b_48_200 ?_
              rw [hRX.2.1 p (by omega) (by omega), hRX.2.2.2 p i (by omega) (by omega) i0 il]
              refine ⟨by omega, by omega, fun g => by omega, fun _ => ⟨by unfold q_rg; omega, by unfold q_rg; omega, by omega, by omega, fun g8 => ⟨rg, ih3 (X, .inl (vLt V p i)) ⟨by omega, p1, fX, sX, gX, fun p' i' a b c d e f => ?_⟩⟩, fun g8 => ⟨by omega, by omega, rg, m_47 hRX hV (fun n n0 n1 => by rw [e46]; exact (h46 n n0 n1).1) ⟨by omega, by omega⟩ ⟨by omega, by omega⟩ fun m sm bm => ⟨rg, m_46 hRX hV ⟨by omega, by omega⟩ ⟨by omega, by omega⟩ ?_⟩⟩⟩⟩
              · by_cases e2 : p' = p ∧ i' = i
                · rw [e2.1, e2.2] at f; omega
                · exact clX p' i' a b c d (by omega) f
              have sl := (sX (vLt V p i) z3.1 (by omega)).1
              have slf := (sX (vLf V p) z4.1 (by omega)).1
              have bm' : ∀ t : Nat, n_bit m t = true ↔ x_rp V (x_nu V) (x_Fi V) p (i + 1) t := fun t => by
                rw [bm t]
                constructor
                · intro q
                  exact x_rp_m (fun n t n0 n1 q => by unfold n_mb at q; rw [e46] at q; exact ((h46 n n0 n1).2 t).mp q) hV ⟨by omega, by omega⟩ (by omega) (x_rp_n hV (fun y y0 _ q => (k_45_e hV n45 y y0).mp q) ⟨by omega, by omega⟩ (by omega) q)
                · intro q
                  exact x_rp_m (fun n t n0 n1 q => by unfold n_mb; rw [e46]; exact ((h46 n n0 n1).2 t).mpr q) hV ⟨by omega, by omega⟩ (by omega) (x_rp_n hV (fun y y0 _ q => (k_45_e hV n45 y y0).mpr q) ⟨by omega, by omega⟩ (by omega) q)
              have nrw : x_nr V (k_45 X) p (i + 1) ↔ x_nr V (x_nu V) p (i + 1) := ⟨x_nr_n hV (fun y y0 _ q => (k_45_e hV n45 y y0).mp q) ⟨by omega, by omega⟩ (by omega), x_nr_n hV (fun y y0 _ q => (k_45_e hV n45 y y0).mpr q) ⟨by omega, by omega⟩ (by omega)⟩
              have nx : ∀ v, n_sm v → (∀ t : Nat, n_bit v t = true ↔ (n_bit (X 47 (vLt V p i)) t = true ∨ x_fs V (n_mb (X 47)) p (i + 1) t)) → J p (i + 1) (q_up X 47 (vLt V p i) v) := by
                intro v sv bo
                refine ⟨p1, n_fr_k fX (by decide), fun n n0 n1 => ?_, fun n n0 n1 t q => ?_, fun p' i' a b c d e f t q => ?_⟩
                · rw [n_fr_same]
                  by_cases e : n = vLt V p i
                  · rw [if_pos e]
                    refine ⟨sv, fun t q => ?_⟩
                    rcases (bo t).mp q with q | q
                    · rw [e]; exact (sX _ z3.1 (by omega)).2 t q
                    · rw [e]
                      refine x_Fo_c p1 (by omega) i0 il (by omega) ?_
                      rcases q with q | ⟨q1, q2⟩
                      · exact Or.inl q
                      · exact Or.inr ⟨q1, (sX _ z4.1 (by omega)).2 t q2⟩
                  · rw [if_neg e]; exact sX n n0 n1
                · rw [n_fr_same]
                  by_cases e : n = vLt V p i
                  · rw [if_pos e, bo t]
                    rw [e] at q
                    exact Or.inl (gX _ z3.1 (by omega) t q)
                  · rw [if_neg e]; exact gX n n0 n1 t q
                · rw [n_fr_same]
                  by_cases e3 : p' = p ∧ i' = i
                  · rw [e3.1, e3.2, if_pos rfl, bo t]
                    rw [e3.1, e3.2] at q
                    refine Or.inr ?_
                    rcases q with q | ⟨q1, q2⟩
                    · exact Or.inl q
                    · exact Or.inr ⟨q1, gX _ z4.1 (by omega) t q2⟩
                  · have c := clX p' i' a b c d (by omega) f t q
                    by_cases e4 : vLt V p' i' = vLt V p i
                    · rw [if_pos e4, bo t]
                      rw [e4] at c
                      exact Or.inl c
                    · rw [if_neg e4]; exact c
              have s1 := n_or_sm sl sm
              rintro x (⟨hx, rfl⟩ | ⟨hx, rfl⟩)
              · refine ⟨fun g => by omega, fun _ => ?_⟩
                rw [hRX.2.2.1 p p1 (by omega)]
                refine ⟨by omega, by omega, by omega, by omega, by omega, by omega, rg, ih3 (q_up X 47 (vLt V p i) (q_or (q_or (X 47 (vLt V p i)) m) (X 47 (vLf V p))), .inl (vLt V p i)) ⟨by omega, nx _ (n_or_sm s1 slf) fun t => ?_⟩⟩
                rw [n_bit_or s1 slf, n_bit_or sl sm, Bool.or_eq_true, Bool.or_eq_true, bm' t]
                constructor
                · rintro ((q | q) | q)
                  · exact Or.inl q
                  · exact Or.inr (Or.inl q)
                  · exact Or.inr (Or.inr ⟨nrw.mp hx, q⟩)
                · rintro (q | q | ⟨-, q⟩)
                  · exact Or.inl (Or.inl q)
                  · exact Or.inl (Or.inr q)
                  · exact Or.inr q
              · refine ⟨fun _ => ⟨by omega, by omega, rg, ih3 (q_up X 47 (vLt V p i) (q_or (q_or (X 47 (vLt V p i)) m) 0), .inl (vLt V p i)) ⟨by omega, nx _ (n_or_sm s1 n_sm0) fun t => ?_⟩⟩, fun g => absurd rfl g⟩
                rw [n_bit_or s1 n_sm0, n_bit_or sl sm, n_bit0, Bool.or_false, Bool.or_eq_true, bm' t]
                constructor
                · rintro (q | q)
                  · exact Or.inl q
                  · exact Or.inr (Or.inl q)
                · rintro (q | q | ⟨q, -⟩)
                  · exact Or.inl q
                  · exact Or.inr q
                  · exact absurd (nrw.mpr q) hx
          exact inner 0 (W, k4) z2.1 ⟨by omega, p1, fW, sW, gW, cl⟩
      exact mid 1 (U, k3, k4) (by omega) ⟨by omega, fU, hs, x_gN_r, fun p' i' a b c d e => by omega⟩
  exact key 0 (S, j2, j3, j4) (by omega) ⟨by omega, n_fr_r, h47, hb, Or.inr (by simp)⟩
end SetsM
