/-! the class finds its sets -/
def k_nu (S : q_S) (V : v_V) : Prop := n_sm (S 12 4) ∧ ∀ i : Nat, n_bit (S 12 4) i = true ↔ x_nu V i
def k_fi (S : q_S) (V : v_V) : Prop := ∀ n, 0 ≤ n → n < 8 → n_sm (S 13 n) ∧ ∀ t : Nat, n_bit (S 13 n) t = true ↔ x_Fi V n t
def k_rf (S : q_S) (V : v_V) : Prop := ∀ p f, 0 ≤ p → p ≤ vP V → 0 ≤ f → f ≤ vSz V p → n_sm (S 15 (p * 5 + f)) ∧ ∀ t : Nat, n_bit (S 15 (p * 5 + f)) t = true ↔ x_rp V (x_nu V) (x_Fi V) p f t
def k_fw (S : q_S) (V : v_V) : Prop := ∀ n, 0 ≤ n → n < 8 → n_sm (S 14 n) ∧ ∀ t : Nat, n_bit (S 14 n) t = true ↔ x_Fo V n t
theorem q_or_00 : q_or 0 0 = 0 := by decide +kernel
theorem q_or_10 : q_or 1 0 = 1 := by decide +kernel
theorem q_or_01 : q_or 0 1 = 1 := by decide +kernel
theorem q_or_11 : q_or 1 1 = 1 := by decide +kernel
section SetsC
variable {S : q_S} {V : v_V} {Q : q_Q} {Z : q_Z}
theorem k_nu_fr {T : q_S} {ks : List Nat} {fs : List (Nat × Int)} (h : n_fr ks fs S T) (h1 : n_okf ks fs 12 4 = true) (hg : k_nu S V) : k_nu T V := by
  unfold k_nu
  rw [n_fr_f h h1]
  exact hg
theorem k_rf_fr {T : q_S} {ks : List Nat} {fs : List (Nat × Int)} (h : n_fr ks fs S T) (h1 : n_ok ks fs 15 = true) (hg : k_rf S V) : k_rf T V := by
  unfold k_rf
  rw [n_fr_c h h1]
  exact hg
theorem c_133 {y : Int} (hN : k_nu S V) (hy : 0 ≤ y ∧ y < 16) (h : ∀ a, v_b01 (x_nu V y) a → Q a S) : q_c 133 [vR 12, vI y] S Q Z := by
  refine b_133_0 ?_
  rw [n_shr1 hN.1 hy.1 (by omega)]
  have e := hN.2 y.toNat
  rw [show ((y.toNat : Nat) : Int) = y by omega] at e
  refine ⟨fun g => ⟨⟨by omega, by omega⟩, h 0 (Or.inr ⟨fun q => ?_, rfl⟩)⟩, fun g => ⟨⟨by omega, by omega⟩, h 1 (Or.inl ⟨e.mp ?_, rfl⟩)⟩⟩
  · rw [e.mpr q] at g; exact absurd g (by decide)
  · cases e2 : n_bit (S 12 4) y.toNat with
    | true => rfl
    | false => rw [e2] at g; exact absurd rfl g
theorem c_136 {p f : Int} (hR : v_gc S V) (hV : v_gw V) (hN : k_nu S V) (hM : ∀ n, 0 ≤ n → n < 8 → n_sm (S 13 n)) (hp : 0 ≤ p ∧ p ≤ vP V) (hf : 0 ≤ f ∧ f ≤ vSz V p) (h : ∀ a, n_sm a → (∀ t : Nat, n_bit a t = true ↔ x_rp V (x_nu V) (n_mb (S 13)) p f t) → Q a S) : q_c 136 [vR 12, vI p, vI f] S Q Z := by
  have hP := hV.1
  have z2 := hV.2.1 p hp.1 hp.2
  refine b_136_0 ?_
  let I : Int → Int → Prop := fun i a => f ≤ i ∧ n_sm a ∧ (∀ l, f ≤ l → l < i → x_nu V (vLt V p l)) ∧ ∀ t : Nat, n_bit a t = true ↔ ∃ j, (f ≤ j ∧ j < i) ∧ (vLt V p j = 8 + t ∨ (vLt V p j < 8 ∧ n_mb (S 13) (vLt V p j) t))
  have key : ∀ (i : Int) (x : Int × q_J), i ≤ vSz V p → I i x.1 → q_r 136 5 [vR 12, vI p, vI f, vI x.1, vI i, vJ x.2] [] S Q Z := by
    refine n_for (vSz V p) (fun (i : Int) (x : Int × q_J) => I i x.1) (fun (i : Int) (x : Int × q_J) => q_r 136 5 [vR 12, vI p, vI f, vI x.1, vI i, vJ x.2] [] S Q Z) ?_ ?_
    · rintro ⟨a, j⟩ ⟨i0, sa, nu, ba⟩
      simp only at sa ba ⊢
      refine b_136_5 ?_
      rw [hR.2.1 p hp.1 hp.2]
      refine ⟨by omega, by omega, fun _ => h a sa fun t => ?_, fun g => by omega⟩
      rw [ba t]
      constructor
      · rintro ⟨j, j1, j2⟩; exact ⟨j, j1, fun l l0 l1 => nu l l0 (by omega), j2⟩
      · rintro ⟨j, j1, -, j2⟩; exact ⟨j, j1, j2⟩
    · rintro i ⟨a, j⟩ ⟨i0, sa, nu, ba⟩ il ih
      simp only at sa ba ⊢
      have z3 := hV.2.2.1 p i hp.1 hp.2 (by omega) il
      refine b_136_5 ?_
      rw [hR.2.1 p hp.1 hp.2]
      -- what both ways end with
      have fin : ∀ m, n_sm m → (∀ t : Nat, n_bit m t = true ↔ (vLt V p i = 8 + t ∨ (vLt V p i < 8 ∧ n_mb (S 13) (vLt V p i) t))) → (x_nu V (vLt V p i) → I (i + 1) (q_or a m)) ∧ (¬ x_nu V (vLt V p i) → Q (q_or a m) S) := fun m sm bm => by
        have bo : ∀ t : Nat, n_bit (q_or a m) t = true ↔ ∃ j, (f ≤ j ∧ j < i + 1) ∧ (vLt V p j = 8 + t ∨ (vLt V p j < 8 ∧ n_mb (S 13) (vLt V p j) t)) := fun t => by
          rw [n_bit_or sa sm, Bool.or_eq_true, ba t, bm t]
          constructor
          · rintro (⟨j, j1, j2⟩ | q)
            · exact ⟨j, by omega, j2⟩
            · exact ⟨i, by omega, q⟩
          · rintro ⟨j, j1, j2⟩
            by_cases e : j = i
            · subst e; exact Or.inr j2
            · exact Or.inl ⟨j, by omega, j2⟩
        refine ⟨fun hn => ⟨by omega, n_or_sm sa sm, fun l l0 l1 => ?_, bo⟩, fun hn => h _ (n_or_sm sa sm) fun t => ?_⟩
        · by_cases e : l = i
          · rw [e]; exact hn
          · exact nu l l0 (by omega)
        · rw [bo t]
          constructor
          · rintro ⟨j, j1, j2⟩; exact ⟨j, by omega, fun l l0 l1 => nu l l0 (by omega), j2⟩
          · rintro ⟨j, j1, j2, j3⟩
            refine ⟨j, ⟨j1.1, ?_⟩, j3⟩
            by_cases e : j ≤ i
            · omega
            · exact absurd (j2 i i0 (by omega)) hn
      refine ⟨by omega, by omega, fun g => by omega, fun _ => k_105 hR hV hp ⟨by omega, il⟩ ⟨fun g => ⟨by unfold q_rg; omega, c_133 hN ⟨by omega, by omega⟩ ?_⟩, fun g => ⟨by omega, by omega, c_133 hN ⟨by omega, by omega⟩ ?_⟩⟩⟩
      · obtain ⟨f1, f2⟩ := fin (q_shl 1 (vLt V p i - 8)) (n_shl1_sm (by omega) (by omega)) (fun t => by
          rw [n_bit_shl1 (by omega) (by omega), decide_eq_true_eq]
          constructor
          · intro q; exact Or.inl (by omega)
          · rintro (q | ⟨q, -⟩)
            · omega
            · omega)
        rintro x (⟨hx, rfl⟩ | ⟨hx, rfl⟩)
        · exact ⟨fun _ => ⟨by unfold q_rg; omega, ih (_, _) (f1 hx)⟩, fun g => absurd (by decide) g⟩
        · exact ⟨fun g => absurd rfl g, fun _ => f2 hx⟩
      · obtain ⟨f1, f2⟩ := fin (S 13 (vLt V p i)) (hM _ (by omega) (by omega)) (fun t => by
          constructor
          · intro q; exact Or.inr ⟨by omega, q⟩
          · rintro (q | ⟨-, q⟩)
            · omega
            · exact q)
        rintro x (⟨hx, rfl⟩ | ⟨hx, rfl⟩)
        · exact ⟨fun _ => ⟨by unfold q_rg; omega, ih (_, _) (f1 hx)⟩, fun g => absurd (by decide) g⟩
        · exact ⟨fun g => absurd rfl g, fun _ => f2 hx⟩
  refine key f (0, _) hf.2 ⟨by omega, n_sm0, fun l a b => by omega, fun t => ?_⟩
  rw [n_bit0]
  constructor
  · intro q; cases q
  · rintro ⟨j, j1, -⟩; omega
theorem n_fr_same {T : q_S} {k : Nat} {i v : Int} : ∀ n, q_up T k i v k n = if n = i then v else T k n := fun n => by
  rw [n_up]
  by_cases e : n = i
  · rw [if_pos ⟨rfl, e⟩, if_pos e]
  · rw [if_neg (fun q => e q.2), if_neg e]
theorem c_135 (hR : v_gc S V) (hV : v_gw V) (hN : k_nu S V) (h : ∀ S', n_fr [13, 15] [] S S' → k_fi S' V → k_rf S' V → Q 0 S') : q_c 135 [vR 12] S Q Z := by
  have hP := hV.1
  refine b_135_0 (f_13 fun S1 fr1 z1 => ?_)
  -- the rows
  have rows : ∀ (U : q_S) (a : Int) (j3 j4 j5 : q_J), n_fr [13, 15] [] S U → x_sN 8 (x_Fi V) (U 13) → x_cN 8 (x_Fi V) (U 13) → q_r 135 107 [vR 12, vI a, vI 0, vJ j3, vJ j4, vJ j5] [] U Q Z := by
    intro U a j3 j4 j5 fU hs hc
    let I : Int → Int → q_S → Prop := fun p f W => 0 ≤ p ∧ n_fr [13, 15] [] S W ∧ W 13 = U 13 ∧ ∀ p' f', 0 ≤ p' → p' ≤ vP V → 0 ≤ f' → f' ≤ vSz V p' → (p' < p ∨ p' = p ∧ f' < f) → n_sm (W 15 (p' * 5 + f')) ∧ ∀ t : Nat, n_bit (W 15 (p' * 5 + f')) t = true ↔ x_rp V (x_nu V) (x_Fi V) p' f' t
    have outer : ∀ (p : Int) (x : q_S × q_J), p ≤ vP V + 1 → I p 0 x.1 → q_r 135 107 [vR 12, vI a, vI p, vJ x.2, vJ j4, vJ j5] [] x.1 Q Z := by
      refine n_for (vP V + 1) (fun (p : Int) (x : q_S × q_J) => I p 0 x.1) (fun (p : Int) (x : q_S × q_J) => q_r 135 107 [vR 12, vI a, vI p, vJ x.2, vJ j4, vJ j5] [] x.1 Q Z) ?_ ?_
      · rintro ⟨W, j⟩ ⟨-, fW, e13, hI⟩
        simp only at fW e13 hI ⊢
        refine b_135_107 ?_
        rw [(v_gc_fr fW (by decide) hR).1]
        refine ⟨fun _ => h W fW (fun n n0 n1 => ?_) (fun p f p0 p1 f0 f1 => hI p f p0 p1 f0 f1 (Or.inl (by omega))), fun g => by omega⟩
        rw [e13]
        exact ⟨(hs n n0 n1).1, fun t => ⟨(hs n n0 n1).2 t, hc n n0 n1 t⟩⟩
      · rintro p ⟨W, j⟩ ⟨p0, fW, e13, hI⟩ pl ih
        simp only at fW e13 hI ⊢
        have z2 := hV.2.1 p p0 (by omega)
        refine b_135_107 ?_
        rw [(v_gc_fr fW (by decide) hR).1]
        refine ⟨fun g => by omega, fun _ => ?_⟩
        have inner : ∀ (f : Int) (X : q_S), f ≤ vSz V p + 1 → (0 ≤ f ∧ I p f X) → q_r 135 120 [vR 12, vI a, vI p, vI f, vJ j4, vJ j5] [] X Q Z := by
          refine n_for (vSz V p + 1) (fun (f : Int) (X : q_S) => 0 ≤ f ∧ I p f X) (fun (f : Int) (X : q_S) => q_r 135 120 [vR 12, vI a, vI p, vI f, vJ j4, vJ j5] [] X Q Z) ?_ ?_
          · rintro X ⟨-, -, fX, eX, hX⟩
            refine b_135_120 ?_
            rw [(v_gc_fr fX (by decide) hR).2.1 p p0 (by omega)]
            refine ⟨by omega, by omega, fun _ => ⟨by unfold q_rg; omega, ih (X, .inl (vSz V p + 1)) ⟨by omega, fX, eX, fun p' f' a b c d e => hX p' f' a b c d ?_⟩⟩, fun g => by omega⟩
            rcases e with e | e
            · by_cases e2 : p' = p
              · subst e2; exact Or.inr ⟨rfl, by omega⟩
              · exact Or.inl (by omega)
            · omega
          · rintro f X ⟨f0, -, fX, eX, hX⟩ fl ih2
            have hRX := v_gc_fr fX (by decide) hR
            refine b_135_120 ?_
            rw [hRX.2.1 p p0 (by omega)]
            refine ⟨by omega, by omega, fun g => by omega, fun _ => ⟨by unfold q_rg; omega, by unfold q_rg; omega, c_136 hRX hV (k_nu_fr fX (by decide) hN) (fun n n0 n1 => by rw [eX]; exact (hs n n0 n1).1) ⟨p0, by omega⟩ ⟨f0, by omega⟩ fun r sr br => ⟨by omega, by omega, by unfold q_rg; omega, ih2 _ ⟨by omega, p0, n_fr_k fX (by decide), by rw [q_up_ne (by decide)]; exact eX, fun p' f' a b c d e => ?_⟩⟩⟩⟩
            have z2' := hV.2.1 p' a b
            rw [n_fr_same]
            by_cases e2 : p' * 5 + f' = p * 5 + f
            · have : p' = p ∧ f' = f := by omega
              rw [if_pos e2, this.1, this.2]
              refine ⟨sr, fun t => ?_⟩
              rw [br t, eX]
              exact ⟨x_rp_m (fun n t n0 n1 q => (hs n n0 (by omega)).2 t q) hV ⟨p0, by omega⟩ f0, x_rp_m (fun n t n0 n1 q => hc n n0 (by omega) t q) hV ⟨p0, by omega⟩ f0⟩
            · rw [if_neg e2]
              refine hX p' f' a b c d ?_
              rcases e with e | e
              · exact Or.inl e
              · exact Or.inr (by omega)
        exact inner 0 W (by omega) ⟨by omega, p0, fW, e13, hI⟩
    exact outer 0 (U, j3) (by omega) ⟨by omega, fU, rfl, fun p' f' a b c d e => by omega⟩
  let I : Int → q_S → Int → Prop := fun r U g => 0 ≤ r ∧ n_fr [13, 15] [] S U ∧ x_sN 8 (x_Fi V) (U 13) ∧ (g = 0 → x_cN 8 (x_Fi V) (U 13)) ∧ (x_cN 8 (x_Fi V) (U 13) ∨ r.toNat ≤ x_cn 8 8 (U 13))
  have key : ∀ (r : Int) (x : q_S × Int × q_J × q_J × q_J), r ≤ 1000000 → I r x.1 x.2.1 → q_r 135 12 [vR 12, vI x.2.1, vI r, vJ x.2.2.1, vJ x.2.2.2.1, vJ x.2.2.2.2] [] x.1 Q Z := by
    refine n_for 1000000 (fun (r : Int) (x : q_S × Int × q_J × q_J × q_J) => I r x.1 x.2.1) (fun (r : Int) (x : q_S × Int × q_J × q_J × q_J) => q_r 135 12 [vR 12, vI x.2.1, vI r, vJ x.2.2.1, vJ x.2.2.2.1, vJ x.2.2.2.2] [] x.1 Q Z) ?_ ?_
    · rintro ⟨U, g, j3, j4, j5⟩ ⟨-, fU, hs, h0, hc⟩
      simp only at fU hs h0 hc ⊢
      have hc' : x_cN 8 (x_Fi V) (U 13) := by
        rcases hc with hc | hc
        · exact hc
        · have := x_cn_le (N := 8) (T := 8) (M := U 13)
          omega
      exact b_135_12 ⟨fun q => rows U g j3 j4 j5 fU hs hc', fun _ => ⟨fun _ => rows U g j3 j4 j5 fU hs hc', fun q => by omega⟩⟩
    · rintro r ⟨U, g, j3, j4, j5⟩ ⟨r0, fU, hs, h0, hc⟩ rl ih
      simp only at fU hs h0 hc ⊢
      refine b_135_12 ⟨fun q => rows U g j3 j4 j5 fU hs (h0 q), fun _ => ⟨fun q => by omega, fun _ => ?_⟩⟩
      let J : Int → q_S → Int → Prop := fun p W g' => 1 ≤ p ∧ n_fr [13, 15] [] S W ∧ x_sN 8 (x_Fi V) (W 13) ∧ x_gN 8 (U 13) (W 13) ∧ (g' = 0 ∨ g' = 1) ∧ (g' = 0 → ∀ n : Int, 0 ≤ n → n < (8 : Nat) → W 13 n = U 13 n) ∧ ∀ p', 1 ≤ p' → p' < p → ∀ t, x_rp V (x_nu V) (n_mb (U 13)) p' 0 t → n_bit (W 13 (vLf V p')) t = true
      have inner : ∀ (p : Int) (x : q_S × Int × q_J × q_J), p ≤ vP V + 1 → J p x.1 x.2.1 → q_r 135 26 [vR 12, vI x.2.1, vI r, vI p, vJ x.2.2.1, vJ x.2.2.2] [] x.1 Q Z := by
        refine n_for (vP V + 1) (fun (p : Int) (x : q_S × Int × q_J × q_J) => J p x.1 x.2.1) (fun (p : Int) (x : q_S × Int × q_J × q_J) => q_r 135 26 [vR 12, vI x.2.1, vI r, vI p, vJ x.2.2.1, vJ x.2.2.2] [] x.1 Q Z) ?_ ?_
        · rintro ⟨W, g', k4, k5⟩ ⟨-, fW, sW, gW, h01, eW, cl⟩
          simp only at fW sW gW h01 eW cl ⊢
          refine b_135_26 ?_
          rw [(v_gc_fr fW (by decide) hR).1]
          refine ⟨fun _ => ⟨by unfold q_rg; omega, ih (W, g', .inl (vP V + 1), k4, k5) ?_⟩, fun g => by omega⟩
          have hst : (∀ n : Int, 0 ≤ n → n < (8 : Nat) → W 13 n = U 13 n) → x_cN 8 (x_Fi V) (U 13) := fun same n n0 n1 t q => by
            refine q (fun n t => n_bit (U 13 n) t = true) fun p t p1 p2 q2 => ?_
            have z4 := hV.2.2.2 p p1 p2
            rw [← same _ z4.1 (by omega)]
            exact cl p p1 (by omega) t q2
          refine ⟨by omega, fW, sW, fun e => ?_, ?_⟩
          · have := hst (eW e)
            intro n n0 n1 t q
            exact gW n n0 n1 t (this n n0 n1 t q)
          · have := x_pass (T := 8) (r := r.toNat) (by decide) (fun n t q => (x_Fi_r hV q).2) hs sW gW hst hc
            rw [show (r + 1).toNat = r.toNat + 1 by omega]
            exact this
        · rintro p ⟨W, g', k4, k5⟩ ⟨p1, fW, sW, gW, h01, eW, cl⟩ pl ih2
          simp only at fW sW gW h01 eW cl ⊢
          have hRW := v_gc_fr fW (by decide) hR
          have z4 := hV.2.2.2 p p1 (by omega)
          refine b_135_26 ?_
          rw [hRW.1, hRW.2.2.1 p p1 (by omega)]
          refine ⟨fun g => by omega, fun _ => ⟨by omega, by omega, by omega, by omega, by omega, by omega, c_136 hRW hV (k_nu_fr fW (by decide) hN) (fun n n0 n1 => (sW n n0 (by omega)).1) ⟨by omega, by omega⟩ ⟨by omega, (hV.2.1 p (by omega) (by omega)).1⟩ fun m sm bm => ?_⟩⟩
          have sl := (sW (vLf V p) z4.1 (by omega)).1
          rw [n_up1]
          have bo : ∀ t : Nat, n_bit (q_or (W 13 (vLf V p)) m) t = true ↔ (n_bit (W 13 (vLf V p)) t = true ∨ x_rp V (x_nu V) (n_mb (W 13)) p 0 t) := fun t => by rw [n_bit_or sl sm, Bool.or_eq_true, bm t]
          have nx : ∀ g'', (g'' = 0 ∨ g'' = 1) → (g'' = 0 → g' = 0 ∧ q_or (W 13 (vLf V p)) m = W 13 (vLf V p)) → J (p + 1) (q_up W 13 (vLf V p) (q_or (W 13 (vLf V p)) m)) g'' := by
            intro g'' h1 h2
            refine ⟨by omega, n_fr_k fW (by decide), fun n n0 n1 => ?_, fun n n0 n1 t q => ?_, h1, fun e n n0 n1 => ?_, fun p' a b t q => ?_⟩
            · rw [n_fr_same]
              by_cases e : n = vLf V p
              · rw [if_pos e]
                refine ⟨n_or_sm sl sm, fun t q => ?_⟩
                rcases (bo t).mp q with q | q
                · rw [e]; exact (sW _ z4.1 (by omega)).2 t q
                · rw [e]
                  exact x_Fi_c p1 (by omega) (x_rp_m (fun n t n0 n1 q => (sW n n0 (by omega)).2 t q) hV ⟨by omega, by omega⟩ (by omega) q)
              · rw [if_neg e]; exact sW n n0 n1
            · rw [n_fr_same]
              by_cases e : n = vLf V p
              · rw [if_pos e, bo t]
                rw [e] at q
                exact Or.inl (gW _ z4.1 (by omega) t q)
              · rw [if_neg e]; exact gW n n0 n1 t q
            · obtain ⟨e1, e2⟩ := h2 e
              rw [n_fr_same, e2]
              by_cases e3 : n = vLf V p
              · rw [if_pos e3, e3]; exact eW e1 _ z4.1 (by omega)
              · rw [if_neg e3]; exact eW e1 n n0 n1
            · rw [n_fr_same]
              by_cases e3 : p' = p
              · subst e3
                rw [if_pos rfl, bo t]
                exact Or.inr (x_rp_m (fun n t n0 n1 q => gW n n0 (by omega) t q) hV ⟨by omega, by omega⟩ (by omega) q)
              · have c := cl p' a (by omega) t q
                by_cases e4 : vLf V p' = vLf V p
                · rw [if_pos e4, bo t]
                  rw [e4] at c
                  exact Or.inl c
                · rw [if_neg e4]; exact c
          have o0 : (q_or g' 0 = 0 ∨ q_or g' 0 = 1) ∧ (q_or g' 0 = 0 → g' = 0) := by
            rcases h01 with rfl | rfl
            · rw [q_or_00]; exact ⟨Or.inl rfl, fun _ => rfl⟩
            · rw [q_or_10]; exact ⟨Or.inr rfl, fun q => by omega⟩
          have o1 : q_or g' 1 = 1 := by
            rcases h01 with rfl | rfl
            · exact q_or_01
            · exact q_or_11
          exact ⟨by omega, by omega, by omega, by omega, fun e => ⟨by unfold q_rg; omega, ih2 (q_up W 13 (vLf V p) (q_or (W 13 (vLf V p)) m), q_or g' 0, .inl (vLf V p), .inl (W 13 (vLf V p))) (nx (q_or g' 0) o0.1 (fun q => ⟨o0.2 q, e⟩))⟩, fun e => ⟨by unfold q_rg; omega, ih2 (q_up W 13 (vLf V p) (q_or (W 13 (vLf V p)) m), q_or g' 1, .inl (vLf V p), .inl (W 13 (vLf V p))) (nx (q_or g' 1) (Or.inr o1) (fun q => by omega))⟩⟩
      exact inner 1 (U, 0, j4, j5) (by omega) ⟨by omega, fU, hs, x_gN_r, Or.inl rfl, fun _ _ _ _ => rfl, fun p' a b => by omega⟩
  refine key 0 (S1, 1, _, _, _) (by omega) ⟨by omega, n_fr_w fr1 (by decide) (by decide), fun n n0 n1 => ?_, fun g => by simp only at g; omega, Or.inr (by simp)⟩
  simp only
  rw [z1 n n0 (by omega)]
  exact ⟨n_sm0, fun t q => by rw [n_bit0] at q; cases q⟩
end SetsC
