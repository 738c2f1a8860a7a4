section SetsD
variable {S : q_S} {V : v_V} {Q : q_Q} {Z : q_Z}
theorem c_134 {p f m : Int} (hR : v_gc S V) (hV : v_gw V) (hN : k_nu S V) (hF : k_rf S V) (hp : 0 ≤ p ∧ p ≤ vP V) (hf : 0 ≤ f ∧ f ≤ vSz V p) (hm : n_sm m) (h : ∀ a, n_sm a → (∀ t : Nat, n_bit a t = true ↔ (x_rp V (x_nu V) (x_Fi V) p f t ∨ (x_nr V (x_nu V) p f ∧ n_bit m t = true))) → Q a S) : q_c 134 [vR 12, vI p, vI f, vI m] S Q Z := by
  have hP := hV.1
  have z2 := hV.2.1 p hp.1 hp.2
  obtain ⟨s15, b15⟩ := hF p f hp.1 hp.2 hf.1 hf.2
  refine b_134_0 ⟨by unfold q_rg; omega, by unfold q_rg; omega, by omega, by omega, ?_⟩
  have key : ∀ (i : Int) (x : Unit), i ≤ vSz V p → (f ≤ i ∧ ∀ l, f ≤ l → l < i → x_nu V (vLt V p l)) → q_r 134 15 [vR 12, vI p, vI f, vI m, vI (S 15 (p * 5 + f)), vI i] [] S Q Z := by
    refine n_for (vSz V p) (fun (i : Int) (x : Unit) => f ≤ i ∧ ∀ l, f ≤ l → l < i → x_nu V (vLt V p l)) (fun (i : Int) (x : Unit) => q_r 134 15 [vR 12, vI p, vI f, vI m, vI (S 15 (p * 5 + f)), vI i] [] S Q Z) ?_ ?_
    · rintro - ⟨-, nu⟩
      refine b_134_15 ?_
      rw [hR.2.1 p hp.1 hp.2]
      refine ⟨by omega, by omega, fun _ => h _ (n_or_sm s15 hm) fun t => ?_, fun g => by omega⟩
      rw [n_bit_or s15 hm, Bool.or_eq_true, b15 t]
      exact ⟨fun q => q.elim Or.inl (fun q => Or.inr ⟨nu, q⟩), fun q => q.elim Or.inl (fun q => Or.inr q.2)⟩
    · rintro i - ⟨i0, nu⟩ il ih
      have z3 := hV.2.2.1 p i hp.1 hp.2 (by omega) il
      refine b_134_15 ?_
      rw [hR.2.1 p hp.1 hp.2]
      refine ⟨by omega, by omega, fun g => by omega, fun _ => k_105 hR hV hp ⟨by omega, il⟩ (c_133 hN ⟨by omega, by omega⟩ ?_)⟩
      rintro x (⟨hx, rfl⟩ | ⟨hx, rfl⟩)
      · refine ⟨fun _ => ⟨by unfold q_rg; omega, ih () ⟨by omega, fun l l0 l1 => ?_⟩⟩, fun g => absurd (by decide) g⟩
        by_cases e : l = i
        · rw [e]; exact hx
        · exact nu l l0 (by omega)
      · refine ⟨fun g => absurd rfl g, fun _ => h _ s15 fun t => ?_⟩
        rw [b15 t]
        exact ⟨Or.inl, fun q => q.elim id (fun q => absurd (q.1 i i0 il) hx)⟩
  exact key f () hf.2 ⟨by omega, fun l a b => by omega⟩
theorem c_138 {p : Int} (hR : v_gc S V) (hV : v_gw V) (hN : k_nu S V) (hF : k_rf S V) (hp : 1 ≤ p ∧ p ≤ vP V) (hs : x_sN 8 (x_Fo V) (S 14)) (h : ∀ a S', n_fr [14] [] S S' → x_sN 8 (x_Fo V) (S' 14) → x_gN 8 (S 14) (S' 14) → (a = 0 ∨ a = 1) → (a = 0 → ∀ n : Int, 0 ≤ n → n < (8 : Nat) → S' 14 n = S 14 n) → (∀ i, 0 ≤ i → i < vSz V p → vLt V p i < 8 → ∀ t, x_fs V (n_mb (S 14)) p (i + 1) t → n_bit (S' 14 (vLt V p i)) t = true) → Q a S') : q_c 138 [vR 12, vI p] S Q Z := by
  have hP := hV.1
  have z2 := hV.2.1 p (by omega) hp.2
  have z4 := hV.2.2.2 p hp.1 hp.2
  refine b_138_0 ?_
  let J : Int → q_S → Int → Prop := fun i W g => 0 ≤ i ∧ n_fr [14] [] S W ∧ x_sN 8 (x_Fo V) (W 14) ∧ x_gN 8 (S 14) (W 14) ∧ (g = 0 ∨ g = 1) ∧ (g = 0 → ∀ n : Int, 0 ≤ n → n < (8 : Nat) → W 14 n = S 14 n) ∧ ∀ i', 0 ≤ i' → i' < i → vLt V p i' < 8 → ∀ t, x_fs V (n_mb (S 14)) p (i' + 1) t → n_bit (W 14 (vLt V p i')) t = true
  have key : ∀ (i : Int) (x : q_S × Int × q_J × q_J), i ≤ vSz V p → J i x.1 x.2.1 → q_r 138 4 [vR 12, vI p, vI x.2.1, vI i, vJ x.2.2.1, vJ x.2.2.2] [] x.1 Q Z := by
    refine n_for (vSz V p) (fun (i : Int) (x : q_S × Int × q_J × q_J) => J i x.1 x.2.1) (fun (i : Int) (x : q_S × Int × q_J × q_J) => q_r 138 4 [vR 12, vI p, vI x.2.1, vI i, vJ x.2.2.1, vJ x.2.2.2] [] x.1 Q Z) ?_ ?_
    · rintro ⟨W, g, k4, k5⟩ ⟨-, fW, sW, gW, h01, eW, cl⟩
      simp only at fW sW gW h01 eW cl ⊢
      refine b_138_4 ?_
      rw [(v_gc_fr fW (by decide) hR).2.1 p (by omega) hp.2]
      exact ⟨by omega, by omega, fun _ => ⟨⟨by omega, by omega⟩, h g W fW sW gW h01 eW cl⟩, fun g => by omega⟩
    · rintro i ⟨W, g, k4, k5⟩ ⟨i0, fW, sW, gW, h01, eW, cl⟩ il ih
      simp only at fW sW gW h01 eW cl ⊢
      have hRW := v_gc_fr fW (by decide) hR
      have z3 := hV.2.2.1 p i (by omega) hp.2 i0 il
      have rg : q_rg (i + 1) := by unfold q_rg; omega
      refine b_138_4 ?_
      rw [hRW.2.1 p (by omega) hp.2]
      refine ⟨by omega, by omega, fun g => by omega, fun _ => k_105 hRW hV ⟨by omega, hp.2⟩ ⟨i0, il⟩ ⟨fun g8 => ⟨rg, ih (W, g, .inl (vLt V p i), k5) ⟨by omega, fW, sW, gW, h01, eW, fun i' a b c t q => ?_⟩⟩, fun g8 => ?_⟩⟩
      · by_cases e : i' = i
        · subst e; omega
        · exact cl i' a (by omega) c t q
      rw [hRW.2.2.1 p hp.1 hp.2]
      have sl := (sW (vLt V p i) z3.1 (by omega)).1
      refine ⟨by omega, by omega, by omega, by omega, rg, by omega, by omega, by omega, by omega, c_134 hRW hV (k_nu_fr fW (by decide) hN) (k_rf_fr fW (by decide) hF) ⟨by omega, hp.2⟩ ⟨by omega, by omega⟩ (sW (vLf V p) z4.1 (by omega)).1 fun m sm bm => ?_⟩
      rw [n_up1]
      have bo : ∀ t : Nat, n_bit (q_or (W 14 (vLt V p i)) m) t = true ↔ (n_bit (W 14 (vLt V p i)) t = true ∨ x_fs V (n_mb (W 14)) p (i + 1) t) := fun t => by
        rw [n_bit_or sl sm, Bool.or_eq_true, bm t]
        exact Iff.rfl
      have nx : ∀ g'', (g'' = 0 ∨ g'' = 1) → (g'' = 0 → g = 0 ∧ q_or (W 14 (vLt V p i)) m = W 14 (vLt V p i)) → J (i + 1) (q_up W 14 (vLt V p i) (q_or (W 14 (vLt V p i)) m)) g'' := by
        intro g'' h1 h2
        refine ⟨by omega, n_fr_k fW (by decide), fun n n0 n1 => ?_, fun n n0 n1 t q => ?_, h1, fun e n n0 n1 => ?_, fun i' a b c t q => ?_⟩
        · rw [n_fr_same]
          by_cases e : n = vLt V p i
          · rw [if_pos e]
            refine ⟨n_or_sm sl sm, fun t q => ?_⟩
            rcases (bo t).mp q with q | q
            · rw [e]; exact (sW _ z3.1 (by omega)).2 t q
            · rw [e]
              refine x_Fo_c hp.1 hp.2 i0 il (by omega) ?_
              rcases q with q | ⟨q1, q2⟩
              · exact Or.inl q
              · exact Or.inr ⟨q1, (sW _ z4.1 (by omega)).2 t q2⟩
          · rw [if_neg e]; exact sW n n0 n1
        · rw [n_fr_same]
          by_cases e : n = vLt V p i
          · rw [if_pos e, bo t]
            rw [e] at q
            exact Or.inl (gW _ z3.1 (by omega) t q)
          · rw [if_neg e]; exact gW n n0 n1 t q
        · obtain ⟨e1, e2⟩ := h2 e
          rw [n_fr_same, e2]
          by_cases e3 : n = vLt V p i
          · rw [if_pos e3, e3]; exact eW e1 _ z3.1 (by omega)
          · rw [if_neg e3]; exact eW e1 n n0 n1
        · rw [n_fr_same]
          by_cases e3 : i' = i
          · subst e3
            rw [if_pos rfl, bo t]
            refine Or.inr ?_
            rcases q with q | ⟨q1, q2⟩
            · exact Or.inl q
            · exact Or.inr ⟨q1, gW _ z4.1 (by omega) t q2⟩
          · have c := cl i' a (by omega) c t q
            by_cases e4 : vLt V p i' = vLt V p i
            · rw [if_pos e4, bo t]
              rw [e4] at c
              exact Or.inl c
            · rw [if_neg e4]; exact c
      have o0 : (q_or g 0 = 0 ∨ q_or g 0 = 1) ∧ (q_or g 0 = 0 → g = 0) := by
        rcases h01 with rfl | rfl
        · rw [q_or_00]; exact ⟨Or.inl rfl, fun _ => rfl⟩
        · rw [q_or_10]; exact ⟨Or.inr rfl, fun q => by omega⟩
      have o1 : q_or g 1 = 1 := by
        rcases h01 with rfl | rfl
        · exact q_or_01
        · exact q_or_11
      exact ⟨by omega, by omega, by omega, by omega, fun e => ⟨rg, ih (q_up W 14 (vLt V p i) (q_or (W 14 (vLt V p i)) m), q_or g 0, .inl (vLt V p i), .inl (W 14 (vLt V p i))) (nx (q_or g 0) o0.1 (fun q => ⟨o0.2 q, e⟩))⟩, fun e => ⟨rg, ih (q_up W 14 (vLt V p i) (q_or (W 14 (vLt V p i)) m), q_or g 1, .inl (vLt V p i), .inl (W 14 (vLt V p i))) (nx (q_or g 1) (Or.inr o1) (fun q => by omega))⟩⟩
  exact key 0 (S, 0, _, _) z2.1 ⟨by omega, n_fr_r, hs, x_gN_r, Or.inl rfl, fun _ _ _ _ => rfl, fun i' a b => by omega⟩
theorem n_bit_256 (t : Nat) : n_bit 256 t = true ↔ t = 8 := by
  have : (256 : Int) = q_shl 1 8 := by decide +kernel
  rw [this, n_bit_shl1 (by decide) (by decide), decide_eq_true_eq]
  omega
theorem c_137 (hR : v_gc S V) (hV : v_gw V) (hN : k_nu S V) (hF : k_rf S V) (h : ∀ S', n_fr [14] [] S S' → k_fw S' V → Q 0 S') : q_c 137 [vR 12] S Q Z := by
  have hP := hV.1
  have l1 := hV.2.2.2 1 (by omega) hP.1
  refine b_137_0 (f_14 fun S1 fr1 z1 => b_107_0 ⟨by omega, by omega, ?_⟩)
  rw [(v_gc_fr fr1 (by decide) hR).2.2.1 1 (by omega) hP.1]
  refine ⟨by omega, by omega, ?_⟩
  have fin : ∀ U, n_fr [14] [] S U → x_sN 8 (x_Fo V) (U 14) → x_cN 8 (x_Fo V) (U 14) → Q 0 U := fun U fU hs hc => h U fU fun n n0 n1 => ⟨(hs n n0 (by omega)).1, fun t => ⟨(hs n n0 (by omega)).2 t, hc n n0 (by omega) t⟩⟩
  let I : Int → q_S → Int → Prop := fun r U g => 0 ≤ r ∧ n_fr [14] [] S U ∧ x_sN 8 (x_Fo V) (U 14) ∧ n_bit (U 14 (vLf V 1)) 8 = true ∧ (g = 0 → x_cN 8 (x_Fo V) (U 14)) ∧ (x_cN 8 (x_Fo V) (U 14) ∨ r.toNat ≤ x_cn 8 9 (U 14))
  have key : ∀ (r : Int) (x : q_S × Int × q_J), r ≤ 1000000 → I r x.1 x.2.1 → q_r 137 27 [vR 12, vI x.2.1, vI r, vJ x.2.2] [] x.1 Q Z := by
    refine n_for 1000000 (fun (r : Int) (x : q_S × Int × q_J) => I r x.1 x.2.1) (fun (r : Int) (x : q_S × Int × q_J) => q_r 137 27 [vR 12, vI x.2.1, vI r, vJ x.2.2] [] x.1 Q Z) ?_ ?_
    · rintro ⟨U, g, j3⟩ ⟨-, fU, hs, -, h0, hc⟩
      simp only at fU hs h0 hc ⊢
      have hc' : x_cN 8 (x_Fo V) (U 14) := by
        rcases hc with hc | hc
        · exact hc
        · have := x_cn_le (N := 8) (T := 9) (M := U 14)
          omega
      exact b_137_27 ⟨fun q => fin U fU hs hc', fun _ => ⟨fun _ => fin U fU hs hc', fun q => by omega⟩⟩
    · rintro r ⟨U, g, j3⟩ ⟨r0, fU, hs, hb, h0, hc⟩ rl ih
      simp only at fU hs hb h0 hc ⊢
      refine b_137_27 ⟨fun q => fin U fU hs (h0 q), fun _ => ⟨fun q => by omega, fun _ => ?_⟩⟩
      let J : Int → q_S → Int → Prop := fun p W g' => 1 ≤ p ∧ n_fr [14] [] S W ∧ x_sN 8 (x_Fo V) (W 14) ∧ x_gN 8 (U 14) (W 14) ∧ (g' = 0 ∨ g' = 1) ∧ (g' = 0 → ∀ n : Int, 0 ≤ n → n < (8 : Nat) → W 14 n = U 14 n) ∧ ∀ p', 1 ≤ p' → p' < p → ∀ i, 0 ≤ i → i < vSz V p' → vLt V p' i < 8 → ∀ t, x_fs V (n_mb (U 14)) p' (i + 1) t → n_bit (W 14 (vLt V p' i)) t = true
      have inner : ∀ (p : Int) (x : q_S × Int), p ≤ vP V + 1 → J p x.1 x.2 → q_r 137 41 [vR 12, vI x.2, vI r, vI p] [] x.1 Q Z := by
        refine n_for (vP V + 1) (fun (p : Int) (x : q_S × Int) => J p x.1 x.2) (fun (p : Int) (x : q_S × Int) => q_r 137 41 [vR 12, vI x.2, vI r, vI p] [] x.1 Q Z) ?_ ?_
        · rintro ⟨W, g'⟩ ⟨-, fW, sW, gW, h01, eW, cl⟩
          simp only at fW sW gW h01 eW cl ⊢
          refine b_137_41 ?_
          rw [(v_gc_fr fW (by decide) hR).1]
          refine ⟨fun _ => ⟨by unfold q_rg; omega, ih (W, g', .inl (vP V + 1)) ?_⟩, fun g => by omega⟩
          have hst : (∀ n : Int, 0 ≤ n → n < (8 : Nat) → W 14 n = U 14 n) → x_cN 8 (x_Fo V) (U 14) := fun same n n0 n1 t q => by
            refine q (fun n t => n_bit (U 14 n) t = true) hb fun p i t p1 p2 i0 i1 i8 q2 => ?_
            rw [← same _ (hV.2.2.1 p i (by omega) p2 i0 i1).1 (by omega)]
            exact cl p p1 (by omega) i i0 i1 i8 t q2
          refine ⟨by omega, fW, sW, gW _ l1.1 (by omega) 8 hb, fun e => ?_, ?_⟩
          · have := hst (eW e)
            intro n n0 n1 t q
            exact gW n n0 n1 t (this n n0 n1 t q)
          · have := x_pass (T := 9) (r := r.toNat) (by decide) (fun n t q => (x_Fo_r hV q).2) hs sW gW hst hc
            rw [show (r + 1).toNat = r.toNat + 1 by omega]
            exact this
        · rintro p ⟨W, g'⟩ ⟨p1, fW, sW, gW, h01, eW, cl⟩ pl ih2
          simp only at fW sW gW h01 eW cl ⊢
          have hRW := v_gc_fr fW (by decide) hR
          refine b_137_41 ?_
          rw [hRW.1]
          refine ⟨fun g => by omega, fun _ => c_138 hRW hV (k_nu_fr fW (by decide) hN) (k_rf_fr fW (by decide) hF) ⟨p1, by omega⟩ sW fun a X fX sX gX a01 eX clX => ⟨by unfold q_rg; omega, ih2 (X, q_or g' a) ⟨by omega, n_fr_t fW fX, sX, x_gN_t gW gX, ?_, fun e n n0 n1 => ?_, fun p' a' b' i i0 i1 i8 t q => ?_⟩⟩⟩
          · simp only
            rcases h01 with rfl | rfl <;> rcases a01 with rfl | rfl
            · exact Or.inl q_or_00
            · exact Or.inr q_or_01
            · exact Or.inr q_or_10
            · exact Or.inr q_or_11
          · simp only at e
            have e2 : g' = 0 ∧ a = 0 := by
              rcases h01 with rfl | rfl <;> rcases a01 with rfl | rfl
              · exact ⟨rfl, rfl⟩
              · rw [q_or_01] at e; omega
              · rw [q_or_10] at e; omega
              · rw [q_or_11] at e; omega
            exact (eX e2.2 n n0 n1).trans (eW e2.1 n n0 n1)
          · by_cases e3 : p' = p
            · subst e3
              refine clX i i0 i1 i8 t ?_
              rcases q with q | ⟨q1, q2⟩
              · exact Or.inl q
              · have z4 := hV.2.2.2 p' p1 (by omega)
                exact Or.inr ⟨q1, gW _ z4.1 (by omega) t q2⟩
            · exact gX _ (hV.2.2.1 p' i (by omega) (by omega) i0 i1).1 (by omega) t (cl p' a' (by omega) i i0 i1 i8 t q)
      exact inner 1 (U, 0) (by omega) ⟨by omega, fU, hs, x_gN_r, Or.inl rfl, fun _ _ _ _ => rfl, fun p' a b => by omega⟩
  refine key 0 (q_up S1 14 (vLf V 1) 256, 1, _) (by omega) ⟨by omega, n_fr_k fr1 (by decide), fun n n0 n1 => ?_, ?_, fun g => by simp only at g; omega, Or.inr (by simp)⟩
  · simp only
    rw [n_fr_same]
    by_cases e : n = vLf V 1
    · rw [if_pos e, e]
      refine ⟨⟨by decide, by decide⟩, fun t q => ?_⟩
      rw [(n_bit_256 t).mp q]
      exact x_Fo_0
    · rw [if_neg e, z1 n n0 (by omega)]
      exact ⟨n_sm0, fun t q => by rw [n_bit0] at q; cases q⟩
  · simp only
    rw [n_up1]
    exact (n_bit_256 8).mpr rfl
/-- nullable, FIRST and FOLLOW of the class -/
theorem c_132 (hR : v_gc S V) (hV : v_gw V) (h : ∀ S', n_fr [13, 14, 15] [(12, 4)] S S' → k_nu S' V → k_fi S' V → k_rf S' V → k_fw S' V → Q 0 S') : q_c 132 [vR 12] S Q Z := by
  refine b_132_0 (c_108 hR hV n_sm0 fun a sa ba => ?_)
  have fr1 : n_fr [13, 14, 15] [(12, 4)] S (q_up S 12 4 a) := n_fr_i n_fr_r (by decide)
  have hN : k_nu (q_up S 12 4 a) V := by
    unfold k_nu
    rw [n_up1]
    refine ⟨sa, fun i => ?_⟩
    rw [ba i]
    constructor
    · rintro (q | q)
      · rw [n_bit0] at q; cases q
      · exact x_gr_m hV (fun y _ _ q => by unfold n_b8 at q; rw [n_bit0] at q; cases q) q
    · intro q
      exact Or.inr (x_gr_m hV (fun y _ _ q => q.elim) q)
  have hR1 := v_gc_fr fr1 (by decide) hR
  refine c_135 hR1 hV hN fun S2 fr2 fi2 rf2 => ?_
  have hN2 := k_nu_fr fr2 (by decide) hN
  have hR2 := v_gc_fr fr2 (by decide) hR1
  refine c_137 hR2 hV hN2 rf2 fun S3 fr3 fw3 => ?_
  refine h S3 (n_fr_t (n_fr_t fr1 (n_fr_w fr2 (by decide) (by decide))) (n_fr_w fr3 (by decide) (by decide))) (k_nu_fr fr3 (by decide) hN2) ?_ (k_rf_fr fr3 (by decide) rf2) fw3
  unfold k_fi
  rw [n_fr_c fr3 (by decide)]
  exact fi2
end SetsD
