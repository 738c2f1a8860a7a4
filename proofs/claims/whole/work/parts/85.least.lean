/-! least sets, and how often they can grow -/
noncomputable def n_ct (f : Int → Prop) : Nat → Nat
  | 0 => 0
  | n + 1 => n_ct f n + @ite Nat (f n) (Classical.propDecidable _) 1 0
theorem n_ct_y {f : Int → Prop} {n : Nat} (h : f n) : n_ct f (n + 1) = n_ct f n + 1 := by
  show n_ct f n + _ = _
  rw [if_pos h]
theorem n_ct_n {f : Int → Prop} {n : Nat} (h : ¬ f n) : n_ct f (n + 1) = n_ct f n := by
  show n_ct f n + _ = _
  rw [if_neg h]; rfl
theorem n_ct_le (f : Int → Prop) (n : Nat) : n_ct f n ≤ n := by
  induction n with
  | zero => exact Nat.le_refl _
  | succ n ih =>
    by_cases h : f n
    · rw [n_ct_y h]; omega
    · rw [n_ct_n h]; omega
theorem n_ct_mono {f g : Int → Prop} (n : Nat) (h : ∀ i : Int, 0 ≤ i → i < n → f i → g i) : n_ct f n ≤ n_ct g n := by
  induction n with
  | zero => exact Nat.le_refl _
  | succ n ih =>
    have := ih (fun i h0 h1 => h i h0 (by omega))
    by_cases hf : f n
    · rw [n_ct_y hf, n_ct_y (h n (by omega) (by omega) hf)]; omega
    · by_cases hg : g n
      · rw [n_ct_n hf, n_ct_y hg]; omega
      · rw [n_ct_n hf, n_ct_n hg]; exact this
theorem n_ct_lt {f g : Int → Prop} (n : Nat) (h : ∀ i : Int, 0 ≤ i → i < n → f i → g i) (h' : ∃ i : Int, (0 ≤ i ∧ i < n) ∧ g i ∧ ¬ f i) : n_ct f n < n_ct g n := by
  induction n with
  | zero => obtain ⟨i, h1, -⟩ := h'; omega
  | succ n ih =>
    have hm := n_ct_mono n (f := f) (g := g) (fun i h0 h1 => h i h0 (by omega))
    obtain ⟨i, h1, h2, h3⟩ := h'
    by_cases e : i = n
    · subst e
      rw [n_ct_y h2, n_ct_n h3]; omega
    · have := ih (fun i h0 h1 => h i h0 (by omega)) ⟨i, by omega, h2, h3⟩
      by_cases hf : f n
      · rw [n_ct_y hf, n_ct_y (h n (by omega) (by omega) hf)]; omega
      · by_cases hg : g n
        · rw [n_ct_n hf, n_ct_y hg]; omega
        · rw [n_ct_n hf, n_ct_n hg]; exact this
theorem n_ct_all {f : Int → Prop} (n : Nat) (h : n ≤ n_ct f n) : ∀ i : Int, 0 ≤ i → i < n → f i := by
  induction n with
  | zero => intro i h0 h1; omega
  | succ n ih =>
    intro i h0 h1
    have hl := n_ct_le f n
    by_cases hf : f n
    · rw [n_ct_y hf] at h
      by_cases e : i = n
      · rw [e]; exact hf
      · exact ih (by omega) i h0 (by omega)
    · rw [n_ct_n hf] at h; omega
def v_gw (V : v_V) : Prop := (1 ≤ vP V ∧ vP V ≤ 15) ∧ (∀ p, 0 ≤ p → p ≤ vP V → 0 ≤ vSz V p ∧ vSz V p ≤ 4) ∧ (∀ p i, 0 ≤ p → p ≤ vP V → 0 ≤ i → i < vSz V p → 0 ≤ vLt V p i ∧ vLt V p i ≤ 15) ∧ (∀ p, 1 ≤ p → p ≤ vP V → 0 ≤ vLf V p ∧ vLf V p ≤ 7)
def v_gc (S : q_S) (V : v_V) : Prop := S 3 4 = vP V ∧ (∀ p, 0 ≤ p → p ≤ vP V → S 5 p = vSz V p) ∧ (∀ p, 1 ≤ p → p ≤ vP V → S 4 p = vLf V p) ∧ (∀ p i, 0 ≤ p → p ≤ vP V → 0 ≤ i → i < vSz V p → S 8 (4 * p + i) = vLt V p i)
def v_gm (S : q_S) (V : v_V) : Prop := S 36 5 = vP V ∧ (∀ p, 1 ≤ p → p ≤ vP V → S 39 p = vSz V p) ∧ (∀ p, 1 ≤ p → p ≤ vP V → S 38 p = vLf V p) ∧ (∀ p i, 1 ≤ p → p ≤ vP V → 0 ≤ i → i < vSz V p → S 40 (4 * p + i) = vLt V p i)
def x_gr (V : v_V) (m : Int → Prop) (n : Int) : Prop := ∀ K : Int → Prop, (∀ p, 1 ≤ p → p ≤ vP V → (∀ i, 0 ≤ i → i < vSz V p → m (vLt V p i) ∨ K (vLt V p i)) → K (vLf V p)) → K n
def x_re (V : v_V) (n : Int) : Prop := ∀ K : Int → Prop, K (vLf V 1) → (∀ p i, 1 ≤ p → p ≤ vP V → K (vLf V p) → 0 ≤ i → i < vSz V p → vLt V p i < 8 → K (vLt V p i)) → K n
section Least
variable {S : q_S} {V : v_V} {Q : q_Q} {Z : q_Z} {m m' : Int → Prop}
theorem x_gr_c {p : Int} (h1 : 1 ≤ p) (h2 : p ≤ vP V) (h : ∀ i, 0 ≤ i → i < vSz V p → m (vLt V p i) ∨ x_gr V m (vLt V p i)) : x_gr V m (vLf V p) := by
  intro K hK
  refine hK p h1 h2 fun i i0 i1 => ?_
  rcases h i i0 i1 with q | q
  · exact Or.inl q
  · exact Or.inr (q K hK)
theorem x_gr_r (hV : v_gw V) {n : Int} (h : x_gr V m n) : 0 ≤ n ∧ n ≤ 7 := h (fun n => 0 ≤ n ∧ n ≤ 7) fun p h1 h2 _ => hV.2.2.2 p h1 h2
theorem x_gr_m (hV : v_gw V) (hm : ∀ y, 0 ≤ y → y ≤ 15 → m y → m' y) {n : Int} (h : x_gr V m n) : x_gr V m' n := by
  intro K hK
  refine h K fun p h1 h2 hi => hK p h1 h2 fun i i0 i1 => ?_
  rcases hi i i0 i1 with q | q
  · have := hV.2.2.1 p i (by omega) h2 i0 i1
    exact Or.inl (hm _ this.1 this.2 q)
  · exact Or.inr q
theorem x_re_0 : x_re V (vLf V 1) := fun _ h _ => h
theorem x_re_c {p i : Int} (h1 : 1 ≤ p) (h2 : p ≤ vP V) (h : x_re V (vLf V p)) (i0 : 0 ≤ i) (i1 : i < vSz V p) (h8 : vLt V p i < 8) : x_re V (vLt V p i) := fun K k1 k2 => k2 p i h1 h2 (h K k1 k2) i0 i1 h8
theorem k_105 {p i : Int} (hR : v_gc S V) (hV : v_gw V) (hp : 0 ≤ p ∧ p ≤ vP V) (hi : 0 ≤ i ∧ i < vSz V p) (h : Q (vLt V p i) S) : q_c 105 [vR 3, vI p, vI i] S Q Z := by
  have e := hR.2.2.2 p i hp.1 hp.2 hi.1 hi.2
  have z1 := hV.1
  have z2 := hV.2.1 p hp.1 hp.2
  rw [Int.mul_comm] at e
  refine b_105_0 ⟨by unfold q_rg; omega, by unfold q_rg; omega, by omega, by omega, ?_⟩
  rw [e]; exact h
/-- the symbols of a right side -/
def v_sy (V : v_V) (p n a : Int) : Prop := n_sm a ∧ ∀ i : Nat, n_bit a i = true ↔ ∃ j, (0 ≤ j ∧ j < n) ∧ vLt V p j = i
theorem n_sm0 : n_sm 0 := ⟨by decide, by decide⟩
theorem n_bit0 (i : Nat) : n_bit 0 i = false := by unfold n_bit; simp
theorem c_111 {p : Int} (hR : v_gc S V) (hV : v_gw V) (hp : 0 ≤ p ∧ p ≤ vP V) (h : ∀ a, v_sy V p (vSz V p) a → Q a S) : q_c 111 [vR 3, vI p] S Q Z := by
  have z1 := hV.1
  have z2 := hV.2.1 p hp.1 hp.2
  have e5 := hR.2.1 p hp.1 hp.2
  refine b_111_0 ?_
  have key : ∀ (i a : Int), i ≤ vSz V p → (0 ≤ i ∧ v_sy V p i a) → q_r 111 4 [vR 3, vI p, vI a, vI i] [] S Q Z := by
    refine n_for (vSz V p) (fun i a => 0 ≤ i ∧ v_sy V p i a) (fun i a => q_r 111 4 [vR 3, vI p, vI a, vI i] [] S Q Z) ?_ ?_
    · rintro a ⟨-, ha⟩
      refine b_111_4 ?_
      rw [e5]
      exact ⟨by omega, by omega, fun _ => h a ha, fun g => by omega⟩
    · rintro i a ⟨i0, ha⟩ il ih
      have z3 := hV.2.2.1 p i hp.1 hp.2 i0 il
      refine b_111_4 ?_
      rw [e5]
      refine ⟨by omega, by omega, fun g => by omega, fun _ => k_105 hR hV hp ⟨i0, il⟩ ⟨by unfold q_rg; omega, ih _ ⟨by omega, ?_⟩⟩⟩
      have sm := n_shl1_sm z3.1 (show vLt V p i < 31 by omega)
      refine ⟨n_or_sm ha.1 sm, fun k => ?_⟩
      rw [n_bit_or ha.1 sm, n_bit_shl1 z3.1 (by omega), Bool.or_eq_true, ha.2 k, decide_eq_true_eq]
      constructor
      · rintro (⟨j, j1, j2⟩ | q)
        · exact ⟨j, by omega, j2⟩
        · exact ⟨i, by omega, q⟩
      · rintro ⟨j, j1, j2⟩
        by_cases e : j = i
        · subst e; exact Or.inr j2
        · exact Or.inl ⟨j, by omega, j2⟩
  refine key 0 0 (by omega) ⟨by omega, n_sm0, fun i => ?_⟩
  rw [n_bit0]
  constructor
  · intro q; cases q
  · rintro ⟨j, j1, -⟩; omega
theorem c_110 {p a : Int} (hR : v_gc S V) (hV : v_gw V) (hp : 0 ≤ p ∧ p ≤ vP V) (ha : n_sm a) (h : ∀ r, v_b01 (∀ j, 0 ≤ j → j < vSz V p → n_bit a (vLt V p j).toNat = true) r → Q r S) : q_c 110 [vR 3, vI p, vI a] S Q Z := by
  refine b_110_0 ?_
  refine c_111 hR hV hp fun x hx => ?_
  obtain ⟨s1, s2⟩ := n_andn hx.1 ha
  have hz := n_zero s1
  refine ⟨fun g => ⟨⟨by omega, by omega⟩, h _ (Or.inr ⟨fun q => g (hz.mpr fun i => ?_), rfl⟩)⟩, fun g => ⟨⟨by omega, by omega⟩, h _ (Or.inl ⟨fun j j0 j1 => ?_, rfl⟩)⟩⟩
  · rw [s2]
    cases e : n_bit x i with
    | false => rfl
    | true =>
      obtain ⟨j, j1, j2⟩ := (hx.2 i).mp e
      have := q j j1.1 j1.2
      rw [j2, show ((i : Int)).toNat = i by omega] at this
      rw [this]; rfl
  · have z3 := hV.2.2.1 p j hp.1 hp.2 j0 j1
    have q := hz.mp (by omega) (vLt V p j).toNat
    rw [s2, (hx.2 _).mpr ⟨j, ⟨j0, j1⟩, by omega⟩] at q
    simpa using q
def n_b8 (a : Int) (n : Int) : Prop := n_bit a n.toNat = true
theorem c_108 {a0 : Int} (hR : v_gc S V) (hV : v_gw V) (h0 : n_sm a0) (h : ∀ a, n_sm a → (∀ i : Nat, n_bit a i = true ↔ (n_bit a0 i = true ∨ x_gr V (n_b8 a0) i)) → Q a S) : q_c 108 [vR 3, vI a0] S Q Z := by
  have hP := hV.1
  have e3 := hR.1
  refine b_108_0 ?_
  -- sound
  let so : Int → Prop := fun a => n_sm a ∧ ∀ i : Nat, (n_bit a0 i = true → n_bit a i = true) ∧ (n_bit a i = true → n_bit a0 i = true ∨ x_gr V (n_b8 a0) i)
  let co : Int → Prop := fun a => ∀ i : Nat, x_gr V (n_b8 a0) i → n_bit a i = true
  have key : ∀ (r : Int) (x : Int × Int × q_J × q_J × q_J), r ≤ 9 → (0 ≤ r ∧ so x.1 ∧ (co x.1 ∨ (x.2.1 = 1 ∧ r ≤ n_ct (n_b8 x.1) 8))) → q_r 108 7 [vR 3, vJ x.2.2.1, vI x.1, vI x.2.1, vI r, vJ x.2.2.2.1, vJ x.2.2.2.2] [] S Q Z := by
    have fin : ∀ a, so a → co a → Q a S := fun a h1 h2 => h a h1.1 fun i => ⟨(h1.2 i).2, fun q => by
      rcases q with q | q
      · exact (h1.2 i).1 q
      · exact h2 i q⟩
    refine n_for 9 (fun (r : Int) (x : Int × Int × q_J × q_J × q_J) => 0 ≤ r ∧ so x.1 ∧ (co x.1 ∨ (x.2.1 = 1 ∧ r ≤ n_ct (n_b8 x.1) 8))) (fun (r : Int) (x : Int × Int × q_J × q_J × q_J) => q_r 108 7 [vR 3, vJ x.2.2.1, vI x.1, vI x.2.1, vI r, vJ x.2.2.2.1, vJ x.2.2.2.2] [] S Q Z) ?_ ?_
    · rintro ⟨a, gr, j1, j5, j6⟩ ⟨-, hs, hc⟩
      simp only at hs hc ⊢
      have hc' : co a := by
        rcases hc with hc | ⟨-, hc⟩
        · exact hc
        · have := n_ct_le (n_b8 a) 8
          omega
      exact b_108_7 ⟨fun _ => fin a hs hc', fun _ => ⟨fun _ => fin a hs hc', fun q => by omega⟩⟩
    · rintro r ⟨a, gr, j1, j5, j6⟩ ⟨r0, hs, hc⟩ hr ih
      simp only at hs hc ⊢
      refine b_108_7 ⟨fun q => fin a hs ?_, fun _ => ⟨fun q => by omega, fun _ => ?_⟩⟩
      · rcases hc with hc | ⟨hc, -⟩
        · exact hc
        · omega
      have inner : ∀ (p : Int) (b : Int), p ≤ vP V + 1 → (1 ≤ p ∧ so b ∧ (∀ i : Nat, n_bit a i = true → n_bit b i = true) ∧ ∀ p', 1 ≤ p' → p' < p → (∀ j, 0 ≤ j → j < vSz V p' → n_bit a (vLt V p' j).toNat = true) → n_bit b (vLf V p').toNat = true) → q_r 108 24 [vR 3, vJ j1, vI b, vI gr, vI r, vI a, vI p] [] S Q Z := by
        refine n_for (vP V + 1) (fun (p : Int) (b : Int) => 1 ≤ p ∧ so b ∧ (∀ i : Nat, n_bit a i = true → n_bit b i = true) ∧ ∀ p', 1 ≤ p' → p' < p → (∀ j, 0 ≤ j → j < vSz V p' → n_bit a (vLt V p' j).toNat = true) → n_bit b (vLf V p').toNat = true) (fun (p : Int) (b : Int) => q_r 108 24 [vR 3, vJ j1, vI b, vI gr, vI r, vI a, vI p] [] S Q Z) ?_ ?_
        · rintro b ⟨-, hb, hab, hcl⟩
          have rg : q_rg (r + 1) := by unfold q_rg; omega
          refine b_108_24 ?_
          rw [e3]
          refine ⟨fun _ => ⟨fun q => ⟨rg, ih (b, 0, j1, .inl a, .inl (vP V + 1)) ⟨by omega, hb, Or.inl ?_⟩⟩, fun q => ⟨rg, ih (b, 1, j1, .inl a, .inl (vP V + 1)) ⟨by omega, hb, ?_⟩⟩⟩, fun q => by omega⟩
          · intro i hi
            refine hi (fun n => n_bit b n.toNat = true) fun p p1 p2 hpp => hcl p p1 (by omega) fun j j0 j1 => ?_
            rw [← q]
            rcases hpp j j0 j1 with q2 | q2
            · exact (hb.2 _).1 q2
            · exact q2
          · rcases hc with hc | ⟨-, hc⟩
            · exact Or.inl fun i hi => hab i (hc i hi)
            · refine Or.inr ⟨rfl, ?_⟩
              have hlt : n_ct (n_b8 a) 8 < n_ct (n_b8 b) 8 := by
                refine n_ct_lt 8 (fun i i0 i1 hi => hab _ hi) ?_
                have : ∃ i : Nat, n_bit b i = true ∧ n_bit a i = false := by
                  by_cases e : ∃ i : Nat, n_bit b i = true ∧ n_bit a i = false
                  · exact e
                  · refine absurd (n_ext hb.1 hs.1 fun i => ?_) q
                    cases e1 : n_bit b i <;> cases e2 : n_bit a i
                    · rfl
                    · rw [hab i e2] at e1; cases e1
                    · exact absurd ⟨i, e1, e2⟩ e
                    · rfl
                obtain ⟨i, i1, i2⟩ := this
                have i3 : x_gr V (n_b8 a0) i := by
                  rcases (hb.2 i).2 i1 with q2 | q2
                  · rw [(hs.2 i).1 q2] at i2; cases i2
                  · exact q2
                have := x_gr_r hV i3
                refine ⟨i, by omega, i1, ?_⟩
                unfold n_b8
                rw [show ((i : Int)).toNat = i by omega, i2]; decide
              simp only
              omega
        · rintro p b ⟨p1, hb, hab, hcl⟩ pl ih2
          have z4 := hV.2.2.2 p p1 (by omega)
          have rg : q_rg (p + 1) := by unfold q_rg; omega
          refine b_108_24 ?_
          rw [e3]
          refine ⟨fun q => by omega, fun _ => c_110 hR hV ⟨by omega, by omega⟩ hb.1 ?_⟩
          rintro x (⟨hx, rfl⟩ | ⟨hx, rfl⟩)
          · refine ⟨fun q => by omega, fun _ => ?_⟩
            rw [hR.2.2.1 p p1 (by omega)]
            have sm := n_shl1_sm z4.1 (show vLf V p < 31 by omega)
            refine ⟨by omega, by omega, rg, ih2 _ ⟨by omega, ⟨n_or_sm hb.1 sm, fun i => ?_⟩, fun i hi => ?_, fun p' h1 h2 h3 => ?_⟩⟩
            · rw [n_bit_or hb.1 sm, n_bit_shl1 z4.1 (by omega)]
              refine ⟨fun q => by rw [(hb.2 i).1 q]; rfl, fun q => ?_⟩
              rw [Bool.or_eq_true, decide_eq_true_eq] at q
              rcases q with q | q
              · exact (hb.2 i).2 q
              · rw [← q]
                refine Or.inr (x_gr_c p1 (by omega) fun j j0 j1 => ?_)
                have z3 := hV.2.2.1 p j (by omega) (by omega) j0 j1
                have := (hb.2 _).2 (hx j j0 j1)
                rwa [show (((vLt V p j).toNat : Nat) : Int) = vLt V p j by omega] at this
            · rw [n_bit_or hb.1 sm, hab i hi]; rfl
            · rw [n_bit_or hb.1 sm, n_bit_shl1 z4.1 (by omega), Bool.or_eq_true, decide_eq_true_eq]
              by_cases e : p' = p
              · rw [e]; exact Or.inr (by omega)
              · exact Or.inl (hcl p' h1 (by omega) h3)
          · refine ⟨fun _ => ⟨rg, ih2 b ⟨by omega, hb, hab, fun p' h1 h2 h3 => ?_⟩⟩, fun q => absurd rfl q⟩
            by_cases e : p' = p
            · subst e
              exact absurd (fun j j0 j1 => hab _ (h3 j j0 j1)) hx
            · exact hcl p' h1 (by omega) h3
      exact inner 1 a (by omega) ⟨by omega, hs, fun i hi => hi, fun p' h1 h2 => by omega⟩
  refine key 0 (a0, 1, _, _, _) (by omega) ⟨by omega, ⟨h0, fun i => ⟨fun q => q, fun q => Or.inl q⟩⟩, Or.inr ⟨rfl, by omega⟩⟩
theorem c_109 (hR : v_gc S V) (hV : v_gw V) (h : ∀ a, n_sm a → (∀ i : Nat, i < 8 → (n_bit a i = true ↔ x_re V i)) → Q a S) : q_c 109 [vR 3] S Q Z := by
  have hP := hV.1
  have e3 := hR.1
  have l1 := hV.2.2.2 1 (by omega) hP.1
  refine b_109_0 ?_
  refine b_107_0 ⟨by omega, by omega, ?_⟩
  rw [hR.2.2.1 1 (by omega) hP.1]
  let so : Int → Prop := fun a => n_sm a ∧ n_bit a (vLf V 1).toNat = true ∧ ∀ i : Nat, i < 8 → n_bit a i = true → x_re V i
  let co : Int → Prop := fun a => ∀ i : Nat, i < 8 → x_re V i → n_bit a i = true
  have x8 : ∀ n, x_re V n → n < 8 := fun n hn => hn (fun n => n < 8) (by omega) fun p i _ _ _ _ _ q => q
  have x0 : ∀ n, x_re V n → 0 ≤ n := fun n hn => hn (fun n => 0 ≤ n) (by omega) fun p i h1 h2 _ h3 h4 q => (hV.2.2.1 p i (by omega) h2 h3 h4).1
  have key : ∀ (r : Int) (x : Int × Int × q_J × q_J), r ≤ 9 → (0 ≤ r ∧ so x.1 ∧ (co x.1 ∨ (x.2.1 = 1 ∧ r + 1 ≤ n_ct (n_b8 x.1) 8))) → q_r 109 11 [vR 3, vI x.1, vI x.2.1, vI r, vJ x.2.2.1, vJ x.2.2.2] [] S Q Z := by
    have fin : ∀ a, so a → co a → Q a S := fun a h1 h2 => h a h1.1 fun i hi => ⟨h1.2.2 i hi, h2 i hi⟩
    refine n_for 9 (fun (r : Int) (x : Int × Int × q_J × q_J) => 0 ≤ r ∧ so x.1 ∧ (co x.1 ∨ (x.2.1 = 1 ∧ r + 1 ≤ n_ct (n_b8 x.1) 8))) (fun (r : Int) (x : Int × Int × q_J × q_J) => q_r 109 11 [vR 3, vI x.1, vI x.2.1, vI r, vJ x.2.2.1, vJ x.2.2.2] [] S Q Z) ?_ ?_
    · rintro ⟨a, gr, j4, j5⟩ ⟨-, hs, hc⟩
      simp only at hs hc ⊢
      have hc' : co a := by
        rcases hc with hc | ⟨-, hc⟩
        · exact hc
        · have := n_ct_le (n_b8 a) 8
          omega
      exact b_109_11 ⟨fun _ => fin a hs hc', fun _ => ⟨fun _ => fin a hs hc', fun q => by omega⟩⟩
    · rintro r ⟨a, gr, j4, j5⟩ ⟨r0, hs, hc⟩ hr ih
      simp only at hs hc ⊢
      refine b_109_11 ⟨fun q => fin a hs ?_, fun _ => ⟨fun q => by omega, fun _ => ?_⟩⟩
      · rcases hc with hc | ⟨hc, -⟩
        · exact hc
        · omega
      have inner : ∀ (p : Int) (b : Int), p ≤ vP V + 1 → (1 ≤ p ∧ so b ∧ (∀ i : Nat, n_bit a i = true → n_bit b i = true) ∧ ∀ p', 1 ≤ p' → p' < p → n_bit a (vLf V p').toNat = true → ∀ j, 0 ≤ j → j < vSz V p' → n_bit b (vLt V p' j).toNat = true) → q_r 109 27 [vR 3, vI b, vI gr, vI r, vI a, vI p] [] S Q Z := by
        refine n_for (vP V + 1) (fun (p : Int) (b : Int) => 1 ≤ p ∧ so b ∧ (∀ i : Nat, n_bit a i = true → n_bit b i = true) ∧ ∀ p', 1 ≤ p' → p' < p → n_bit a (vLf V p').toNat = true → ∀ j, 0 ≤ j → j < vSz V p' → n_bit b (vLt V p' j).toNat = true) (fun (p : Int) (b : Int) => q_r 109 27 [vR 3, vI b, vI gr, vI r, vI a, vI p] [] S Q Z) ?_ ?_
        · rintro b ⟨-, hb, hab, hcl⟩
          have rg : q_rg (r + 1) := by unfold q_rg; omega
          have nx : co b ∨ r + 1 + 1 ≤ n_ct (n_b8 b) 8 := by
            rcases hc with hc | ⟨-, hc⟩
            · exact Or.inl fun i hi q => hab i (hc i hi q)
            · by_cases e : ∃ i : Int, (0 ≤ i ∧ i < (8 : Nat)) ∧ n_b8 b i ∧ ¬ n_b8 a i
              · have := n_ct_lt 8 (f := n_b8 a) (g := n_b8 b) (fun i i0 i1 hi => hab _ hi) e
                exact Or.inr (by omega)
              · refine Or.inl fun i hi q => ?_
                have back : ∀ n : Int, 0 ≤ n → n < 8 → n_bit b n.toNat = true → n_bit a n.toNat = true := fun n n0 n1 q2 => by
                  by_cases e2 : n_bit a n.toNat = true
                  · exact e2
                  · exact absurd ⟨n, by omega, q2, e2⟩ e
                have := q (fun n => 0 ≤ n ∧ n < 8 ∧ n_bit b n.toNat = true) ⟨by omega, by omega, hb.2.1⟩ (fun p j p1 p2 k j0 j1 j8 => ?_)
                · have q3 := this.2.2
                  rwa [show ((i : Int)).toNat = i by omega] at q3
                · refine ⟨(hV.2.2.1 p j (by omega) p2 j0 j1).1, j8, hcl p p1 (by omega) (back _ k.1 k.2.1 k.2.2) j j0 j1⟩
          refine b_109_27 ?_
          rw [e3]
          refine ⟨fun _ => ⟨fun q => ⟨rg, ih (b, 0, .inl a, .inl (vP V + 1)) ⟨by omega, hb, Or.inl ?_⟩⟩, fun q => ⟨rg, ih (b, 1, .inl a, .inl (vP V + 1)) ⟨by omega, hb, ?_⟩⟩⟩, fun q => by omega⟩
          · rcases nx with nx | nx
            · exact nx
            · intro i hi q4
              have := q4 (fun n => 0 ≤ n ∧ n < 8 ∧ n_bit b n.toNat = true) ⟨by omega, by omega, hb.2.1⟩ (fun p j p1 p2 k j0 j1 j8 => ⟨(hV.2.2.1 p j (by omega) p2 j0 j1).1, j8, hcl p p1 (by omega) (by rw [← q]; exact k.2.2) j j0 j1⟩)
              have q3 := this.2.2
              rwa [show ((i : Int)).toNat = i by omega] at q3
          · rcases nx with nx | nx
            · exact Or.inl nx
            · exact Or.inr ⟨rfl, nx⟩
        · rintro p b ⟨p1, hb, hab, hcl⟩ pl ih2
          have z4 := hV.2.2.2 p p1 (by omega)
          have rg : q_rg (p + 1) := by unfold q_rg; omega
          refine b_109_27 ?_
          rw [e3, hR.2.2.1 p p1 (by omega), n_shr1 hb.1 z4.1 (by omega)]
          refine ⟨fun q => by omega, fun _ => ⟨by omega, by omega, fun q => ⟨rg, ih2 b ⟨by omega, hb, hab, fun p' h1 h2 h3 => ?_⟩⟩, fun q => c_111 hR hV ⟨by omega, by omega⟩ fun x hx => ⟨rg, ih2 _ ⟨by omega, ?_, fun i hi => ?_, fun p' h1 h2 h3 j j0 j1 => ?_⟩⟩⟩⟩
          · by_cases e : p' = p
            · subst e
              rw [hab _ h3] at q
              simp at q
            · exact hcl p' h1 (by omega) h3
          · have hin : n_bit b (vLf V p).toNat = true := by
              cases e : n_bit b (vLf V p).toNat with
              | true => rfl
              | false => rw [e] at q; simp at q
            refine ⟨n_or_sm hb.1 hx.1, by rw [n_bit_or hb.1 hx.1, hb.2.1]; rfl, fun i hi q2 => ?_⟩
            rw [n_bit_or hb.1 hx.1, Bool.or_eq_true] at q2
            rcases q2 with q2 | q2
            · exact hb.2.2 i hi q2
            · obtain ⟨j, j1, j2⟩ := (hx.2 i).mp q2
              rw [← j2]
              refine x_re_c p1 (by omega) ?_ j1.1 j1.2 (by omega)
              have := hb.2.2 (vLf V p).toNat (by omega) hin
              rwa [show (((vLf V p).toNat : Nat) : Int) = vLf V p by omega] at this
          · rw [n_bit_or hb.1 hx.1, hab i hi]; rfl
          · rw [n_bit_or hb.1 hx.1, Bool.or_eq_true]
            by_cases e : p' = p
            · subst e
              have z3 := hV.2.2.1 p' j (by omega) (by omega) j0 j1
              exact Or.inr ((hx.2 _).mpr ⟨j, ⟨j0, j1⟩, by omega⟩)
            · exact Or.inl (hcl p' h1 (by omega) h3 j j0 j1)
      exact inner 1 a (by omega) ⟨by omega, hs, fun i hi => hi, fun p' h1 h2 => by omega⟩
  have sm := n_shl1_sm l1.1 (show vLf V 1 < 31 by omega)
  refine key 0 (q_shl 1 (vLf V 1), 1, _, _) (by omega) ⟨by omega, ⟨sm, ?_, fun i hi q => ?_⟩, Or.inr ⟨rfl, ?_⟩⟩
  · rw [n_bit_shl1 l1.1 (by omega)]; simp; omega
  · rw [n_bit_shl1 l1.1 (by omega), decide_eq_true_eq] at q
    rw [← q]; exact x_re_0
  · have := n_ct_lt 8 (f := fun _ => False) (g := n_b8 (q_shl 1 (vLf V 1))) (fun i _ _ q => q.elim) ⟨vLf V 1, by omega, by unfold n_b8; rw [n_bit_shl1 l1.1 (by omega)]; simp; omega, fun q => q⟩
    simp only
    omega
end Least
