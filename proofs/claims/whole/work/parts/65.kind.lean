section Kind
variable {S : q_S} {V : v_V} {b : v_B} {Q : q_Q} {Z : q_Z}
def v_tn (V : v_V) (s t o : Int) (n : Nat) : Int := v_cr V s t o n + (if v_sh V s t = -1 then 0 else 1)
theorem v_tn_0 {s t o : Int} : v_tn V s t o 0 = if v_sh V s t = -1 then 0 else 1 := by
  show 0 + _ = _
  omega
def v_clr (V : v_V) (o : Int) : Prop := ∀ s t, 0 ≤ s → s < vSt V → 0 ≤ t → t < 9 → v_tn V s t o (vP V + 1).toNat < 2
def v_kd (V : v_V) (r : Int) : Prop := (0 ≤ r ∧ r ≤ 3) ∧ (r < 3 → v_clr V r) ∧ ∀ o, 0 ≤ o → o < r → ¬ v_clr V o
theorem v_kd_u {r r' : Int} (h : v_kd V r) (h' : v_kd V r') : r = r' := by
  by_cases e : r < r'
  · exact absurd (h.2.1 (by have := h'.1; omega)) (h'.2.2 r h.1.1 e)
  · by_cases e' : r' < r
    · exact absurd (h'.2.1 (by have := h.1; omega)) (h.2.2 r' h'.1.1 e')
    · omega
theorem m_59 (hR : v_rm S V) (hV : v_wf V) (h : ∀ r, v_kd V r → Q r S) : q_c 59 [vR 36] S Q Z := by
  have hst := hV.2.2.2.2.1
  have e5 := hR.2.2.2.2.1
  have hP := hV.1
  refine b_59_0 ?_
  have key : ∀ (o : Int) (x : q_J × q_J × q_J), o ≤ 3 → (0 ≤ o ∧ ∀ o', 0 ≤ o' → o' < o → ¬ v_clr V o') → q_r 59 2 [vR 36, vI o, vJ x.1, vJ x.2.1, vJ x.2.2] [] S Q Z := by
    refine n_for 3 (fun (o : Int) (x : q_J × q_J × q_J) => 0 ≤ o ∧ ∀ o', 0 ≤ o' → o' < o → ¬ v_clr V o') (fun (o : Int) (x : q_J × q_J × q_J) => q_r 59 2 [vR 36, vI o, vJ x.1, vJ x.2.1, vJ x.2.2] [] S Q Z) ?_ ?_
    · rintro ⟨j2, j3, j4⟩ ⟨-, h2⟩
      exact b_59_2 ⟨fun _ => h 3 ⟨⟨by omega, by omega⟩, fun g => by omega, h2⟩, fun g => by omega⟩
    · rintro o ⟨j2, j3, j4⟩ ⟨h1, h2⟩ ho ih
      refine b_59_2 ⟨fun g => by omega, fun _ => ?_⟩
      have inner : ∀ (c : Int) (x : Int × q_J), c ≤ 9 * vSt V → (0 ≤ c ∧ v_b01 (∀ c', 0 ≤ c' → c' < c → v_tn V (c' / 9) (c' % 9) o (vP V + 1).toNat < 2) x.1) → q_r 59 11 [vR 36, vI o, vI x.1, vI c, vJ x.2] [] S Q Z := by
        refine n_for (9 * vSt V) (fun (c : Int) (x : Int × q_J) => 0 ≤ c ∧ v_b01 (∀ c', 0 ≤ c' → c' < c → v_tn V (c' / 9) (c' % 9) o (vP V + 1).toNat < 2) x.1) (fun (c : Int) (x : Int × q_J) => q_r 59 11 [vR 36, vI o, vI x.1, vI c, vJ x.2] [] S Q Z) ?_ ?_
        · rintro ⟨a, j⟩ ⟨-, ha⟩
          refine b_59_11 ?_
          rw [e5]
          have hcl : (∀ c', 0 ≤ c' → c' < 9 * vSt V → v_tn V (c' / 9) (c' % 9) o (vP V + 1).toNat < 2) ↔ v_clr V o := by
            constructor
            · intro g s t s0 s1 t0 t1
              have := g (9 * s + t) (by omega) (by omega)
              have e1 : (9 * s + t) / 9 = s := by omega
              have e2 : (9 * s + t) % 9 = t := by omega
              rw [e1, e2] at this
              exact this
            · intro g c' c0 c1
              exact g _ _ (by omega) (by omega) (by omega) (by omega)
          refine ⟨by unfold q_rg; omega, fun _ => ⟨fun g => ⟨by unfold q_rg; omega, ih (.inl a, .inl _, j) ⟨by omega, fun o' o0 o1 => ?_⟩⟩, fun g => ?_⟩, fun g => by omega⟩
          · rcases ha with ⟨-, h9⟩ | ⟨h8, -⟩
            · simp only at h9 g; omega
            · by_cases e : o' = o
              · rw [e]; exact fun k => h8 (hcl.mpr k)
              · exact h2 o' o0 (by omega)
          · rcases ha with ⟨h8, -⟩ | ⟨-, h9⟩
            · exact h o ⟨⟨h1, by omega⟩, fun _ => hcl.mp h8, h2⟩
            · exact absurd h9 g
        · rintro c ⟨a, j⟩ ⟨c0, ha⟩ cl ih2
          refine b_59_11 ?_
          rw [e5]
          refine ⟨by unfold q_rg; omega, fun g => by omega, fun _ => ⟨by omega, by omega, by omega, by omega, ?_⟩⟩
          refine m_53 hR hV ⟨by omega, by omega⟩ ⟨by omega, by omega⟩ ?_
          refine ⟨by omega, by omega, by omega, by omega, ?_⟩
          refine m_54 hR hV ⟨by omega, by omega⟩ ⟨by omega, by omega⟩ ?_
          have hcr := v_cr_r (V := V) (s := c / 9) (t := c % 9) (o := o) (vP V + 1).toNat
          have hsh := (v_sh_r hV (s := c / 9) (t := c % 9) ⟨by omega, by omega⟩ ⟨by omega, by omega⟩).1
          have split2 : ∀ n' : Int, n' = v_tn V (c / 9) (c % 9) o (vP V + 1).toNat → ((a = 0 → q_rg (c + 1) ∧ q_r 59 11 [vR 36, vI o, vI 0, vI (c + 1), vI n'] [] S Q Z) ∧ (¬ a = 0 → (n' ≥ 2 → q_rg (c + 1) ∧ q_r 59 11 [vR 36, vI o, vI 0, vI (c + 1), vI n'] [] S Q Z) ∧ (¬ n' ≥ 2 → q_rg (c + 1) ∧ q_r 59 11 [vR 36, vI o, vI 1, vI (c + 1), vI n'] [] S Q Z))) := by
            intro n' hn'
            have no : ¬ (∀ c', 0 ≤ c' → c' < c → v_tn V (c' / 9) (c' % 9) o (vP V + 1).toNat < 2) ∨ n' ≥ 2 → q_rg (c + 1) ∧ q_r 59 11 [vR 36, vI o, vI 0, vI (c + 1), vI n'] [] S Q Z := by
              intro g
              refine ⟨by unfold q_rg; omega, ih2 (0, .inl n') ⟨by omega, Or.inr ⟨fun k => ?_, rfl⟩⟩⟩
              rcases g with g | g
              · exact g (fun c' k0 k1 => k c' k0 (by omega))
              · have := k c c0 (by omega); omega
            rcases ha with ⟨h8, h9⟩ | ⟨h8, h9⟩
            · refine ⟨fun g => ?_, fun _ => ⟨fun g => no (Or.inr g), fun g => ⟨by unfold q_rg; omega, ih2 (1, .inl n') ⟨by omega, Or.inl ⟨fun c' k0 k1 => ?_, rfl⟩⟩⟩⟩⟩
              · simp only at h9; omega
              · by_cases e : c' = c
                · rw [e, ← hn']; omega
                · exact h8 c' k0 (by omega)
            · refine ⟨fun _ => no (Or.inl h8), fun g => absurd h9 g⟩
          refine ⟨fun g => ⟨by unfold q_rg; omega, split2 _ ?_⟩, fun g => ⟨by unfold q_rg; omega, split2 _ ?_⟩⟩
          · unfold v_tn; rw [if_pos (by omega)]
          · unfold v_tn; rw [if_neg (by omega)]
      exact inner 0 (1, j4) (by omega) ⟨by omega, Or.inl ⟨fun c' c0 c1 => by omega, rfl⟩⟩
  exact key 0 (_, _, _) (by omega) ⟨by omega, fun o' h1 h2 => by omega⟩
theorem c_99 {s : Int} (hR : v_rc S V) (hV : v_wf V) (hs : 0 ≤ s ∧ s < vSt V) (h : ∀ a, (n_sm a ∧ ∀ i : Nat, n_bit a i = true ↔ ((i : Int) < 8 ∧ v_sh V s i ≠ -1)) → Q a S) : q_c 99 [vR 26, vI s] S Q Z := by
  refine b_99_0 ?_
  have key : ∀ (t a : Int), t ≤ 8 → (0 ≤ t ∧ n_sm a ∧ ∀ i : Nat, n_bit a i = true ↔ ((i : Int) < t ∧ v_sh V s i ≠ -1)) → q_r 99 4 [vR 26, vI s, vI a, vI t] [] S Q Z := by
    refine n_for 8 (fun (t a : Int) => 0 ≤ t ∧ n_sm a ∧ ∀ i : Nat, n_bit a i = true ↔ ((i : Int) < t ∧ v_sh V s i ≠ -1)) (fun t a => q_r 99 4 [vR 26, vI s, vI a, vI t] [] S Q Z) ?_ ?_
    · rintro a ⟨-, h1, h2⟩
      exact b_99_4 ⟨fun _ => h a ⟨h1, h2⟩, fun g => by omega⟩
    · rintro t a ⟨t0, h1, h2⟩ tl ih
      have sm := n_shl1_sm t0 (show t < 31 by omega)
      refine b_99_4 ⟨fun g => by omega, fun _ => ?_⟩
      refine c_100 hR hV hs ⟨t0, by omega⟩ ⟨fun g => ⟨by unfold q_rg; omega, ih _ ⟨by omega, h1, fun i => ?_⟩⟩, fun g => ⟨by unfold q_rg; omega, ih _ ⟨by omega, n_or_sm h1 sm, fun i => ?_⟩⟩⟩
      · rw [h2 i]
        constructor
        · rintro ⟨k1, k2⟩; exact ⟨by omega, k2⟩
        · rintro ⟨k1, k2⟩
          by_cases e : (i : Int) = t
          · rw [e] at k2; exact absurd g k2
          · exact ⟨by omega, k2⟩
      · rw [n_bit_or h1 sm, n_bit_shl1 t0 (by omega), Bool.or_eq_true, h2 i, decide_eq_true_eq]
        constructor
        · rintro (⟨k1, k2⟩ | k)
          · exact ⟨by omega, k2⟩
          · exact ⟨by omega, by rw [← k]; exact g⟩
        · rintro ⟨k1, k2⟩
          by_cases e : (i : Int) = t
          · exact Or.inr e.symm
          · exact Or.inl ⟨by omega, k2⟩
  exact key 0 0 (by omega) ⟨by omega, ⟨by decide, by decide⟩, fun i => ⟨fun g => by unfold n_bit at g; simp at g, fun g => by omega⟩⟩
theorem v_sb_hi {s p o : Int} (hV : v_wf V) {i : Nat} (hi : 9 ≤ i) : n_bit (v_sb V s p o) i = false := by
  have h := (v_sb_sm hV (s := s) (p := p) (sort := o))
  unfold n_bit
  refine Nat.testBit_lt_two_pow (Nat.lt_of_lt_of_le (show (v_sb V s p o).toNat < 2 ^ 9 by have := h.1.1; omega) (Nat.pow_le_pow_right (by decide) hi))
theorem c_98 {s o : Int} (hR : v_rc S V) (hV : v_wf V) (hs : 0 ≤ s ∧ s < vSt V) (h : ∀ a, v_b01 (∃ t, (0 ≤ t ∧ t < 9) ∧ 2 ≤ v_tn V s t o (vP V + 1).toNat) a → Q a S) : q_c 98 [vR 26, vI s, vI o] S Q Z := by
  have hP := hV.1
  have hP3 := hR.1
  refine b_98_0 ?_
  refine c_99 hR hV hs ?_
  rintro a0 ⟨a1, a2⟩
  have key : ∀ (p : Int) (x : Int × q_J), p ≤ vP V + 1 → (0 ≤ p ∧ n_sm x.1 ∧ (∀ i : Nat, n_bit x.1 i = true ↔ ((i : Int) < 9 ∧ v_tn V s i o p.toNat = 1)) ∧ ∀ t, 0 ≤ t → t < 9 → v_tn V s t o p.toNat ≤ 1) → q_r 98 9 [vR 26, vI s, vI o, vI x.1, vI p, vJ x.2] [] S Q Z := by
    refine n_for (vP V + 1) (fun (p : Int) (x : Int × q_J) => 0 ≤ p ∧ n_sm x.1 ∧ (∀ i : Nat, n_bit x.1 i = true ↔ ((i : Int) < 9 ∧ v_tn V s i o p.toNat = 1)) ∧ ∀ t, 0 ≤ t → t < 9 → v_tn V s t o p.toNat ≤ 1) (fun (p : Int) (x : Int × q_J) => q_r 98 9 [vR 26, vI s, vI o, vI x.1, vI p, vJ x.2] [] S Q Z) ?_ ?_
    · rintro ⟨m, j⟩ ⟨-, -, -, h3⟩
      refine b_98_9 ?_
      rw [hP3]
      refine ⟨fun _ => ⟨⟨by omega, by omega⟩, h _ (Or.inr ⟨?_, rfl⟩)⟩, fun g => by omega⟩
      rintro ⟨t, ⟨t0, t1⟩, t2⟩
      have := h3 t t0 t1
      omega
    · rintro p ⟨m, j⟩ ⟨p0, h1, h2, h3⟩ pl ih
      simp only at h1 h2
      have en : (p + 1).toNat = p.toNat + 1 := by omega
      have ep : ((p.toNat : Nat) : Int) = p := by omega
      have sbm := (v_sb_sm hV (s := s) (p := p) (sort := o)).1
      have hnx : ∀ t, v_tn V s t o (p + 1).toNat = v_tn V s t o p.toNat + (if n_bit (v_sb V s p o) t.toNat then 1 else 0) := by
        intro t
        unfold v_tn
        rw [en, v_cr_s, ep]
        omega
      refine b_98_9 ?_
      rw [hP3]
      refine ⟨fun g => by omega, fun _ => ?_⟩
      refine c_89 hR hV hs ⟨p0, by omega⟩ ?_
      have hz := n_zero (n_and_sm h1 sbm)
      refine ⟨fun g => ⟨by unfold q_rg; omega, ih (q_or m (v_sb V s p o), .inl (v_sb V s p o)) ⟨by omega, n_or_sm h1 sbm, fun i => ?_, fun t t0 t1 => ?_⟩⟩, fun g => ⟨⟨by omega, by omega⟩, h _ (Or.inl ⟨?_, rfl⟩)⟩⟩
      · have hi := hz.mp g i
        rw [n_bit_and h1 sbm] at hi
        simp only
        rw [n_bit_or h1 sbm, hnx, Bool.or_eq_true, h2 i]
        have et : ((i : Int)).toNat = i := by omega
        rw [et]
        constructor
        · rintro (⟨k1, k2⟩ | k)
          · have : n_bit m i = true := (h2 i).mpr ⟨k1, k2⟩
            rw [this, Bool.true_and] at hi
            rw [hi]
            exact ⟨k1, by simp; exact k2⟩
          · rw [k, Bool.and_true] at hi
            have hi9 : (i : Int) < 9 := by
              by_cases e : i < 9
              · omega
              · rw [v_sb_hi hV (by omega)] at k; cases k
            rw [k]
            have g1 : ¬ (v_tn V s i o p.toNat = 1) := fun k2 => by rw [(h2 i).mpr ⟨hi9, k2⟩] at hi; cases hi
            have g2 := h3 i (by omega) hi9
            have g3 : 0 ≤ v_tn V s i o p.toNat := by
              unfold v_tn
              have := v_cr_r (V := V) (s := s) (t := i) (o := o) p.toNat
              split <;> omega
            exact ⟨hi9, by simp; omega⟩
        · rintro ⟨k1, k2⟩
          cases hb : n_bit (v_sb V s p o) i
          · rw [hb] at k2
            exact Or.inl ⟨k1, by simpa using k2⟩
          · exact Or.inr rfl
      · have hi := hz.mp g t.toNat
        rw [n_bit_and h1 sbm] at hi
        rw [hnx]
        have et : ((t.toNat : Nat) : Int) = t := by omega
        have h2t := h2 t.toNat
        rw [et] at h2t
        have h3t := h3 t t0 t1
        cases hb : n_bit (v_sb V s p o) t.toNat
        · simp; exact h3t
        · rw [hb, Bool.and_true] at hi
          have : ¬ (v_tn V s t o p.toNat = 1) := fun k2 => by rw [h2t.mpr ⟨t1, k2⟩] at hi; cases hi
          simp; omega
      · have : ∃ i, n_bit (q_and m (v_sb V s p o)) i = true := by
          by_cases e : ∃ i, n_bit (q_and m (v_sb V s p o)) i = true
          · exact e
          · exact absurd (hz.mpr fun i => by
              cases hb : n_bit (q_and m (v_sb V s p o)) i with
              | false => rfl
              | true => exact absurd ⟨i, hb⟩ e) g
        obtain ⟨i, hi⟩ := this
        rw [n_bit_and h1 sbm, Bool.and_eq_true] at hi
        obtain ⟨k1, k2⟩ := (h2 i).mp hi.1
        refine ⟨i, ⟨by omega, k1⟩, ?_⟩
        have e1 := hnx i
        have et : ((i : Int)).toNat = i := by omega
        rw [et, hi.2, k2] at e1
        have e2 := v_cr_m (V := V) (s := s) (t := i) (o := o) (p + 1).toNat ((vP V + 1).toNat - (p + 1).toNat)
        have e3 : (p + 1).toNat + ((vP V + 1).toNat - (p + 1).toNat) = (vP V + 1).toNat := by omega
        rw [e3] at e2
        unfold v_tn at e1 ⊢
        simp only [if_true] at e1
        omega
  refine key 0 (a0, _) (by omega) ⟨by omega, a1, fun i => ?_, fun t t0 t1 => ?_⟩
  · simp only
    rw [a2 i, show (0 : Int).toNat = 0 from rfl, v_tn_0]
    constructor
    · rintro ⟨k1, k2⟩
      exact ⟨by omega, by rw [if_neg k2]⟩
    · rintro ⟨k1, k2⟩
      by_cases e : v_sh V s i = -1
      · rw [if_pos e] at k2; exact absurd k2 (by decide)
      · have := (v_sh_r hV hs (t := i) ⟨by omega, by omega⟩).2 e
        exact ⟨by omega, e⟩
  · rw [show (0 : Int).toNat = 0 from rfl, v_tn_0]
    split <;> decide
theorem c_97 {o : Int} (hR : v_rc S V) (hV : v_wf V) (h : ∀ a, v_b01 (v_clr V o) a → Q a S) : q_c 97 [vR 26, vI o] S Q Z := by
  have hst := hV.2.2.2.2.1
  have e5 := hR.2.2.2.2.1
  refine b_97_0 ?_
  have key : ∀ (s : Int) (_ : Unit), s ≤ vSt V → (0 ≤ s ∧ ∀ s' t, 0 ≤ s' → s' < s → 0 ≤ t → t < 9 → v_tn V s' t o (vP V + 1).toNat < 2) → q_r 97 2 [vR 26, vI o, vI s] [] S Q Z := by
    refine n_for (vSt V) (fun (s : Int) (_ : Unit) => 0 ≤ s ∧ ∀ s' t, 0 ≤ s' → s' < s → 0 ≤ t → t < 9 → v_tn V s' t o (vP V + 1).toNat < 2) (fun (s : Int) (_ : Unit) => q_r 97 2 [vR 26, vI o, vI s] [] S Q Z) ?_ ?_
    · rintro _ ⟨-, h2⟩
      refine b_97_2 ?_
      rw [e5]
      exact ⟨fun _ => ⟨⟨by omega, by omega⟩, h _ (Or.inl ⟨fun s t s0 s1 t0 t1 => h2 s t s0 s1 t0 t1, rfl⟩)⟩, fun g => by omega⟩
    · rintro s _ ⟨s0, h2⟩ sl ih
      refine b_97_2 ?_
      rw [e5]
      refine ⟨fun g => by omega, fun _ => ?_⟩
      refine c_98 hR hV ⟨s0, sl⟩ ?_
      rintro a (⟨h8, rfl⟩ | ⟨h8, rfl⟩)
      · refine ⟨fun g => by simp at g, fun _ => ⟨⟨by omega, by omega⟩, h _ (Or.inr ⟨fun k => ?_, rfl⟩)⟩⟩
        obtain ⟨t, ⟨t0, t1⟩, t2⟩ := h8
        have := k s t s0 sl t0 t1
        omega
      · refine ⟨fun _ => ⟨by unfold q_rg; omega, ih () ⟨by omega, fun s' t k0 k1 t0 t1 => ?_⟩⟩, fun g => absurd rfl g⟩
        by_cases e : s' = s
        · subst e
          by_cases k : v_tn V s' t o (vP V + 1).toNat < 2
          · exact k
          · exact absurd ⟨t, ⟨t0, t1⟩, by omega⟩ h8
        · exact h2 s' t k0 (by omega) t0 t1
  exact key 0 () (by omega) ⟨by omega, fun s' t k0 k1 => by omega⟩
theorem c_90 (hR : v_rc S V) (hV : v_wf V) (h : ∀ r, v_kd V r → Q r S) : q_c 90 [vR 26] S Q Z := by
  refine b_90_0 ?_
  have key : ∀ (o : Int) (_ : Unit), o ≤ 3 → (0 ≤ o ∧ ∀ o', 0 ≤ o' → o' < o → ¬ v_clr V o') → q_r 90 2 [vR 26, vI o] [] S Q Z := by
    refine n_for 3 (fun (o : Int) (_ : Unit) => 0 ≤ o ∧ ∀ o', 0 ≤ o' → o' < o → ¬ v_clr V o') (fun (o : Int) (_ : Unit) => q_r 90 2 [vR 26, vI o] [] S Q Z) ?_ ?_
    · rintro _ ⟨-, h2⟩
      exact b_90_2 ⟨fun _ => h 3 ⟨⟨by omega, by omega⟩, fun g => by omega, h2⟩, fun g => by omega⟩
    · rintro o _ ⟨h1, h2⟩ ho ih
      refine b_90_2 ⟨fun g => by omega, fun _ => ?_⟩
      refine c_97 hR hV ?_
      rintro a (⟨h8, rfl⟩ | ⟨h8, rfl⟩)
      · exact ⟨fun g => by simp at g, fun _ => h o ⟨⟨h1, by omega⟩, fun _ => h8, h2⟩⟩
      · refine ⟨fun _ => ⟨by unfold q_rg; omega, ih () ⟨by omega, fun o' o0 o1 => ?_⟩⟩, fun g => absurd rfl g⟩
        by_cases e : o' = o
        · rw [e]; exact h8
        · exact h2 o' o0 (by omega)
  exact key 0 () (by omega) ⟨by omega, fun o' h1 h2 => by omega⟩
end Kind
