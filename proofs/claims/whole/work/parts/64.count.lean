section Count
variable {S : q_S} {V : v_V} {b : v_B} {Q : q_Q} {Z : q_Z}
noncomputable def v_uc (V : v_V) (b : v_B) : Nat → Int
  | 0 => 0
  | n + 1 => v_uc V b n + (@ite Int (v_un V b (n / 9 : Nat) (n % 9 : Nat)) (Classical.propDecidable _) 1 0)
theorem v_uc_y {n : Nat} (h : v_un V b (n / 9 : Nat) (n % 9 : Nat)) : v_uc V b (n + 1) = v_uc V b n + 1 := by
  show v_uc V b n + _ = _
  rw [if_pos h]
theorem v_uc_n {n : Nat} (h : ¬ v_un V b (n / 9 : Nat) (n % 9 : Nat)) : v_uc V b (n + 1) = v_uc V b n := by
  show v_uc V b n + _ = _
  rw [if_neg h]; omega
theorem v_uc_r (n : Nat) : 0 ≤ v_uc V b n ∧ v_uc V b n ≤ n := by
  induction n with
  | zero => show 0 ≤ (0 : Int) ∧ (0 : Int) ≤ ((0 : Nat) : Int); omega
  | succ n ih =>
    by_cases h : v_un V b (n / 9 : Nat) (n % 9 : Nat)
    · rw [v_uc_y h]; omega
    · rw [v_uc_n h]; omega
theorem v_uc_m (n k : Nat) : v_uc V b n ≤ v_uc V b (n + k) := by
  induction k with
  | zero => exact Int.le_refl _
  | succ k ih =>
    rw [← Nat.add_assoc]
    by_cases h : v_un V b ((n + k) / 9 : Nat) ((n + k) % 9 : Nat)
    · rw [v_uc_y h]; omega
    · rw [v_uc_n h]; omega
def v_ua (V : v_V) (b : v_B) (k a : Int) : Prop := (∃ c : Nat, (c : Int) < 9 * vSt V ∧ v_un V b (c / 9 : Nat) (c % 9 : Nat) ∧ v_uc V b c = k ∧ a = 16 * ((c / 9 : Nat) : Int) + ((c % 9 : Nat) : Int)) ∨ ((∀ c : Nat, (c : Int) < 9 * vSt V → v_un V b (c / 9 : Nat) (c % 9 : Nat) → v_uc V b c ≠ k) ∧ a = -1)
theorem v_ua_u {k a a' : Int} (h : v_ua V b k a) (h' : v_ua V b k a') : a = a' := by
  rcases h with ⟨c, c1, c2, c3, c4⟩ | ⟨h1, h2⟩ <;> rcases h' with ⟨d, d1, d2, d3, d4⟩ | ⟨g1, g2⟩
  · have : c = d := by
      by_cases e : c < d
      · have e1 := v_uc_y c2
        have e2 := v_uc_m (V := V) (b := b) (c + 1) (d - (c + 1))
        have e3 : c + 1 + (d - (c + 1)) = d := by omega
        rw [e3] at e2
        omega
      · by_cases e' : d < c
        · have e1 := v_uc_y d2
          have e2 := v_uc_m (V := V) (b := b) (d + 1) (c - (d + 1))
          have e3 : d + 1 + (c - (d + 1)) = c := by omega
          rw [e3] at e2
          omega
        · omega
    subst this
    omega
  · exact absurd c3 (g1 c c1 c2)
  · exact absurd d3 (h1 d d1 d2)
  · omega
theorem m_60 {k : Int} (hR : v_rm S V) (hV : v_wf V) (hB : v_bm S b) (hk : k ≠ -1 → ∀ a, v_ua V b k a → Q a S) (hk1 : k = -1 → Q (v_uc V b (9 * vSt V).toNat) S) : q_c 60 [vR 36, vI k] S Q Z := by
  have hst := hV.2.2.2.2.1
  have e5 := hR.2.2.2.2.1
  refine b_60_0 ?_
  have key : ∀ (c n : Int), c ≤ 9 * vSt V → (0 ≤ c ∧ n = v_uc V b c.toNat ∧ ∀ c' : Nat, (c' : Int) < c → v_un V b (c' / 9 : Nat) (c' % 9 : Nat) → v_uc V b c' ≠ k) → q_r 60 4 [vR 36, vI k, vI n, vI c] [] S Q Z := by
    refine n_for (9 * vSt V) (fun c n => 0 ≤ c ∧ n = v_uc V b c.toNat ∧ ∀ c' : Nat, (c' : Int) < c → v_un V b (c' / 9 : Nat) (c' % 9 : Nat) → v_uc V b c' ≠ k) (fun c n => q_r 60 4 [vR 36, vI k, vI n, vI c] [] S Q Z) ?_ ?_
    · rintro n ⟨h0, rfl, h2⟩
      refine b_60_4 ?_
      rw [e5]
      refine ⟨by unfold q_rg; omega, fun _ => ⟨fun g => hk g _ (Or.inr ⟨h2, rfl⟩), fun g => hk1 (by omega)⟩, fun g => by omega⟩
    · rintro c n ⟨h0, rfl, h2⟩ hlt ih
      have ec : ((c.toNat : Nat) : Int) = c := by omega
      have e9 : ((c.toNat / 9 : Nat) : Int) = c / 9 := by omega
      have em : ((c.toNat % 9 : Nat) : Int) = c % 9 := by omega
      have en : (c + 1).toNat = c.toNat + 1 := by omega
      have hcr := v_uc_r (V := V) (b := b) c.toNat
      refine b_60_4 ?_
      rw [e5]
      refine ⟨by unfold q_rg; omega, fun g => by omega, fun g => ⟨by omega, by omega, by omega, by omega, ?_⟩⟩
      refine m_58 hR hV hB ⟨by omega, by omega⟩ ⟨by omega, by omega⟩ ?_
      intro a ha
      have step : ∀ n', n' = v_uc V b (c + 1).toNat → (v_un V b (c / 9) (c % 9) → v_uc V b c.toNat ≠ k) → q_r 60 4 [vR 36, vI k, vI n', vI (c + 1)] [] S Q Z := by
        intro n' hn' hc
        refine ih _ ⟨by omega, hn', fun c' hc' hu => ?_⟩
        by_cases e : (c' : Int) = c
        · have : c' = c.toNat := by omega
          subst this
          rw [e9, em] at hu
          exact hc hu
        · exact h2 c' (by omega) hu
      rcases ha with ⟨hu, rfl⟩ | ⟨hu, rfl⟩
      · have hu' : v_un V b (c.toNat / 9 : Nat) (c.toNat % 9 : Nat) := by rw [e9, em]; exact hu
        refine ⟨fun g1 => by simp at g1, fun _ => ⟨fun g2 => ⟨by unfold q_rg; omega, by unfold q_rg; omega, step _ (by rw [en, v_uc_y hu']) (fun _ => g2)⟩, fun g2 => ⟨by omega, by omega, by unfold q_rg; omega, by omega, by omega, by unfold q_rg; omega, ?_⟩⟩⟩
        refine hk (by omega) _ (Or.inl ⟨c.toNat, by omega, hu', by omega, by rw [e9, em]⟩)
      · have hu' : ¬ v_un V b (c.toNat / 9 : Nat) (c.toNat % 9 : Nat) := by rw [e9, em]; exact hu
        exact ⟨fun _ => ⟨by unfold q_rg; omega, step _ (by rw [en, v_uc_n hu']) (fun g2 => absurd g2 hu)⟩, fun g1 => absurd rfl g1⟩
  exact key 0 0 (by omega) ⟨by omega, rfl, fun c' hc' => by omega⟩
theorem c_93 (hR : v_rc S V) (hV : v_wf V) (hB : v_bc S b) (hbw : v_bw b) (h : Q (v_uc V b (9 * vSt V).toNat) S) : q_c 93 [vR 26] S Q Z := by
  have hst := hV.2.2.2.2.1
  have e5 := hR.2.2.2.2.1
  refine b_93_0 ?_
  have key : ∀ (s : Int) (x : Int × q_J), s ≤ vSt V → (0 ≤ s ∧ x.1 = v_uc V b (9 * s).toNat) → q_r 93 4 [vR 26, vI x.1, vI s, vJ x.2] [] S Q Z := by
    refine n_for (vSt V) (fun (s : Int) (x : Int × q_J) => 0 ≤ s ∧ x.1 = v_uc V b (9 * s).toNat) (fun (s : Int) (x : Int × q_J) => q_r 93 4 [vR 26, vI x.1, vI s, vJ x.2] [] S Q Z) ?_ ?_
    · rintro ⟨n, j⟩ ⟨h0, h1⟩
      refine b_93_4 ?_
      rw [e5]
      refine ⟨fun _ => ?_, fun g => by omega⟩
      simp only at h1
      rw [h1]; exact h
    · rintro s ⟨n, j⟩ ⟨h0, h1⟩ hlt ih
      refine b_93_4 ?_
      rw [e5]
      refine ⟨fun g => by omega, fun _ => ?_⟩
      have inner : ∀ (t n : Int), t ≤ 9 → (0 ≤ t ∧ n = v_uc V b (9 * s + t).toNat) → q_r 93 17 [vR 26, vI n, vI s, vI t] [] S Q Z := by
        refine n_for 9 (fun t n => 0 ≤ t ∧ n = v_uc V b (9 * s + t).toNat) (fun t n => q_r 93 17 [vR 26, vI n, vI s, vI t] [] S Q Z) ?_ ?_
        · rintro n ⟨-, rfl⟩
          refine b_93_17 ⟨fun _ => ⟨by unfold q_rg; omega, ih (_, .inl 9) ⟨by omega, ?_⟩⟩, fun g => by omega⟩
          show _ = v_uc V b (9 * (s + 1)).toNat
          have : 9 * (s + 1) = 9 * s + 9 := by omega
          rw [this]
        · rintro t n ⟨t0, rfl⟩ tl ih2
          have e9 : (((9 * s + t).toNat / 9 : Nat) : Int) = s := by omega
          have em : (((9 * s + t).toNat % 9 : Nat) : Int) = t := by omega
          have en : (9 * s + (t + 1)).toNat = (9 * s + t).toNat + 1 := by omega
          have hcr := v_uc_r (V := V) (b := b) (9 * s + t).toNat
          refine b_93_17 ⟨fun g => by omega, fun _ => ?_⟩
          refine c_95 hR hV hB hbw ⟨by omega, by omega⟩ ⟨by omega, by omega⟩ ?_
          rintro a (⟨hu, rfl⟩ | ⟨hu, rfl⟩)
          · exact ⟨fun g => by simp at g, fun _ => ⟨by unfold q_rg; omega, by unfold q_rg; omega, ih2 _ ⟨by omega, by rw [en, v_uc_y (by rw [e9, em]; exact hu)]⟩⟩⟩
          · exact ⟨fun _ => ⟨by unfold q_rg; omega, ih2 _ ⟨by omega, by rw [en, v_uc_n (by rw [e9, em]; exact hu)]⟩⟩, fun g => absurd rfl g⟩
      refine inner 0 _ (by omega) ⟨by omega, ?_⟩
      simp only at h1
      rw [h1, Int.add_zero]
  exact key 0 (0, _) (by omega) ⟨by omega, rfl⟩
theorem c_94 {k : Int} (hR : v_rc S V) (hV : v_wf V) (hB : v_bc S b) (hbw : v_bw b) (h : ∀ a, v_ua V b k a → Q a S) : q_c 94 [vR 26, vI k] S Q Z := by
  have hst := hV.2.2.2.2.1
  have e5 := hR.2.2.2.2.1
  refine b_94_0 ?_
  have key : ∀ (s : Int) (x : Int × q_J), s ≤ vSt V → (0 ≤ s ∧ x.1 = v_uc V b (9 * s).toNat ∧ ∀ c' : Nat, (c' : Int) < 9 * s → v_un V b (c' / 9 : Nat) (c' % 9 : Nat) → v_uc V b c' ≠ k) → q_r 94 4 [vR 26, vI k, vI x.1, vI s, vJ x.2] [] S Q Z := by
    refine n_for (vSt V) (fun (s : Int) (x : Int × q_J) => 0 ≤ s ∧ x.1 = v_uc V b (9 * s).toNat ∧ ∀ c' : Nat, (c' : Int) < 9 * s → v_un V b (c' / 9 : Nat) (c' % 9 : Nat) → v_uc V b c' ≠ k) (fun (s : Int) (x : Int × q_J) => q_r 94 4 [vR 26, vI k, vI x.1, vI s, vJ x.2] [] S Q Z) ?_ ?_
    · rintro ⟨n, j⟩ ⟨h0, h1, h2⟩
      refine b_94_4 ?_
      rw [e5]
      exact ⟨fun _ => h _ (Or.inr ⟨h2, rfl⟩), fun g => by omega⟩
    · rintro s ⟨n, j⟩ ⟨h0, h1, h2⟩ hlt ih
      refine b_94_4 ?_
      rw [e5]
      refine ⟨fun g => by omega, fun _ => ?_⟩
      have inner : ∀ (t n : Int), t ≤ 9 → (0 ≤ t ∧ n = v_uc V b (9 * s + t).toNat ∧ ∀ c' : Nat, (c' : Int) < 9 * s + t → v_un V b (c' / 9 : Nat) (c' % 9 : Nat) → v_uc V b c' ≠ k) → q_r 94 18 [vR 26, vI k, vI n, vI s, vI t] [] S Q Z := by
        refine n_for 9 (fun t n => 0 ≤ t ∧ n = v_uc V b (9 * s + t).toNat ∧ ∀ c' : Nat, (c' : Int) < 9 * s + t → v_un V b (c' / 9 : Nat) (c' % 9 : Nat) → v_uc V b c' ≠ k) (fun t n => q_r 94 18 [vR 26, vI k, vI n, vI s, vI t] [] S Q Z) ?_ ?_
        · rintro n ⟨-, rfl, g2⟩
          refine b_94_18 ⟨fun _ => ⟨by unfold q_rg; omega, ih (_, .inl 9) ⟨by omega, ?_, fun c' hc' => g2 c' (by omega)⟩⟩, fun g => by omega⟩
          show _ = v_uc V b (9 * (s + 1)).toNat
          have : 9 * (s + 1) = 9 * s + 9 := by omega
          rw [this]
        · rintro t n ⟨t0, rfl, g2⟩ tl ih2
          have e9 : (((9 * s + t).toNat / 9 : Nat) : Int) = s := by omega
          have em : (((9 * s + t).toNat % 9 : Nat) : Int) = t := by omega
          have en : (9 * s + (t + 1)).toNat = (9 * s + t).toNat + 1 := by omega
          have hcr := v_uc_r (V := V) (b := b) (9 * s + t).toNat
          refine b_94_18 ⟨fun g => by omega, fun _ => ?_⟩
          refine c_95 hR hV hB hbw ⟨by omega, by omega⟩ ⟨by omega, by omega⟩ ?_
          have step : ∀ n', n' = v_uc V b (9 * s + (t + 1)).toNat → (v_un V b s t → v_uc V b (9 * s + t).toNat ≠ k) → q_r 94 18 [vR 26, vI k, vI n', vI s, vI (t + 1)] [] S Q Z := by
            intro n' hn' hc
            refine ih2 _ ⟨by omega, hn', fun c' hc' hu => ?_⟩
            by_cases e : (c' : Int) = 9 * s + t
            · have : c' = (9 * s + t).toNat := by omega
              subst this
              rw [e9, em] at hu
              exact hc hu
            · exact g2 c' (by omega) hu
          rintro a (⟨hu, rfl⟩ | ⟨hu, rfl⟩)
          · refine ⟨fun g => by simp at g, fun _ => ⟨fun g3 => ⟨by unfold q_rg; omega, by unfold q_rg; omega, step _ (by rw [en, v_uc_y (by rw [e9, em]; exact hu)]) (fun _ => g3)⟩, fun g3 => ⟨by unfold q_rg; omega, by unfold q_rg; omega, ?_⟩⟩⟩
            exact h _ (Or.inl ⟨(9 * s + t).toNat, by omega, by rw [e9, em]; exact hu, by omega, by rw [e9, em]⟩)
          · exact ⟨fun _ => ⟨by unfold q_rg; omega, step _ (by rw [en, v_uc_n (by rw [e9, em]; exact hu)]) (fun g3 => absurd g3 hu)⟩, fun g => absurd rfl g⟩
      refine inner 0 _ (by omega) ⟨by omega, ?_, fun c' hc' => h2 c' (by omega)⟩
      simp only at h1
      rw [h1, Int.add_zero]
  exact key 0 (0, _) (by omega) ⟨by omega, rfl, fun c' hc' => by omega⟩
-- which tokens do something
def v_ex (V : v_V) (b : v_B) (s : Int) (n : Int) (a : Int) : Prop := n_sm a ∧ ∀ i : Nat, n_bit a i = true ↔ ((i : Int) < n ∧ ∃ x, v_act V b s i x ∧ x ≠ 0)
theorem v_ex_u {s n a a' : Int} (h : v_ex V b s n a) (h' : v_ex V b s n a') : a = a' := by
  refine n_ext h.1 h'.1 fun i => ?_
  have h1 := h.2 i
  have h2 := h'.2 i
  cases e : n_bit a i <;> cases e' : n_bit a' i
  · rfl
  · exact absurd (h1.mpr (h2.mp e')) (by rw [e]; decide)
  · exact absurd (h2.mpr (h1.mp e)) (by rw [e']; decide)
  · rfl
theorem v_ex_0 {s : Int} : v_ex V b s 0 0 := ⟨⟨by decide, by decide⟩, fun i => by
  constructor
  · intro h; unfold n_bit at h; simp at h
  · rintro ⟨h, -⟩; omega⟩
theorem v_ex_s {s t a x : Int} (h : v_ex V b s t a) (ht : 0 ≤ t ∧ t < 9) (hx : v_act V b s t x) : (x = 0 → v_ex V b s (t + 1) a) ∧ (x ≠ 0 → v_ex V b s (t + 1) (q_or a (q_shl 1 t))) := by
  have sm := n_shl1_sm ht.1 (show t < 31 by omega)
  refine ⟨fun h0 => ⟨h.1, fun i => ?_⟩, fun h0 => ⟨n_or_sm h.1 sm, fun i => ?_⟩⟩
  · rw [h.2 i]
    constructor
    · rintro ⟨g1, g2⟩; exact ⟨by omega, g2⟩
    · rintro ⟨g1, z, z1, z2⟩
      by_cases e : (i : Int) = t
      · rw [e] at z1
        exact absurd (v_act_u z1 hx) (by omega)
      · exact ⟨by omega, z, z1, z2⟩
  · rw [n_bit_or h.1 sm, n_bit_shl1 ht.1 (by omega), Bool.or_eq_true, h.2 i, decide_eq_true_eq]
    constructor
    · rintro (⟨g1, g2⟩ | g)
      · exact ⟨by omega, g2⟩
      · refine ⟨by omega, x, ?_, h0⟩
        rw [← g]; exact hx
    · rintro ⟨g1, z, z1, z2⟩
      by_cases e : (i : Int) = t
      · exact Or.inr e.symm
      · exact Or.inl ⟨by omega, z, z1, z2⟩
theorem c_92 {s : Int} (hR : v_rc S V) (hV : v_wf V) (hB : v_bc S b) (hbw : v_bw b) (hs : 0 ≤ s ∧ s < vSt V) (h : ∀ a, v_ex V b s 9 a → Q a S) : q_c 92 [vR 26, vI s] S Q Z := by
  refine b_92_0 ?_
  have key : ∀ (t a : Int), t ≤ 9 → (0 ≤ t ∧ v_ex V b s t a) → q_r 92 4 [vR 26, vI s, vI a, vI t] [] S Q Z := by
    refine n_for 9 (fun t a => 0 ≤ t ∧ v_ex V b s t a) (fun t a => q_r 92 4 [vR 26, vI s, vI a, vI t] [] S Q Z) ?_ ?_
    · rintro a ⟨-, ha⟩
      exact b_92_4 ⟨fun _ => h a ha, fun g => by omega⟩
    · rintro t a ⟨t0, ha⟩ tl ih
      refine b_92_4 ⟨fun g => by omega, fun _ => ?_⟩
      refine c_91 hR hV hB hbw hs ⟨t0, by omega⟩ ?_
      intro x hx
      obtain ⟨k1, k2⟩ := v_ex_s ha ⟨t0, tl⟩ hx
      exact ⟨fun g => ⟨by unfold q_rg; omega, ih _ ⟨by omega, k1 g⟩⟩, fun g => ⟨by unfold q_rg; omega, ih _ ⟨by omega, k2 g⟩⟩⟩
  exact key 0 0 (by omega) ⟨by omega, v_ex_0⟩
end Count
