section Items
variable {S : q_S} {V : v_V} {Q : q_Q} {Z : q_Z}
def v_wi (V : v_V) : Prop := ∀ s p d, 0 ≤ s → s < vSt V → vIt V s p d = 1 → (0 ≤ p ∧ p ≤ vP V) ∧ 0 ≤ d ∧ d ≤ vSz V p
def v_ic (V : v_V) (s : Int) : Nat → Int
  | 0 => 0
  | n + 1 => v_ic V s n + (if vIt V s (n / 8 : Nat) (n % 8 : Nat) = 1 then 1 else 0)
theorem v_ic_s {s : Int} (n : Nat) : v_ic V s (n + 1) = v_ic V s n + (if vIt V s (n / 8 : Nat) (n % 8 : Nat) = 1 then 1 else 0) := rfl
theorem v_ic_r {s : Int} (n : Nat) : 0 ≤ v_ic V s n ∧ v_ic V s n ≤ n := by
  induction n with
  | zero => show 0 ≤ (0 : Int) ∧ (0 : Int) ≤ ((0 : Nat) : Int); omega
  | succ n ih => rw [v_ic_s]; split <;> omega
theorem v_ic_m {s : Int} (n k : Nat) : v_ic V s n ≤ v_ic V s (n + k) := by
  induction k with
  | zero => exact Int.le_refl _
  | succ k ih => rw [← Nat.add_assoc, v_ic_s]; split <;> omega
theorem v_ic_c {s : Int} (n k : Nat) (h : ∀ e : Nat, n ≤ e → e < n + k → vIt V s (e / 8 : Nat) (e % 8 : Nat) ≠ 1) : v_ic V s (n + k) = v_ic V s n := by
  induction k with
  | zero => rfl
  | succ k ih =>
    rw [← Nat.add_assoc, v_ic_s, ih (fun e h1 h2 => h e h1 (by omega)), if_neg (h (n + k) (by omega) (by omega))]
    omega
def v_ia (V : v_V) (s k a : Int) : Prop := (∃ e : Nat, e < 128 ∧ vIt V s (e / 8 : Nat) (e % 8 : Nat) = 1 ∧ v_ic V s e = k ∧ a = e) ∨ ((∀ e : Nat, e < 128 → vIt V s (e / 8 : Nat) (e % 8 : Nat) = 1 → v_ic V s e ≠ k) ∧ a = -1)
theorem v_ia_u {s k a a' : Int} (h : v_ia V s k a) (h' : v_ia V s k a') : a = a' := by
  rcases h with ⟨c, c1, c2, c3, c4⟩ | ⟨h1, h2⟩ <;> rcases h' with ⟨d, d1, d2, d3, d4⟩ | ⟨g1, g2⟩
  · have : c = d := by
      by_cases e : c < d
      · have e1 := v_ic_s (V := V) (s := s) c
        rw [if_pos c2] at e1
        have e2 := v_ic_m (V := V) (s := s) (c + 1) (d - (c + 1))
        have e3 : c + 1 + (d - (c + 1)) = d := by omega
        rw [e3] at e2
        omega
      · by_cases e' : d < c
        · have e1 := v_ic_s (V := V) (s := s) d
          rw [if_pos d2] at e1
          have e2 := v_ic_m (V := V) (s := s) (d + 1) (c - (d + 1))
          have e3 : d + 1 + (c - (d + 1)) = c := by omega
          rw [e3] at e2
          omega
        · omega
    subst this
    omega
  · exact absurd c3 (g1 c c1 c2)
  · exact absurd d3 (h1 d d1 d2)
  · omega
/-- the loop of the reference's item -/
theorem m_67l {s k : Int} (hR : v_rm S V) (hV : v_wf V) (hs : 0 ≤ s ∧ s < vSt V) (h : ∀ a, v_ia V s k a → Q a S) : q_r 67 42 [vR 36, vI s, vI k, vI 0, vI 0] [] S Q Z := by
  have hst := hV.2.2.2.2.1
  have key : ∀ (e n : Int), e ≤ 128 → (0 ≤ e ∧ n = v_ic V s e.toNat ∧ ∀ e' : Nat, (e' : Int) < e → vIt V s (e' / 8 : Nat) (e' % 8 : Nat) = 1 → v_ic V s e' ≠ k) → q_r 67 42 [vR 36, vI s, vI k, vI n, vI e] [] S Q Z := by
    refine n_for 128 (fun e n => 0 ≤ e ∧ n = v_ic V s e.toNat ∧ ∀ e' : Nat, (e' : Int) < e → vIt V s (e' / 8 : Nat) (e' % 8 : Nat) = 1 → v_ic V s e' ≠ k) (fun e n => q_r 67 42 [vR 36, vI s, vI k, vI n, vI e] [] S Q Z) ?_ ?_
    · rintro n ⟨-, -, h2⟩
      exact b_67_42 ⟨fun _ => h _ (Or.inr ⟨fun e' h1 => h2 e' (by omega), rfl⟩), fun g => by omega⟩
    · rintro e n ⟨e0, rfl, h2⟩ el ih
      have e8 : ((e.toNat / 8 : Nat) : Int) = e / 8 := by omega
      have em : ((e.toNat % 8 : Nat) : Int) = e % 8 := by omega
      have en : (e + 1).toNat = e.toNat + 1 := by omega
      have r6 := hR.2.2.2.2.2.1 s (e / 8) (e % 8) hs.1 hs.2 (by omega) (by omega) (by omega) (by omega)
      have e9 : 128 * s + 8 * (e / 8) + e % 8 = 128 * s + e := by omega
      rw [e9] at r6
      have hcr := v_ic_r (V := V) (s := s) e.toNat
      have hi := hV.2.2.2.2.2.2.1 s (e / 8) (e % 8)
      have e1 := v_ic_s (V := V) (s := s) e.toNat
      rw [e8, em] at e1
      refine b_67_42 ⟨fun g => by omega, fun _ => ?_⟩
      rw [r6]
      have step : ∀ n', n' = v_ic V s (e + 1).toNat → (vIt V s (e / 8) (e % 8) = 1 → v_ic V s e.toNat ≠ k) → q_r 67 42 [vR 36, vI s, vI k, vI n', vI (e + 1)] [] S Q Z := by
        intro n' hn' hc
        refine ih _ ⟨by omega, hn', fun c' hc' hu => ?_⟩
        by_cases q : (c' : Int) = e
        · have : c' = e.toNat := by omega
          subst this
          rw [e8, em] at hu
          exact hc hu
        · exact h2 c' (by omega) hu
      refine ⟨by unfold q_rg; omega, by unfold q_rg; omega, by omega, by omega, fun g => ⟨by unfold q_rg; omega, step _ (by rw [en, e1, if_neg (by omega)]; omega) (fun g2 => by omega)⟩, fun g => ⟨fun g2 => ⟨by unfold q_rg; omega, by unfold q_rg; omega, step _ (by rw [en, e1, if_pos (by omega)]) (fun _ => g2)⟩, fun g2 => ?_⟩⟩
      exact h _ (Or.inl ⟨e.toNat, by omega, by rw [e8, em]; omega, by omega, by omega⟩)
  exact key 0 0 (by omega) ⟨by omega, rfl, fun c' hc' => by omega⟩
theorem c_143 {s k : Int} (hR : v_rc S V) (hV : v_wf V) (hW : v_wi V) (hs : 0 ≤ s ∧ s < vSt V) (h : ∀ a, v_ia V s k a → Q a S) : q_c 143 [vR 16, vI s, vI k] S Q Z := by
  have hP := hV.1
  have hP3 := hR.1
  refine b_143_0 ?_
  have key : ∀ (p : Int) (x : Int × q_J), p ≤ vP V + 1 → (0 ≤ p ∧ x.1 = v_ic V s (8 * p).toNat ∧ ∀ e' : Nat, (e' : Int) < 8 * p → vIt V s (e' / 8 : Nat) (e' % 8 : Nat) = 1 → v_ic V s e' ≠ k) → q_r 143 5 [vR 16, vI s, vI k, vI x.1, vI p, vJ x.2] [] S Q Z := by
    refine n_for (vP V + 1) (fun (p : Int) (x : Int × q_J) => 0 ≤ p ∧ x.1 = v_ic V s (8 * p).toNat ∧ ∀ e' : Nat, (e' : Int) < 8 * p → vIt V s (e' / 8 : Nat) (e' % 8 : Nat) = 1 → v_ic V s e' ≠ k) (fun (p : Int) (x : Int × q_J) => q_r 143 5 [vR 16, vI s, vI k, vI x.1, vI p, vJ x.2] [] S Q Z) ?_ ?_
    · rintro ⟨n, j⟩ ⟨-, -, h2⟩
      refine b_143_5 ?_
      rw [hP3]
      refine ⟨fun _ => h _ (Or.inr ⟨fun e' h1 hu => ?_, rfl⟩), fun g => by omega⟩
      have := hW s _ _ hs.1 hs.2 hu
      exact h2 e' (by omega) hu
    · rintro p ⟨n, j⟩ ⟨p0, h1, h2⟩ pl ih
      refine b_143_5 ?_
      rw [hP3]
      refine ⟨fun g => by omega, fun _ => ?_⟩
      have hz := hV.2.1 p p0 (by omega)
      have e5 := hR.2.1 p p0 (by omega)
      have inner : ∀ (d n : Int), d ≤ vSz V p + 1 → (0 ≤ d ∧ n = v_ic V s (8 * p + d).toNat ∧ ∀ e' : Nat, (e' : Int) < 8 * p + d → vIt V s (e' / 8 : Nat) (e' % 8 : Nat) = 1 → v_ic V s e' ≠ k) → q_r 143 20 [vR 16, vI s, vI k, vI n, vI p, vI d] [] S Q Z := by
        refine n_for (vSz V p + 1) (fun d n => 0 ≤ d ∧ n = v_ic V s (8 * p + d).toNat ∧ ∀ e' : Nat, (e' : Int) < 8 * p + d → vIt V s (e' / 8 : Nat) (e' % 8 : Nat) = 1 → v_ic V s e' ≠ k) (fun d n => q_r 143 20 [vR 16, vI s, vI k, vI n, vI p, vI d] [] S Q Z) ?_ ?_
        · rintro n ⟨-, rfl, g2⟩
          have none : ∀ e' : Nat, 8 * p + (vSz V p + 1) ≤ e' → (e' : Int) < 8 * (p + 1) → vIt V s (e' / 8 : Nat) (e' % 8 : Nat) ≠ 1 := by
            intro e' k1 k2 hu
            have q1 := hW s _ _ hs.1 hs.2 hu
            have q2 : ((e' / 8 : Nat) : Int) = p := by omega
            rw [q2] at q1
            omega
          refine b_143_20 ⟨by omega, by omega, fun _ => ⟨by unfold q_rg; omega, ih (_, .inl _) ⟨by omega, ?_, fun e' k1 hu => ?_⟩⟩, fun g => ?_⟩
          · have q := v_ic_c (V := V) (s := s) (8 * p + (vSz V p + 1)).toNat (8 - (vSz V p + 1)).toNat (fun e' k1 k2 => none e' (by omega) (by omega))
            have q2 : (8 * p + (vSz V p + 1)).toNat + (8 - (vSz V p + 1)).toNat = (8 * (p + 1)).toNat := by omega
            rw [q2] at q
            exact q.symm
          · by_cases q : (e' : Int) < 8 * p + (vSz V p + 1)
            · exact g2 e' q hu
            · exact absurd hu (none e' (by omega) k1)
          · rw [e5] at g; omega
        · rintro d n ⟨d0, rfl, g2⟩ dl ih2
          have e8 : (((8 * p + d).toNat / 8 : Nat) : Int) = p := by omega
          have em : (((8 * p + d).toNat % 8 : Nat) : Int) = d := by omega
          have en : (8 * p + (d + 1)).toNat = (8 * p + d).toNat + 1 := by omega
          have e1 := v_ic_s (V := V) (s := s) (8 * p + d).toNat
          rw [e8, em] at e1
          have hcr := v_ic_r (V := V) (s := s) (8 * p + d).toNat
          have hi := hV.2.2.2.2.2.2.1 s p d
          refine b_143_20 ⟨by omega, by omega, fun g => ?_, fun _ => ?_⟩
          · rw [e5] at g; omega
          · refine c_140 hR hV hs ⟨p0, by omega⟩ ⟨d0, by omega⟩ ?_
            have step : ∀ n', n' = v_ic V s (8 * p + (d + 1)).toNat → (vIt V s p d = 1 → v_ic V s (8 * p + d).toNat ≠ k) → q_r 143 20 [vR 16, vI s, vI k, vI n', vI p, vI (d + 1)] [] S Q Z := by
              intro n' hn' hc
              refine ih2 _ ⟨by omega, hn', fun c' hc' hu => ?_⟩
              by_cases q : (c' : Int) = 8 * p + d
              · have : c' = (8 * p + d).toNat := by omega
                subst this
                rw [e8, em] at hu
                exact hc hu
              · exact g2 c' (by omega) hu
            refine ⟨fun g => ⟨by unfold q_rg; omega, step _ (by rw [en, e1, if_neg (by omega)]; omega) (fun g3 => by omega)⟩, fun g => ⟨fun g3 => ⟨by unfold q_rg; omega, by unfold q_rg; omega, step _ (by rw [en, e1, if_pos (by omega)]) (fun _ => g3)⟩, fun g3 => ⟨by unfold q_rg; omega, by unfold q_rg; omega, ?_⟩⟩⟩
            exact h _ (Or.inl ⟨(8 * p + d).toNat, by omega, by rw [e8, em]; omega, by omega, by omega⟩)
      refine inner 0 _ (by omega) ⟨by omega, ?_, fun e' k1 => h2 e' (by omega)⟩
      simp only at h1
      rw [h1, Int.add_zero]
  exact key 0 (0, _) (by omega) ⟨by omega, rfl, fun c' hc' => by omega⟩
end Items
