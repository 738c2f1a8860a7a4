def k_fo (S : q_S) (V : v_V) : Prop := ∀ n p d, 0 ≤ n → n ≤ 7 → 0 ≤ p → p ≤ vP V → 0 ≤ d → d < vSz V p → vLt V p d = n → (1 ≤ S 6 n ∧ S 6 n ≤ S 7 n ∧ S 7 n ≤ vP V) ∧ ∀ q, 1 ≤ q → q ≤ vP V → (vLf V q = n ↔ S 6 n ≤ q ∧ q ≤ S 7 n)
/-- what stands right behind a dot -/
def x_bh (V : v_V) (K : Int → Int → Prop) (n : Int) : Prop := ∃ p d, K p d ∧ (0 ≤ p ∧ p ≤ vP V) ∧ (0 ≤ d ∧ d < vSz V p) ∧ vLt V p d = n
section StatesD
variable {S : q_S} {V : v_V} {K : Int → Int → Prop} {Q : q_Q} {Z : q_Z}
theorem c_151 {n : Int} (hR : v_gc S V) (hV : v_gw V) (hS : k_sd S V) (hM : k_md S V K) (hn : 0 ≤ n ∧ n ≤ 7) (h : ∀ a, v_b01 (x_bh V K n) a → Q a S) : q_c 151 [vR 16, vI n] S Q Z := by
  have hP := hV.1
  refine b_151_0 ?_
  have key : ∀ (p : Int) (x : Unit), p ≤ vP V + 1 → (0 ≤ p ∧ ∀ p' d, 0 ≤ p' → p' < p → K p' d → 0 ≤ d → d < vSz V p' → vLt V p' d ≠ n) → q_r 151 2 [vR 16, vI n, vI p] [] S Q Z := by
    refine n_for (vP V + 1) (fun (p : Int) (x : Unit) => 0 ≤ p ∧ ∀ p' d, 0 ≤ p' → p' < p → K p' d → 0 ≤ d → d < vSz V p' → vLt V p' d ≠ n) (fun (p : Int) (x : Unit) => q_r 151 2 [vR 16, vI n, vI p] [] S Q Z) ?_ ?_
    · rintro - ⟨-, hI⟩
      refine b_151_2 ?_
      rw [hR.1]
      refine ⟨fun _ => ⟨⟨by omega, by omega⟩, h 0 (Or.inr ⟨?_, rfl⟩)⟩, fun g => by omega⟩
      rintro ⟨p, d, q1, q2, q3, q4⟩
      exact hI p d q2.1 (by omega) q1 q3.1 q3.2 q4
    · rintro p - ⟨p0, hI⟩ pl ih
      have d1 := hM p p0 (by omega)
      have d2 := hS n p hn.1 (by omega) p0 (by omega)
      have ez := n_zero (n_and_sm d1.1 d2.1)
      have bb : ∀ d : Nat, n_bit (q_and (S 20 p) (S 19 (n * 16 + p))) d = true ↔ (K p d ∧ (d : Int) < vSz V p ∧ vLt V p d = n) := fun d => by
        rw [n_bit_and d1.1 d2.1, Bool.and_eq_true, d1.2 d, d2.2 d]
      refine b_151_2 ?_
      rw [hR.1]
      refine ⟨fun g => by omega, fun _ => ⟨by omega, by omega, by unfold q_rg; omega, by unfold q_rg; omega, by omega, by omega, fun g => ⟨by unfold q_rg; omega, ih () ⟨by omega, fun p' d p0' p1' kk d0 d1' e => ?_⟩⟩, fun g => ⟨⟨by omega, by omega⟩, h 1 (Or.inl ⟨?_, rfl⟩)⟩⟩⟩
      · by_cases ep : p' = p
        · subst ep
          have t := (bb d.toNat).mpr (by rw [show ((d.toNat : Nat) : Int) = d by omega]; exact ⟨kk, d1', e⟩)
          rw [ez.mp g] at t
          cases t
        · exact hI p' d p0' (by omega) kk d0 d1' e
      · by_cases e : ∃ i : Nat, n_bit (q_and (S 20 p) (S 19 (n * 16 + p))) i = true
        · obtain ⟨i, hi⟩ := e
          have := (bb i).mp hi
          exact ⟨p, i, this.1, ⟨p0, by omega⟩, ⟨by omega, this.2.1⟩, this.2.2⟩
        · refine absurd (ez.mpr fun i => ?_) g
          cases e2 : n_bit (q_and (S 20 p) (S 19 (n * 16 + p))) i with
          | false => rfl
          | true => exact absurd ⟨i, e2⟩ e
  exact key 0 () (by omega) ⟨by omega, fun p' d a b => by omega⟩
def x_ad (V : v_V) (K : Int → Int → Prop) (n p d : Int) : Prop := K p d ∨ (d = 0 ∧ (1 ≤ p ∧ p ≤ vP V) ∧ vLf V p = n)
theorem c_152 {n : Int} (hV : v_gw V) (hF : k_fo S V) (hM : k_md S V K) (hn : 0 ≤ n ∧ n ≤ 7) (hb : x_bh V K n) (h : ∀ S', n_fr [20] [] S S' → k_md S' V (x_ad V K n) → Q 0 S') : q_c 152 [vR 16, vI n] S Q Z := by
  have hP := hV.1
  obtain ⟨pb, db, -, h2, h3, h4⟩ := hb
  obtain ⟨f1, f2⟩ := hF n pb db hn.1 hn.2 h2.1 h2.2 h3.1 h3.2 h4
  refine b_152_0 ⟨by omega, by omega, by omega, by omega, ?_⟩
  have key : ∀ (p : Int) (U : q_S), p ≤ S 7 n + 1 → (S 6 n ≤ p ∧ n_fr [20] [] S U ∧ ∀ p', 0 ≤ p' → p' ≤ vP V → n_sm (U 20 p') ∧ ∀ d : Nat, n_bit (U 20 p') d = true ↔ (K p' d ∨ (d = 0 ∧ S 6 n ≤ p' ∧ p' < p))) → q_r 152 20 [vR 16, vI n, vI (S 7 n), vI p] [] U Q Z := by
    refine n_for (S 7 n + 1) (fun (p : Int) (U : q_S) => S 6 n ≤ p ∧ n_fr [20] [] S U ∧ ∀ p', 0 ≤ p' → p' ≤ vP V → n_sm (U 20 p') ∧ ∀ d : Nat, n_bit (U 20 p') d = true ↔ (K p' d ∨ (d = 0 ∧ S 6 n ≤ p' ∧ p' < p))) (fun (p : Int) (U : q_S) => q_r 152 20 [vR 16, vI n, vI (S 7 n), vI p] [] U Q Z) ?_ ?_
    · rintro U ⟨-, fr, hI⟩
      refine b_152_20 ⟨fun _ => h U fr fun p p0 p1 => ⟨(hI p p0 p1).1, fun d => ?_⟩, fun g => by omega⟩
      rw [(hI p p0 p1).2 d]
      unfold x_ad
      constructor
      · rintro (q | ⟨q1, q2, q3⟩)
        · exact Or.inl q
        · exact Or.inr ⟨by omega, by omega, (f2 p (by omega) p1).mpr (by omega)⟩
      · rintro (q | ⟨q1, q2, q3⟩)
        · exact Or.inl q
        · have := (f2 p q2.1 p1).mp q3
          exact Or.inr ⟨by omega, by omega, by omega⟩
    · rintro p U ⟨p0, fr, hI⟩ pl ih
      have s1 : n_sm 1 := ⟨by decide, by decide⟩
      have hp := hI p (by omega) (by omega)
      refine b_152_20 ⟨fun g => by omega, fun _ => ⟨by omega, by omega, by omega, by omega, by unfold q_rg; omega, ih _ ⟨by omega, n_fr_k fr (by decide), fun p' p0' p1' => ?_⟩⟩⟩
      rw [n_up]
      by_cases e : p' = p
      · subst e
        rw [if_pos ⟨rfl, rfl⟩]
        refine ⟨n_or_sm hp.1 s1, fun d => ?_⟩
        rw [n_bit_or hp.1 s1, Bool.or_eq_true, hp.2 d, n_bit_1]
        constructor
        · rintro ((q | ⟨q1, q2, q3⟩) | q)
          · exact Or.inl q
          · omega
          · exact Or.inr ⟨q, by omega, by omega⟩
        · rintro (q | ⟨q1, q2, q3⟩)
          · exact Or.inl (Or.inl q)
          · exact Or.inr q1
      · rw [if_neg (by omega)]
        refine ⟨(hI p' p0' p1').1, fun d => ?_⟩
        rw [(hI p' p0' p1').2 d]
        constructor
        · rintro (q | ⟨q1, q2, q3⟩)
          · exact Or.inl q
          · exact Or.inr ⟨q1, q2, by omega⟩
        · rintro (q | ⟨q1, q2, q3⟩)
          · exact Or.inl q
          · exact Or.inr ⟨q1, q2, by omega⟩
  refine key (S 6 n) S (by omega) ⟨by omega, n_fr_r, fun p' p0 p1 => ⟨(hM p' p0 p1).1, fun d => ?_⟩⟩
  rw [(hM p' p0 p1).2 d]
  exact ⟨fun q => Or.inl q, fun q => q.elim id (fun q => by omega)⟩
theorem k_fo_fr {T : q_S} {ks : List Nat} {fs : List (Nat × Int)} (h : n_fr ks fs S T) (h1 : (n_ok ks fs 6 && n_ok ks fs 7) = true) (hg : k_fo S V) : k_fo T V := by
  rw [Bool.and_eq_true] at h1
  unfold k_fo
  rw [n_fr_c h h1.1, n_fr_c h h1.2]
  exact hg
theorem k_sd_fr {T : q_S} {ks : List Nat} {fs : List (Nat × Int)} (h : n_fr ks fs S T) (h1 : n_ok ks fs 19 = true) (hg : k_sd S V) : k_sd T V := by
  unfold k_sd
  rw [n_fr_c h h1]
  exact hg
theorem k_dt_fr {T : q_S} {ks : List Nat} {fs : List (Nat × Int)} (h : n_fr ks fs S T) (h1 : n_ok ks fs 17 = true) (hg : k_dt S V) : k_dt T V := by
  unfold k_dt
  rw [n_fr_c h h1]
  exact hg
/-- made, as a set -/
theorem c_150 (hR : v_gc S V) (hV : v_gw V) (hS : k_sd S V) (hF : k_fo S V) (hM : k_md S V K) (hK : ∀ p d, K p d → x_va V p d) (h : ∀ S', n_fr [20] [] S S' → k_md S' V (x_cl V K) → Q 0 S') : q_c 150 [vR 16] S Q Z := by
  have hP := hV.1
  refine b_150_0 ?_
  let so : q_S → Int → (Int → Int → Prop) → Prop := fun U a M => n_fr [20] [] S U ∧ n_sm a ∧ k_md U V M ∧ (∀ p d, K p d → M p d) ∧ (∀ p d, M p d → x_cl V K p d) ∧ ∀ n q, 0 ≤ n → n < 8 → n_b8 a n → 1 ≤ q → q ≤ vP V → vLf V q = n → M q 0
  let co : Int → (Int → Int → Prop) → Prop := fun a M => ∀ n, 0 ≤ n → n < 8 → x_bh V M n → n_b8 a n
  have fin : ∀ U a M, so U a M → co a M → Q 0 U := fun U a M hs hc => by
    obtain ⟨h1, h2, h3, h4, h5, h6⟩ := hs
    refine h U h1 fun p p0 p1 => ⟨(h3 p p0 p1).1, fun d => ?_⟩
    rw [(h3 p p0 p1).2 d]
    refine ⟨h5 p d, fun q => ?_⟩
    refine (q (fun p d => M p d ∧ x_va V p d) (fun p d k => ⟨h4 p d k, hK p d k⟩) (fun p d q m d0 d1 q1 q2 e => ?_)).1
    have z := hV.2.2.1 p d m.2.1.1 m.2.1.2 d0 d1
    have z4 := hV.2.2.2 q q1 q2
    exact ⟨h6 (vLt V p d) q (by omega) (by omega) (hc _ (by omega) (by omega) ⟨p, d, m.1, m.2.1, ⟨d0, d1⟩, rfl⟩) q1 q2 e, ⟨by omega, q2⟩, by omega, (hV.2.1 q (by omega) q2).1⟩
  have key : ∀ (r : Int) (x : q_S × Int × Int × q_J × q_J), r ≤ 9 → (0 ≤ r ∧ ∃ M, so x.1 x.2.1 M ∧ ((x.2.2.1 = 0 ∧ co x.2.1 M) ∨ (x.2.2.1 = 1 ∧ r ≤ n_ct (n_b8 x.2.1) 8))) → q_r 150 6 [vR 16, vI x.2.1, vI x.2.2.1, vI r, vJ x.2.2.2.1, vJ x.2.2.2.2] [] x.1 Q Z := by
    refine n_for 9 (fun (r : Int) (x : q_S × Int × Int × q_J × q_J) => 0 ≤ r ∧ ∃ M, so x.1 x.2.1 M ∧ ((x.2.2.1 = 0 ∧ co x.2.1 M) ∨ (x.2.2.1 = 1 ∧ r ≤ n_ct (n_b8 x.2.1) 8))) (fun (r : Int) (x : q_S × Int × Int × q_J × q_J) => q_r 150 6 [vR 16, vI x.2.1, vI x.2.2.1, vI r, vJ x.2.2.2.1, vJ x.2.2.2.2] [] x.1 Q Z) ?_ ?_
    · rintro ⟨U, a, gr, j4, j5⟩ ⟨-, M, hs, hc⟩
      simp only at hs hc ⊢
      have hc' : co a M := by
        rcases hc with ⟨-, hc⟩ | ⟨-, hc⟩
        · exact hc
        · have := n_ct_le (n_b8 a) 8
          omega
      exact b_150_6 ⟨fun _ => fin U a M hs hc', fun _ => ⟨fun _ => fin U a M hs hc', fun q => by omega⟩⟩
    · rintro r ⟨U, a, gr, j4, j5⟩ ⟨r0, M, hs, hc⟩ hr ih
      simp only at hs hc ⊢
      refine b_150_6 ⟨fun q => fin U a M hs ?_, fun _ => ⟨fun q => by omega, fun _ => ?_⟩⟩
      · rcases hc with ⟨-, hc⟩ | ⟨hc, -⟩
        · exact hc
        · omega
      let J : Int → q_S → Int → Prop := fun i W b => 0 ≤ i ∧ ((W = U ∧ b = a ∧ ∀ n, 0 ≤ n → n < i → x_bh V M n → n_b8 a n) ∨ (b ≠ a ∧ (∃ M', so W b M') ∧ n_ct (n_b8 a) 8 < n_ct (n_b8 b) 8))
      have inner : ∀ (i : Int) (x : q_S × Int), i ≤ 8 → J i x.1 x.2 → q_r 150 22 [vR 16, vI x.2, vI gr, vI r, vI a, vI i] [] x.1 Q Z := by
        refine n_for 8 (fun (i : Int) (x : q_S × Int) => J i x.1 x.2) (fun (i : Int) (x : q_S × Int) => q_r 150 22 [vR 16, vI x.2, vI gr, vI r, vI a, vI i] [] x.1 Q Z) ?_ ?_
        · rintro ⟨W, b⟩ ⟨-, hJ⟩
          simp only at hJ ⊢
          have rg : q_rg (r + 1) := by unfold q_rg; omega
          refine b_150_22 ⟨fun _ => ⟨fun q => ⟨rg, ih (W, b, 0, .inl a, .inl 8) ⟨by omega, ?_⟩⟩, fun q => ⟨rg, ih (W, b, 1, .inl a, .inl 8) ⟨by omega, ?_⟩⟩⟩, fun g => by omega⟩
          · rcases hJ with ⟨rfl, rfl, h3⟩ | ⟨h1, -⟩
            · exact ⟨M, hs, Or.inl ⟨rfl, h3⟩⟩
            · exact absurd q h1
          · rcases hJ with ⟨-, h1, -⟩ | ⟨h1, ⟨M', h2⟩, h3⟩
            · exact absurd h1 q
            · refine ⟨M', h2, ?_⟩
              rcases hc with ⟨hc, -⟩ | ⟨-, hc⟩
              · contradiction
              · exact Or.inr ⟨rfl, by simp only; omega⟩
        · rintro i ⟨W, b⟩ ⟨i0, hJ⟩ il ih2
          simp only at hJ ⊢
          have rg : q_rg (i + 1) := by unfold q_rg; omega
          have hW : ∃ M', so W b M' ∧ (W = U ∧ b = a → M' = M) := by
            rcases hJ with ⟨rfl, rfl, -⟩ | ⟨h1, ⟨M', h2⟩, -⟩
            · exact ⟨M, hs, fun _ => rfl⟩
            · exact ⟨M', h2, fun q => absurd q.2 h1⟩
          obtain ⟨M', ⟨g1, g2, g3, g4, g5, g6⟩, g7⟩ := hW
          have hRW := v_gc_fr g1 (by decide) hR
          have hSW := k_sd_fr g1 (by decide) hS
          have hFW := k_fo_fr g1 (by decide) hF
          refine b_150_22 ?_
          rw [n_shr1 g2 i0 (by omega)]
          refine ⟨fun g => by omega, fun _ => ⟨fun g => ⟨rg, ih2 (W, b) ⟨by omega, ?_⟩⟩, fun g => c_151 hRW hV hSW g3 ⟨i0, by omega⟩ ?_⟩⟩
          · rcases hJ with ⟨h1, h2, h3⟩ | h1
            · refine Or.inl ⟨h1, h2, fun n n0 n1 hb => ?_⟩
              by_cases e : n = i
              · subst e
                unfold n_b8
                rw [← h2]
                cases e2 : n_bit b n.toNat with
                | true => rfl
                | false => rw [e2] at g; exact absurd rfl g
              · exact h3 n n0 (by omega) hb
            · exact Or.inr h1
          · have nb : n_bit b i.toNat = false := by
              cases e2 : n_bit b i.toNat with
              | false => rfl
              | true => rw [e2] at g; exact absurd (by decide) g
            rintro x (⟨hx, rfl⟩ | ⟨hx, rfl⟩)
            · refine ⟨fun g => by omega, fun _ => c_152 hV hFW g3 ⟨i0, by omega⟩ hx fun W' fr' md' => ⟨rg, ih2 (W', q_or b (q_shl 1 i)) ⟨by omega, ?_⟩⟩⟩
              have sm := n_shl1_sm i0 (show i < 31 by omega)
              have bo : ∀ n : Nat, n_bit (q_or b (q_shl 1 i)) n = true ↔ (n_bit b n = true ∨ i = n) := fun n => by
                rw [n_bit_or g2 sm, n_bit_shl1 i0 (by omega), Bool.or_eq_true, decide_eq_true_eq]
              have lt : n_ct (n_b8 b) 8 < n_ct (n_b8 (q_or b (q_shl 1 i))) 8 := n_ct_lt 8 (fun n _ _ q => (bo _).mpr (Or.inl q)) ⟨i, ⟨i0, by omega⟩, (bo _).mpr (Or.inr (by omega)), fun q => by unfold n_b8 at q; rw [nb] at q; cases q⟩
              have le : n_ct (n_b8 a) 8 ≤ n_ct (n_b8 b) 8 := by
                rcases hJ with ⟨-, h2, -⟩ | ⟨-, -, h3⟩
                · rw [h2]; omega
                · omega
              refine Or.inr ⟨fun e => ?_, ⟨x_ad V M' i, n_fr_t g1 fr', n_or_sm g2 sm, md', fun p d q => Or.inl (g4 p d q), fun p d q => ?_, fun n q n0 n1 hb q1 q2 e => ?_⟩, by simp only; omega⟩
              · simp only at e
                rw [e] at lt; omega
              · rcases q with q | ⟨q1, q2, q3⟩
                · exact g5 p d q
                · obtain ⟨p', d', k1, k2, k3, k4⟩ := hx
                  rw [q1]
                  exact x_cl_c (g5 p' d' k1) k3.1 k3.2 q2.1 q2.2 (by omega)
              · rcases (bo _).mp hb with q3 | q3
                · exact Or.inl (g6 n q n0 n1 q3 q1 q2 e)
                · exact Or.inr ⟨rfl, ⟨q1, q2⟩, by omega⟩
            · refine ⟨fun _ => ⟨rg, ih2 (W, b) ⟨by omega, ?_⟩⟩, fun g => absurd rfl g⟩
              rcases hJ with ⟨h1, h2, h3⟩ | h1
              · refine Or.inl ⟨h1, h2, fun n n0 n1 hb => ?_⟩
                by_cases e : n = i
                · subst e
                  rw [g7 ⟨h1, h2⟩] at hx
                  exact absurd hb hx
                · exact h3 n n0 (by omega) hb
              · exact Or.inr h1
      exact inner 0 (U, a) (by omega) ⟨by omega, Or.inl ⟨rfl, rfl, fun n n0 n1 => by omega⟩⟩
  exact key 0 (S, 0, 1, _, _) (by omega) ⟨by omega, K, ⟨n_fr_r, n_sm0, hM, fun p d q => q, fun p d q => x_cl_k q, fun n q _ _ hb => by unfold n_b8 at hb; rw [n_bit0] at hb; cases hb⟩, Or.inr ⟨rfl, by omega⟩⟩
end StatesD
