/-! the reference finds what may stand behind -/
def k_M (V : v_V) (i : Int) (t : Nat) : Prop := x_Ah V (i / 128) (i % 128 / 8) (i % 8) t
def k_H (U : q_S) (s p d : Int) (t : Nat) : Prop := n_bit (U 49 (128 * s + (8 * p + d))) t = true
def k_bI (S : q_S) (V : v_V) (U : q_S) : Prop := n_fr [49] [] S U ∧ x_sN 5120 (k_M V) (U 49)
def k_tr (U W : q_S) (a : Int) : Prop := x_gN 5120 (U 49) (W 49) ∧ ((a = 0 ∧ ∀ n : Int, 0 ≤ n → n < (5120 : Nat) → W 49 n = U 49 n) ∨ (a = 1 ∧ x_cn 5120 9 (U 49) < x_cn 5120 9 (W 49)))
def k_mi (V : v_V) (U W : q_S) (s p d : Int) : Prop := (∀ t, k_H U s p d t → k_H W (vGo V s (vLt V p d)) p (d + 1) t) ∧ ∀ q, 1 ≤ q → q ≤ vP V → vLf V q = vLt V p d → ∀ t, x_st2 V (k_H U) s p d t → k_H W s q 0 t
def k_F (S : q_S) (V : v_V) : Prop := v_gn S V ∧ k_it S V ∧ S 36 17 = vSt V ∧ k_gm S V (16 * vSt V) ∧ k_ms S V
section AheadM
variable {S U W X : q_S} {V : v_V} {Q : q_Q} {Z : q_Z}
theorem k_F_fr {T : q_S} (h : n_fr [49] [] S T) (hg : k_F S V) : k_F T V := by
  obtain ⟨h1, h2, h3, h4, h5⟩ := hg
  refine ⟨v_gn_fr h (by decide) h1, k_it_fr h (by decide) h2, (n_fr_f h (by decide)).trans h3, ?_, ?_⟩
  · unfold k_gm
    rw [n_fr_c h (by decide)]
    exact h4
  · unfold k_ms
    rw [n_fr_c h (by decide), n_fr_c h (by decide), n_fr_c h (by decide)]
    exact h5
theorem x_cn_e {N T : Nat} {M M' : Int → Int} (hT : 0 < T) (h : ∀ n : Int, 0 ≤ n → n < N → M' n = M n) : x_cn N T M' = x_cn N T M := Nat.le_antisymm (x_cn_m hT fun n n0 n1 t q => by rw [← h n n0 n1]; exact q) (x_cn_m hT fun n n0 n1 t q => by rw [h n n0 n1]; exact q)
theorem k_tr_0 (h : k_tr U W 0) {b : Int} (h' : k_tr W X b) : k_tr U X b := by
  obtain ⟨a1, a2⟩ := h
  obtain ⟨b1, b2⟩ := h'
  refine ⟨x_gN_t a1 b1, ?_⟩
  rcases a2 with ⟨-, a2⟩ | ⟨a2, -⟩
  · have e := x_cn_e (N := 5120) (T := 9) (by decide) a2
    rcases b2 with ⟨c1, c2⟩ | ⟨c1, c2⟩
    · exact Or.inl ⟨c1, fun n n0 n1 => (c2 n n0 n1).trans (a2 n n0 n1)⟩
    · exact Or.inr ⟨c1, by omega⟩
  · omega
theorem k_tr_1 (h : k_tr U W 1) {b : Int} (h' : k_tr W X b) : k_tr U X 1 := by
  obtain ⟨a1, a2⟩ := h
  obtain ⟨b1, b2⟩ := h'
  refine ⟨x_gN_t a1 b1, ?_⟩
  have := x_cn_m (N := 5120) (T := 9) (by decide) b1
  rcases a2 with ⟨a2, -⟩ | ⟨-, a2⟩
  · omega
  · exact Or.inr ⟨rfl, by omega⟩
theorem k_tr_b {a : Int} (h : k_tr U W a) : a = 0 ∨ a = 1 := by
  rcases h.2 with ⟨h, -⟩ | ⟨h, -⟩
  · exact Or.inl h
  · exact Or.inr h
theorem k_tr_r : k_tr U U 0 := ⟨x_gN_r, Or.inl ⟨rfl, fun _ _ _ => rfl⟩⟩
theorem m_49 {s j m : Int} (hV : v_gw V) (hB : x_B V (16 * vSt V)) (hI : k_bI S V U) (hs : 0 ≤ s ∧ s < vSt V) (hj : 0 ≤ j ∧ j < 128) (hm : n_sm m) (hl : ∀ t : Nat, n_bit m t = true → k_M V (128 * s + j) t) (h : ∀ a W, k_bI S V W → k_tr U W a → (∀ t : Nat, n_bit m t = true → n_bit (W 49 (128 * s + j)) t = true) → Q a W) : q_c 49 [vR 36, vI s, vI j, vI m] U Q Z := by
  have b1 := hB.1
  obtain ⟨i1, i2⟩ := hI
  have so := (i2 (128 * s + j) (by omega) (by omega)).1
  obtain ⟨n1, n2⟩ := n_andn hm so
  have ez := n_zero n1
  have e49 : ∀ i, q_up U 49 (128 * s + j) (q_or (U 49 (128 * s + j)) m) 49 i = if i = 128 * s + j then q_or (U 49 (128 * s + j)) m else U 49 i := fun i => n_fr_same i
  have bo : ∀ t : Nat, n_bit (q_or (U 49 (128 * s + j)) m) t = true ↔ (n_bit (U 49 (128 * s + j)) t = true ∨ n_bit m t = true) := fun t => by rw [n_bit_or so hm, Bool.or_eq_true]
  have gN : x_gN 5120 (U 49) (q_up U 49 (128 * s + j) (q_or (U 49 (128 * s + j)) m) 49) := fun i i0 i1 t q => by
    rw [e49]
    by_cases e : i = 128 * s + j
    · rw [if_pos e, bo t]; rw [e] at q; exact Or.inl q
    · rw [if_neg e]; exact q
  have I' : k_bI S V (q_up U 49 (128 * s + j) (q_or (U 49 (128 * s + j)) m)) := ⟨n_fr_k i1 (by decide), fun i i0 i1 => by
    rw [e49]
    by_cases e : i = 128 * s + j
    · rw [if_pos e, e]
      refine ⟨n_or_sm so hm, fun t q => ?_⟩
      rcases (bo t).mp q with q | q
      · exact (i2 _ (by omega) (by omega)).2 t q
      · exact hl t q
    · rw [if_neg e]; exact i2 i i0 i1⟩
  have tg : ∀ t : Nat, n_bit m t = true → n_bit (q_up U 49 (128 * s + j) (q_or (U 49 (128 * s + j)) m) 49 (128 * s + j)) t = true := fun t q => by
    rw [e49, if_pos rfl]
    exact (bo t).mpr (Or.inr q)
  refine b_49_0 ⟨by unfold q_rg; omega, by unfold q_rg; omega, by omega, by omega, by unfold q_rg; omega, by unfold q_rg; omega, by omega, by omega, fun g => ⟨⟨by omega, by omega⟩, h 0 _ I' ⟨gN, Or.inl ⟨rfl, fun n n0 n1 => ?_⟩⟩ tg⟩, fun g => ⟨⟨by omega, by omega⟩, h 1 _ I' ⟨gN, Or.inr ⟨rfl, ?_⟩⟩ tg⟩⟩
  · rw [e49]
    by_cases e : n = 128 * s + j
    · rw [if_pos e, e]
      refine n_ext (n_or_sm so hm) so fun t => ?_
      have q := ez.mp g t
      rw [n2] at q
      apply Bool.eq_iff_iff.mpr
      rw [bo t]
      refine ⟨fun r => r.elim id fun r => ?_, Or.inl⟩
      rw [r, Bool.true_and] at q
      cases e2 : n_bit (U 49 (128 * s + j)) t with
      | true => rfl
      | false => rw [e2] at q; cases q
    · rw [if_neg e]
  · have ex : ∃ t : Nat, n_bit m t = true ∧ n_bit (U 49 (128 * s + j)) t = false := by
      by_cases e : ∃ t : Nat, n_bit m t = true ∧ n_bit (U 49 (128 * s + j)) t = false
      · exact e
      · refine absurd (ez.mpr fun t => ?_) g
        rw [n2]
        cases e1 : n_bit m t with
        | false => rfl
        | true =>
          cases e2 : n_bit (U 49 (128 * s + j)) t with
          | true => rfl
          | false => exact absurd ⟨t, e1, e2⟩ e
    obtain ⟨t, t1, t2⟩ := ex
    exact x_cn_lt gN (n := 128 * s + j) (t := t) ⟨by omega, by omega⟩ (x_Ah_r hV hB (hl t t1)).2 (tg t t1) t2
theorem m_50 {s j : Int} (hV : v_gw V) (hB : x_B V (16 * vSt V)) (hF : k_F S V) (hI : k_bI S V U) (hs : 0 ≤ s ∧ s < vSt V) (hj : 0 ≤ j ∧ j < 128) (h : ∀ a W, k_bI S V W → k_tr U W a → (x_sc V s (j / 8) (j % 8) → k_mi V U W s (j / 8) (j % 8)) → Q a W) : q_c 50 [vR 36, vI s, vI j] U Q Z := by
  have hP := hV.1
  have b1 := hB.1
  have hFU := k_F_fr hI.1 hF
  have e48 := hFU.2.1 s j hs.1 hs.2 hj.1 hj.2
  refine b_50_0 ⟨by omega, by omega, by omega, by omega, by unfold q_rg; omega, by unfold q_rg; omega, by omega, by omega, fun g => ⟨⟨by omega, by omega⟩, h 0 U hI k_tr_r fun hsc => ?_⟩, fun g => ?_⟩
  · have := hsc.2.1
    omega
  have it1 : vIt V s (j / 8) (j % 8) = 1 := by
    rw [e48] at g
    rcases hB.2.1 s (j / 8) (j % 8) with e | e
    · exact absurd e g
    · exact e
  have va := hB.2.2.2.2.1 s _ _ hs.1 hs.2 it1
  have vap := va.1
  have vad := va.2
  have z2 := hV.2.1 (j / 8) va.1.1 va.1.2
  rw [hFU.1.2.1 (j / 8) va.1.1 va.1.2]
  refine ⟨by omega, by omega, fun g2 => ?_, fun g2 => ⟨⟨by omega, by omega⟩, h 0 U hI k_tr_r fun hsc => absurd hsc.2.2 g2⟩⟩
  have hsc : x_sc V s (j / 8) (j % 8) := ⟨hs, it1, g2⟩
  have z3 := hV.2.2.1 (j / 8) (j % 8) va.1.1 va.1.2 va.2.1 g2
  have hg := x_sc_g hV hB hsc
  rw [hFU.1.2.2.2 (j / 8) (j % 8) va.1.1 va.1.2 va.2.1 g2]
  rw [hFU.2.2.2.1 s (vLt V (j / 8) (j % 8)) hs.1 hs.2 z3.1 (by omega) (by omega)]
  have sa := (hI.2 (128 * s + j) (by omega) (by omega)).1
  have la : ∀ t : Nat, n_bit (U 49 (128 * s + j)) t = true → x_Ah V s (j / 8) (j % 8) t := fun t q => by
    have := (hI.2 (128 * s + j) (by omega) (by omega)).2 t q
    unfold k_M at this
    rwa [show (128 * s + j) / 128 = s by omega, show (128 * s + j) % 128 / 8 = j / 8 by omega, show (128 * s + j) % 8 = j % 8 by omega] at this
  have ej : 8 * (j / 8) + j % 8 = j := by omega
  refine ⟨by unfold q_rg; omega, by unfold q_rg; omega, by omega, by omega, by unfold q_rg; omega, by unfold q_rg; omega, by omega, by omega, by unfold q_rg; omega, by unfold q_rg; omega, by omega, by omega, by unfold q_rg; omega, m_49 hV hB hI hg ⟨by omega, by omega⟩ sa (fun t q => ?_) fun a1 W1 hI1 tr1 tg1 => ?_⟩
  · unfold k_M
    rw [show (128 * vGo V s (vLt V (j / 8) (j % 8)) + (j + 1)) / 128 = vGo V s (vLt V (j / 8) (j % 8)) by omega, show (128 * vGo V s (vLt V (j / 8) (j % 8)) + (j + 1)) % 128 / 8 = j / 8 by omega, show (128 * vGo V s (vLt V (j / 8) (j % 8)) + (j + 1)) % 8 = j % 8 + 1 by omega]
    exact x_Ah_g hsc (la t q)
  have goal1 : ∀ W, x_gN 5120 (W1 49) (W 49) → ∀ t, k_H U s (j / 8) (j % 8) t → k_H W (vGo V s (vLt V (j / 8) (j % 8))) (j / 8) (j % 8 + 1) t := fun W gW t q => by
    unfold k_H at q ⊢
    rw [ej] at q
    rw [show 8 * (j / 8) + (j % 8 + 1) = j + 1 by omega]
    exact gW _ (by omega) (by omega) t (tg1 t q)
  have b01 := k_tr_b tr1
  -- the loop over the productions
  have loop : ∀ (m : Int) (jj : q_J), vLt V (j / 8) (j % 8) < 8 → n_sm m → (∀ t : Nat, n_bit m t = true ↔ x_st2 V (k_H U) s (j / 8) (j % 8) t) → q_r 50 133 [vR 36, vI s, vI j, vI (j / 8), vI (j % 8), vI (U 49 (128 * s + j)), vI (vLt V (j / 8) (j % 8)), vI a1, vI m, vI 1, vJ jj] [] W1 Q Z := by
    intro m jj y8 sm bm
    let J : Int → q_S → Int → Prop := fun q W a => 1 ≤ q ∧ k_bI S V W ∧ k_tr U W a ∧ x_gN 5120 (W1 49) (W 49) ∧ ∀ q', 1 ≤ q' → q' < q → vLf V q' = vLt V (j / 8) (j % 8) → ∀ t : Nat, n_bit m t = true → k_H W s q' 0 t
    have key : ∀ (q : Int) (x : q_S × Int × q_J), q ≤ vP V + 1 → J q x.1 x.2.1 → q_r 50 133 [vR 36, vI s, vI j, vI (j / 8), vI (j % 8), vI (U 49 (128 * s + j)), vI (vLt V (j / 8) (j % 8)), vI x.2.1, vI m, vI q, vJ x.2.2] [] x.1 Q Z := by
      refine n_for (vP V + 1) (fun (q : Int) (x : q_S × Int × q_J) => J q x.1 x.2.1) (fun (q : Int) (x : q_S × Int × q_J) => q_r 50 133 [vR 36, vI s, vI j, vI (j / 8), vI (j % 8), vI (U 49 (128 * s + j)), vI (vLt V (j / 8) (j % 8)), vI x.2.1, vI m, vI q, vJ x.2.2] [] x.1 Q Z) ?_ ?_
      · rintro ⟨W, a, k⟩ ⟨-, hW, tW, gW, cW⟩
        simp only at hW tW gW cW ⊢
        have ab := k_tr_b tW
        refine b_50_133 ?_
        rw [(k_F_fr hW.1 hF).1.1]
        exact ⟨fun _ => ⟨⟨by omega, by omega⟩, h a W hW tW fun _ => ⟨goal1 W gW, fun q q1 q2 e t st => cW q q1 (by omega) e t ((bm t).mpr st)⟩⟩, fun g => by omega⟩
      · rintro q ⟨W, a, k⟩ ⟨q1, hW, tW, gW, cW⟩ ql ih
        simp only at hW tW gW cW ⊢
        have ab := k_tr_b tW
        have rg : q_rg (q + 1) := by unfold q_rg; omega
        refine b_50_133 ?_
        rw [(k_F_fr hW.1 hF).1.1, (k_F_fr hW.1 hF).1.2.2.1 q q1 (by omega)]
        refine ⟨fun g => by omega, fun _ => ⟨fun g => by omega, fun _ => ⟨by omega, by omega, fun ne => ?_, fun eq => ⟨by unfold q_rg; omega, m_49 hV hB hW hs ⟨by omega, by omega⟩ sm (fun t r => ?_) fun a2 W2 hI2 tr2 tg2 => ?_⟩⟩⟩⟩
        · have nx : ∀ jj : q_J, q_r 50 133 [vR 36, vI s, vI j, vI (j / 8), vI (j % 8), vI (U 49 (128 * s + j)), vI (vLt V (j / 8) (j % 8)), vI a, vI m, vI (q + 1), vJ jj] [] W Q Z := fun jj => ih (W, a, jj) ⟨by omega, hW, tW, gW, fun q' x y e t r => by
            by_cases e2 : q' = q
            · rw [e2] at e; exact absurd e ne
            · exact cW q' x (by omega) e t r⟩
          rcases ab with rfl | rfl
          · exact ⟨fun g => absurd rfl g, fun _ => ⟨fun _ => ⟨rg, nx _⟩, fun g => absurd rfl g⟩⟩
          · exact ⟨fun _ => ⟨rg, nx _⟩, fun g => absurd (by decide) g⟩
        · have e2 : vLf V q = vLt V (j / 8) (j % 8) := by
            by_cases e : vLf V q = vLt V (j / 8) (j % 8)
            · exact e
            · exact absurd e eq
          unfold k_M
          rw [show (128 * s + 8 * q) / 128 = s by omega, show (128 * s + 8 * q) % 128 / 8 = q by omega, show (128 * s + 8 * q) % 8 = 0 by omega]
          refine x_Ah_c hsc q1 (by omega) e2 ?_
          rcases (bm t).mp r with r | ⟨r1, r2⟩
          · exact Or.inl r
          · unfold k_H at r2
            rw [ej] at r2
            exact Or.inr ⟨r1, la t r2⟩
        · have nx : ∀ (b : Int) (jj : q_J), k_tr U W2 b → q_r 50 133 [vR 36, vI s, vI j, vI (j / 8), vI (j % 8), vI (U 49 (128 * s + j)), vI (vLt V (j / 8) (j % 8)), vI b, vI m, vI (q + 1), vJ jj] [] W2 Q Z := fun b jj hb => ih (W2, b, jj) ⟨by omega, hI2, hb, x_gN_t gW tr2.1, fun q' x y e t r => by
            by_cases e2 : q' = q
            · unfold k_H
              rw [e2, show 8 * q + 0 = 8 * q by omega]
              exact tg2 t r
            · exact tr2.1 _ (by omega) (by omega) t (cW q' x (by omega) e t r)⟩
          have a2b := k_tr_b tr2
          rcases ab with rfl | rfl
          · have t02 := k_tr_0 tW tr2
            rcases a2b with rfl | rfl
            · exact ⟨fun _ => ⟨fun g => absurd rfl g, fun _ => ⟨fun _ => ⟨rg, nx 0 _ t02⟩, fun g => absurd rfl g⟩⟩, fun g => absurd rfl g⟩
            · exact ⟨fun g => by omega, fun _ => ⟨fun g => absurd rfl g, fun _ => ⟨fun g => by omega, fun _ => ⟨rg, nx 1 _ t02⟩⟩⟩⟩
          · have t12 := k_tr_1 tW tr2
            exact ⟨fun _ => ⟨fun _ => ⟨rg, nx 1 _ t12⟩, fun g => absurd (by decide) g⟩, fun _ => ⟨fun _ => ⟨rg, nx 1 _ t12⟩, fun g => absurd (by decide) g⟩⟩
    exact key 1 (W1, a1, jj) (by omega) ⟨by omega, hI1, tr1, x_gN_r, fun q' a b => by omega⟩
  have hF1 := k_F_fr hI1.1 hF
  have ms := hF1.2.2.2.2
  refine ⟨fun g8 => b_50_133 ?_, fun g8 => ⟨by unfold q_rg; omega, m_47 hF1.1 hV (fun n n0 n1 => (ms n n0 n1).2.1.1) va.1 ⟨by omega, by omega⟩ fun m sm bm => ⟨by unfold q_rg; omega, m_46 hF1.1 hV va.1 ⟨by omega, by omega⟩ ?_⟩⟩⟩
  · rw [hF1.1.1]
    exact ⟨fun g => by omega, fun _ => ⟨fun _ => ⟨⟨by omega, by omega⟩, h a1 W1 hI1 tr1 fun _ => ⟨goal1 W1 x_gN_r, fun q q1 q2 e => by have := hV.2.2.2 q q1 q2; omega⟩⟩, fun g => absurd g8 g⟩⟩
  have n45 : ∀ n, 0 ≤ n → n < 8 → v_b01 (x_nu V n) (W1 45 n) := fun n n0 n1 => (ms n n0 n1).1
  have bm' : ∀ t : Nat, n_bit m t = true ↔ x_rp V (x_nu V) (x_Fi V) (j / 8) (j % 8 + 1) t := fun t => by
    rw [bm t]
    constructor
    · intro q
      exact x_rp_m (fun n t n0 n1 q => ((ms n n0 n1).2.1.2 t).mp q) hV va.1 (by omega) (x_rp_n hV (fun y y0 _ q => (k_45_e hV n45 y y0).mp q) va.1 (by omega) q)
    · intro q
      exact x_rp_m (fun n t n0 n1 q => ((ms n n0 n1).2.1.2 t).mpr q) hV va.1 (by omega) (x_rp_n hV (fun y y0 _ q => (k_45_e hV n45 y y0).mpr q) va.1 (by omega) q)
  have nrw : x_nr V (k_45 W1) (j / 8) (j % 8 + 1) ↔ x_nr V (x_nu V) (j / 8) (j % 8 + 1) := ⟨x_nr_n hV (fun y y0 _ q => (k_45_e hV n45 y y0).mp q) va.1 (by omega), x_nr_n hV (fun y y0 _ q => (k_45_e hV n45 y y0).mpr q) va.1 (by omega)⟩
  rintro x (⟨hx, rfl⟩ | ⟨hx, rfl⟩)
  · refine ⟨fun g => by omega, fun _ => loop _ _ (by omega) (n_or_sm sm sa) fun t => ?_⟩
    rw [n_bit_or sm sa, Bool.or_eq_true, bm' t]
    unfold x_st2 k_H
    rw [ej]
    exact ⟨fun q => q.elim Or.inl (fun q => Or.inr ⟨nrw.mp hx, q⟩), fun q => q.elim Or.inl (fun q => Or.inr q.2)⟩
  · refine ⟨fun _ => loop _ _ (by omega) (n_or_sm sm n_sm0) fun t => ?_, fun g => absurd rfl g⟩
    rw [n_bit_or sm n_sm0, n_bit0, Bool.or_false, bm' t]
    exact ⟨Or.inl, fun q => q.elim id (fun q => absurd (nrw.mpr q.1) hx)⟩
def k_am (S : q_S) (V : v_V) : Prop := ∀ i, 0 ≤ i → i < 5120 → n_sm (S 49 i) ∧ ∀ t : Nat, n_bit (S 49 i) t = true ↔ k_M V i t
theorem m_51 (hV : v_gw V) (hB : x_B V (16 * vSt V)) (hF : k_F S V) (h : ∀ S', n_fr [49] [] S S' → k_am S' V → Q 0 S') : q_c 51 [vR 36] S Q Z := by
  have hP := hV.1
  have b1 := hB.1
  refine b_51_0 ?_
  have fin : ∀ U, k_bI S V U → k_H U 0 0 0 8 → (∀ s p d, x_sc V s p d → k_mi V U U s p d) → Q 0 U := fun U hI h0 hc => h U hI.1 fun i i0 i1 => by
    refine ⟨(hI.2 i i0 (by omega)).1, fun t => ⟨(hI.2 i i0 (by omega)).2 t, fun q => ?_⟩⟩
    have := q (fun s p d t => k_H U s p d t) h0 (fun s p d t hs q => (hc s p d hs).1 t q) (fun s p d r t hs r1 r2 e q => (hc s p d hs).2 r r1 r2 e t q)
    unfold k_H at this
    rwa [show 128 * (i / 128) + (8 * (i % 128 / 8) + i % 8) = i by omega] at this
  have key : ∀ x : q_S × Int × q_J × q_J × q_J, (k_bI S V x.1 ∧ k_H x.1 0 0 0 8 ∧ ((x.2.1 = 0 ∧ ∀ s p d, x_sc V s p d → k_mi V x.1 x.1 s p d) ∨ x.2.1 = 1)) → q_r 51 33 [vR 36, vI x.2.1, vJ x.2.2.1, vJ x.2.2.2.1, vJ x.2.2.2.2] [] x.1 Q Z := by
    refine n_wf (fun x : q_S × Int × q_J × q_J × q_J => 2 * (46080 - x_cn 5120 9 (x.1 49)) + x.2.1.toNat) (fun x : q_S × Int × q_J × q_J × q_J => k_bI S V x.1 ∧ k_H x.1 0 0 0 8 ∧ ((x.2.1 = 0 ∧ ∀ s p d, x_sc V s p d → k_mi V x.1 x.1 s p d) ∨ x.2.1 = 1)) (fun x : q_S × Int × q_J × q_J × q_J => q_r 51 33 [vR 36, vI x.2.1, vJ x.2.2.1, vJ x.2.2.2.1, vJ x.2.2.2.2] [] x.1 Q Z) ?_
    rintro ⟨U, mo, j2, j3, j4⟩ ⟨hI, h0, hc⟩ ih
    simp only at hI h0 hc ih ⊢
    refine b_51_33 ⟨fun g => fin U hI h0 ?_, fun g => ?_⟩
    · rcases hc with ⟨-, hc⟩ | hc
      · exact hc
      · omega
    have hmo : mo = 1 := by
      rcases hc with ⟨hc, -⟩ | hc
      · exact absurd hc g
      · exact hc
    subst hmo
    let J : Int → Int → q_S → Int → Prop := fun s j W a => 0 ≤ s ∧ k_bI S V W ∧ k_tr U W a ∧ ∀ s' p' d', x_sc V s' p' d' → (s' < s ∨ s' = s ∧ 8 * p' + d' < j) → k_mi V U W s' p' d'
    have mid : ∀ (s : Int) (x : q_S × Int × q_J × q_J), s ≤ vSt V → J s 0 x.1 x.2.1 → q_r 51 41 [vR 36, vI x.2.1, vI s, vJ x.2.2.1, vJ x.2.2.2] [] x.1 Q Z := by
      refine n_for (vSt V) (fun (s : Int) (x : q_S × Int × q_J × q_J) => J s 0 x.1 x.2.1) (fun (s : Int) (x : q_S × Int × q_J × q_J) => q_r 51 41 [vR 36, vI x.2.1, vI s, vJ x.2.2.1, vJ x.2.2.2] [] x.1 Q Z) ?_ ?_
      · rintro ⟨W, a, k3, k4⟩ ⟨-, hW, tW, cW⟩
        simp only at hW tW cW ⊢
        have w0 : k_H W 0 0 0 8 := tW.1 _ (by omega) (by omega) 8 h0
        refine b_51_41 ?_
        rw [(k_F_fr hW.1 hF).2.2.1]
        refine ⟨fun _ => ?_, fun g => by omega⟩
        rcases tW.2 with ⟨rfl, same⟩ | ⟨rfl, lt⟩
        · refine ih (W, 0, .inl (vSt V), k3, k4) ⟨hW, w0, Or.inl ⟨rfl, fun s p d hs => ?_⟩⟩ (by simp only; have := x_cn_e (N := 5120) (T := 9) (by decide) same; omega)
          have c := cW s p d hs (Or.inl hs.1.2)
          have va := x_sc_v hB hs
          have vap := va.1
          have vad := va.2
          have z2 := hV.2.1 p va.1.1 va.1.2
          have hs1 := hs.1
          have e := same (128 * s + (8 * p + d)) (by omega) (by omega)
          refine ⟨fun t q => c.1 t ?_, fun q q1 q2 e2 t st => c.2 q q1 q2 e2 t ?_⟩
          · unfold k_H at q ⊢
            rw [← e]; exact q
          · rcases st with st | ⟨st1, st2⟩
            · exact Or.inl st
            · refine Or.inr ⟨st1, ?_⟩
              unfold k_H at st2 ⊢
              rw [← e]; exact st2
        · have := x_cn_le (N := 5120) (T := 9) (M := W 49)
          exact ih (W, 1, .inl (vSt V), k3, k4) ⟨hW, w0, Or.inr rfl⟩ (by simp only; omega)
      · rintro s ⟨W, a, k3, k4⟩ ⟨s0, hW, tW, cW⟩ sl ih2
        simp only at hW tW cW ⊢
        refine b_51_41 ?_
        rw [(k_F_fr hW.1 hF).2.2.1]
        refine ⟨fun g => by omega, fun _ => ?_⟩
        have inner : ∀ (j : Int) (x : q_S × Int × q_J), j ≤ 128 → (0 ≤ j ∧ J s j x.1 x.2.1) → q_r 51 51 [vR 36, vI x.2.1, vI s, vI j, vJ x.2.2] [] x.1 Q Z := by
          refine n_for 128 (fun (j : Int) (x : q_S × Int × q_J) => 0 ≤ j ∧ J s j x.1 x.2.1) (fun (j : Int) (x : q_S × Int × q_J) => q_r 51 51 [vR 36, vI x.2.1, vI s, vI j, vJ x.2.2] [] x.1 Q Z) ?_ ?_
          · rintro ⟨X, b, k⟩ ⟨-, -, hX, tX, cX⟩
            simp only at hX tX cX ⊢
            refine b_51_51 ⟨fun _ => ⟨by unfold q_rg; omega, ih2 (X, b, .inl 128, k) ⟨by omega, hX, tX, fun s' p' d' hs' e => cX s' p' d' hs' ?_⟩⟩, fun g => by omega⟩
            have va := x_sc_v hB hs'
            have vap := va.1
            have vad := va.2
            have z2 := hV.2.1 p' va.1.1 va.1.2
            omega
          · rintro j ⟨X, b, k⟩ ⟨j0, -, hX, tX, cX⟩ jl ih3
            simp only at hX tX cX ⊢
            have rg : q_rg (j + 1) := by unfold q_rg; omega
            refine b_51_51 ⟨fun g => by omega, fun _ => m_50 hV hB hF hX ⟨s0, sl⟩ ⟨j0, jl⟩ fun c X' hX' tX' cX' => ?_⟩
            have nx : ∀ (e : Int) (jj : q_J), k_tr U X' e → q_r 51 51 [vR 36, vI e, vI s, vI (j + 1), vJ jj] [] X' Q Z := fun e jj he => ih3 (X', e, jj) ⟨by omega, s0, hX', he, fun s' p' d' hs' e2 => by
              have va := x_sc_v hB hs'
              have vap := va.1
              have vad := va.2
              have z2 := hV.2.1 p' va.1.1 va.1.2
              have hs1 := hs'.1
              have hgo := x_sc_g hV hB hs'
              have hd := hs'.2.2
              by_cases e3 : s' = s ∧ 8 * p' + d' = j
              · obtain ⟨e4, e5⟩ := e3
                have e6 : j / 8 = p' := by omega
                have e7 : j % 8 = d' := by omega
                rw [e6, e7] at cX'
                rw [e4] at hs' ⊢
                have c1 := cX' hs'
                refine ⟨fun t q => c1.1 t (tX.1 _ (by omega) (by omega) t q), fun q q1 q2 e8 t st => c1.2 q q1 q2 e8 t ?_⟩
                rcases st with st | ⟨st1, st2⟩
                · exact Or.inl st
                · exact Or.inr ⟨st1, tX.1 _ (by omega) (by omega) t st2⟩
              · have c1 := cX s' p' d' hs' (by omega)
                exact ⟨fun t q => tX'.1 _ (by omega) (by omega) t (c1.1 t q), fun q q1 q2 e8 t st => tX'.1 _ (by omega) (by omega) t (c1.2 q q1 q2 e8 t st)⟩⟩
            have bb := k_tr_b tX
            have cb := k_tr_b tX'
            rcases bb with rfl | rfl
            · have t0 := k_tr_0 tX tX'
              rcases cb with rfl | rfl
              · exact ⟨fun g => absurd rfl g, fun _ => ⟨fun _ => ⟨rg, nx 0 _ t0⟩, fun g => absurd rfl g⟩⟩
              · exact ⟨fun g => absurd rfl g, fun _ => ⟨fun g => by omega, fun _ => ⟨rg, nx 1 _ t0⟩⟩⟩
            · exact ⟨fun _ => ⟨rg, nx 1 _ (k_tr_1 tX tX')⟩, fun g => absurd (by decide) g⟩
        exact inner 0 (W, a, k4) (by omega) ⟨by omega, s0, hW, tW, cW⟩
    exact mid 0 (U, 0, j3, j4) (by omega) ⟨by omega, hI, k_tr_r, fun s' p' d' hs' e => by
      have va := x_sc_v hB hs'
      have vap := va.1
      have vad := va.2
      have hs1 := hs'.1
      omega⟩
  have ini : ∀ (i : Int) (U : q_S), i ≤ 5120 → (0 ≤ i ∧ n_fr [49] [] S U ∧ ∀ k, 0 ≤ k → k < i → U 49 k = 0) → q_r 51 2 [vR 36, vI i, vU, vU, vU] [] U Q Z := by
    refine n_for 5120 (fun (i : Int) (U : q_S) => 0 ≤ i ∧ n_fr [49] [] S U ∧ ∀ k, 0 ≤ k → k < i → U 49 k = 0) (fun (i : Int) (U : q_S) => q_r 51 2 [vR 36, vI i, vU, vU, vU] [] U Q Z) ?_ ?_
    · rintro U ⟨-, fr, hz⟩
      refine b_51_2 ⟨fun _ => ⟨by omega, by omega, key (q_up U 49 0 256, 1, .inr (.inr ()), .inr (.inr ()), .inr (.inr ())) ⟨⟨n_fr_k fr (by decide), fun n n0 n1 => ?_⟩, ?_, Or.inr rfl⟩⟩, fun g => by omega⟩
      · simp only
        rw [n_fr_same]
        by_cases e : n = 0
        · rw [if_pos e, e]
          refine ⟨⟨by decide, by decide⟩, fun t q => ?_⟩
          rw [(n_bit_256 t).mp q]
          exact x_Ah_0
        · rw [if_neg e, hz n n0 (by omega)]
          exact ⟨n_sm0, fun t q => by rw [n_bit0] at q; cases q⟩
      · simp only
        unfold k_H
        rw [n_fr_same, if_pos (by omega)]
        exact (n_bit_256 8).mpr rfl
    · rintro i U ⟨i0, fr, hz⟩ il ih
      refine b_51_2 ⟨fun g => by omega, fun _ => ⟨by omega, by omega, by unfold q_rg; omega, ih _ ⟨by omega, n_fr_k fr (by decide), fun k k0 k1 => ?_⟩⟩⟩
      rw [n_fr_same]
      by_cases e : k = i
      · rw [if_pos e]
      · rw [if_neg e]; exact hz k k0 (by omega)
  exact ini 0 S (by omega) ⟨by omega, n_fr_r, fun k a b => by omega⟩
end AheadM
