/-! the class finds what may stand behind -/
theorem x_cn_lt {N T : Nat} {M M' : Int → Int} {n : Int} {t : Nat} (hg : x_gN N M M') (hn : 0 ≤ n ∧ n < N) (ht : t < T) (h1 : n_bit (M' n) t = true) (h2 : n_bit (M n) t = false) : x_cn N T M < x_cn N T M' := by
  have ix := x_ix (n := n) (t := t) (T := T) (by omega) (by omega) (by omega)
  have ib := x_ixb (n := n) (t := t) (T := T) (N := N) (by omega) (by omega) hn.1 hn.2
  refine n_ct_lt _ (fun e e0 e1 h => ?_) ⟨(t : Int) + T * n, ⟨ib.1, by rw [Int.natCast_mul]; exact ib.2⟩, ?_, ?_⟩
  · have := x_ixr (N := N) (T := T) (e := e) (by omega) e0 (by rw [← Int.natCast_mul]; exact e1)
    exact hg _ this.1 this.2 _ h
  · rw [ix.1, ix.2, Int.toNat_natCast]; exact h1
  · rw [ix.1, ix.2, Int.toNat_natCast, h2]; decide
def k_L (V : v_V) (i : Int) (t : Nat) : Prop := x_Ah V (i / 80) (i % 80 / 5) (i % 5) t
theorem k_ix {s p d : Int} (hp : 0 ≤ p ∧ p ≤ 15) (hd : 0 ≤ d ∧ d ≤ 4) : (s * 80 + p * 5 + d) / 80 = s ∧ (s * 80 + p * 5 + d) % 80 / 5 = p ∧ (s * 80 + p * 5 + d) % 5 = d := by omega
def k_K (U : q_S) (s p d : Int) (t : Nat) : Prop := n_bit (U 22 (s * 80 + p * 5 + d)) t = true
def k_aI (S : q_S) (V : v_V) (U : q_S) : Prop := n_fr [22] [(21, 4)] S U ∧ x_sN 3200 (k_L V) (U 22) ∧ w_sm (U 21 4) ∧ ∀ j : Nat, n_bit (U 21 4) j = true → (j : Int) < vSt V
def k_gw (V : v_V) (U W : q_S) : Prop := x_gN 3200 (U 22) (W 22) ∧ (∀ j : Nat, n_bit (U 21 4) j = true → n_bit (W 21 4) j = true) ∧ (∀ s p d, 0 ≤ s → s < vSt V → 0 ≤ p → p ≤ 15 → 0 ≤ d → d ≤ 4 → n_bit (W 21 4) s.toNat = false → W 22 (s * 80 + p * 5 + d) = U 22 (s * 80 + p * 5 + d)) ∧ (W = U ∨ x_cn 3200 9 (U 22) < x_cn 3200 9 (W 22))
def k_ci (V : v_V) (U W : q_S) (s p d : Int) : Prop := (∀ t, k_K U s p d t → k_K W (vGo V s (vLt V p d)) p (d + 1) t) ∧ ∀ q, 1 ≤ q → q ≤ vP V → vLf V q = vLt V p d → ∀ t, x_st2 V (k_K U) s p d t → k_K W s q 0 t
def k_E (S : q_S) (V : v_V) : Prop := v_gc S V ∧ k_fo S V ∧ k_dt S V ∧ S 16 0 = vSt V ∧ k_gl S V (16 * vSt V) ∧ k_nu S V ∧ k_rf S V
section AheadC
variable {S U W X : q_S} {V : v_V} {Q : q_Q} {Z : q_Z}
theorem k_E_fr {T : q_S} (h : n_fr [22] [(21, 4)] S T) (hg : k_E S V) : k_E T V := by
  obtain ⟨h1, h2, h3, h4, h5, h6, h7⟩ := hg
  refine ⟨v_gc_fr h (by decide) h1, k_fo_fr h (by decide) h2, k_dt_fr h (by decide) h3, (congrFun (n_fr_c h (by decide)) 0).trans h4, ?_, k_nu_fr h (by decide) h6, k_rf_fr h (by decide) h7⟩
  unfold k_gl
  rw [n_fr_c h (by decide)]
  exact h5
theorem k_gw_r : k_gw V U U := ⟨x_gN_r, fun _ h => h, fun _ _ _ _ _ _ _ _ _ _ => rfl, Or.inl rfl⟩
theorem k_gw_t (h : k_gw V U W) (h' : k_gw V W X) : k_gw V U X := by
  obtain ⟨a1, a2, a3, a4⟩ := h
  obtain ⟨b1, b2, b3, b4⟩ := h'
  refine ⟨x_gN_t a1 b1, fun j q => b2 j (a2 j q), fun s p d s0 s1 p0 p1 d0 d1 q => ?_, ?_⟩
  · have : n_bit (W 21 4) s.toNat = false := by
      cases e : n_bit (W 21 4) s.toNat with
      | false => rfl
      | true => rw [b2 _ e] at q; cases q
    exact (b3 s p d s0 s1 p0 p1 d0 d1 q).trans (a3 s p d s0 s1 p0 p1 d0 d1 this)
  · rcases a4 with rfl | a4
    · exact b4
    · rcases b4 with rfl | b4
      · exact Or.inr a4
      · exact Or.inr (by omega)
theorem c_85 {s p d m : Int} (hV : v_gw V) (hB : x_B V (16 * vSt V)) (hI : k_aI S V U) (hs : 0 ≤ s ∧ s < vSt V) (hp : 0 ≤ p ∧ p ≤ vP V) (hd : 0 ≤ d ∧ d ≤ 4) (hm : n_sm m) (hl : ∀ t : Nat, n_bit m t = true → x_Ah V s p d t) (h : ∀ W, k_aI S V W → k_gw V U W → (∀ t : Nat, n_bit m t = true → k_K W s p d t) → Q 0 W) : q_c 85 [vR 21, vI s, vI p, vI d, vI m] U Q Z := by
  have hP := hV.1
  have b1 := hB.1
  obtain ⟨i1, i2, i3, i4⟩ := hI
  have ix := k_ix (s := s) (p := p) (d := d) ⟨hp.1, by omega⟩ hd
  have so := (i2 (s * 80 + p * 5 + d) (by omega) (by omega)).1
  obtain ⟨n1, n2⟩ := n_andn hm so
  have ez := n_zero n1
  refine b_85_0 ⟨by unfold q_rg; omega, by unfold q_rg; omega, by unfold q_rg; omega, by unfold q_rg; omega, by omega, by omega, fun g => h U ⟨i1, i2, i3, i4⟩ k_gw_r fun t q => ?_, fun g => ⟨by omega, by omega, by omega, by omega, ?_⟩⟩
  · have := ez.mp g t
    rw [n2, q, Bool.true_and] at this
    cases e : n_bit (U 22 (s * 80 + p * 5 + d)) t with
    | true => exact e
    | false => rw [e] at this; cases this
  have ex : ∃ t : Nat, n_bit m t = true ∧ n_bit (U 22 (s * 80 + p * 5 + d)) t = false := by
    by_cases e : ∃ t : Nat, n_bit m t = true ∧ n_bit (U 22 (s * 80 + p * 5 + d)) t = false
    · exact e
    · refine absurd (ez.mpr fun t => ?_) g
      rw [n2]
      cases e1 : n_bit m t with
      | false => rfl
      | true =>
        cases e2 : n_bit (U 22 (s * 80 + p * 5 + d)) t with
        | true => rfl
        | false => exact absurd ⟨t, e1, e2⟩ e
  have sh := w_shl1_sm hs.1 (show s < 63 by omega)
  have e22 : ∀ i, q_up (q_up U 22 (s * 80 + p * 5 + d) (q_or (U 22 (s * 80 + p * 5 + d)) m)) 21 4 (q_wor (U 21 4) (q_wshl 1 s)) 22 i = if i = s * 80 + p * 5 + d then q_or (U 22 (s * 80 + p * 5 + d)) m else U 22 i := fun i => by
    rw [q_up_ne (by decide), n_fr_same]
  have e21 : q_up (q_up U 22 (s * 80 + p * 5 + d) (q_or (U 22 (s * 80 + p * 5 + d)) m)) 21 4 (q_wor (U 21 4) (q_wshl 1 s)) 21 4 = q_wor (U 21 4) (q_wshl 1 s) := n_up1 _ _ _ _
  have bo : ∀ t : Nat, n_bit (q_or (U 22 (s * 80 + p * 5 + d)) m) t = true ↔ (n_bit (U 22 (s * 80 + p * 5 + d)) t = true ∨ n_bit m t = true) := fun t => by rw [n_bit_or so hm, Bool.or_eq_true]
  have gN : x_gN 3200 (U 22) (q_up (q_up U 22 (s * 80 + p * 5 + d) (q_or (U 22 (s * 80 + p * 5 + d)) m)) 21 4 (q_wor (U 21 4) (q_wshl 1 s)) 22) := fun i i0 i1 t q => by
    rw [e22]
    by_cases e : i = s * 80 + p * 5 + d
    · rw [if_pos e, bo t]; rw [e] at q; exact Or.inl q
    · rw [if_neg e]; exact q
  have bs : ∀ j : Nat, n_bit (q_wor (U 21 4) (q_wshl 1 s)) j = true ↔ (n_bit (U 21 4) j = true ∨ s = j) := fun j => by rw [w_bit_or i3 sh, w_bit_shl1 hs.1 (by omega), Bool.or_eq_true, decide_eq_true_eq]
  refine h _ ⟨n_fr_i (n_fr_k i1 (by decide)) (by decide), fun i i0 i1 => ?_, by rw [e21]; exact w_or_sm i3 sh, fun j q => ?_⟩ ⟨gN, fun j q => ?_, fun s' p' d' s0 s1 p0 p1 d0 d1 q => ?_, Or.inr ?_⟩ (fun t q => ?_)
  · rw [e22]
    by_cases e : i = s * 80 + p * 5 + d
    · rw [if_pos e, e]
      refine ⟨n_or_sm so hm, fun t q => ?_⟩
      rcases (bo t).mp q with q | q
      · exact (i2 _ (by omega) (by omega)).2 t q
      · unfold k_L
        rw [ix.1, ix.2.1, ix.2.2]
        exact hl t q
    · rw [if_neg e]; exact i2 i i0 i1
  · rw [e21] at q
    rcases (bs j).mp q with q | q
    · exact i4 j q
    · omega
  · rw [e21]; exact (bs j).mpr (Or.inl q)
  · rw [e21] at q
    have : s' ≠ s := fun e => by
      rw [(bs s'.toNat).mpr (Or.inr (by omega))] at q
      cases q
    rw [e22, if_neg (by omega)]
  · obtain ⟨t, t1, t2⟩ := ex
    refine x_cn_lt gN (n := s * 80 + p * 5 + d) (t := t) ⟨by omega, by omega⟩ (x_Ah_r hV hB (hl t t1)).2 ?_ t2
    rw [e22, if_pos rfl]
    exact (bo t).mpr (Or.inr t1)
  · unfold k_K
    rw [e22, if_pos rfl]
    exact (bo t).mpr (Or.inr q)
theorem c_84 {s p d : Int} (hV : v_gw V) (hB : x_B V (16 * vSt V)) (hE : k_E S V) (hI : k_aI S V U) (hs : x_sc V s p d) (h : ∀ W, k_aI S V W → k_gw V U W → k_ci V U W s p d → Q 0 W) : q_c 84 [vR 21, vI s, vI p, vI d] U Q Z := by
  have hP := hV.1
  have b1 := hB.1
  have va := x_sc_v hB hs
  have vap := va.1
  have vad := va.2
  have z2 := hV.2.1 p va.1.1 va.1.2
  have z3 := hV.2.2.1 p d va.1.1 va.1.2 va.2.1 hs.2.2
  have hs1 := hs.1
  have hd := hs.2.2
  have hEU := k_E_fr hI.1 hE
  have hg := x_sc_g hV hB hs
  have ix := k_ix (s := s) (p := p) (d := d) ⟨va.1.1, by omega⟩ ⟨va.2.1, by omega⟩
  have sa := (hI.2.1 (s * 80 + p * 5 + d) (by omega) (by omega)).1
  have la : ∀ t : Nat, n_bit (U 22 (s * 80 + p * 5 + d)) t = true → x_Ah V s p d t := fun t q => by
    have := (hI.2.1 (s * 80 + p * 5 + d) (by omega) (by omega)).2 t q
    unfold k_L at this
    rwa [ix.1, ix.2.1, ix.2.2] at this
  refine b_84_0 (b_82_0 ⟨by unfold q_rg; omega, by unfold q_rg; omega, by unfold q_rg; omega, by unfold q_rg; omega, by omega, by omega, k_105 hEU.1 hV va.1 ⟨va.2.1, hs.2.2⟩ (b_142_0 ⟨by unfold q_rg; omega, by unfold q_rg; omega, by omega, by omega, ?_⟩)⟩)
  rw [hEU.2.2.2.2.1 s (vLt V p d) hs1.1 hs1.2 z3.1 (by omega) (by omega)]
  refine ⟨fun g => by omega, fun _ => ⟨by unfold q_rg; omega, c_85 hV hB hI hg va.1 ⟨by omega, by omega⟩ sa (fun t q => x_Ah_g hs (la t q)) fun W1 hI1 gw1 tg1 => ⟨fun g8 => h W1 hI1 gw1 ⟨tg1, fun q q1 q2 e => ?_⟩, fun g8 => ⟨by unfold q_rg; omega, ?_⟩⟩⟩⟩
  · have := hV.2.2.2 q q1 q2
    omega
  have hE1 := k_E_fr hI1.1 hE
  refine c_134 hE1.1 hV hE1.2.2.2.2.2.1 hE1.2.2.2.2.2.2 va.1 ⟨by omega, by omega⟩ sa fun b sb bb => ⟨by omega, by omega, ?_⟩
  obtain ⟨f1, f2⟩ := hE.2.1 (vLt V p d) p d z3.1 (by omega) va.1.1 va.1.2 va.2.1 hs.2.2 rfl
  have e6 : ∀ W, k_aI S V W → W 6 = S 6 ∧ W 7 = S 7 := fun W hW => ⟨n_fr_c hW.1 (by decide), n_fr_c hW.1 (by decide)⟩
  rw [(e6 W1 hI1).1]
  have key : ∀ (q : Int) (W : q_S), q ≤ S 7 (vLt V p d) + 1 → (S 6 (vLt V p d) ≤ q ∧ k_aI S V W ∧ k_gw V W1 W ∧ ∀ q', S 6 (vLt V p d) ≤ q' → q' < q → ∀ t : Nat, n_bit b t = true → k_K W s q' 0 t) → q_r 84 84 [vR 21, vI s, vI p, vI d, vI (U 22 (s * 80 + p * 5 + d)), vI (vLt V p d), vI (vGo V s (vLt V p d)), vI b, vI q] [] W Q Z := by
    refine n_for (S 7 (vLt V p d) + 1) (fun (q : Int) (W : q_S) => S 6 (vLt V p d) ≤ q ∧ k_aI S V W ∧ k_gw V W1 W ∧ ∀ q', S 6 (vLt V p d) ≤ q' → q' < q → ∀ t : Nat, n_bit b t = true → k_K W s q' 0 t) (fun (q : Int) (W : q_S) => q_r 84 84 [vR 21, vI s, vI p, vI d, vI (U 22 (s * 80 + p * 5 + d)), vI (vLt V p d), vI (vGo V s (vLt V p d)), vI b, vI q] [] W Q Z) ?_ ?_
    · rintro W ⟨-, hW, gW, tW⟩
      refine b_84_84 ?_
      rw [(e6 W hW).2]
      refine ⟨by omega, by omega, fun _ => h W hW (k_gw_t gw1 gW) ⟨fun t q => ?_, fun q q1 q2 e t st => ?_⟩, fun g => by omega⟩
      · have r := tg1 t q
        exact gW.1 _ (by omega) (by omega) t r
      · have := (f2 q q1 q2).mp e
        exact tW q this.1 (by omega) t ((bb t).mpr st)
    · rintro q W ⟨q0, hW, gW, tW⟩ ql ih
      refine b_84_84 ?_
      rw [(e6 W hW).2]
      have vq := (f2 q (by omega) (by omega)).mpr ⟨q0, by omega⟩
      refine ⟨by omega, by omega, fun g => by omega, fun _ => c_85 hV hB hW hs1 ⟨by omega, by omega⟩ ⟨by omega, by omega⟩ sb (fun t q2 => x_Ah_c hs (by omega) (by omega) vq ?_) fun W' hW' gW' tW' => ⟨by unfold q_rg; omega, ih W' ⟨by omega, hW', k_gw_t gW gW', fun q' a c t q2 => ?_⟩⟩⟩
      · rcases (bb t).mp q2 with r | ⟨r1, r2⟩
        · exact Or.inl r
        · exact Or.inr ⟨r1, la t r2⟩
      · by_cases e : q' = q
        · rw [e]; exact tW' t q2
        · exact gW'.1 _ (by omega) (by omega) t (tW q' a (by omega) t q2)
  exact key (S 6 (vLt V p d)) W1 (by omega) ⟨by omega, hI1, k_gw_r, fun q' a b => by omega⟩
def k_cz (V : v_V) (W : q_S) (s : Int) : Prop := ∀ p d, x_sc V s p d → k_ci V W W s p d
theorem k_ci_m (hV : v_gw V) (hB : x_B V (16 * vSt V)) {s p d : Int} (hs : x_sc V s p d) (hg : k_gw V W X) (h : k_ci V U W s p d) (he : X 22 (s * 80 + p * 5 + d) = U 22 (s * 80 + p * 5 + d)) : k_ci V X X s p d := by
  have hP := hV.1
  have b1 := hB.1
  have va := x_sc_v hB hs
  have vap := va.1
  have vad := va.2
  have z2 := hV.2.1 p va.1.1 va.1.2
  have hs1 := hs.1
  have hd := hs.2.2
  have hgo := x_sc_g hV hB hs
  refine ⟨fun t q => ?_, fun q q1 q2 e t st => ?_⟩
  · unfold k_K at q
    rw [he] at q
    exact hg.1 _ (by omega) (by omega) t (h.1 t q)
  · refine hg.1 _ (by omega) (by omega) t (h.2 q q1 q2 e t ?_)
    rcases st with st | ⟨st1, st2⟩
    · exact Or.inl st
    · unfold k_K at st2
      rw [he] at st2
      exact Or.inr ⟨st1, st2⟩
theorem k_cz_m (hV : v_gw V) (hB : x_B V (16 * vSt V)) {s : Int} (hs : 0 ≤ s ∧ s < vSt V) (hg : k_gw V W X) (hn : n_bit (X 21 4) s.toNat = false) (h : k_cz V W s) : k_cz V X s := fun p d hp => by
  have hP := hV.1
  have va := x_sc_v hB hp
  have vap := va.1
  have vad := va.2
  have z2 := hV.2.1 p va.1.1 va.1.2
  exact k_ci_m hV hB hp hg (h p d hp) (hg.2.2.1 s p d hs.1 hs.2 va.1.1 (by omega) va.2.1 (by omega) hn)
theorem c_83 {s : Int} (hV : v_gw V) (hB : x_B V (16 * vSt V)) (hE : k_E S V) (hI : k_aI S V U) (hs : 0 ≤ s ∧ s < vSt V) (h : ∀ W, k_aI S V W → k_gw V U W → (n_bit (W 21 4) s.toNat = false → k_cz V W s) → Q 0 W) : q_c 83 [vR 21, vI s] U Q Z := by
  have hP := hV.1
  have b1 := hB.1
  refine b_83_0 ?_
  let J : Int → Int → q_S → Prop := fun p d W => 0 ≤ p ∧ k_aI S V W ∧ k_gw V U W ∧ (n_bit (W 21 4) s.toNat = false → ∀ p' d', x_sc V s p' d' → (p' < p ∨ p' = p ∧ d' < d) → k_ci V W W s p' d')
  have outer : ∀ (p : Int) (x : q_S × q_J), p ≤ vP V + 1 → J p 0 x.1 → q_r 83 2 [vR 21, vI s, vI p, vJ x.2] [] x.1 Q Z := by
    refine n_for (vP V + 1) (fun (p : Int) (x : q_S × q_J) => J p 0 x.1) (fun (p : Int) (x : q_S × q_J) => q_r 83 2 [vR 21, vI s, vI p, vJ x.2] [] x.1 Q Z) ?_ ?_
    · rintro ⟨W, j⟩ ⟨-, hW, gW, cW⟩
      simp only at hW gW cW ⊢
      refine b_83_2 ?_
      rw [(k_E_fr hW.1 hE).1.1]
      refine ⟨fun _ => h W hW gW fun hn p d hp => cW hn p d hp (Or.inl ?_), fun g => by omega⟩
      have := (x_sc_v hB hp).1
      omega
    · rintro p ⟨W, j⟩ ⟨p0, hW, gW, cW⟩ pl ih
      simp only at hW gW cW ⊢
      have z2 := hV.2.1 p p0 (by omega)
      refine b_83_2 ?_
      rw [(k_E_fr hW.1 hE).1.1]
      refine ⟨fun g => by omega, fun _ => ?_⟩
      have inner : ∀ (d : Int) (X : q_S), d ≤ vSz V p → (0 ≤ d ∧ J p d X) → q_r 83 15 [vR 21, vI s, vI p, vI d] [] X Q Z := by
        refine n_for (vSz V p) (fun (d : Int) (X : q_S) => 0 ≤ d ∧ J p d X) (fun (d : Int) (X : q_S) => q_r 83 15 [vR 21, vI s, vI p, vI d] [] X Q Z) ?_ ?_
        · rintro X ⟨-, -, hX, gX, cX⟩
          refine b_83_15 ?_
          rw [(k_E_fr hX.1 hE).1.2.1 p p0 (by omega)]
          refine ⟨by omega, by omega, fun _ => ⟨by unfold q_rg; omega, ih (X, .inl (vSz V p)) ⟨by omega, hX, gX, fun hn p' d' hp' e => cX hn p' d' hp' ?_⟩⟩, fun g => by omega⟩
          rcases e with e | e
          · by_cases e2 : p' = p
            · refine Or.inr ⟨e2, ?_⟩
              have := hp'.2.2
              rwa [e2] at this
            · exact Or.inl (by omega)
          · have := (x_sc_v hB hp').2.1
            omega
        · rintro d X ⟨d0, -, hX, gX, cX⟩ dl ih2
          have hEX := k_E_fr hX.1 hE
          obtain ⟨t1, t2⟩ := hEX.2.2.1 s p hs.1 hs.2 p0 (by omega)
          have t3 := t2 d.toNat
          rw [show ((d.toNat : Nat) : Int) = d by omega] at t3
          refine b_83_15 ?_
          rw [hEX.1.2.1 p p0 (by omega)]
          refine ⟨by omega, by omega, fun g => by omega, fun _ => b_140_0 ?_⟩
          rw [n_shr1 t1 d0 (by omega)]
          refine ⟨by unfold q_rg; omega, by unfold q_rg; omega, by omega, by omega, fun g => ⟨⟨by omega, by omega⟩, ⟨fun _ => ⟨by unfold q_rg; omega, ih2 X ⟨by omega, p0, hX, gX, fun hn p' d' hp' e => ?_⟩⟩, fun g => absurd rfl g⟩⟩, fun g => ⟨⟨by omega, by omega⟩, ⟨fun g => by omega, fun _ => ?_⟩⟩⟩
          · by_cases e2 : p' = p ∧ d' = d
            · have q := hp'.2.1
              rw [e2.1, e2.2] at q
              rw [t3.mpr q] at g
              exact absurd g (by decide)
            · exact cX hn p' d' hp' (by omega)
          · have hsc : x_sc V s p d := ⟨hs, t3.mp (by
              cases e : n_bit (X 17 (s * 16 + p)) d.toNat with
              | true => rfl
              | false => rw [e] at g; exact absurd rfl g), dl⟩
            refine c_84 hV hB hE hX hsc fun X' hX' gX' cX' => ⟨by unfold q_rg; omega, ih2 X' ⟨by omega, p0, hX', k_gw_t gX gX', fun hn p' d' hp' e => ?_⟩⟩
            have va := x_sc_v hB hp'
            have vap := va.1
            have vad := va.2
            have z2' := hV.2.1 p' va.1.1 va.1.2
            have same := gX'.2.2.1 s p' d' hs.1 hs.2 va.1.1 (by omega) va.2.1 (by omega) hn
            by_cases e2 : p' = p ∧ d' = d
            · rw [e2.1, e2.2] at same ⊢
              exact k_ci_m hV hB hsc k_gw_r cX' same
            · have hn' : n_bit (X 21 4) s.toNat = false := by
                cases e3 : n_bit (X 21 4) s.toNat with
                | false => rfl
                | true => rw [gX'.2.1 _ e3] at hn; cases hn
              exact k_ci_m hV hB hp' gX' (cX hn' p' d' hp' (by omega)) same
      exact inner 0 W z2.1 ⟨by omega, p0, hW, gW, cW⟩
  exact outer 0 (U, _) (by omega) ⟨by omega, hI, k_gw_r, fun hn p' d' hp' e => by have := (x_sc_v hB hp').1; have := (x_sc_v hB hp').2.1; omega⟩
end AheadC
