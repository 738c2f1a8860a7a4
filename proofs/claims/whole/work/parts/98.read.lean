/-! the read pair -/
noncomputable def x_mk (f : Nat → Prop) : Int := @dite Int (∃ a : Int, (0 ≤ a ∧ a ≤ 511) ∧ ∀ t : Nat, n_bit a t = true ↔ f t) (Classical.propDecidable _) (fun h => Classical.choose h) (fun _ => 0)
theorem x_mk_r (f : Nat → Prop) : 0 ≤ x_mk f ∧ x_mk f ≤ 511 := by
  by_cases h : ∃ a : Int, (0 ≤ a ∧ a ≤ 511) ∧ ∀ t : Nat, n_bit a t = true ↔ f t
  · have e : x_mk f = Classical.choose h := dif_pos h
    rw [e]
    exact (Classical.choose_spec h).1
  · have e : x_mk f = 0 := dif_neg h
    rw [e]; omega
theorem x_mk_e {a : Int} {f : Nat → Prop} (ha : n_sm a) (hb : ∀ t : Nat, n_bit a t = true ↔ f t) (hf : ∀ t, f t → t < 9) : a = x_mk f := by
  have lt := Nat.lt_pow_two_of_testBit a.toNat (n := 9) (fun i hi => by
    cases e : a.toNat.testBit i with
    | false => rfl
    | true => have := hf i ((hb i).mp e); omega)
  have a0 := ha.1
  have h : ∃ a : Int, (0 ≤ a ∧ a ≤ 511) ∧ ∀ t : Nat, n_bit a t = true ↔ f t := ⟨a, by omega, hb⟩
  have e : x_mk f = Classical.choose h := dif_pos h
  have s := Classical.choose_spec h
  have s1 := s.1
  rw [e]
  refine n_ext ha ⟨s1.1, by omega⟩ fun i => ?_
  apply Bool.eq_iff_iff.mpr
  rw [hb i, s.2 i]
noncomputable def x_fv (G : q_S) (V : v_V) : v_V := fun k a b c => if k = 7 then x_ind (x_nu V a) else if k = 8 then x_mk (x_Fi V a) else if k = 9 then x_mk (x_Fo V a) else if k = 10 then x_mk (x_Ah V a b c) else if k = 11 then (if 0 ≤ G 6 a then 1 else 0) else V k a b c
section Read
variable {S U G : q_S} {V : v_V} {Q : q_Q} {Z : q_Z} {T : Int → Int} {L : Nat} {pl : Int}
theorem x_fv_w (hV : v_gw V) (hB : x_B V (16 * vSt V)) : v_wf (x_fv G V) ∧ v_wi (x_fv G V) ∧ v_px (x_fv G V) ∧ v_nn (x_fv G V) := by
  obtain ⟨p1, p2, p3⟩ := x_B_px hV hB
  refine ⟨⟨hV.1, hV.2.1, hV.2.2.1, hV.2.2.2, hB.1, p3, hB.2.1, fun n => x_mk_r _, fun s p d => x_mk_r _, fun n => x_mk_r _⟩, p2, p1, fun n => x_ind_r _⟩
theorem r_nor (hI : g_I G pl) (hm : G 0 0 = 0) (h : r_cb S G) : ∀ n, 0 ≤ n → n ≤ 7 → (S 6 n = 0 ↔ G 6 n < 0) := fun n n0 n1 => by
  obtain ⟨-, -, h3, h4, -, h6, h7, h8, h9⟩ := h
  obtain ⟨⟨i1, i2, i3⟩, i4, i5, -, -, -, -, -, i9, i10, -⟩ := hI
  rcases h6 n n0 n1 with ⟨o1, o2⟩ | ⟨o1, o2⟩
  · refine ⟨fun _ => ?_, fun _ => o1⟩
    by_cases e : 0 ≤ G 6 n
    · rcases i10 n n0 n1 e with ⟨p, p1, p2⟩ | ⟨q, -⟩
      · exact absurd p2 (o2 p p1)
      · omega
    · omega
  · refine ⟨fun q => by omega, fun q => ?_⟩
    have hp : g_pr G (S 6 n) := ⟨o1.1, by omega⟩
    have b := (i4 _ hp).2.1
    rw [(o2 _ hp).mpr ⟨by omega, o1.2.1⟩] at b
    omega
theorem r_kfo (hI : g_I G pl) (hm : G 0 0 = 0) (hP : 1 ≤ G 0 2) (h : r_cb S G) (hc : g_chk G 0 (-1)) : k_fo S (gr G) := by
  intro n p d n0 n1 p0 p1 d0 d1 e
  have h5 : u_5 G (-1) := by
    rcases hc with ⟨-, q, -⟩ | ⟨q, -⟩
    · omega
    · exact q
  have no5 : ∀ p i, ¬ g_b5 G p i := by
    rcases h5 with ⟨-, q⟩ | ⟨_, _, _, _, q, _⟩
    · exact q
    · omega
  rw [gr_P] at p1
  rw [gr_T] at e
  rw [gr_Z] at d1
  have h6 := h.2.2.2.2.2.1 n n0 n1
  have has : ∃ p, g_pr G p ∧ G 1 p = n := by
    by_cases e0 : p = 0
    · rw [if_pos e0] at e
      exact ⟨1, ⟨by omega, hP⟩, e⟩
    · rw [if_neg e0] at e d1
      have hl : g_le G p d := ⟨⟨by omega, p1⟩, d0, d1⟩
      have b : ¬ G 6 n < 0 := fun q => no5 p d ⟨hl, by omega, by rw [e]; exact q⟩
      rcases hI.2.2.2.2.2.2.2.2.2.1 n n0 n1 (by omega) with q | ⟨q, -⟩
      · exact q
      · omega
  obtain ⟨q, q1, q2⟩ := has
  rcases h6 with ⟨-, o2⟩ | ⟨o1, o2⟩
  · exact absurd q2 (o2 q q1)
  · exact ⟨by rw [gr_P]; exact o1, fun r r1 r2 => o2 r ⟨r1, by rw [gr_P] at r2; exact r2⟩⟩
theorem v_rc_i (hV : v_gw V) (hB : x_B V (16 * vSt V)) (h1 : v_gc S V) (h2 : S 16 0 = vSt V) (h3 : k_dt S V) (h4 : k_gl S V (16 * vSt V)) (h5 : k_nu S V) (h6 : k_fi S V) (h7 : k_fw S V) (h8 : k_ah S V) (h9 : ∀ n, 0 ≤ n → n ≤ 7 → (S 6 n = 0 ↔ G 6 n < 0)) : v_rc S (x_fv G V) := by
  have hP := hV.1
  have b1 := hB.1
  refine ⟨h1.1, h1.2.1, h1.2.2.1, h1.2.2.2, h2, fun s p s0 s1 p0 p1 => ?_, fun s y s0 s1 y0 y1 => ?_, ⟨h5.1, fun n hn => ?_⟩, fun n n0 n1 => ⟨?_, ?_⟩, fun s p s0 s1 p0 p1 => ?_, fun n n0 n1 => ?_⟩
  · obtain ⟨a1, a2⟩ := h3 s p s0 s1 p0 p1
    rw [Int.mul_comm s 16] at a1 a2
    refine ⟨a1, fun d _ => ?_⟩
    apply Bool.eq_iff_iff.mpr
    rw [decide_eq_true_eq]
    exact a2 d
  · have := h4 s y s0 s1 y0 y1 (by have : s < vSt V := s1; omega)
    rw [Int.mul_comm s 16] at this
    exact this
  · apply Bool.eq_iff_iff.mpr
    rw [decide_eq_true_eq, h5.2 n]
    exact (x_ind_1 _).symm
  · exact x_mk_e (h6 n n0 n1).1 (h6 n n0 n1).2 fun t q => by have := (x_Fi_r hV q).2; omega
  · exact x_mk_e (h7 n n0 n1).1 (h7 n n0 n1).2 fun t q => (x_Fo_r hV q).2
  · have s1' : s < vSt V := s1
    have p1' : p ≤ vP V := p1
    have z2 := hV.2.1 p p0 p1'
    show S 22 (80 * s + 5 * p + vSz V p) = x_mk (x_Ah V s p (vSz V p))
    have e : 80 * s + 5 * p + vSz V p = s * 80 + p * 5 + vSz V p := by omega
    rw [e]
    have ix := k_ix (s := s) (p := p) (d := vSz V p) ⟨p0, by omega⟩ z2
    obtain ⟨a1, a2⟩ := h8 (s * 80 + p * 5 + vSz V p) (by omega) (by omega)
    unfold k_L at a2
    rw [ix.1, ix.2.1, ix.2.2] at a2
    exact x_mk_e a1 a2 fun t q => (x_Ah_r hV hB q).2
  · rw [h9 n n0 (by omega)]
    show G 6 n < 0 ↔ (if 0 ≤ G 6 n then (1 : Int) else 0) = 0
    by_cases e : 0 ≤ G 6 n
    · rw [if_pos e]; omega
    · rw [if_neg e]; omega
theorem v_rm_i (hV : v_gw V) (hB : x_B V (16 * vSt V)) (h1 : k_F S V) (h2 : k_am S V) (h9 : ∀ n, 0 ≤ n → n ≤ 7 → S 43 n = G 6 n) : v_rm S (x_fv G V) := by
  have hP := hV.1
  have b1 := hB.1
  obtain ⟨f1, f2, f3, f4, f5⟩ := h1
  refine ⟨f1.1, f1.2.1, f1.2.2.1, f1.2.2.2, f3, fun s p d s0 s1 p0 p1 d0 d1 => ?_, fun s y s0 s1 y0 y1 => ?_, fun n n0 n1 => ⟨?_, ?_, ?_⟩, fun s p s0 s1 p0 p1 => ?_, fun n n0 n1 => ?_⟩
  · have := f2 s (8 * p + d) s0 s1 (by omega) (by omega)
    rw [show (8 * p + d) / 8 = p by omega, show (8 * p + d) % 8 = d by omega] at this
    rw [show 128 * s + 8 * p + d = 128 * s + (8 * p + d) by omega]
    exact this
  · exact f4 s y s0 s1 y0 y1 (by have : s < vSt V := s1; omega)
  · show S 45 n = x_ind (x_nu V n)
    rcases (f5 n n0 n1).1 with ⟨q1, q2⟩ | ⟨q1, q2⟩
    · rw [q2]; exact ((x_ind_1 _).mpr q1).symm
    · rw [q2]
      rcases x_ind_r (x_nu V n) with e | e
      · exact e.symm
      · exact absurd ((x_ind_1 _).mp e) q1
  · exact x_mk_e (f5 n n0 n1).2.1.1 (f5 n n0 n1).2.1.2 fun t q => by have := (x_Fi_r hV q).2; omega
  · exact x_mk_e (f5 n n0 n1).2.2.1 (f5 n n0 n1).2.2.2 fun t q => (x_Fo_r hV q).2
  · have s1' : s < vSt V := s1
    have p1' : p ≤ vP V := p1
    have z2 := hV.2.1 p p0 p1'
    show S 49 (128 * s + 8 * p + vSz V p) = x_mk (x_Ah V s p (vSz V p))
    obtain ⟨a1, a2⟩ := h2 (128 * s + 8 * p + vSz V p) (by omega) (by omega)
    unfold k_M at a2
    rw [show (128 * s + 8 * p + vSz V p) / 128 = s by omega, show (128 * s + 8 * p + vSz V p) % 128 / 8 = p by omega, show (128 * s + 8 * p + vSz V p) % 8 = vSz V p by omega] at a2
    exact x_mk_e a1 a2 fun t q => (x_Ah_r hV hB q).2
  · rw [h9 n n0 (by omega)]
    show G 6 n < 0 ↔ (if 0 ≤ G 6 n then (1 : Int) else 0) = 0
    by_cases e : 0 ≤ G 6 n
    · rw [if_pos e]; omega
    · rw [if_neg e]; omega
abbrev rd_ck : List Nat := [4, 5, 6, 7, 8, 10, 11, 13, 14, 15, 17, 18, 19, 20, 22]
abbrev rd_cf : List (Nat × Int) := [(3, 4), (9, 0), (9, 5), (9, 6), (16, 0), (12, 4), (21, 4), (27, 0), (0, 9)]
/-- the class reads -/
theorem l_c2 (hL : S 1 1 = L) (hL2 : L ≤ 200) (hT : ∀ i : Int, 0 ≤ i → i < L → S 2 i = T i)
    (hA : ∀ k a U, k ≠ 0 → (g_out T L k a ∨ (g_fin T L ∧ g_chk (g_s T L) k a ∧ k ≠ 0)) → n_fr rd_ck rd_cf S U → U 9 0 = a → U 0 9 = 0 → U 27 0 = 0 → Q k U)
    (h8 : ∀ n U, g_fin T L → g_chk (g_s T L) 0 (-1) → x_dn (x_V0 (gr (g_s T L))) n → (n : Int) < 16 * vSt (x_sq (x_V0 (gr (g_s T L))) n) → n_fr rd_ck rd_cf S U → U 9 0 = -1 → U 0 9 = 0 → U 27 0 = 0 → Q 8 U)
    (hC : ∀ n U, g_fin T L → g_chk (g_s T L) 0 (-1) → x_dn (x_V0 (gr (g_s T L))) n → 16 * vSt (x_sq (x_V0 (gr (g_s T L))) n) = n → x_B (x_sq (x_V0 (gr (g_s T L))) n) n → v_geq (gr (g_s T L)) (x_sq (x_V0 (gr (g_s T L))) n) → n_fr rd_ck rd_cf S U → U 9 0 = -1 → U 0 9 = 1 → U 27 0 = 0 → v_rc U (x_fv (g_s T L) (x_sq (x_V0 (gr (g_s T L))) n)) → Q 0 U) : q_c 2 [vR 0] S Q Z := by
  refine b_2_0 (b_112_0 ⟨⟨by omega, by omega⟩, ?_⟩)
  have fr0 : n_fr rd_ck rd_cf S (q_up S 27 0 0) := n_fr_i n_fr_r (by decide)
  refine c_122 (T := T) (L := L) (by rw [q_up_ne (by decide)]; exact hL) hL2 (fun i i0 i1 => by rw [q_up_ne (by decide)]; exact hT i i0 i1) (fun k a U ho fr ea => ?_) (fun hfin hchk U hcb u5 u8 fr => ?_)
  · have hk : k ≠ 0 := by
      rcases ho with ho | ⟨-, -, q⟩
      · exact g_out_k ho
      · exact q
    have f1 : n_fr rd_ck rd_cf S (q_up U 0 9 0) := n_fr_i (n_fr_t fr0 (n_fr_w fr (by decide) (by decide))) (by decide)
    have e27 : U 27 0 = 0 := by rw [n_fr_c fr (by decide), n_up1]
    refine ⟨fun _ => ⟨fun _ => ⟨⟨by omega, by omega⟩, fun _ => hA k a _ hk ho f1 (by rw [q_up_ne (by decide)]; exact ea) (n_up1 _ _ _ _) (by rw [q_up_ne (by decide)]; exact e27), fun q => absurd rfl q⟩, fun q => absurd hk q⟩, fun q => absurd hk q⟩
  have hI := g_s_I L hfin.1
  have hw := gr_w hI hfin.2.1 hfin.2.2
  have hP := g_P1 hI hfin.2.1 hfin.2.2
  have hgc := gr_c hcb u5 u8
  have hfo := r_kfo hI hfin.2.1 hP hcb hchk
  have e9 : U 9 0 = -1 := hcb.2.2.2.2.2.2.2.2
  have e27 : U 27 0 = 0 := by rw [n_fr_c fr (by decide), n_up1]
  have nor := r_nor hI hfin.2.1 hcb
  have f1 : n_fr rd_ck rd_cf S U := n_fr_t fr0 (n_fr_w fr (by decide) (by decide))
  refine ⟨fun q => absurd rfl q, fun _ => c_139 hgc hw hfo rfl (fun _ _ _ => Or.inl rfl) (fun n W hdn h16 hB hgeq fW hR => ⟨fun _ => ⟨fun q => absurd rfl q, fun _ => ⟨⟨by omega, by omega⟩, fun q => by omega, fun _ => ?_⟩⟩, fun q => absurd (by decide) q⟩) (fun n W hdn h16 fW => ⟨fun q => absurd rfl q, fun _ => ⟨fun _ => ⟨⟨by omega, by omega⟩, fun _ => h8 n _ hfin hchk hdn h16 (n_fr_i (n_fr_t f1 (n_fr_w fW (by decide) (by decide))) (by decide)) ?_ (n_up1 _ _ _ _) ?_, fun q => absurd rfl q⟩, fun q => absurd (by decide) q⟩⟩)⟩
  · have hV := v_gw_geq hgeq hw
    have hB' : x_B (x_sq (x_V0 (gr (g_s T L))) n) (16 * vSt (x_sq (x_V0 (gr (g_s T L))) n)) := by rw [h16]; exact hB
    obtain ⟨r1, r2, r3, r4, r5, r6⟩ := hR
    rw [← h16] at r6
    have fr9 : n_fr [] [(0, 9)] W (q_up W 0 9 1) := n_fr_i n_fr_r (by decide)
    have q1 := v_gc_fr fr9 (by decide) r1
    refine c_132 q1 hV fun S2 fr2 nu2 fi2 rf2 fw2 => ?_
    have f29 : n_fr [13, 14, 15] [(12, 4), (0, 9)] W S2 := n_fr_t (n_fr_w fr9 (by decide) (by decide)) (n_fr_w fr2 (by decide) (by decide))
    have gl2 : k_gl S2 (x_sq (x_V0 (gr (g_s T L))) n) (16 * vSt (x_sq (x_V0 (gr (g_s T L))) n)) := by
      unfold k_gl
      rw [n_fr_c f29 (by decide)]
      exact r6
    have hE : k_E S2 (x_sq (x_V0 (gr (g_s T L))) n) := ⟨v_gc_fr f29 (by decide) r1, k_fo_fr f29 (by decide) r3, k_dt_fr f29 (by decide) r4, (congrFun (n_fr_c f29 (by decide)) 0).trans r5, gl2, nu2, rf2⟩
    refine c_81 hV hB' hE fun S3 fr3 ah3 => ?_
    have hE3 := k_E_fr fr3 hE
    have f3 : n_fr [13, 14, 15, 17, 18, 19, 20, 22] [(16, 0), (12, 4), (21, 4), (0, 9)] U S3 := n_fr_t (n_fr_t (n_fr_w fW (by decide) (by decide)) (n_fr_w f29 (by decide) (by decide))) (n_fr_w fr3 (by decide) (by decide))
    refine hC n S3 hfin hchk hdn h16 hB hgeq (n_fr_t f1 (n_fr_w f3 (by decide) (by decide))) ?_ ?_ ?_ ?_
    · rw [n_fr_c f3 (by decide)]; exact e9
    · rw [n_fr_c fr3 (by decide), n_fr_c fr2 (by decide), n_up1]
    · rw [n_fr_c f3 (by decide)]; exact e27
    · refine v_rc_i hV hB' hE3.1 hE3.2.2.2.1 hE3.2.2.1 hE3.2.2.2.2.1 hE3.2.2.2.2.2.1 ?_ ?_ ah3 ?_
      · unfold k_fi
        rw [n_fr_c fr3 (by decide)]; exact fi2
      · unfold k_fw
        rw [n_fr_c fr3 (by decide)]; exact fw2
      · rw [n_fr_c f3 (by decide)]; exact nor
  · rw [q_up_ne (by decide), n_fr_c fW (by decide)]; exact e9
  · rw [q_up_ne (by decide), n_fr_c fW (by decide)]; exact e27
abbrev rd_mk : List Nat := [38, 39, 40, 41, 42, 43, 44, 45, 46, 47, 48, 49, 50, 51]
abbrev rd_mf : List (Nat × Int) := [(36, 0), (36, 3), (36, 4), (36, 5), (36, 10), (36, 17), (36, 24)]
/-- the reference reads -/
theorem l_m40 (hL : S 36 2 = L) (hL2 : L ≤ 200) (hT : ∀ i : Int, 0 ≤ i → i < L → S 37 i = T i)
    (hA : ∀ k a U, k ≠ 0 → (g_out T L k a ∨ (g_fin T L ∧ g_chk (g_s T L) k a ∧ k ≠ 0)) → n_fr rd_mk rd_mf S U → U 36 3 = a → U 36 4 = 0 → U 36 24 = 0 → Q k U)
    (h8 : ∀ n U, g_fin T L → g_chk (g_s T L) 0 (-1) → x_dn (x_V0 (gr (g_s T L))) n → (n : Int) < 16 * vSt (x_sq (x_V0 (gr (g_s T L))) n) → n_fr rd_mk rd_mf S U → U 36 3 = -1 → U 36 4 = 0 → U 36 24 = 0 → Q 8 U)
    (hC : ∀ n U, g_fin T L → g_chk (g_s T L) 0 (-1) → x_dn (x_V0 (gr (g_s T L))) n → 16 * vSt (x_sq (x_V0 (gr (g_s T L))) n) = n → x_B (x_sq (x_V0 (gr (g_s T L))) n) n → v_geq (gr (g_s T L)) (x_sq (x_V0 (gr (g_s T L))) n) → n_fr rd_mk rd_mf S U → U 36 3 = -1 → U 36 4 = 1 → U 36 24 = 0 → v_rm U (x_fv (g_s T L) (x_sq (x_V0 (gr (g_s T L))) n)) → Q 0 U) : q_c 40 [vR 36] S Q Z := by
  refine b_40_0 ⟨⟨by omega, by omega⟩, ⟨by omega, by omega⟩, ?_⟩
  have fr0 : n_fr rd_mk rd_mf S (q_up (q_up (q_up (q_up S 36 0 0) 36 24 0) 36 4 0) 36 3 (-1)) := n_fr_i (n_fr_i (n_fr_i (n_fr_i n_fr_r (by decide)) (by decide)) (by decide)) (by decide)
  have z3 : q_up (q_up (q_up (q_up S 36 0 0) 36 24 0) 36 4 0) 36 3 (-1) 36 3 = -1 := by simp [n_up]
  have z4 : q_up (q_up (q_up (q_up S 36 0 0) 36 24 0) 36 4 0) 36 3 (-1) 36 4 = 0 := by simp [n_up]
  have z24 : q_up (q_up (q_up (q_up S 36 0 0) 36 24 0) 36 4 0) 36 3 (-1) 36 24 = 0 := by simp [n_up]
  refine m_35 (T := T) (L := L) (by simpa [n_up] using hL) hL2 (fun i i0 i1 => by rw [n_fr_c fr0 (by decide)]; exact hT i i0 i1) (fun k a U ho fr ea => ?_) (fun hfin U hr fr => ?_)
  · have hk := g_out_k ho
    exact ⟨fun _ => ⟨fun q => absurd q hk, fun _ => hA k a U hk (Or.inl ho) (n_fr_t fr0 (n_fr_w fr (by decide) (by decide))) ea ((n_fr_f fr (by decide)).trans z4) ((n_fr_f fr (by decide)).trans z24)⟩, fun q => absurd hk q⟩
  have hI := g_s_I L hfin.1
  have hw := gr_w hI hfin.2.1 hfin.2.2
  have hP := g_P1 hI hfin.2.1 hfin.2.2
  have f1 : n_fr rd_mk rd_mf S U := n_fr_t fr0 (n_fr_w fr (by decide) (by decide))
  have u3 : U 36 3 = -1 := (n_fr_f fr (by decide)).trans z3
  have u4 : U 36 4 = 0 := (n_fr_f fr (by decide)).trans z4
  have u24 : U 36 24 = 0 := (n_fr_f fr (by decide)).trans z24
  refine ⟨fun q => absurd rfl q, fun _ => m_39 hI hfin.2.1 hfin.2.2 hr (fun k a W hchk hk fW ea => ⟨fun q => absurd q hk, fun _ => hA k a W hk (Or.inr ⟨hfin, hchk, hk⟩) (n_fr_t f1 (n_fr_w fW (by decide) (by decide))) ea ((n_fr_f fW (by decide)).trans u4) ((n_fr_f fW (by decide)).trans u24)⟩) (fun hchk W fW => ⟨fun _ => ⟨by omega, by omega, by omega, by omega, by omega, by omega, by omega, by omega, ?_⟩, fun q => absurd rfl q⟩)⟩
  have rW : r_m W (g_s T L) := r_m_fr fW (by decide) hr
  have r3 : 1 ≤ g_s T L 0 3 := by
    have := hI.1.2.2
    have := hfin.2.2
    omega
  have e42 : W 42 0 = g_s T L 1 1 := by
    rw [rW.2.2.2.2.1 0 (by omega) (by omega)]
    exact (hI.2.2.2.2.2.2.2.2.2.2.2.2.2.1 hP).symm
  let X : q_S := q_up (q_up (q_up W 38 0 (-1)) 39 0 1) 40 0 (W 42 0)
  have frX : n_fr [38, 39, 40] [] W X := n_fr_k (n_fr_k (n_fr_k n_fr_r (by decide)) (by decide)) (by decide)
  have x38 : ∀ p, p ≠ 0 → X 38 p = W 38 p := fun p hp => by simp [X, n_up, hp]
  have x39 : ∀ p, p ≠ 0 → X 39 p = W 39 p := fun p hp => by simp [X, n_up, hp]
  have x40 : ∀ p, p ≠ 0 → X 40 p = W 40 p := fun p hp => by simp [X, n_up, hp]
  have x390 : X 39 0 = 1 := by simp [X, n_up]
  have x400 : X 40 0 = W 42 0 := by simp [X, n_up]
  have hgn : v_gn X (gr (g_s T L)) := by
    refine ⟨?_, fun p p0 p1 => ?_, fun p p1 p2 => ?_, fun p i p0 p1 i0 i1 => ?_⟩
    · rw [n_fr_f frX (by decide), gr_P]; exact rW.1
    · rw [gr_P] at p1
      rw [gr_Z]
      by_cases e : p = 0
      · rw [if_pos e, e, x390]
      · rw [if_neg e, x39 p e]; exact (rW.2.2.1 p ⟨by omega, p1⟩).2
    · rw [gr_P] at p2
      rw [gr_L, x38 p (by omega)]; exact (rW.2.2.1 p ⟨p1, p2⟩).1
    · rw [gr_P] at p1
      rw [gr_Z] at i1
      rw [gr_T]
      by_cases e : p = 0
      · rw [if_pos e] at i1
        rw [if_pos e, show 4 * p + i = 0 by omega, x400]; exact e42
      · rw [if_neg e] at i1
        rw [if_neg e, x40 _ (by omega)]; exact (rW.2.2.2.1 p i ⟨⟨by omega, p1⟩, i0, i1⟩).1
  have fX : n_fr rd_mk rd_mf S X := n_fr_t (n_fr_t f1 (n_fr_w fW (by decide) (by decide))) (n_fr_w frX (by decide) (by decide))
  have X3 : X 36 3 = -1 := ((n_fr_f frX (by decide)).trans (n_fr_f fW (by decide))).trans u3
  have X4 : X 36 4 = 0 := ((n_fr_f frX (by decide)).trans (n_fr_f fW (by decide))).trans u4
  have X24 : X 36 24 = 0 := ((n_fr_f frX (by decide)).trans (n_fr_f fW (by decide))).trans u24
  have X42 : X 42 0 = g_s T L 1 1 := (congrFun (n_fr_c frX (by decide)) 0).trans e42
  have X43 : ∀ n, 0 ≤ n → n ≤ 7 → X 43 n = g_s T L 6 n := fun n n0 n1 => by rw [n_fr_c frX (by decide)]; exact rW.2.2.2.2.2 n n0 n1
  show q_c 45 [vR 36] X _ Z
  refine m_45 hgn hw rfl (fun _ _ _ => Or.inl rfl) (fun n Y hdn h16 hB hgeq fY hR => ?_) (fun n Y hdn h16 fY => ⟨fun q => absurd rfl q, fun _ => h8 n Y hfin hchk hdn h16 (n_fr_t fX (n_fr_w fY (by decide) (by decide))) ((n_fr_f fY (by decide)).trans X3) ((n_fr_f fY (by decide)).trans X4) ((n_fr_f fY (by decide)).trans X24)⟩)
  have hV := v_gw_geq hgeq hw
  have hB' : x_B (x_sq (x_V0 (gr (g_s T L))) n) (16 * vSt (x_sq (x_V0 (gr (g_s T L))) n)) := by rw [h16]; exact hB
  obtain ⟨r1, r2, r3', r4⟩ := hR
  rw [← h16] at r4
  refine ⟨fun _ => m_48 r1 hV ?_ fun Y2 fY2 ms2 => ?_, fun q => absurd (by decide) q⟩
  · rw [n_fr_c fY (by decide), X42, hgeq.2.1 1]; rfl
  have hF : k_F Y2 (x_sq (x_V0 (gr (g_s T L))) n) := by
    refine ⟨v_gn_fr fY2 (by decide) r1, k_it_fr fY2 (by decide) r2, (n_fr_f fY2 (by decide)).trans r3', ?_, ms2⟩
    unfold k_gm
    rw [n_fr_c fY2 (by decide)]
    exact r4
  refine m_51 hV hB' hF fun Y3 fY3 am3 => ⟨⟨by omega, by omega⟩, ?_⟩
  have fX3 : n_fr [45, 46, 47, 48, 49, 50, 51] [(36, 17)] X Y3 := n_fr_t (n_fr_t (n_fr_w fY (by decide) (by decide)) (n_fr_w fY2 (by decide) (by decide))) (n_fr_w fY3 (by decide) (by decide))
  have f4 : n_fr [] [(36, 4)] Y3 (q_up Y3 36 4 1) := n_fr_i n_fr_r (by decide)
  have fX4 : n_fr [45, 46, 47, 48, 49, 50, 51] [(36, 17), (36, 4)] X (q_up Y3 36 4 1) := n_fr_t (n_fr_w fX3 (by decide) (by decide)) (n_fr_w f4 (by decide) (by decide))
  refine hC n _ hfin hchk hdn h16 hB hgeq (n_fr_t fX (n_fr_w fX4 (by decide) (by decide))) ((n_fr_f fX4 (by decide)).trans X3) (n_up1 _ _ _ _) ((n_fr_f fX4 (by decide)).trans X24) ?_
  have hF3 := k_F_fr fY3 hF
  refine v_rm_i hV hB' ⟨v_gn_fr f4 (by decide) hF3.1, k_it_fr f4 (by decide) hF3.2.1, (n_fr_f f4 (by decide)).trans hF3.2.2.1, ?_, ?_⟩ ?_ ?_
  · unfold k_gm
    rw [n_fr_c f4 (by decide)]
    exact hF3.2.2.2.1
  · unfold k_ms
    rw [n_fr_c f4 (by decide), n_fr_c f4 (by decide), n_fr_c f4 (by decide)]
    exact hF3.2.2.2.2
  · unfold k_am
    rw [n_fr_c f4 (by decide)]
    exact am3
  · rw [n_fr_c fX4 (by decide)]
    exact X43
theorem l_rd : l_RD := by
  intro S V b Q Z hJ hQ
  obtain ⟨jt, j2, ⟨jb1, jb2, jb3⟩, -, -⟩ := hJ
  obtain ⟨t1, t2, t3⟩ := jt
  have eL : S 1 1 = ((S 1 1).toNat : Int) := by omega
  have fin : ∀ (a : Int) (U W : q_S) (V' : v_V), n_fr rd_ck rd_cf S U → n_fr rd_mk rd_mf U W → U 9 0 = W 36 3 → W 36 4 = U 0 9 → (U 0 9 = 0 ∨ U 0 9 = 1 ∧ j_g W V') → U 27 0 = 0 → W 36 24 = 0 → Q a a W := by
    intro a U W V' fU fW e9 e4 hg e27 e24
    have f : n_fr (rd_ck ++ rd_mk) (rd_cf ++ rd_mf) S W := n_fr_t (n_fr_w fU (by decide) (by decide)) (n_fr_w fW (by decide) (by decide))
    have w9 : W 9 0 = U 9 0 := congrFun (n_fr_c fW (by decide)) 0
    have w0 : W 0 9 = U 0 9 := congrFun (n_fr_c fW (by decide)) 9
    have w27 : W 27 0 = U 27 0 := congrFun (n_fr_c fW (by decide)) 0
    have w1 : W 1 1 = S 1 1 := congrFun (n_fr_c f (by decide)) 1
    refine hQ a W V' ⟨?_, by rw [w9]; exact e9, ⟨jb1, ?_, ?_⟩, ⟨by rw [w0]; exact e4, by rw [w0]; exact hg⟩, by rw [w27, e24, e27], Or.inl (by rw [w27]; exact e27)⟩ (l_k_fr f (by decide))
    · refine ⟨?_, by rw [w1]; exact t2, fun i i0 i1 => ?_⟩
      · rw [w1, n_fr_f f (by decide)]; exact t1
      · rw [w1] at i1
        rw [n_fr_c f (by decide), n_fr_c f (by decide)]
        exact t3 i i0 i1
    · unfold v_bm
      rw [n_fr_c f (by decide), n_fr_c f (by decide)]; exact jb2
    · unfold v_bc
      rw [n_fr_c f (by decide), n_fr_c f (by decide)]; exact jb3
  -- the text as the reference sees it behind the class
  have txt : ∀ U, n_fr rd_ck rd_cf S U → U 36 2 = ((S 1 1).toNat : Int) ∧ ∀ i : Int, 0 ≤ i → i < ((S 1 1).toNat : Int) → U 37 i = S 2 i := fun U fU => by
    refine ⟨?_, fun i i0 i1 => ?_⟩
    · rw [n_fr_f fU (by decide), ← t1]; exact eL
    · rw [n_fr_c fU (by decide)]; exact (t3 i i0 (by omega)).1
  have ouf : ∀ k a k' a', (g_out (S 2) (S 1 1).toNat k a ∨ (g_fin (S 2) (S 1 1).toNat ∧ g_chk (g_s (S 2) (S 1 1).toNat) k a ∧ k ≠ 0)) → (g_out (S 2) (S 1 1).toNat k' a' ∨ (g_fin (S 2) (S 1 1).toNat ∧ g_chk (g_s (S 2) (S 1 1).toNat) k' a' ∧ k' ≠ 0)) → k = k' ∧ a = a' := by
    rintro k a k' a' (h1 | ⟨h1, h2, -⟩) (h1' | ⟨h1', h2', -⟩)
    · exact g_out_u h1 h1'
    · exact (g_out_nf h1 h1').elim
    · exact (g_out_nf h1' h1).elim
    · exact g_chk_u h2 h2'
  have oun : ∀ k a, k ≠ 0 → (g_out (S 2) (S 1 1).toNat k a ∨ (g_fin (S 2) (S 1 1).toNat ∧ g_chk (g_s (S 2) (S 1 1).toNat) k a ∧ k ≠ 0)) → g_fin (S 2) (S 1 1).toNat → g_chk (g_s (S 2) (S 1 1).toNat) 0 (-1) → False := by
    rintro k a hk (h1 | ⟨h1, h2, -⟩) hf hc
    · exact g_out_nf h1 hf
    · exact hk (g_chk_u h2 hc).1
  refine l_c2 (T := S 2) (L := (S 1 1).toNat) eL (by omega) (fun i _ _ => rfl) (fun k a U hk ho fU e9 e0 e27 => ?_) (fun n U hfin hchk hdn h16 fU e9 e0 e27 => ?_) (fun n U hfin hchk hdn h16 hB hgeq fU e9 e0 e27 hrc => ?_)
  · refine l_m40 (T := S 2) (txt U fU).1 (by omega) (txt U fU).2 (fun k' a' W hk' ho' fW w3 w4 w24 => ?_) (fun n W hfin hchk _ _ _ _ _ _ => (oun k a hk ho hfin hchk).elim) (fun n W hfin hchk _ _ _ _ _ _ _ _ _ => (oun k a hk ho hfin hchk).elim)
    obtain ⟨ek, ea⟩ := ouf k a k' a' ho ho'
    subst ek
    exact fin k U W V fU fW (by omega) (by omega) (Or.inl e0) e27 w24
  · refine l_m40 (T := S 2) (txt U fU).1 (by omega) (txt U fU).2 (fun k' a' W hk' ho' fW w3 w4 w24 => (oun k' a' hk' ho' hfin hchk).elim) (fun n' W _ _ _ _ fW w3 w4 w24 => fin 8 U W V fU fW (by omega) (by omega) (Or.inl e0) e27 w24) (fun n' W _ _ hdn' h16' _ _ _ _ _ _ _ => ?_)
    have := x_dn_u hdn hdn'
    subst this
    omega
  · refine l_m40 (T := S 2) (txt U fU).1 (by omega) (txt U fU).2 (fun k' a' W hk' ho' fW w3 w4 w24 => (oun k' a' hk' ho' hfin hchk).elim) (fun n' W _ _ hdn' h16' _ _ _ _ => ?_) (fun n' W _ _ hdn' h16' _ _ fW w3 w4 w24 hrm => ?_)
    · have := x_dn_u hdn hdn'
      subst this
      omega
    · have en := x_dn_u hdn hdn'
      subst en
      have hI := g_s_I (S 1 1).toNat hfin.1
      have hw := gr_w hI hfin.2.1 hfin.2.2
      have hV := v_gw_geq hgeq hw
      have hB' : x_B (x_sq (x_V0 (gr (g_s (S 2) (S 1 1).toNat))) n) (16 * vSt (x_sq (x_V0 (gr (g_s (S 2) (S 1 1).toNat))) n)) := by rw [h16]; exact hB
      obtain ⟨w1, w2, w3', w4'⟩ := x_fv_w (G := g_s (S 2) (S 1 1).toNat) hV hB'
      refine fin 0 U W (x_fv (g_s (S 2) (S 1 1).toNat) (x_sq (x_V0 (gr (g_s (S 2) (S 1 1).toNat))) n)) fU fW (by omega) (by omega) (Or.inr ⟨e0, w1, w2, w3', w4', hrm, ?_⟩) e27 w24
      unfold v_rc at hrc ⊢
      rw [n_fr_c fW (k := 3) (by decide), n_fr_c fW (k := 4) (by decide), n_fr_c fW (k := 5) (by decide), n_fr_c fW (k := 6) (by decide), n_fr_c fW (k := 8) (by decide), n_fr_c fW (k := 12) (by decide), n_fr_c fW (k := 13) (by decide), n_fr_c fW (k := 14) (by decide), n_fr_c fW (k := 16) (by decide), n_fr_c fW (k := 17) (by decide), n_fr_c fW (k := 18) (by decide), n_fr_c fW (k := 22) (by decide)]
      exact hrc
end Read
