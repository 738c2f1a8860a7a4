section Token
variable {S U X X' : q_S} {V : v_V} {b : v_B} {Q : q_Q} {Z : q_Z}
abbrev p_rf : List (Nat × Int) := [(36, 25), (36, 28), (36, 29), (36, 30)]
theorem m_74s {a t : Int} (ha : 20 ≤ a ∧ a - 20 < 40) (ht : 0 ≤ t ∧ t < 8) (hX : j_pc X V) (hU : j_pr X U V) (hf : ¬ (X 27 2 + 1 ≤ X 27 10 ∧ X 30 5 < X 27 11) → Q 0 (q_up U 36 25 3))
    (ho : (X 27 2 + 1 ≤ X 27 10 ∧ X 30 5 < X 27 11) → ∀ U', n_fr p_rk p_rf U U' → (∀ X', p_nw X X' (X 27 2) (a - 20) (X 27 3 + 1) (8 + t) 0 (X 27 3) (X 27 3 + 1) 0 → j_pr X' U' V) → Q 0 U') : q_c 74 [vR 36, vI a, vI t] U Q Z := by
  have hU0 := hU
  obtain ⟨b1, b2, b3, b4, b5, b6, b7, b8, b9⟩ := hU
  have hX0 := hX
  obtain ⟨a1, a2, a3, a4, a5, a6, a7, a8, a9, a10, a11⟩ := hX
  refine b_74_0 ?_
  rw [b2, b4, b5, b6]
  refine ⟨fun g => by omega, fun _ => ⟨fun g => by omega, fun _ => ⟨by unfold q_rg; omega, by unfold q_rg; omega, fun g => ⟨⟨by omega, by omega⟩, hf (by omega)⟩, fun g => ⟨by unfold q_rg; omega, fun g2 => ⟨fun g3 => by omega, fun _ => ⟨by unfold q_rg; omega, by unfold q_rg; omega, ?_⟩⟩, fun g2 => ⟨⟨by omega, by omega⟩, hf (by omega)⟩⟩⟩⟩⟩
  refine m_73 b2 b4 b3 (by omega) (by omega) (by omega) (by omega) (by omega) (fun g3 => by omega) fun U' fr hn => ?_
  have e29 : U' 36 29 = X 27 3 := by rw [n_fr_f fr (by decide)]; exact b3
  rw [e29]
  have fr1 : n_fr p_rk [(36, 28), (36, 29), (36, 30)] U (q_up U' 36 29 (X 27 3 + 1)) := n_fr_i (n_fr_w fr (by decide) (by decide)) (by decide)
  have fr2 : n_fr p_rk p_rf U (q_up U' 36 29 (X 27 3 + 1)) := n_fr_w fr1 (by decide) (by decide)
  refine ⟨by unfold q_rg; omega, ⟨by omega, by omega⟩, ho (by omega) _ fr2 fun X' hX' => ?_⟩
  refine p_both (U' := q_up U' 36 29 (X 27 3 + 1)) (bg' := X 27 3) (en' := X 27 3 + 1) hU0 hX0 hX' ?_ fr1 (n_up1 _ _ _ _) (by rw [if_pos rfl]) (by omega) (by omega) rfl rfl
  obtain ⟨r1, r2, r3, r4, r5, r6, r7, r8, r9, r10⟩ := hn
  rw [if_pos rfl] at r8
  rw [if_pos rfl, if_neg (by omega)] at r9
  refine ⟨?_, ?_, fun k => ?_, fun k => ?_, fun k => ?_, fun k => ?_, fun k => ?_, fun k => ?_, fun k => ?_, fun i => ?_⟩
  · rw [n_up, if_neg (by omega)]; exact r1
  · rw [n_up, if_neg (by omega)]; exact r2
  · rw [q_up_ne (by decide)]; exact r3 k
  · rw [q_up_ne (by decide)]; exact r4 k
  · rw [q_up_ne (by decide)]; exact r5 k
  · rw [q_up_ne (by decide)]; exact r6 k
  · rw [q_up_ne (by decide)]; exact r7 k
  · rw [q_up_ne (by decide)]; exact r8 k
  · rw [q_up_ne (by decide)]; exact r9 k
  · rw [q_up_ne (by decide)]; exact r10 i
theorem m_74r {p t : Int} (hX : j_pc X V) (hU : j_pr X U V) (hR : v_rm U V) (hV : v_wf V) (hpx : v_px V) (hp : 1 ≤ p ∧ p ≤ vP V) (hi : vIt V (X 28 (X 27 2 - 1)) p (vSz V p) = 1) (hf : ¬ (X 27 2 - vSz V p + 1 ≤ X 27 10 ∧ X 30 5 < X 27 11) → Q 0 (q_up U 36 25 3))
    (ho : (X 27 2 - vSz V p + 1 ≤ X 27 10 ∧ X 30 5 < X 27 11) → ∀ U', n_fr p_rk p_rf U U' → (∀ X', p_nw X X' (X 27 2 - vSz V p) (vGo V (X 28 (X 27 2 - vSz V p - 1)) (vLf V p)) (X 27 3) (vLf V p) p (p_bg X (X 27 2 - vSz V p) (vSz V p)) (p_en X (X 27 2 - vSz V p) (vSz V p)) (vSz V p) → j_pr X' U' V) → Q 1 U') : q_c 74 [vR 36, vI p, vI t] U Q Z := by
  obtain ⟨l1, l2, l3⟩ := p_red hX hV hpx hp hi
  have hP := hV.1
  have hSt := hV.2.2.2.2.1
  have hz := hV.2.1 p (by omega) hp.2
  have hl := hV.2.2.2.1 p hp.1 hp.2
  have e39 := hR.2.1 p (by omega) hp.2
  have e38 := hR.2.2.1 p hp.1 hp.2
  have hU0 := hU
  obtain ⟨b1, b2, b3, b4, b5, b6, b7, b8, b9⟩ := hU
  have hX0 := hX
  obtain ⟨a1, a2, a3, a4, a5, a6, a7, a8, a9, a10, a11⟩ := hX
  have e54 := b7 (X 27 2 - vSz V p - 1) (by omega) (by omega)
  have e50 := hR.2.2.2.2.2.2.1 _ (vLf V p) l3.1 l3.2 (by omega) (by omega)
  refine b_74_0 ?_
  rw [b2, b4, b5, b6, e39, e38, e54, e50]
  refine ⟨fun _ => ⟨fun _ => ⟨by omega, by omega, by unfold q_rg; omega, by unfold q_rg; omega, fun g => ⟨⟨by omega, by omega⟩, hf (by omega)⟩, fun g => ⟨by unfold q_rg; omega, fun g2 => ⟨fun _ => ⟨by unfold q_rg; omega, by unfold q_rg; omega, by omega, by omega, by unfold q_rg; omega, by omega, by omega, by unfold q_rg; omega, by omega, by omega, by omega, by omega, ?_⟩, fun g3 => absurd rfl g3⟩, fun g2 => ⟨⟨by omega, by omega⟩, hf (by omega)⟩⟩⟩, fun g => absurd rfl g⟩, fun g => by omega⟩
  have r60 : ∀ k, 1 ≤ k → k < X 27 2 → (0 ≤ U 55 k ∧ U 55 k < 60) ∧ U 55 k = X 29 k ∧ U 59 (U 55 k) = X 33 (X 29 k) ∧ U 60 (U 55 k) = X 34 (X 29 k) := fun k k0 k1 => by
    have q1 := a10 k k0 k1
    have q2 := b8 k k0 k1
    have q3 := b9 (X 29 k) q1.1 q1.2
    rw [q2]
    exact ⟨by omega, rfl, q3.2.2.2.1, q3.2.2.2.2.1⟩
  have e55 : q_up U 36 28 (X 27 2 - vSz V p) 55 = U 55 := q_up_ne (by decide)
  refine m_73 (n_up1 _ _ _ _) (c := X 30 5) (tk := X 27 3) ?_ ?_ (by omega) (by omega) (by omega) (by omega) (by omega) (fun g3 => ?_) fun U' fr hn => ⟨⟨by omega, by omega⟩, ?_⟩
  · rw [n_up, if_neg (by omega)]; exact b4
  · rw [n_up, if_neg (by omega)]; exact b3
  · rw [e55]
    exact ⟨(r60 _ (by omega) (by omega)).1, (r60 _ (by omega) (by omega)).1⟩
  · have fr1 : n_fr p_rk [(36, 28), (36, 29), (36, 30)] U U' := n_fr_t (n_fr_i n_fr_r (by decide)) (n_fr_w fr (by decide) (by decide))
    have fr2 : n_fr p_rk p_rf U U' := n_fr_w fr1 (by decide) (by decide)
    refine ho (by omega) U' fr2 fun X' hX' => ?_
    have e59 : q_up U 36 28 (X 27 2 - vSz V p) 59 = U 59 := q_up_ne (by decide)
    have e60 : q_up U 36 28 (X 27 2 - vSz V p) 60 = U 60 := q_up_ne (by decide)
    have e54' : q_up U 36 28 (X 27 2 - vSz V p) 54 = U 54 := q_up_ne (by decide)
    have e56 : q_up U 36 28 (X 27 2 - vSz V p) 56 = U 56 := q_up_ne (by decide)
    have e57 : q_up U 36 28 (X 27 2 - vSz V p) 57 = U 57 := q_up_ne (by decide)
    have e58 : q_up U 36 28 (X 27 2 - vSz V p) 58 = U 58 := q_up_ne (by decide)
    have e61 : q_up U 36 28 (X 27 2 - vSz V p) 61 = U 61 := q_up_ne (by decide)
    unfold p_nr at hn
    rw [e54', e55, e56, e57, e58, e59, e60, e61] at hn
    refine p_both hU0 hX0 hX' hn fr1 ?_ (by rw [if_neg (by omega)]) (by omega) (by omega) ?_ ?_
    · rw [n_fr_f fr (by decide), n_up, if_neg (by omega)]; exact b3
    · unfold p_bg
      by_cases e : vSz V p = 0
      · rw [if_pos e, if_pos e]
      · rw [if_neg e, if_neg e]; exact (r60 _ (by omega) (by omega)).2.2.1
    · unfold p_en
      by_cases e : vSz V p = 0
      · rw [if_pos e, if_pos e, if_pos (by omega)]
      · rw [if_neg e, if_neg e]; exact (r60 _ (by omega) (by omega)).2.2.2
/-- how the reference comes from X to T with this token -/
def p_cert (V : v_V) (b : v_B) (t : Int) (X T : q_S) : Prop := ∀ (U : q_S) (Q' : q_Q) (Z' : q_Z) (j1 j4 : q_J), j_pr X U V → v_rm U V → v_bm U b → (∀ U', j_pr T U' V → n_fr p_rk p_rf U U' → Q' (U' 36 25) U') → q_r 75 50 [vR 36, vJ j1, vI t, vI 1, vJ j4] [] U Q' Z'
theorem p_st {s : Int} (hX : j_pc X V) (hs : 0 ≤ s ∧ s ≤ 3) : j_pc (q_up X 27 1 s) V ∧ ∀ U, j_pr X U V → j_pr (q_up X 27 1 s) (q_up U 36 25 s) V := by
  have e : ∀ i, i ≠ 1 → q_up X 27 1 s 27 i = X 27 i := fun i hi => by rw [n_up, if_neg (fun q => hi q.2)]
  have e28 : q_up X 27 1 s 28 = X 28 := q_up_ne (by decide)
  have e29 : q_up X 27 1 s 29 = X 29 := q_up_ne (by decide)
  have e30 : q_up X 27 1 s 30 = X 30 := q_up_ne (by decide)
  have e31 : q_up X 27 1 s 31 = X 31 := q_up_ne (by decide)
  have e32 : q_up X 27 1 s 32 = X 32 := q_up_ne (by decide)
  have e33 : q_up X 27 1 s 33 = X 33 := q_up_ne (by decide)
  have e34 : q_up X 27 1 s 34 = X 34 := q_up_ne (by decide)
  have e35 : q_up X 27 1 s 35 = X 35 := q_up_ne (by decide)
  constructor
  · unfold j_pc at hX ⊢
    rw [n_up1, e 2 (by decide), e 3 (by decide), e 10 (by decide), e 11 (by decide), e28, e29, e30, e31, e32]
    exact ⟨hs, hX.2⟩
  · intro U hU
    have f : ∀ i, i ≠ 25 → q_up U 36 25 s 36 i = U 36 i := fun i hi => by rw [n_up, if_neg (fun q => hi q.2)]
    have f54 : q_up U 36 25 s 54 = U 54 := q_up_ne (by decide)
    have f55 : q_up U 36 25 s 55 = U 55 := q_up_ne (by decide)
    have f56 : q_up U 36 25 s 56 = U 56 := q_up_ne (by decide)
    have f57 : q_up U 36 25 s 57 = U 57 := q_up_ne (by decide)
    have f58 : q_up U 36 25 s 58 = U 58 := q_up_ne (by decide)
    have f59 : q_up U 36 25 s 59 = U 59 := q_up_ne (by decide)
    have f60 : q_up U 36 25 s 60 = U 60 := q_up_ne (by decide)
    have f61 : q_up U 36 25 s 61 = U 61 := q_up_ne (by decide)
    unfold j_pr j_nz at hU ⊢
    rw [n_up1, n_up1, e 2 (by decide), e 3 (by decide), e 10 (by decide), e 11 (by decide), e28, e29, e30, e31, e32, e33, e34, e35, f 28 (by decide), f 29 (by decide), f 30 (by decide), f 26 (by decide), f 27 (by decide), f54, f55, f56, f57, f58, f59, f60, f61]
    exact ⟨rfl, hU.2⟩
/-- the end of the reference's loop -/
theorem p_end {t : Int} {U' : q_S} {j1 j4 : q_J} (h : Q (U' 36 25) U') : q_r 75 50 [vR 36, vJ j1, vI t, vI 0, vJ j4] [] U' Q Z := b_75_50 ⟨fun _ => h, fun g => absurd rfl g⟩
theorem tk_c {t : Int} (hV : v_wf V) (hpx : v_px V) (hbw : v_bw b) (ht : 0 ≤ t ∧ t ≤ 8) : ∀ (n : Nat) (X : q_S) (a3 : Int), (X 27 11 - X 30 5).toNat < n → (0 ≤ a3 ∧ a3 ≤ X 30 5) → X 27 1 = 0 → j_pc X V → v_rc X V → v_bc X b → (∀ T, j_pc T V → p_cert V b t X T → n_fr p_ks p_fs X T → Q (T 27 1) T) → q_r 115 4 [vR 27, vI t, vI 1, vI a3] [] X Q Z := by
  intro n
  induction n with
  | zero => intro X a3 hn; omega
  | succ n ih =>
    intro X a3 hn h3 hst hX hR hB h
    have hX0 := hX
    obtain ⟨a1, a2, a3', a4, a5, a6, a7, a8, a9, a10, a11⟩ := hX
    have top := a7 (X 27 2 - 1) (by omega) (by omega)
    refine b_115_4 ⟨fun g => by omega, fun _ => ⟨fun g => by omega, fun _ => b_114_0 ⟨by unfold q_rg; omega, by omega, by omega, ?_⟩⟩⟩
    refine c_91 hR hV hB hbw top ht fun a ha => ?_
    have har := v_act_r hV top ht ha
    -- the reference at the same place
    have ref : ∀ (U : q_S) (Q' : q_Q) (Z' : q_Z) (j1 j4 : q_J), j_pr X U V → v_rm U V → v_bm U b → ((a = 0 → q_r 75 50 [vR 36, vJ j1, vI t, vI 0, vI a] [] (q_up U 36 25 2) Q' Z') ∧ (a = 16 → q_r 75 50 [vR 36, vJ j1, vI t, vI 0, vI a] [] (q_up U 36 25 1) Q' Z') ∧ (a ≠ 0 → a ≠ 16 → q_c 74 [vR 36, vI a, vI t] U (fun r4 S3 => q_r 75 50 [vR 36, vJ j1, vI t, vI r4, vI a] [] S3 Q' Z') Z')) → q_r 75 50 [vR 36, vJ j1, vI t, vI 1, vJ j4] [] U Q' Z' := by
      intro U Q' Z' j1 j4 hU hRU hBU hh
      have u28 := hU.2.1
      have u54 := hU.2.2.2.2.2.2.1 (X 27 2 - 1) (by omega) (by omega)
      refine b_75_50 ⟨fun g => by omega, fun _ => ?_⟩
      rw [u28, u54]
      refine ⟨by unfold q_rg; omega, by omega, by omega, ?_⟩
      refine m_57 hRU hV hBU hbw top ht fun a' ha' => ?_
      have := v_act_u ha' ha
      subst this
      exact ⟨fun g => ⟨fun g2 => absurd g g2, fun _ => hh.1 g⟩, fun g => ⟨fun g2 => hh.2.2 g g2, fun g2 => ⟨fun _ => hh.2.1 (by omega), fun g3 => absurd g g3⟩⟩⟩
    have frS : ∀ s, n_fr p_ks p_fs X (q_up X 27 1 s) := fun s => n_fr_i n_fr_r (by decide)
    have frU : ∀ (U : q_S) (s : Int), n_fr p_rk p_rf U (q_up U 36 25 s) := fun U s => n_fr_i n_fr_r (by decide)
    -- the class stops with a new status
    have stop : ∀ s, (0 ≤ s ∧ s ≤ 3) → (∀ (U : q_S) (Q' : q_Q) (Z' : q_Z) (j1 j4 : q_J), j_pr X U V → v_rm U V → v_bm U b → q_r 75 50 [vR 36, vJ j1, vI t, vI 0, vI a] [] (q_up U 36 25 s) Q' Z' → q_r 75 50 [vR 36, vJ j1, vI t, vI 1, vJ j4] [] U Q' Z') → q_r 115 4 [vR 27, vI t, vI 0, vI (a3 + 1)] [] (q_up X 27 1 s) Q Z := by
      intro s hs hc
      refine b_115_4 ⟨fun _ => ?_, fun g => absurd rfl g⟩
      refine h _ (p_st hX0 hs).1 ?_ (frS s)
      intro U Q' Z' j1 j4 hU hRU hBU hq
      refine hc U Q' Z' j1 j4 hU hRU hBU (p_end ?_)
      exact hq _ ((p_st hX0 hs).2 U hU) (frU U s)
    have rg : q_rg (a3 + 1) := by unfold q_rg; omega
    have hSt := hV.2.2.2.2.1
    have hPv := hV.1
    refine b_116_0 ⟨fun g => ⟨fun g2 => ⟨fun g3 => ?_, fun g3 => ⟨by unfold q_rg; omega, ?_⟩⟩, fun g2 => ⟨⟨by omega, by omega⟩, rg, ?_⟩⟩, fun g => ⟨⟨by omega, by omega⟩, rg, ?_⟩⟩
    · -- reduce
      have hrd : (1 ≤ a ∧ a ≤ vP V) ∧ vIt V (X 28 (X 27 2 - 1)) a (vSz V a) = 1 := by
        rcases har with q | q | q | q
        · exact absurd q g
        · exact absurd q g2
        · omega
        · exact q
      obtain ⟨l1, l2, l3⟩ := p_red hX0 hV hpx hrd.1 hrd.2
      have hz := hV.2.1 a (by omega) hrd.1.2
      have hl := hV.2.2.2.1 a hrd.1.1 hrd.1.2
      have hr74 : ∀ (U : q_S) (Q' : q_Q) (Z' : q_Z) (j1 j4 : q_J), j_pr X U V → v_rm U V → v_bm U b → q_c 74 [vR 36, vI a, vI t] U (fun r4 S3 => q_r 75 50 [vR 36, vJ j1, vI t, vI r4, vI a] [] S3 Q' Z') Z' → q_r 75 50 [vR 36, vJ j1, vI t, vI 1, vJ j4] [] U Q' Z' := fun U Q' Z' j1 j4 hU hRU hBU hq => ref U Q' Z' j1 j4 hU hRU hBU ⟨fun q => absurd q g, fun q => absurd q g2, fun _ _ => hq⟩
      refine c_118 hX0 hR hV hpx hrd.1 hrd.2 (fun hf => ?_) (fun ho X' fr hn' => ?_)
      · refine ⟨fun _ => ⟨⟨by omega, by omega⟩, rg, ?_⟩, fun q => ?_⟩
        · refine stop 3 (by omega) fun U Q' Z' j1 j4 hU hRU hBU hq => hr74 U Q' Z' j1 j4 hU hRU hBU ?_
          exact m_74r hX0 hU hRU hV hpx hrd.1 hrd.2 (fun _ => hq) (fun q => absurd q hf)
        · rw [n_up1] at q; omega
      · have hX' : j_pc X' V := p_nw_c hX0 hn' (by omega) ho.1 ho.2 l2 ⟨vLf V a, by omega, rfl⟩ (by omega) (by omega) (by omega)
        have e1 : X' 27 1 = 0 := by rw [hn'.1]; exact hst
        have e5 : X' 30 5 = X 30 5 + 1 := hn'.2.2.2.1
        have e11 : X' 27 11 = X 27 11 := hn'.2.2.2.2.2.1
        refine ⟨fun q => absurd e1 q, fun _ => ⟨⟨by omega, by omega⟩, rg, ?_⟩⟩
        refine ih X' (a3 + 1) (by omega) (by omega) e1 hX' (j_g_rc fr (by decide) (by decide) hR) ?_ ?_
        · unfold v_bc
          rw [n_fr_c fr (k := 24) (by decide), n_fr_c fr (k := 25) (by decide)]; exact hB
        · intro T hT hcert frT
          refine h T hT ?_ (n_fr_t fr frT)
          intro U Q' Z' j1 j4 hU hRU hBU hq
          refine hr74 U Q' Z' j1 j4 hU hRU hBU ?_
          refine m_74r hX0 hU hRU hV hpx hrd.1 hrd.2 (fun q => absurd ho q) (fun _ U' frU' hU' => ?_)
          refine hcert U' Q' Z' j1 (.inl a) (hU' X' hn') (j_g_rm frU' (by decide) (by decide) hRU) ?_ ?_
          · unfold v_bm
            rw [n_fr_c frU' (k := 52) (by decide), n_fr_c frU' (k := 53) (by decide)]; exact hBU
          · intro U'' q1 q2
            exact hq U'' q1 (n_fr_t frU' q2)
    · -- shift
      have hsh : 20 ≤ a ∧ a - 20 < vSt V ∧ t < 8 ∧ vGo V (X 28 (X 27 2 - 1)) (8 + t) = a - 20 := by
        rcases har with q | q | q | q
        · exact absurd q g
        · exact absurd q g2
        · exact q
        · have := hV.1; omega
      have hr74 : ∀ (U : q_S) (Q' : q_Q) (Z' : q_Z) (j1 j4 : q_J), j_pr X U V → v_rm U V → v_bm U b → q_c 74 [vR 36, vI a, vI t] U (fun r4 S3 => q_r 75 50 [vR 36, vJ j1, vI t, vI r4, vI a] [] S3 Q' Z') Z' → q_r 75 50 [vR 36, vJ j1, vI t, vI 1, vJ j4] [] U Q' Z' := fun U Q' Z' j1 j4 hU hRU hBU hq => ref U Q' Z' j1 j4 hU hRU hBU ⟨fun q => absurd q g, fun q => absurd q g2, fun _ _ => hq⟩
      refine c_117 hX0 ⟨ht.1, hsh.2.2.1⟩ (fun hf => ?_) (fun ho X' fr hn' => ?_)
      · refine ⟨⟨by omega, by omega⟩, rg, ?_⟩
        refine stop 3 (by omega) fun U Q' Z' j1 j4 hU hRU hBU hq => hr74 U Q' Z' j1 j4 hU hRU hBU ?_
        exact m_74s (by omega) ⟨ht.1, hsh.2.2.1⟩ hX0 hU (fun _ => hq) (fun q => absurd q hf)
      · have hX' : j_pc X' V := p_nw_c hX0 hn' (by omega) ho.1 ho.2 (by omega) ⟨8 + t, by omega, hsh.2.2.2⟩ (by omega) ⟨by omega, by have := hV.1; omega⟩ (by omega)
        refine ⟨⟨by omega, by omega⟩, rg, b_115_4 ⟨fun _ => h X' hX' ?_ fr, fun q => absurd rfl q⟩⟩
        intro U Q' Z' j1 j4 hU hRU hBU hq
        refine hr74 U Q' Z' j1 j4 hU hRU hBU ?_
        refine m_74s (by omega) ⟨ht.1, hsh.2.2.1⟩ hX0 hU (fun q => absurd ho q) (fun _ U' frU' hU' => p_end ?_)
        exact hq U' (hU' X' hn') frU'
    · exact stop 1 (by omega) fun U Q' Z' j1 j4 hU hRU hBU hq => ref U Q' Z' j1 j4 hU hRU hBU ⟨fun q => by omega, fun _ => hq, fun _ q => by omega⟩
    · exact stop 2 (by omega) fun U Q' Z' j1 j4 hU hRU hBU hq => ref U Q' Z' j1 j4 hU hRU hBU ⟨fun _ => hq, fun q => by omega, fun q => by omega⟩
theorem l_tk : l_TK := by
  intro S V b c Q Z hJ hc hx h
  have hJ0 := hJ
  obtain ⟨h1, h2, ⟨hbw, hbm, hbc⟩, ⟨h6, h7⟩, h8, h9⟩ := hJ
  have ag1 : ∀ k, j_ag S (q_up (q_tk S) 36 0 k) := fun k => j_ag_t j_ag_tk j_ag_0
  have k1 : l_k S (q_tk S) := l_k_ag j_ag_tk (by unfold q_tk; rw [n_up1]; omega)
  have k2 : ∀ k, l_k S (q_up (q_tk S) 36 0 k) := fun k => l_k_ag (ag1 k) (by rw [q_up_ne (by decide)]; unfold q_tk; rw [n_up1]; omega)
  have tk36 : q_tk S 36 = S 36 := by unfold q_tk; rw [q_up_ne (by decide)]
  refine b_170_0 ?_
  refine b_14_0 ?_
  by_cases hop : S 27 0 = 0 ∨ S 27 1 ≠ 0
  · -- not waiting
    have fin : Q 1 (q_tk S) := by
      refine h 1 _ k1 fun Q' Z' hq => ?_
      have done1 : Q' 0 (q_up (q_tk S) 36 0 1) := hq 0 _ (j_J_ag (ag1 1) hJ0) (k2 1) (n_up1 _ _ _ _) (fun e => by omega)
      refine b_75_0 ?_
      rw [tk36, h8]
      rcases h9 with h9 | ⟨h9, h10, h11⟩
      · exact ⟨fun _ => ⟨fun q => by omega, fun _ => done1⟩, fun q => absurd h9 q⟩
      · have e25 := h11.1
        rw [e25]
        exact ⟨fun q => by omega, fun _ => ⟨fun q => by omega, fun _ => ⟨fun q => by omega, fun _ => done1⟩⟩⟩
    exact ⟨fun _ => ⟨hx, fin⟩, fun q => ⟨fun q2 => by omega, fun _ => ⟨hx, fin⟩⟩⟩
  · have ho : S 27 0 = 1 ∧ S 0 9 = 1 ∧ j_p S V := by
      rcases h9 with h9 | h9
      · omega
      · exact h9
    have hg : j_g S V := by
      rcases h7 with h7 | ⟨-, h7⟩
      · omega
      · exact h7
    obtain ⟨hV, hwi, hpx, hnn, hrm, hrc⟩ := hg
    obtain ⟨hpc, hpr⟩ := j_p_to ho.2.2
    have htr := v_tok_r c
    refine ⟨fun q => by omega, fun _ => ⟨fun _ => c_24 (fun q => ?_) (fun q => ⟨hx, ?_⟩), fun q => by omega⟩⟩
    · refine b_115_0 ?_
      refine tk_c hV hpx hbw (by omega) _ S 0 (Nat.lt_succ_self _) ⟨by omega, hpc.2.2.2.1.1⟩ (by omega) hpc hrc hbc fun T hT hcert fr => ⟨by omega, by omega, ?_⟩
      have fr1 : n_fr [28, 29, 31, 32, 33, 34, 35, 62] p_fs S (q_up T 62 0 (T 27 1)) := n_fr_k (n_fr_w fr (by decide) (by decide)) (by decide)
      refine h 0 _ (l_k_fr fr1 (by decide)) fun Q' Z' hq => ?_
      obtain ⟨U0, hU0⟩ : ∃ U0, U0 = q_up T 62 0 (T 27 1) := ⟨_, rfl⟩
      rw [← hU0] at fr1 ⊢
      have u36 : U0 36 = S 36 := n_fr_c fr1 (by decide)
      refine b_75_0 ?_
      rw [u36, h8, hpr.1]
      refine ⟨fun q2 => by omega, fun _ => ⟨fun _ => m_31 ⟨fun _ => ⟨fun _ => m_31 ?_, fun q2 => absurd rfl q2⟩, fun q2 => by omega⟩, fun q2 => by omega⟩⟩
      have fr2 : n_fr [28, 29, 31, 32, 33, 34, 35, 62] [(27, 1), (27, 2), (27, 3), (30, 5), (36, 0)] S (q_up U0 36 0 0) := n_fr_i (n_fr_w fr1 (by decide) (by decide)) (by decide)
      refine hcert (q_up U0 36 0 0) Q' Z' _ _ ?_ (j_g_rm fr2 (by decide) (by decide) hrm) ?_ ?_
      · unfold j_pr at hpr ⊢
        rw [n_fr_f fr2 (k := 36) (i := 25) (by decide), n_fr_f fr2 (k := 36) (i := 26) (by decide), n_fr_f fr2 (k := 36) (i := 27) (by decide), n_fr_f fr2 (k := 36) (i := 28) (by decide), n_fr_f fr2 (k := 36) (i := 29) (by decide), n_fr_f fr2 (k := 36) (i := 30) (by decide), n_fr_c fr2 (k := 54) (by decide), n_fr_c fr2 (k := 55) (by decide), n_fr_c fr2 (k := 56) (by decide), n_fr_c fr2 (k := 57) (by decide), n_fr_c fr2 (k := 58) (by decide), n_fr_c fr2 (k := 59) (by decide), n_fr_c fr2 (k := 60) (by decide), n_fr_c fr2 (k := 61) (by decide)]
        exact hpr
      · unfold v_bm
        rw [n_fr_c fr2 (k := 52) (by decide), n_fr_c fr2 (k := 53) (by decide)]; exact hbm
      · intro U' hU' frU
        have all : n_fr [28, 29, 31, 32, 33, 34, 35, 54, 55, 56, 57, 58, 59, 60, 61, 62] [(27, 1), (27, 2), (27, 3), (30, 5), (36, 0), (36, 25), (36, 28), (36, 29), (36, 30)] S U' := n_fr_t (n_fr_w fr2 (by decide) (by decide)) (n_fr_w frU (by decide) (by decide))
        have tT : ∀ k : Nat, k ≠ 36 → k ≠ 62 → p_rk.contains k = false → U' k = T k := by
          intro k q1 q2 q3
          have : U' k = q_up U0 36 0 0 k := funext fun i => frU k i q3 (by
            cases e : p_rf.contains (k, i) with
            | false => rfl
            | true =>
              have m : (k, i) ∈ p_rf := by simpa using e
              simp at m
              omega)
          rw [this, q_up_ne q1, hU0, q_up_ne q2]
        have e0 : U' 0 = S 0 := n_fr_c all (by decide)
        have e27 : U' 27 = T 27 := tT 27 (by decide) (by decide) (by decide)
        have e28 : U' 28 = T 28 := tT 28 (by decide) (by decide) (by decide)
        have e29 : U' 29 = T 29 := tT 29 (by decide) (by decide) (by decide)
        have e30 : U' 30 = T 30 := tT 30 (by decide) (by decide) (by decide)
        have e31 : U' 31 = T 31 := tT 31 (by decide) (by decide) (by decide)
        have e32 : U' 32 = T 32 := tT 32 (by decide) (by decide) (by decide)
        have e33 : U' 33 = T 33 := tT 33 (by decide) (by decide) (by decide)
        have e34 : U' 34 = T 34 := tT 34 (by decide) (by decide) (by decide)
        have e35 : U' 35 = T 35 := tT 35 (by decide) (by decide) (by decide)
        refine hq _ U' ⟨?_, ?_, ⟨hbw, ?_, ?_⟩, ⟨?_, Or.inr ⟨?_, ?_⟩⟩, ?_, Or.inr ⟨?_, ?_, j_p_of ?_ ?_⟩⟩ (l_k_fr all (by decide)) ?_ (fun _ => ?_)
        · unfold j_t at h1 ⊢
          rw [n_fr_c all (k := 1) (by decide), n_fr_c all (k := 2) (by decide), n_fr_c all (k := 37) (by decide), n_fr_f all (k := 36) (i := 2) (by decide)]
          exact h1
        · rw [n_fr_c all (k := 9) (by decide), n_fr_f all (k := 36) (i := 3) (by decide)]; exact h2
        · unfold v_bm
          rw [n_fr_c all (k := 52) (by decide), n_fr_c all (k := 53) (by decide)]; exact hbm
        · unfold v_bc
          rw [n_fr_c all (k := 24) (by decide), n_fr_c all (k := 25) (by decide)]; exact hbc
        · rw [n_fr_f all (k := 36) (i := 4) (by decide), e0]; exact h6
        · rw [e0]; exact ho.2.1
        · exact j_g_fr all (by decide) (by decide) ⟨hV, hwi, hpx, hnn, hrm, hrc⟩
        · rw [n_fr_f all (k := 36) (i := 24) (by decide), n_fr_f all (k := 27) (i := 0) (by decide)]; exact h8
        · rw [n_fr_f all (k := 27) (i := 0) (by decide)]; exact ho.1
        · rw [e0]; exact ho.2.1
        · unfold j_pc at hT ⊢
          rw [e27, e28, e29, e30, e31, e32]; exact hT
        · unfold j_pr j_nz at hU' ⊢
          rw [e27, e28, e29, e30, e31, e32, e33, e34, e35]; exact hU'
        · rw [n_fr_f frU (by decide), n_up1]
        · rw [n_fr_c frU (by decide), q_up_ne (by decide), hU0, n_up1]; exact hU'.1.symm
    · refine h 2 _ k1 fun Q' Z' hq => ?_
      have done2 : Q' 0 (q_up (q_tk S) 36 0 2) := hq 0 _ (j_J_ag (ag1 2) hJ0) (k2 2) (n_up1 _ _ _ _) (fun e => by omega)
      refine b_75_0 ?_
      rw [tk36, h8, hpr.1]
      exact ⟨fun q2 => by omega, fun _ => ⟨fun _ => m_31 ⟨fun q2 => by omega, fun _ => ⟨fun q2 => by omega, fun _ => done2⟩⟩, fun q2 => by omega⟩⟩
end Token
