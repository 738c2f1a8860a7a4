/-! the reference's answers -/
def j_m (S : q_S) (sp : Int → Int → Prop) (Q : q_Q) : Prop := ∀ k a a', sp k a → (k = 0 → a' = a) → Q a' (q_up S 36 0 k)
theorem j_m_ok {S : q_S} {sp : Int → Int → Prop} {Q : q_Q} (h : j_m S sp Q) {a : Int} (hs : sp 0 a) : Q a (q_up S 36 0 0) := h 0 a a hs (fun _ => rfl)
theorem j_m_no {S : q_S} {sp : Int → Int → Prop} {Q : q_Q} (h : j_m S sp Q) {k a : Int} (hs : sp k 0) (hk : k ≠ 0) : Q a (q_up S 36 0 k) := h k 0 a hs (fun e => absurd e hk)
theorem j_has {S : q_S} {V : v_V} {b : v_B} (hJ : j_J S V b) : S 36 4 = S 0 9 ∧ (S 0 9 = 0 ∨ S 0 9 = 1 ∧ j_g S V) := hJ.2.2.2.1
section ApiM
variable {S : q_S} {V : v_V} {b : v_B} {Q : q_Q} {Z : q_Z}
theorem m_62 {w : Int} (hJ : j_J S V b) (h : j_m S (s_num (S 0 9) V b w) Q) : q_c 62 [vR 36, vI w] S Q Z := by
  obtain ⟨e4, hg⟩ := j_has hJ
  have hJ0 := j_J_ag (T := q_up S 36 0 0) j_ag_0 hJ
  refine b_62_0 ?_
  rcases hg with hg | ⟨hg, hwf, hwi, hpx, hnn, hrm, hrc⟩
  · repeat' (first | omega | apply And.intro | intro _)
    exact j_m_no h (j_sp1 hg) (by decide)
  · obtain ⟨-, -, ⟨hbw, hbm, hbc⟩, ⟨-, hg0⟩, -⟩ := hJ0
    rcases hg0 with hg0 | ⟨-, -, -, -, -, hrm0, -⟩
    · exact absurd (show S 0 9 = 0 from hg0) (by omega)
    have no2 : w < 0 ∨ 3 < w → Q 0 (q_up S 36 0 2) := fun g => j_m_no h (j_sp2 (by omega) g) (by decide)
    have ok : ∀ a, (0 ≤ w ∧ w ≤ 3) ∧ (w = 0 → a = vP V) ∧ (w = 1 → a = vSt V) ∧ (w = 2 → v_kd V a) ∧ (w = 3 → a = v_uc V b (9 * vSt V).toNat) → Q a (q_up S 36 0 0) := fun a ha => j_m_ok h (j_sp0 (by omega) (by omega) (fun f => f) ha)
    repeat' (first | omega | exact m_60 hrm0 hwf hbm (fun g => absurd rfl g) (fun _ => ok _ ⟨by omega, by omega, by omega, by omega, fun _ => rfl⟩) | exact m_59 hrm0 hwf fun r hr => ok _ ⟨by omega, by omega, by omega, fun _ => hr, by omega⟩ | apply And.intro | intro _)
    · exact no2 (by omega)
    · exact ok _ ⟨by omega, by omega, fun _ => hrm.2.2.2.2.1, by omega, by omega⟩
    · exact ok _ ⟨by omega, fun _ => hrm.1, by omega, by omega, by omega⟩
    · exact no2 (by omega)
theorem m_63 {p : Int} (h : 0 ≤ p ∧ p ≤ S 36 5 → Q 0 S) (hn : p < 0 ∨ S 36 5 < p → Q 1 S) : q_c 63 [vR 36, vI p] S Q Z := by
  exact b_63_0 ⟨fun g => ⟨⟨by omega, by omega⟩, hn (by omega)⟩, fun g => ⟨fun g2 => ⟨⟨by omega, by omega⟩, h (by omega)⟩, fun g2 => ⟨⟨by omega, by omega⟩, hn (by omega)⟩⟩⟩
theorem m_64 {p : Int} (h : 0 ≤ p ∧ p < S 36 17 → Q 0 S) (hn : p < 0 ∨ S 36 17 ≤ p → Q 1 S) : q_c 64 [vR 36, vI p] S Q Z := by
  exact b_64_0 ⟨fun g => ⟨⟨by omega, by omega⟩, hn (by omega)⟩, fun g => ⟨fun g2 => ⟨⟨by omega, by omega⟩, h (by omega)⟩, fun g2 => ⟨⟨by omega, by omega⟩, hn (by omega)⟩⟩⟩
theorem m_65 {p i : Int} (hJ : j_J S V b) (h : j_m S (s_sym (S 0 9) V p i) Q) : q_c 65 [vR 36, vI p, vI i] S Q Z := by
  obtain ⟨e4, hg⟩ := j_has hJ
  refine b_65_0 ?_
  rcases hg with hg | ⟨hg, hwf, hwi, hpx, hnn, hrm, hrc⟩
  · refine ⟨fun g => by omega, fun _ => ⟨fun g => by omega, fun _ => j_m_no h (j_sp1 hg) (by decide)⟩⟩
  · have no2 : (p < 0 ∨ vP V < p ∨ i < -1 ∨ vSz V p ≤ i) → Q 0 (q_up S 36 0 2) := fun g => j_m_no h (j_sp2 (by omega) g) (by decide)
    have ok : ∀ a, ¬ (p < 0 ∨ vP V < p ∨ i < -1 ∨ vSz V p ≤ i) → (a = if 0 ≤ i then v_cod (vLt V p i) else if p = 0 then 0 else v_cod (vLf V p)) → Q a (q_up S 36 0 0) := fun a hn ha => j_m_ok h (j_sp0 (by omega) hn (fun f => f) ha)
    have hP := hrm.1
    have hP2 := hwf.1
    refine ⟨fun _ => m_63 (fun g => ⟨fun g2 => by omega, fun _ => ?_⟩) (fun g => ⟨fun _ => ⟨fun g2 => by omega, fun _ => no2 (by omega)⟩, fun g2 => by omega⟩), fun g => by omega⟩
    have hz := hrm.2.1 p (by omega) (by omega)
    have hz2 := hwf.2.1 p (by omega) (by omega)
    refine ⟨fun g2 => ⟨fun g3 => by omega, fun _ => no2 (by omega)⟩, fun g2 => ⟨by omega, by omega, fun g3 => ⟨fun _ => ⟨fun g4 => ⟨fun g5 => ⟨by omega, by omega, ?_⟩, fun g5 => ok _ (by omega) ?_⟩, fun g4 => ⟨by unfold q_rg; omega, by unfold q_rg; omega, by omega, by omega, ?_⟩⟩, fun g4 => by omega⟩, fun g3 => ⟨fun g4 => by omega, fun _ => no2 (by omega)⟩⟩⟩
    · have hl := hrm.2.2.1 p (by omega) (by omega)
      have hl2 := hwf.2.2.2.1 p (by omega) (by omega)
      rw [hl]
      refine m_30 ⟨by omega, by omega⟩ (ok _ (by omega) ?_)
      rw [if_neg (by omega), if_neg g5]
    · rw [if_neg (by omega), if_pos (by omega)]
    · have hl := hrm.2.2.2.1 p i (by omega) (by omega) (by omega) (by omega)
      have hl2 := hwf.2.2.1 p i (by omega) (by omega) (by omega) (by omega)
      rw [hl]
      refine m_30 hl2 (ok _ (by omega) ?_)
      rw [if_pos (by omega)]
theorem m_66 {c w : Int} (hJ : j_J S V b) (hc : 0 ≤ c ∧ c < 65536) (h : j_m S (s_set (S 0 9) V c w) Q) : q_c 66 [vR 36, vI c, vI w] S Q Z := by
  obtain ⟨e4, hg⟩ := j_has hJ
  refine b_66_0 ?_
  rcases hg with hg | ⟨hg, hwf, hwi, hpx, hnn, hrm, hrc⟩
  · have no1 : ∀ a, Q a (q_up S 36 0 1) := fun a => j_m_no h (j_sp1 hg) (by decide)
    clear h hJ
    repeat' (first | omega | apply And.intro | intro _)
    all_goals exact no1 _
  · have no2 : (c < 65 ∨ 72 < c ∨ vHr V (c - 65) = 0 ∨ w < 0 ∨ 2 < w) → Q 0 (q_up S 36 0 2) := fun g => j_m_no h (j_sp2 (by omega) g) (by decide)
    have ok : ∀ a, ¬ (c < 65 ∨ 72 < c ∨ vHr V (c - 65) = 0 ∨ w < 0 ∨ 2 < w) → (a = if w = 0 then vNu V (c - 65) else if w = 1 then vFi V (c - 65) else vFo V (c - 65)) → Q a (q_up S 36 0 0) := fun a hn ha => j_m_ok h (j_sp0 (by omega) hn (fun f => f) ha)
    clear h hJ
    by_cases hc2 : 65 ≤ c ∧ c ≤ 72
    · have hr := hrm.2.2.2.2.2.2.2.2.2 (c - 65) (by omega) (by omega)
      have hff := hrm.2.2.2.2.2.2.2.1 (c - 65) (by omega) (by omega)
      have hn := hnn (c - 65)
      clear hwf hwi hpx hnn hrm hrc
      repeat' (first | omega | apply And.intro | intro _)
      all_goals first | exact no2 (by omega) | exact ok _ (by omega) (by rw [if_pos (by omega)]; omega) | exact ok _ (by omega) (by rw [if_neg (by omega), if_pos (by omega)]; omega) | exact ok _ (by omega) (by rw [if_neg (by omega), if_neg (by omega)]; omega)
    · clear hwf hwi hpx hnn hrm hrc
      repeat' (first | omega | apply And.intro | intro _)
      all_goals exact no2 (by omega)
theorem m_67 {s k : Int} (hJ : j_J S V b) (h : j_m S (s_itm (S 0 9) V s k) Q) : q_c 67 [vR 36, vI s, vI k] S Q Z := by
  obtain ⟨e4, hg⟩ := j_has hJ
  have hJ0 := j_J_ag (T := q_up S 36 0 0) j_ag_0 hJ
  refine b_67_0 ?_
  rcases hg with hg | ⟨hg, hwf, hwi, hpx, hnn, hrm, hrc⟩
  · refine ⟨fun g => by omega, fun _ => ⟨fun g => by omega, fun _ => j_m_no h (j_sp1 hg) (by decide)⟩⟩
  · obtain ⟨-, -, -, ⟨-, hg0⟩, -⟩ := hJ0
    rcases hg0 with hg0 | ⟨-, -, -, -, -, hrm0, -⟩
    · exact absurd (show S 0 9 = 0 from hg0) (by omega)
    have e5 := hrm.2.2.2.2.1
    refine ⟨fun _ => m_64 (fun g => ⟨fun _ => ⟨fun _ => ?_, fun g2 => by omega⟩, fun g2 => by omega⟩) (fun g => ⟨fun g2 => by omega, fun _ => ⟨fun g2 => by omega, fun _ => j_m_no h (j_sp2 (by omega) (by omega)) (by decide)⟩⟩), fun g => by omega⟩
    exact m_67l hrm0 hwf ⟨g.1, by omega⟩ fun a ha => j_m_ok h (j_sp0 (by omega) (by omega) (fun f => f) ha)
theorem m_68 {s c : Int} (hJ : j_J S V b) (h : j_m S (s_go (S 0 9) V s c) Q) : q_c 68 [vR 36, vI s, vI c] S Q Z := by
  obtain ⟨e4, hg⟩ := j_has hJ
  refine b_68_0 ?_
  rcases hg with hg | ⟨hg, hwf, hwi, hpx, hnn, hrm, hrc⟩
  · refine ⟨fun g => by omega, fun _ => ⟨fun g => by omega, fun _ => j_m_no h (j_sp1 hg) (by decide)⟩⟩
  · have e5 := hrm.2.2.2.2.1
    have e40 := hwf.2.2.2.2.1
    have hr := v_sym_r c
    refine ⟨fun _ => m_64 (fun g => ⟨fun _ => m_29 ⟨fun g2 => ⟨fun _ => ⟨by unfold q_rg; omega, m_29 ⟨by unfold q_rg; omega, by omega, by omega, ?_⟩⟩, fun g3 => by omega⟩, fun g2 => ⟨fun g3 => by omega, fun _ => j_m_no h (j_sp3 (by omega) (by omega) (by omega)) (by decide)⟩⟩, fun g2 => by omega⟩) (fun g => ⟨fun g2 => by omega, fun _ => ⟨fun g2 => by omega, fun _ => j_m_no h (j_sp2 (by omega) (by omega)) (by decide)⟩⟩), fun g => by omega⟩
    have e := hrm.2.2.2.2.2.2.1 s (v_sym c) g.1 (by omega) (by omega) (by omega)
    refine j_m_ok h (j_sp0 (by omega) (by omega) (by omega) ?_)
    rw [q_up_ne (by decide), e]
theorem m_69 {s p o : Int} (hJ : j_J S V b) (h : j_m S (s_bhd (S 0 9) V s p o) Q) : q_c 69 [vR 36, vI s, vI p, vI o] S Q Z := by
  obtain ⟨e4, hg⟩ := j_has hJ
  have hJ0 := j_J_ag (T := q_up S 36 0 0) j_ag_0 hJ
  refine b_69_0 ?_
  rcases hg with hg | ⟨hg, hwf, hwi, hpx, hnn, hrm, hrc⟩
  · refine ⟨fun g => by omega, fun _ => ⟨fun g => by omega, fun _ => j_m_no h (j_sp1 hg) (by decide)⟩⟩
  · obtain ⟨-, -, -, ⟨-, hg0⟩, -⟩ := hJ0
    rcases hg0 with hg0 | ⟨-, -, -, -, -, hrm0, -⟩
    · exact absurd (show S 0 9 = 0 from hg0) (by omega)
    have e5 := hrm.2.2.2.2.1
    have e1 := hrm.1
    refine ⟨fun _ => m_64 (fun g => ⟨fun g2 => by omega, fun _ => m_63 (fun g2 => ⟨fun _ => ⟨fun g3 => ⟨fun g4 => by omega, fun _ => j_m_no h (j_sp3 (by omega) (by omega) (by omega)) (by decide)⟩, fun g3 => ⟨fun g4 => ⟨fun _ => ?_, fun g5 => by omega⟩, fun g4 => ⟨fun g5 => by omega, fun _ => j_m_no h (j_sp3 (by omega) (by omega) (by omega)) (by decide)⟩⟩⟩, fun g3 => by omega⟩) (fun g2 => ⟨fun g3 => by omega, fun _ => ⟨fun g3 => by omega, fun _ => j_m_no h (j_sp2 (by omega) (by omega)) (by decide)⟩⟩)⟩) (fun g => ⟨fun _ => ⟨fun g2 => by omega, fun _ => j_m_no h (j_sp2 (by omega) (by omega)) (by decide)⟩, fun g2 => by omega⟩), fun g => by omega⟩
    exact m_52 hrm0 hwf ⟨g.1, by omega⟩ ⟨by omega, by omega⟩ (j_m_ok h (j_sp0 (by omega) (by omega) (by omega) rfl))
theorem m_70 {s c : Int} (hJ : j_J S V b) (h : j_m S (s_act (S 0 9) V b s c) Q) : q_c 70 [vR 36, vI s, vI c] S Q Z := by
  obtain ⟨e4, hg⟩ := j_has hJ
  have hJ0 := j_J_ag (T := q_up S 36 0 0) j_ag_0 hJ
  refine b_70_0 ?_
  rcases hg with hg | ⟨hg, hwf, hwi, hpx, hnn, hrm, hrc⟩
  · refine ⟨fun g => by omega, fun _ => ⟨fun g => by omega, fun _ => j_m_no h (j_sp1 hg) (by decide)⟩⟩
  · obtain ⟨-, -, ⟨hbw, hbm, -⟩, ⟨-, hg0⟩, -⟩ := hJ0
    rcases hg0 with hg0 | ⟨-, -, -, -, -, hrm0, -⟩
    · exact absurd (show S 0 9 = 0 from hg0) (by omega)
    have e5 := hrm.2.2.2.2.1
    have hr := v_tok_r c
    refine ⟨fun _ => m_64 (fun g => ⟨fun _ => m_31 ⟨fun g2 => ⟨fun _ => m_31 ?_, fun g3 => by omega⟩, fun g2 => ⟨fun g3 => by omega, fun _ => j_m_no h (j_sp3 (by omega) (by omega) (by omega)) (by decide)⟩⟩, fun g2 => by omega⟩) (fun g => ⟨fun g2 => by omega, fun _ => ⟨fun g2 => by omega, fun _ => j_m_no h (j_sp2 (by omega) (by omega)) (by decide)⟩⟩), fun g => by omega⟩
    exact m_57 hrm0 hwf hbm hbw ⟨g.1, by omega⟩ ⟨by omega, by omega⟩ fun a ha => j_m_ok h (j_sp0 (by omega) (by omega) (by omega) ha)
theorem m_71 {k : Int} (hJ : j_J S V b) (h : j_m S (s_uns (S 0 9) V b k) Q) : q_c 71 [vR 36, vI k] S Q Z := by
  obtain ⟨e4, hg⟩ := j_has hJ
  have hJ0 := j_J_ag (T := q_up S 36 0 0) j_ag_0 hJ
  refine b_71_0 ?_
  rcases hg with hg | ⟨hg, hwf, hwi, hpx, hnn, hrm, hrc⟩
  · refine ⟨fun g => by omega, fun _ => ⟨fun g => by omega, fun _ => j_m_no h (j_sp1 hg) (by decide)⟩⟩
  · obtain ⟨-, -, ⟨hbw, hbm, -⟩, ⟨-, hg0⟩, -⟩ := hJ0
    rcases hg0 with hg0 | ⟨-, -, -, -, -, hrm0, -⟩
    · exact absurd (show S 0 9 = 0 from hg0) (by omega)
    have ok : ∀ a, v_ua V b k a → Q a (q_up S 36 0 0) := fun a ha => j_m_ok h (j_sp0 (by omega) (fun f => f) (fun f => f) ha)
    refine ⟨fun _ => ⟨fun _ => ⟨fun g => m_60 hrm0 hwf hbm (fun _ a ha => ok a ha) (fun g2 => by omega), fun g => ok _ (Or.inr ⟨fun c _ _ e => ?_, rfl⟩)⟩, fun g => by omega⟩, fun g => by omega⟩
    have := v_uc_r (V := V) (b := b) c
    omega
theorem m_77 {k : Int} (hJ : j_J S V b) (h : j_m S (s_stk S k) Q) : q_c 77 [vR 36, vI k] S Q Z := by
  obtain ⟨-, -, -, -, ⟨e4, hg⟩⟩ := hJ
  refine b_77_0 ?_
  have no1 : (S 27 0 = 0 ∨ k < 0 ∨ S 27 2 ≤ k) → Q 0 (q_up S 36 0 1) := fun g => j_m_no h (j_sp1 g) (by decide)
  rcases hg with hg | ⟨hg, h09, hp⟩
  · repeat' (first | omega | apply And.intro | intro _)
    exact no1 (by omega)
  · obtain ⟨p1, p2, p3, p4, p5, p6, p7, p8, p9, p10, p11, p12, p13, -⟩ := hp
    repeat' (first | omega | apply And.intro | intro _)
    · exact no1 (by omega)
    · have q := (p13 k (by omega) (by omega)).1
      exact j_m_ok h (j_sp0 (by omega) (fun f => f) (fun f => f) q)
    · exact no1 (by omega)
theorem m_78l {s : Int} (hR : v_rm S V) (hV : v_wf V) (hB : v_bm S b) (hbw : v_bw b) (ho : S 36 24 ≠ 0) (hd : 1 ≤ S 36 28 ∧ S 36 28 ≤ 24) (hs : 0 ≤ s ∧ s < vSt V) (he : S 54 (S 36 28 - 1) = s) (h : ∀ a, v_ex V b s 9 a → Q a S) : q_r 78 20 [vR 36, vI 0, vI 0] [] S Q Z := by
  have key : ∀ (t a : Int), t ≤ 9 → (0 ≤ t ∧ v_ex V b s t a) → q_r 78 20 [vR 36, vI a, vI t] [] S Q Z := by
    refine n_for 9 (fun t a => 0 ≤ t ∧ v_ex V b s t a) (fun t a => q_r 78 20 [vR 36, vI a, vI t] [] S Q Z) ?_ ?_
    · rintro a ⟨-, ha⟩
      exact b_78_20 ⟨fun _ => h a ha, fun g => by omega⟩
    · rintro t a ⟨t0, ha⟩ tl ih
      refine b_78_20 ⟨fun g => by omega, fun _ => ⟨fun g => absurd g ho, fun _ => ⟨by unfold q_rg; omega, by omega, by omega, ?_⟩⟩⟩
      rw [he]
      refine m_57 hR hV hB hbw hs ⟨t0, by omega⟩ ?_
      intro x hx
      obtain ⟨k1, k2⟩ := v_ex_s ha ⟨t0, tl⟩ hx
      exact ⟨fun g => ⟨by unfold q_rg; omega, ih _ ⟨by omega, k1 g⟩⟩, fun g => ⟨by unfold q_rg; omega, ih _ ⟨by omega, k2 g⟩⟩⟩
  exact key 0 0 (by omega) ⟨by omega, v_ex_0⟩
theorem m_78 (hJ : j_J S V b) (h : j_m S (s_exp S V b) Q) : q_c 78 [vR 36] S Q Z := by
  have hJ0 := j_J_ag (T := q_up S 36 0 0) j_ag_0 hJ
  obtain ⟨-, -, -, -, ⟨e4, hg⟩⟩ := hJ
  refine b_78_0 ?_
  rcases hg with hg | ⟨hg, h09, hp⟩
  · refine ⟨fun g => by omega, fun _ => b_78_20 ⟨fun g => by omega, fun _ => ⟨fun _ => j_m_no h (j_sp1 hg) (by decide), fun g => ?_⟩⟩⟩
    rw [n_up, if_neg (by omega)] at g
    omega
  · obtain ⟨-, -, ⟨hbw, hbm, -⟩, ⟨-, hg0⟩, -⟩ := hJ0
    rcases hg0 with hg0 | ⟨-, hwf, -, -, -, hrm0, -⟩
    · exact absurd (show S 0 9 = 0 from hg0) (by omega)
    obtain ⟨p1, p2, p3, p4, p5, p6, p7, p8, p9, p10, p11, p12, p13, -⟩ := hp
    have q := p13 (S 27 2 - 1) (by omega) (by omega)
    have e28 : q_up S 36 0 0 36 28 = S 27 2 := by rw [n_up, if_neg (by omega)]; exact p3
    have e24 : q_up S 36 0 0 36 24 = 1 := by rw [n_up, if_neg (by omega)]; omega
    refine ⟨fun _ => m_78l (s := S 28 (S 27 2 - 1)) hrm0 hwf hbm hbw (by omega) (by omega) q.2 ?_ fun a ha => j_m_ok h (j_sp0 (by omega) (fun f => f) (fun f => f) ha), fun g => by omega⟩
    rw [e28, q_up_ne (by decide), q.1]
theorem m_79 {k w : Int} (hJ : j_J S V b) (h : j_m S (s_nod S V k w) Q) : q_c 79 [vR 36, vI k, vI w] S Q Z := by
  obtain ⟨-, -, -, -, ⟨e4, hg⟩⟩ := hJ
  refine b_79_0 ?_
  have no1 : (S 27 0 = 0 ∨ k < 0 ∨ S 30 5 ≤ k) → Q 0 (q_up S 36 0 1) := fun g => j_m_no h (j_sp1 g) (by decide)
  rcases hg with hg | ⟨hg, h09, hp⟩
  · repeat' (first | omega | apply And.intro | intro _)
    exact no1 (by omega)
  · obtain ⟨p1, p2, p3, p4, p5, p6, p7, p8, p9, p10, p11, p12, p13, p14, p15, p16, p17⟩ := hp
    by_cases hk : 0 ≤ k ∧ k < S 30 5
    · obtain ⟨q1, q2, q3, q4, q5, q6, q7, q8⟩ := p17 k hk.1 hk.2
      have no2 : (w < 0 ∨ 4 < w) → Q 0 (q_up S 36 0 2) := fun g => j_m_no h (j_sp2 (by omega) g) (by decide)
      have ok : ∀ a, ¬ (w < 0 ∨ 4 < w) → (a = if w = 0 then v_cod (S 31 k) else if w = 1 then S 32 k else if w = 2 then j_nz S V k else if w = 3 then S 33 k else S 34 k) → Q a (q_up S 36 0 0) := fun a hn ha => j_m_ok h (j_sp0 (by omega) hn (fun f => f) ha)
      clear h
      repeat' (first | omega | apply And.intro | intro _)
      all_goals first | exact no1 (by omega) | exact no2 (by omega) | exact ok _ (by omega) (by rw [if_pos (by omega)]; omega) | exact ok _ (by omega) (by rw [if_neg (by omega), if_pos (by omega)]; omega) | exact ok _ (by omega) (by rw [if_neg (by omega), if_neg (by omega), if_pos (by omega)]; omega) | exact ok _ (by omega) (by rw [if_neg (by omega), if_neg (by omega), if_neg (by omega), if_pos (by omega)]; omega) | exact ok _ (by omega) (by rw [if_neg (by omega), if_neg (by omega), if_neg (by omega), if_neg (by omega)]; omega)
    · clear h
      repeat' (first | omega | apply And.intro | intro _)
      all_goals exact no1 (by omega)
theorem m_80 {k i : Int} (hJ : j_J S V b) (h : j_m S (s_chd S V k i) Q) : q_c 80 [vR 36, vI k, vI i] S Q Z := by
  obtain ⟨-, -, -, ⟨-, hgg⟩, ⟨e4, hg⟩⟩ := hJ
  refine b_80_0 ?_
  have no1 : (S 27 0 = 0 ∨ k < 0 ∨ S 30 5 ≤ k ∨ i < 0 ∨ j_nz S V k ≤ i) → Q 0 (q_up S 36 0 1) := fun g => j_m_no h (j_sp1 g) (by decide)
  rcases hg with hg | ⟨hg, h09, hp⟩
  · clear h
    repeat' (first | omega | apply And.intro | intro _)
    exact no1 (by omega)
  · obtain ⟨p1, p2, p3, p4, p5, p6, p7, p8, p9, p10, p11, p12, p13, p14, p15, p16, p17⟩ := hp
    rcases hgg with hgg | ⟨-, hwf, -⟩
    · omega
    by_cases hk : 0 ≤ k ∧ k < S 30 5
    · obtain ⟨q1, q2, q3, q4, q5, q6, q7, q8⟩ := p17 k hk.1 hk.2
      have h4 : j_nz S V k ≤ 4 := by
        unfold j_nz
        split
        · omega
        · exact (hwf.2.1 _ q4.1 q4.2).2
      have ok : ¬ (S 27 0 = 0 ∨ k < 0 ∨ S 30 5 ≤ k ∨ i < 0 ∨ j_nz S V k ≤ i) → Q (S 61 (4 * k + i)) (q_up S 36 0 0) := fun hn => j_m_ok h (j_sp0 hn (fun f => f) (fun f => f) (q8 i (by omega) (by omega)))
      clear h
      repeat' (first | omega | apply And.intro | intro _)
      all_goals first | exact no1 (by omega) | exact ok (by omega)
    · clear h
      repeat' (first | omega | apply And.intro | intro _)
      all_goals exact no1 (by omega)
end ApiM
