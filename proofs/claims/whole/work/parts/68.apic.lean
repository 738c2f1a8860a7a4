/-! the class's answers by the law's helpers -/
def j_h (S : q_S) (sp : Int → Int → Prop) (Q : q_Q) : Prop := ∀ k a T, sp k a → (k = 0 ∧ T = q_up S 62 0 a ∨ k ≠ 0 ∧ T = q_tk S) → Q k T
theorem j_h_ok {S : q_S} {sp : Int → Int → Prop} {Q : q_Q} (h : j_h S sp Q) {a : Int} (hs : sp 0 a) : Q 0 (q_up S 62 0 a) := h 0 a _ hs (Or.inl ⟨rfl, rfl⟩)
theorem j_h_no {S : q_S} {sp : Int → Int → Prop} {Q : q_Q} (h : j_h S sp Q) {k : Int} (hs : sp k 0) (hk : k ≠ 0) : Q k (q_tk S) := h k 0 _ hs (Or.inr ⟨hk, rfl⟩)
theorem j_sp1 {c1 c2 c3 : Prop} {R : Int → Prop} {a : Int} (h : c1) : j_sp c1 c2 c3 R 1 a := Or.inl ⟨h, rfl⟩
theorem j_sp2 {c1 c2 c3 : Prop} {R : Int → Prop} {a : Int} (h1 : ¬ c1) (h2 : c2) : j_sp c1 c2 c3 R 2 a := Or.inr (Or.inl ⟨h1, h2, rfl⟩)
theorem j_sp3 {c1 c2 c3 : Prop} {R : Int → Prop} {a : Int} (h1 : ¬ c1) (h2 : ¬ c2) (h3 : c3) : j_sp c1 c2 c3 R 3 a := Or.inr (Or.inr (Or.inl ⟨h1, h2, h3, rfl⟩))
theorem j_sp0 {c1 c2 c3 : Prop} {R : Int → Prop} {a : Int} (h1 : ¬ c1) (h2 : ¬ c2) (h3 : ¬ c3) (h : R a) : j_sp c1 c2 c3 R 0 a := Or.inr (Or.inr (Or.inr ⟨h1, h2, h3, rfl, h⟩))
def s_num (h : Int) (V : v_V) (b : v_B) (w : Int) := j_sp (h = 0) (w < 0 ∨ 3 < w) False (fun a => (0 ≤ w ∧ w ≤ 3) ∧ (w = 0 → a = vP V) ∧ (w = 1 → a = vSt V) ∧ (w = 2 → v_kd V a) ∧ (w = 3 → a = v_uc V b (9 * vSt V).toNat))
def s_sym (h : Int) (V : v_V) (p i : Int) := j_sp (h = 0) (p < 0 ∨ vP V < p ∨ i < -1 ∨ vSz V p ≤ i) False (fun a => a = if 0 ≤ i then v_cod (vLt V p i) else if p = 0 then 0 else v_cod (vLf V p))
def s_set (h : Int) (V : v_V) (c w : Int) := j_sp (h = 0) (c < 65 ∨ 72 < c ∨ vHr V (c - 65) = 0 ∨ w < 0 ∨ 2 < w) False (fun a => a = if w = 0 then vNu V (c - 65) else if w = 1 then vFi V (c - 65) else vFo V (c - 65))
def s_itm (h : Int) (V : v_V) (s k : Int) := j_sp (h = 0) (s < 0 ∨ vSt V ≤ s) False (v_ia V s k)
def s_go (h : Int) (V : v_V) (s c : Int) := j_sp (h = 0) (s < 0 ∨ vSt V ≤ s) (v_sym c = -1) (fun a => a = vGo V s (v_sym c))
def s_bhd (h : Int) (V : v_V) (s p o : Int) := j_sp (h = 0) (s < 0 ∨ vSt V ≤ s ∨ p < 0 ∨ vP V < p) (o < 0 ∨ 2 < o) (fun a => a = v_sb V s p o)
def s_act (h : Int) (V : v_V) (b : v_B) (s c : Int) := j_sp (h = 0) (s < 0 ∨ vSt V ≤ s) (v_tok c = -1) (v_act V b s (v_tok c))
def s_uns (h : Int) (V : v_V) (b : v_B) (k : Int) := j_sp (h = 0) False False (v_ua V b k)
def s_stk (S : q_S) (k : Int) := j_sp (S 27 0 = 0 ∨ k < 0 ∨ S 27 2 ≤ k) False False (fun a => a = S 28 k)
def s_exp (S : q_S) (V : v_V) (b : v_B) := j_sp (S 27 0 = 0) False False (v_ex V b (S 28 (S 27 2 - 1)) 9)
def s_nod (S : q_S) (V : v_V) (k w : Int) := j_sp (S 27 0 = 0 ∨ k < 0 ∨ S 30 5 ≤ k) (w < 0 ∨ 4 < w) False (fun a => a = if w = 0 then v_cod (S 31 k) else if w = 1 then S 32 k else if w = 2 then j_nz S V k else if w = 3 then S 33 k else S 34 k)
def s_chd (S : q_S) (V : v_V) (k i : Int) := j_sp (S 27 0 = 0 ∨ k < 0 ∨ S 30 5 ≤ k ∨ i < 0 ∨ j_nz S V k ≤ i) False False (fun a => a = S 35 (4 * k + i))
section ApiC
variable {S : q_S} {V : v_V} {b : v_B} {Q : q_Q} {Z : q_Z}
theorem c_161 {w : Int} (hJ : j_J S V b) (hx : S 65 0 < 1000) (h : j_h S (s_num (S 0 9) V b w) Q) : q_c 161 [vR 0, vI w, vR 62] S Q Z := by
  obtain ⟨-, -, ⟨hbw, hbm, hbc⟩, ⟨e4, hg⟩, -⟩ := hJ
  refine b_161_0 ?_
  refine b_5_0 ?_
  rcases hg with hg | ⟨hg, hwf, hwi, hpx, hnn, hrm, hrc⟩
  · exact b_20_0 ⟨fun g => absurd hg g, fun _ => ⟨hx, j_h_no h (j_sp1 hg) (by decide)⟩⟩
  · refine b_20_0 ⟨fun _ => ?_, fun g => absurd (by omega) g⟩
    have ok : ∀ a, (0 ≤ w ∧ w ≤ 3) ∧ (w = 0 → a = vP V) ∧ (w = 1 → a = vSt V) ∧ (w = 2 → v_kd V a) ∧ (w = 3 → a = v_uc V b (9 * vSt V).toNat) → (0 : Int) ≤ 0 ∧ (0 : Int) < 1 ∧ Q 0 (q_up S 62 0 a) := fun a ha => ⟨by decide, by decide, j_h_ok h (j_sp0 (by omega) (by omega) (fun f => f) ha)⟩
    refine ⟨⟨fun g => ok _ ?_, ⟨fun g => ok _ ?_, ⟨fun g => c_90 hrc hwf fun r hr => ok _ ?_, ⟨fun g => c_93 hrc hwf hbc hbw (ok _ ?_), trivial⟩⟩⟩⟩, fun g => ⟨hx, j_h_no h (j_sp2 (by omega) (by omega)) (by decide)⟩⟩
    · exact ⟨by omega, fun _ => hrc.1, by omega, by omega, by omega⟩
    · exact ⟨by omega, by omega, fun _ => hrc.2.2.2.2.1, by omega, by omega⟩
    · exact ⟨by omega, by omega, by omega, fun _ => hr, by omega⟩
    · exact ⟨by omega, by omega, by omega, by omega, fun _ => rfl⟩
theorem c_162 {p i : Int} (hJ : j_J S V b) (hx : S 65 0 < 1000) (h : j_h S (s_sym (S 0 9) V p i) Q) : q_c 162 [vR 0, vI p, vI i, vR 62] S Q Z := by
  obtain ⟨-, -, -, ⟨e4, hg⟩, -⟩ := hJ
  refine b_162_0 ?_
  refine b_6_0 ?_
  rcases hg with hg | ⟨hg, hwf, hwi, hpx, hnn, hrm, hrc⟩
  · exact b_20_0 ⟨fun g => absurd hg g, fun _ => ⟨hx, j_h_no h (j_sp1 hg) (by decide)⟩⟩
  · refine b_20_0 ⟨fun _ => ?_, fun g => absurd (by omega) g⟩
    have ok : ∀ a, ¬ (p < 0 ∨ vP V < p ∨ i < -1 ∨ vSz V p ≤ i) → (a = if 0 ≤ i then v_cod (vLt V p i) else if p = 0 then 0 else v_cod (vLf V p)) → (0 : Int) ≤ 0 ∧ (0 : Int) < 1 ∧ Q 0 (q_up S 62 0 a) := fun a hn ha => ⟨by decide, by decide, j_h_ok h (j_sp0 (by omega) hn (fun f => f) ha)⟩
    have no : (p < 0 ∨ vP V < p ∨ i < -1 ∨ vSz V p ≤ i) → S 65 0 < 1000 ∧ Q 2 (q_tk S) := fun hn => ⟨hx, j_h_no h (j_sp2 (by omega) hn) (by decide)⟩
    have hP := hrc.1
    have hP2 := hwf.1
    refine b_22_0 ⟨fun g => no (Or.inl g), fun g => ⟨fun g2 => ?_, fun g2 => no (Or.inr (Or.inl (by omega)))⟩⟩
    have hz := hrc.2.1 p (by omega) (by omega)
    refine ⟨fun g3 => no (by omega), fun g3 => ⟨by omega, by omega, fun g4 => ⟨fun g5 => ⟨fun g6 => ⟨by omega, by omega, ?_⟩, fun g6 => ok _ (by omega) ?_⟩, fun g5 => ?_⟩, fun g4 => no (by omega)⟩⟩
    · have hl := hrc.2.2.1 p (by omega) (by omega)
      have hl2 := hwf.2.2.2.1 p (by omega) (by omega)
      rw [hl]
      refine c_27 ⟨by omega, by omega⟩ (ok _ (by omega) ?_)
      rw [if_neg (by omega), if_neg g6]
    · rw [if_neg (by omega), if_pos (by omega)]
    · refine c_105 hrc hwf ⟨by omega, by omega⟩ ⟨by omega, by omega⟩ ?_
      have hl2 := hwf.2.2.1 p i (by omega) (by omega) (by omega) (by omega)
      refine c_27 hl2 (ok _ (by omega) ?_)
      rw [if_pos (by omega)]
theorem c_163 {c w : Int} (hJ : j_J S V b) (hx : S 65 0 < 1000) (h : j_h S (s_set (S 0 9) V c w) Q) : q_c 163 [vR 0, vI c, vI w, vR 62] S Q Z := by
  obtain ⟨-, -, -, ⟨e4, hg⟩, -⟩ := hJ
  refine b_163_0 ?_
  refine b_7_0 ?_
  rcases hg with hg | ⟨hg, hwf, hwi, hpx, hnn, hrm, hrc⟩
  · exact b_20_0 ⟨fun g => absurd hg g, fun _ => ⟨hx, j_h_no h (j_sp1 hg) (by decide)⟩⟩
  · refine b_20_0 ⟨fun _ => ?_, fun g => absurd (by omega) g⟩
    have ok : ∀ a, ¬ (c < 65 ∨ 72 < c ∨ vHr V (c - 65) = 0 ∨ w < 0 ∨ 2 < w) → (a = if w = 0 then vNu V (c - 65) else if w = 1 then vFi V (c - 65) else vFo V (c - 65)) → (0 : Int) ≤ 0 ∧ (0 : Int) < 1 ∧ Q 0 (q_up S 62 0 a) := fun a hn ha => ⟨by decide, by decide, j_h_ok h (j_sp0 (by omega) hn (fun f => f) ha)⟩
    have no : (c < 65 ∨ 72 < c ∨ vHr V (c - 65) = 0 ∨ w < 0 ∨ 2 < w) → S 65 0 < 1000 ∧ Q 2 (q_tk S) := fun hn => ⟨hx, j_h_no h (j_sp2 (by omega) hn) (by decide)⟩
    refine c_25 ?_
    by_cases hc : 65 ≤ c ∧ c ≤ 72
    · have ec : v_sym c = c - 65 := by unfold v_sym; rw [if_pos hc]
      rw [ec]
      refine ⟨fun g => by omega, fun _ => ⟨fun g => by omega, fun _ => ?_⟩⟩
      have hr := hrc.2.2.2.2.2.2.2.2.2.2 (c - 65) (by omega) (by omega)
      have hff := hrc.2.2.2.2.2.2.2.2.1 (c - 65) (by omega) (by omega)
      refine b_106_0 ⟨by omega, by omega, fun g => ⟨⟨by omega, by omega⟩, ⟨fun g2 => by omega, fun _ => no (by omega)⟩⟩, fun g => ⟨⟨by omega, by omega⟩, ⟨fun _ => ?_, fun g2 => by omega⟩⟩⟩
      have hnu := hrc.2.2.2.2.2.2.2.1
      have hb := hnu.2 (c - 65).toNat (by omega)
      have e5 : (((c - 65).toNat : Nat) : Int) = c - 65 := by omega
      rw [e5] at hb
      refine ⟨⟨fun g2 => b_133_0 ?_, ⟨fun g2 => ⟨by omega, by omega, ok _ (by omega) ?_⟩, ⟨fun g2 => ⟨by omega, by omega, ok _ (by omega) ?_⟩, trivial⟩⟩⟩, fun g2 => no (by omega)⟩
      · rw [n_shr1 hnu.1 (by omega) (by omega), hb]
        rcases hnn (c - 65) with e | e
        · refine ⟨fun _ => ⟨⟨by omega, by omega⟩, ⟨fun _ => ok _ (by omega) (by rw [if_pos g2, e]), fun g3 => absurd rfl g3⟩⟩, fun g3 => ?_⟩
          rw [e] at g3
          exact absurd rfl g3
        · refine ⟨fun g3 => ?_, fun _ => ⟨⟨by omega, by omega⟩, ⟨fun g3 => by omega, fun _ => ok _ (by omega) (by rw [if_pos g2, e])⟩⟩⟩
          rw [e] at g3
          simp at g3
      · rw [if_neg (by omega), if_pos g2, hff.1]
      · rw [if_neg (by omega), if_neg (by omega), hff.2]
    · have ec : v_sym c = -1 ∨ 8 ≤ v_sym c := by
        unfold v_sym
        rw [if_neg hc]
        split <;> omega
      exact ⟨fun g => no (by omega), fun g => ⟨fun g2 => no (by omega), fun g2 => by omega⟩⟩
theorem c_21 {s : Int} {T : q_S} (h : 0 ≤ s ∧ s < T 16 0 → Q 0 T) (hn : s < 0 ∨ T 16 0 ≤ s → T 65 0 < 1000 ∧ Z 2 (q_tk T)) : q_c 21 [vR 0, vI s] T Q Z := by
  exact b_21_0 ⟨fun g => hn (by omega), fun g => ⟨fun g2 => h (by omega), fun g2 => hn (by omega)⟩⟩
theorem c_22 {s : Int} {T : q_S} (h : 0 ≤ s ∧ s ≤ T 3 4 → Q 0 T) (hn : s < 0 ∨ T 3 4 < s → T 65 0 < 1000 ∧ Z 2 (q_tk T)) : q_c 22 [vR 0, vI s] T Q Z := by
  exact b_22_0 ⟨fun g => hn (by omega), fun g => ⟨fun g2 => h (by omega), fun g2 => hn (by omega)⟩⟩
theorem c_164 {s k : Int} (hJ : j_J S V b) (hx : S 65 0 < 1000) (h : j_h S (s_itm (S 0 9) V s k) Q) : q_c 164 [vR 0, vI s, vI k, vR 62] S Q Z := by
  obtain ⟨-, -, -, ⟨e4, hg⟩, -⟩ := hJ
  refine b_164_0 ?_
  refine b_8_0 ?_
  rcases hg with hg | ⟨hg, hwf, hwi, hpx, hnn, hrm, hrc⟩
  · exact b_20_0 ⟨fun g => absurd hg g, fun _ => ⟨hx, j_h_no h (j_sp1 hg) (by decide)⟩⟩
  · refine b_20_0 ⟨fun _ => ?_, fun g => absurd (by omega) g⟩
    have e5 := hrc.2.2.2.2.1
    refine c_21 (fun g => ?_) (fun g => ⟨hx, j_h_no h (j_sp2 (by omega) (by omega)) (by decide)⟩)
    exact c_143 hrc hwf hwi ⟨g.1, by omega⟩ fun a ha => ⟨by decide, by decide, j_h_ok h (j_sp0 (by omega) (by omega) (fun f => f) ha)⟩
theorem c_165 {s c : Int} (hJ : j_J S V b) (hx : S 65 0 < 1000) (h : j_h S (s_go (S 0 9) V s c) Q) : q_c 165 [vR 0, vI s, vI c, vR 62] S Q Z := by
  obtain ⟨-, -, -, ⟨e4, hg⟩, -⟩ := hJ
  refine b_165_0 ?_
  refine b_9_0 ?_
  rcases hg with hg | ⟨hg, hwf, hwi, hpx, hnn, hrm, hrc⟩
  · exact b_20_0 ⟨fun g => absurd hg g, fun _ => ⟨hx, j_h_no h (j_sp1 hg) (by decide)⟩⟩
  · refine b_20_0 ⟨fun _ => ?_, fun g => absurd (by omega) g⟩
    have e5 := hrc.2.2.2.2.1
    have hr := v_sym_r c
    refine c_21 (fun g => ?_) (fun g => ⟨hx, j_h_no h (j_sp2 (by omega) (by omega)) (by decide)⟩)
    refine c_25 ⟨fun g2 => ?_, fun g2 => ⟨hx, j_h_no h (j_sp3 (by omega) (by omega) (by omega)) (by decide)⟩⟩
    exact c_142 hrc hwf ⟨g.1, by omega⟩ ⟨by omega, by omega⟩ ⟨by decide, by decide, j_h_ok h (j_sp0 (by omega) (by omega) g2 rfl)⟩
theorem c_166 {s p o : Int} (hJ : j_J S V b) (hx : S 65 0 < 1000) (h : j_h S (s_bhd (S 0 9) V s p o) Q) : q_c 166 [vR 0, vI s, vI p, vI o, vR 62] S Q Z := by
  obtain ⟨-, -, -, ⟨e4, hg⟩, -⟩ := hJ
  refine b_166_0 ?_
  refine b_10_0 ?_
  rcases hg with hg | ⟨hg, hwf, hwi, hpx, hnn, hrm, hrc⟩
  · exact b_20_0 ⟨fun g => absurd hg g, fun _ => ⟨hx, j_h_no h (j_sp1 hg) (by decide)⟩⟩
  · refine b_20_0 ⟨fun _ => ?_, fun g => absurd (by omega) g⟩
    have e5 := hrc.2.2.2.2.1
    have e1 := hrc.1
    refine c_21 (fun g => ?_) (fun g => ⟨hx, j_h_no h (j_sp2 (by omega) (by omega)) (by decide)⟩)
    refine c_22 (fun g2 => ?_) (fun g2 => ⟨hx, j_h_no h (j_sp2 (by omega) (by omega)) (by decide)⟩)
    refine ⟨fun g3 => ⟨hx, j_h_no h (j_sp3 (by omega) (by omega) (by omega)) (by decide)⟩, fun g3 => ⟨fun g4 => ?_, fun g4 => ⟨hx, j_h_no h (j_sp3 (by omega) (by omega) (by omega)) (by decide)⟩⟩⟩
    exact c_89 hrc hwf ⟨g.1, by omega⟩ ⟨by omega, by omega⟩ ⟨by decide, by decide, j_h_ok h (j_sp0 (by omega) (by omega) (by omega) rfl)⟩
theorem c_167 {s c : Int} (hJ : j_J S V b) (hx : S 65 0 < 1000) (h : j_h S (s_act (S 0 9) V b s c) Q) : q_c 167 [vR 0, vI s, vI c, vR 62] S Q Z := by
  obtain ⟨-, -, ⟨hbw, hbm, hbc⟩, ⟨e4, hg⟩, -⟩ := hJ
  refine b_167_0 ?_
  refine b_11_0 ?_
  rcases hg with hg | ⟨hg, hwf, hwi, hpx, hnn, hrm, hrc⟩
  · exact b_20_0 ⟨fun g => absurd hg g, fun _ => ⟨hx, j_h_no h (j_sp1 hg) (by decide)⟩⟩
  · refine b_20_0 ⟨fun _ => ?_, fun g => absurd (by omega) g⟩
    have e5 := hrc.2.2.2.2.1
    have hr := v_tok_r c
    refine c_21 (fun g => ?_) (fun g => ⟨hx, j_h_no h (j_sp2 (by omega) (by omega)) (by decide)⟩)
    refine c_24 (fun g2 => ?_) (fun g2 => ⟨hx, j_h_no h (j_sp3 (by omega) (by omega) g2) (by decide)⟩)
    exact c_91 hrc hwf hbc hbw ⟨g.1, by omega⟩ ⟨by omega, by omega⟩ fun a ha => ⟨by decide, by decide, j_h_ok h (j_sp0 (by omega) (by omega) g2 ha)⟩
theorem c_168 {k : Int} (hJ : j_J S V b) (hx : S 65 0 < 1000) (h : j_h S (s_uns (S 0 9) V b k) Q) : q_c 168 [vR 0, vI k, vR 62] S Q Z := by
  obtain ⟨-, -, ⟨hbw, hbm, hbc⟩, ⟨e4, hg⟩, -⟩ := hJ
  refine b_168_0 ?_
  refine b_12_0 ?_
  rcases hg with hg | ⟨hg, hwf, hwi, hpx, hnn, hrm, hrc⟩
  · exact b_20_0 ⟨fun g => absurd hg g, fun _ => ⟨hx, j_h_no h (j_sp1 hg) (by decide)⟩⟩
  · refine b_20_0 ⟨fun _ => ?_, fun g => absurd (by omega) g⟩
    exact c_94 hrc hwf hbc hbw fun a ha => ⟨by decide, by decide, j_h_ok h (j_sp0 (by omega) (fun f => f) (fun f => f) ha)⟩
theorem c_171 {k : Int} (hJ : j_J S V b) (hx : S 65 0 < 1000) (h : j_h S (s_stk S k) Q) : q_c 171 [vR 0, vI k, vR 62] S Q Z := by
  obtain ⟨-, -, -, -, ⟨e4, hg⟩⟩ := hJ
  refine b_171_0 ?_
  refine b_16_0 ?_
  rcases hg with hg | ⟨hg, h09, hp⟩
  · exact ⟨fun _ => ⟨hx, j_h_no h (j_sp1 (by omega)) (by decide)⟩, fun g => absurd hg g⟩
  · obtain ⟨p1, p2, p3, p4, p5, p6, p7, p8, p9, p10, -⟩ := hp
    exact ⟨fun g => by omega, fun _ => ⟨fun g => ⟨hx, j_h_no h (j_sp1 (by omega)) (by decide)⟩, fun g => ⟨fun g2 => ⟨by omega, by omega, by decide, by decide, j_h_ok h (j_sp0 (by omega) (fun f => f) (fun f => f) rfl)⟩, fun g2 => ⟨hx, j_h_no h (j_sp1 (by omega)) (by decide)⟩⟩⟩⟩
theorem c_172 (hJ : j_J S V b) (hx : S 65 0 < 1000) (h : j_h S (s_exp S V b) Q) : q_c 172 [vR 0, vR 62] S Q Z := by
  obtain ⟨-, -, ⟨hbw, hbm, hbc⟩, ⟨-, hgg⟩, ⟨e4, hg⟩⟩ := hJ
  refine b_172_0 ?_
  refine b_17_0 ?_
  rcases hg with hg | ⟨hg, h09, hp⟩
  · exact ⟨fun g => absurd hg g, fun _ => ⟨hx, j_h_no h (j_sp1 (by omega)) (by decide)⟩⟩
  · obtain ⟨p1, p2, p3, p4, p5, p6, p7, p8, p9, p10, p11, p12, p13, -⟩ := hp
    rcases hgg with hgg | ⟨-, hwf, hwi, hpx, hnn, hrm, hrc⟩
    · omega
    · have q := p13 (S 27 2 - 1) (by omega) (by omega)
      refine ⟨fun _ => b_114_0 ⟨by unfold q_rg; omega, by omega, by omega, ?_⟩, fun g => by omega⟩
      exact c_92 hrc hwf hbc hbw q.2 fun a ha => ⟨by decide, by decide, j_h_ok h (j_sp0 (by omega) (fun f => f) (fun f => f) ha)⟩
theorem c_157 {k : Int} {T : q_S} (hJ : j_J S V b) (he : T = S) (ho : S 27 0 ≠ 0) (hk : 0 ≤ k ∧ k < S 30 5) (h : Q (j_nz S V k) S) : q_c 157 [vR 30, vI k] T Q Z := by
  subst he
  obtain ⟨-, -, -, ⟨-, hgg⟩, ⟨e4, hg⟩⟩ := hJ
  rcases hg with hg | ⟨hg, h09, hp⟩
  · exact absurd hg ho
  · obtain ⟨p1, p2, p3, p4, p5, p6, p7, p8, p9, p10, p11, p12, p13, p14, p15, p16, p17⟩ := hp
    rcases hgg with hgg | ⟨-, hwf, hwi, hpx, hnn, hrm, hrc⟩
    · omega
    · have q := (p17 k hk.1 hk.2).2.2.2.1
      have w := hwf.1
      unfold j_nz at h
      refine b_157_0 ⟨by omega, by omega, fun g => ⟨by omega, by omega, by omega, by omega, ?_⟩, fun g => ?_⟩
      · rw [if_neg g] at h
        rw [hrc.2.1 _ q.1 q.2]; exact h
      · rw [if_pos (by omega)] at h; exact h
theorem c_23 {k : Int} {T : q_S} (h : T 27 0 ≠ 0 → 0 ≤ k ∧ k < T 30 5 → Q 0 T) (hn : T 27 0 = 0 ∨ k < 0 ∨ T 30 5 ≤ k → T 65 0 < 1000 ∧ Z 2 (q_tk T)) : q_c 23 [vR 0, vI k] T Q Z := by
  exact b_23_0 ⟨fun g => hn (by omega), fun g => ⟨fun g2 => hn (by omega), fun g2 => ⟨fun g3 => h g (by omega), fun g3 => hn (by omega)⟩⟩⟩
theorem c_173 {k w : Int} (hJ : j_J S V b) (hx : S 65 0 < 1000) (h : j_h S (s_nod S V k w) Q) : q_c 173 [vR 0, vI k, vI w, vR 62] S Q Z := by
  refine b_173_0 ?_
  refine b_18_0 ?_
  refine c_23 (fun g g2 => ?_) (fun g => ⟨hx, j_h_no h (j_sp1 (by omega)) (by decide)⟩)
  have ok : ∀ a, ¬ (w < 0 ∨ 4 < w) → (a = if w = 0 then v_cod (S 31 k) else if w = 1 then S 32 k else if w = 2 then j_nz S V k else if w = 3 then S 33 k else S 34 k) → (0 : Int) ≤ 0 ∧ (0 : Int) < 1 ∧ Q 0 (q_up S 62 0 a) := fun a hn ha => ⟨by decide, by decide, j_h_ok h (j_sp0 (by omega) hn (fun f => f) ha)⟩
  have h60 : k < 60 ∧ 0 ≤ S 31 k ∧ S 31 k ≤ 15 := by
    obtain ⟨-, -, -, -, ⟨e4, hg⟩⟩ := hJ
    rcases hg with hg | ⟨hg, h09, hp⟩
    · exact absurd hg g
    · obtain ⟨p1, p2, p3, p4, p5, p6, p7, p8, p9, p10, p11, p12, p13, p14, p15, p16, p17⟩ := hp
      exact ⟨by omega, (p17 k g2.1 g2.2).1⟩
  refine ⟨⟨fun w0 => ⟨by omega, by omega, c_27 h60.2 (ok _ (by omega) (by rw [if_pos w0]))⟩, ⟨fun w0 => ⟨by omega, by omega, ok _ (by omega) (by rw [if_neg (by omega), if_pos w0])⟩, ⟨fun w0 => c_157 hJ rfl g g2 (ok _ (by omega) (by rw [if_neg (by omega), if_neg (by omega), if_pos w0])), ⟨fun w0 => ⟨by omega, by omega, ok _ (by omega) (by rw [if_neg (by omega), if_neg (by omega), if_neg (by omega), if_pos w0])⟩, ⟨fun w0 => ⟨by omega, by omega, ok _ (by omega) (by rw [if_neg (by omega), if_neg (by omega), if_neg (by omega), if_neg (by omega)])⟩, trivial⟩⟩⟩⟩⟩, fun w0 => ⟨hx, j_h_no h (j_sp2 (by omega) (by omega)) (by decide)⟩⟩
theorem c_174 {k i : Int} (hJ : j_J S V b) (hx : S 65 0 < 1000) (h : j_h S (s_chd S V k i) Q) : q_c 174 [vR 0, vI k, vI i, vR 62] S Q Z := by
  refine b_174_0 ?_
  refine b_19_0 ?_
  refine c_23 (fun g g2 => ?_) (fun g => ⟨hx, j_h_no h (j_sp1 (by omega)) (by decide)⟩)
  have h60 : k < 60 ∧ j_nz S V k ≤ 4 := by
    obtain ⟨-, -, -, ⟨-, hgg⟩, ⟨e4, hg⟩⟩ := hJ
    rcases hg with hg | ⟨hg, h09, hp⟩
    · exact absurd hg g
    · obtain ⟨p1, p2, p3, p4, p5, p6, p7, p8, p9, p10, p11, p12, p13, p14, p15, p16, p17⟩ := hp
      rcases hgg with hgg | ⟨-, hwf, -⟩
      · omega
      · refine ⟨by omega, ?_⟩
        have q := (p17 k g2.1 g2.2).2.2.2.1
        unfold j_nz
        split
        · omega
        · exact (hwf.2.1 _ q.1 q.2).2
  refine ⟨fun w0 => ⟨hx, j_h_no h (j_sp1 (by omega)) (by decide)⟩, fun w0 => c_157 hJ rfl g g2 ⟨fun w1 => ⟨by unfold q_rg; omega, by unfold q_rg; omega, by omega, by omega, by decide, by decide, j_h_ok h (j_sp0 (by omega) (fun f => f) (fun f => f) ?_)⟩, fun w1 => ⟨hx, j_h_no h (j_sp1 (by omega)) (by decide)⟩⟩⟩
  rw [Int.mul_comm]
end ApiC
