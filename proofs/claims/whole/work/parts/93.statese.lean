/-! the states one after another -/
theorem x_st_u {V V' V'' : v_V} {s y : Int} (h : x_st V s y V') (h' : x_st V s y V'') : V' = V'' := by
  rcases h with ⟨h1, rfl⟩ | ⟨h1, ⟨t, t1, t2, t3, rfl⟩ | ⟨h2, h3, rfl⟩⟩ <;> rcases h' with ⟨g1, rfl⟩ | ⟨g1, ⟨u, u1, u2, u3, rfl⟩ | ⟨g2, g3, rfl⟩⟩
  · rfl
  · obtain ⟨p, d, q⟩ := g1; exact absurd q (h1 p d)
  · obtain ⟨p, d, q⟩ := g1; exact absurd q (h1 p d)
  · obtain ⟨p, d, q⟩ := h1; exact absurd q (g1 p d)
  · have : t = u := by
      by_cases e : t < u
      · exact absurd t2 (u3 t t1.1 e)
      · by_cases e2 : u < t
        · exact absurd u2 (t3 u u1.1 e2)
        · omega
    rw [this]
  · exact absurd t2 (g2 t t1.1 t1.2)
  · obtain ⟨p, d, q⟩ := h1; exact absurd q (g1 p d)
  · exact absurd u2 (h2 u u1.1 u1.2)
  · rfl
noncomputable def x_sq (V0 : v_V) : Nat → v_V
  | 0 => V0
  | n + 1 => @dite v_V (∃ V', x_st (x_sq V0 n) ((n : Int) / 16) ((n : Int) % 16) V') (Classical.propDecidable _) (fun h => Classical.choose h) (fun _ => x_sq V0 n)
theorem x_sq_s {V0 V' : v_V} {n : Nat} {s y : Int} (e : (n : Int) = 16 * s + y) (hy : 0 ≤ y ∧ y < 16) (h : x_st (x_sq V0 n) s y V') : x_sq V0 (n + 1) = V' := by
  have e1 : (n : Int) / 16 = s := by omega
  have e2 : (n : Int) % 16 = y := by omega
  have hx : ∃ V', x_st (x_sq V0 n) ((n : Int) / 16) ((n : Int) % 16) V' := by rw [e1, e2]; exact ⟨V', h⟩
  have : x_sq V0 (n + 1) = Classical.choose hx := by
    show @dite v_V _ (Classical.propDecidable _) _ _ = _
    exact dif_pos hx
  rw [this]
  have h2 := Classical.choose_spec hx
  refine x_st_u h2 ?_
  rw [e1, e2]
  exact h
def x_sp (V0 : v_V) (n : Nat) : Prop := 16 * vSt (x_sq V0 n) ≤ (n : Int) ∨ x_fl (x_sq V0 n) ((n : Int) / 16) ((n : Int) % 16)
def x_dn (V0 : v_V) (n : Nat) : Prop := x_sp V0 n ∧ ∀ m, m < n → ¬ x_sp V0 m
theorem x_dn_u {V0 : v_V} {n m : Nat} (h : x_dn V0 n) (h' : x_dn V0 m) : n = m := by
  by_cases e : n < m
  · exact absurd h.1 (h'.2 n e)
  · by_cases e2 : m < n
    · exact absurd h'.1 (h.2 m e2)
    · omega
theorem x_fl_n {V V' : v_V} {s y : Int} (h : x_st V s y V') : ¬ x_fl V s y := by
  rintro ⟨g1, g2, g3⟩
  rcases h with ⟨h1, -⟩ | ⟨-, ⟨t, t1, t2, -⟩ | ⟨-, h3, -⟩⟩
  · obtain ⟨p, d, q⟩ := g1; exact h1 p d q
  · exact g2 t t1.1 t1.2 t2
  · omega
def k_gl (S : q_S) (V : v_V) (k : Int) : Prop := ∀ s y, 0 ≤ s → s < vSt V → 0 ≤ y → y < 16 → 16 * s + y < k → S 18 (s * 16 + y) = vGo V s y
/-- the class stands for the states so far -/
def k_R (S : q_S) (V : v_V) (k : Int) : Prop := v_gc S V ∧ k_sd S V ∧ k_fo S V ∧ k_dt S V ∧ S 16 0 = vSt V ∧ k_gl S V k
section StatesE
variable {S : q_S} {V V' : v_V} {K : Int → Int → Prop} {Q : q_Q} {Z : q_Z}
theorem k_sd_g (h : v_geq V V') (hg : k_sd S V) : k_sd S V' := by
  obtain ⟨h1, h2, h3, h4⟩ := h
  unfold k_sd
  simp only [h1, h2, h3, h4]
  exact hg
theorem k_fo_g (h : v_geq V V') (hg : k_fo S V) : k_fo S V' := by
  obtain ⟨h1, h2, h3, h4⟩ := h
  unfold k_fo
  simp only [h1, h2, h3, h4]
  exact hg
theorem c_149 (hR : v_gc S V) (hV : v_gw V) (hS : k_sd S V) (hF : k_fo S V) (hD : k_dt S V) (hM : k_md S V K) (hK : ∀ p d, K p d → x_va V p d) (h16 : S 16 0 = vSt V) (h40 : 0 ≤ vSt V ∧ vSt V < 40) (h : ∀ S', n_fr [17, 20] [(16, 0)] S S' → k_dt S' (w_st V K) → S' 16 0 = vSt V + 1 → Q (vSt V) S') : q_c 149 [vR 16] S Q Z := by
  have hP := hV.1
  refine b_149_0 (c_150 hR hV hS hF hM hK fun S1 fr md => ?_)
  have e16 : S1 16 0 = vSt V := (n_fr_f fr (by decide)).trans h16
  rw [e16]
  refine ⟨by unfold q_rg; omega, ⟨by omega, by omega, by omega, by omega, by omega⟩, by unfold q_rg; omega, h _ (n_fr_i (n_fr_cpy (n_fr_w fr (by decide) (by decide)) (by decide)) (by decide)) (fun t p t0 t1 p0 p1 => ?_) (n_up1 _ _ _ _)⟩
  rw [w_st_s] at t1
  have pv : vP (w_st V K) = vP V := rfl
  rw [pv] at p1
  rw [q_up_ne (by decide), n_cpy]
  by_cases e : t = vSt V
  · rw [if_pos ⟨rfl, by omega, by omega⟩, show (0 : Int) + (t * 16 + p - vSt V * 16) = p by omega]
    refine ⟨(md p p0 p1).1, fun d => ?_⟩
    rw [(md p p0 p1).2 d, w_st_i, if_pos e, x_ind_1]
  · rw [if_neg (by omega), n_fr_c fr (by decide)]
    refine ⟨(hD t p t0 (by omega) p0 p1).1, fun d => ?_⟩
    rw [(hD t p t0 (by omega) p0 p1).2 d, w_st_i, if_neg e]
theorem c_145 {s y : Int} (hR : k_R S V (16 * s + y)) (hV : v_gw V) (hB : x_B V (16 * s + y)) (hs : 0 ≤ s ∧ s < vSt V) (hy : 0 ≤ y ∧ y < 16) (h : ∀ S' V', x_st V s y V' → n_fr [17, 18, 20] [(16, 0)] S S' → k_R S' V' (16 * s + y + 1) → Q 1 S') (h0 : x_fl V s y → ∀ S', n_fr [17, 18, 20] [(16, 0)] S S' → Q 0 S') : q_c 145 [vR 16, vI s, vI y] S Q Z := by
  obtain ⟨r1, r2, r3, r4, r5, r6⟩ := hR
  have b1 := hB.1
  have gl : ∀ (T : q_S) (V' : v_V) (t : Int), T 18 = S 18 → vSt V ≤ vSt V' → (∀ a b, a < vSt V → vGo V' a b = vGo V a b) → k_gl (q_up T 18 (s * 16 + y) t) (w_go V' s y t) (16 * s + y + 1) := by
    intro T V' t e1 e2 e3 s' y' s0 s1 y0 y1 hlt
    rw [w_go_o, n_up]
    by_cases e : s' = s ∧ y' = y
    · rw [if_pos e, if_pos ⟨rfl, by omega⟩]
    · rw [if_neg e, if_neg (by omega), e1, e3 s' y' (by omega)]
      exact r6 s' y' s0 (by omega) y0 y1 (by omega)
  refine b_145_0 (c_146 r1 hV r4 r2 hB hs hy fun a S1 fr md ha => ?_)
  have q1 := v_gc_fr fr (by decide) r1
  have q2 := k_sd_fr fr (by decide) r2
  have q3 := k_fo_fr fr (by decide) r3
  have q4 := k_dt_fr fr (by decide) r4
  have q5 : S1 16 0 = vSt V := (n_fr_f fr (by decide)).trans r5
  have q6 : S1 18 = S 18 := n_fr_c fr (by decide)
  have fw : n_fr [17, 18, 20] [(16, 0)] S S1 := n_fr_w fr (by decide) (by decide)
  have old : ∀ (T : q_S) (t : Int), n_fr [17, 18, 20] [(16, 0)] S T → v_gc T V → k_sd T V → k_fo T V → k_dt T V → T 16 0 = vSt V → T 18 = S 18 → k_R (q_up T 18 (s * 16 + y) t) (w_go V s y t) (16 * s + y + 1) := fun T t _ g1 g2 g3 g4 g5 g6 => by
    refine ⟨?_, ?_, ?_, ?_, ?_, gl T V t g6 (by omega) fun _ _ _ => rfl⟩
    · exact v_gc_geq w_go_g (v_gc_fr (n_fr_k n_fr_r (ks := [18]) (fs := []) (by decide)) (by decide) g1)
    · exact k_sd_g w_go_g (k_sd_fr (n_fr_k n_fr_r (ks := [18]) (fs := []) (by decide)) (by decide) g2)
    · exact k_fo_g w_go_g (k_fo_fr (n_fr_k n_fr_r (ks := [18]) (fs := []) (by decide)) (by decide) g3)
    · exact (k_dt_fr (n_fr_k n_fr_r (ks := [18]) (fs := []) (by decide)) (by decide) g4 : k_dt (q_up T 18 (s * 16 + y) t) V)
    · rw [q_up_ne (by decide)]; exact g5
  have hK : ∀ p d, x_mv V s y p d → 1 ≤ d ∧ x_va V p d := fun p d q => ⟨q.1, (x_mv_v hV hB hs q).1⟩
  have c1 : q_rg (s * 16) ∧ q_rg (s * 16 + y) ∧ 0 ≤ s * 16 + y ∧ s * 16 + y < 640 := ⟨by unfold q_rg; omega, by unfold q_rg; omega, by omega, by omega⟩
  obtain ⟨c1, c2, c3, c4⟩ := c1
  rcases ha with ⟨ha, rfl⟩ | ⟨ha, rfl⟩
  · refine ⟨fun g => by omega, fun _ => c_147 q1 hV q4 md hB q5 hK ha (fun t t1 t2 t3 => ?_) (fun no => ?_)⟩
    · refine ⟨fun _ => ⟨c1, c2, c3, c4, ⟨by omega, by omega⟩, h _ _ (Or.inr ⟨ha, Or.inl ⟨t, t1, t2, t3, rfl⟩⟩) (n_fr_k fw (by decide)) (old S1 t fw q1 q2 q3 q4 q5 q6)⟩, fun g => by omega⟩
    · refine ⟨fun g => absurd rfl g, fun _ => ?_⟩
      rw [q5]
      refine ⟨fun g => c_149 q1 hV q2 q3 q4 md (fun p d q => (hK p d q).2) q5 ⟨by omega, by omega⟩ fun S2 fr2 dt2 e2 => ⟨c1, c2, c3, c4, ⟨by omega, by omega⟩, ?_⟩, fun g => ⟨⟨by omega, by omega⟩, h0 ⟨ha, no, by omega⟩ S1 fw⟩⟩
      have fw2 : n_fr [17, 18, 20] [(16, 0)] S S2 := n_fr_t fw (n_fr_w fr2 (by decide) (by decide))
      refine h _ _ (Or.inr ⟨ha, Or.inr ⟨no, by omega, rfl⟩⟩) (n_fr_k fw2 (by decide)) ⟨?_, ?_, ?_, ?_, ?_, gl S2 (w_st V (x_mv V s y)) (vSt V) ((n_fr_c fr2 (by decide)).trans q6) (by rw [w_st_s]; omega) fun _ _ _ => w_st_o⟩
      · exact v_gc_geq (v_geq_t w_st_g w_go_g) (v_gc_fr (n_fr_k (n_fr_w fr2 (ks' := [17, 18, 20]) (fs' := [(16, 0)]) (by decide) (by decide)) (by decide)) (by decide) q1)
      · exact k_sd_g (v_geq_t w_st_g w_go_g) (k_sd_fr (n_fr_k (n_fr_w fr2 (ks' := [17, 18, 20]) (fs' := [(16, 0)]) (by decide) (by decide)) (by decide)) (by decide) q2)
      · exact k_fo_g (v_geq_t w_st_g w_go_g) (k_fo_fr (n_fr_k (n_fr_w fr2 (ks' := [17, 18, 20]) (fs' := [(16, 0)]) (by decide) (by decide)) (by decide)) (by decide) q3)
      · exact (k_dt_fr (n_fr_k n_fr_r (ks := [18]) (fs := []) (by decide)) (by decide) dt2 : k_dt (q_up S2 18 (s * 16 + y) (vSt V)) (w_st V (x_mv V s y)))
      · rw [q_up_ne (by decide)]; exact e2
  · refine ⟨fun _ => ⟨c1, c2, c3, c4, ⟨by omega, by omega⟩, h _ _ (Or.inl ⟨fun p d q => ha ⟨p, d, q⟩, rfl⟩) (n_fr_k fw (by decide)) (old S1 (-1) fw q1 q2 q3 q4 q5 q6)⟩, fun g => absurd rfl g⟩
/-- the first state -/
noncomputable def x_V0 (V : v_V) : v_V := w_st V (fun p d => p = 0 ∧ d = 0)
theorem c_139 (hR : v_gc S V) (hV : v_gw V) (hF : k_fo S V) (h0 : vSt V = 0) (hi : ∀ s p d, vIt V s p d = 0 ∨ vIt V s p d = 1)
    (h : ∀ n S', x_dn (x_V0 V) n → 16 * vSt (x_sq (x_V0 V) n) = n → x_B (x_sq (x_V0 V) n) n → v_geq V (x_sq (x_V0 V) n) → n_fr [17, 18, 19, 20] [(16, 0)] S S' → k_R S' (x_sq (x_V0 V) n) n → Q 1 S')
    (hf : ∀ n S', x_dn (x_V0 V) n → (n : Int) < 16 * vSt (x_sq (x_V0 V) n) → n_fr [17, 18, 19, 20] [(16, 0)] S S' → Q 0 S') : q_c 139 [vR 16] S Q Z := by
  have hP := hV.1
  refine b_139_0 (c_144 hR hV fun S1 fr1 sd1 => f_20 fun S2 fr2 z2 => ⟨by omega, by omega, ?_⟩)
  have fr2' : n_fr [17, 18, 19, 20] [(16, 0)] S S2 := n_fr_t (n_fr_i (n_fr_w fr1 (by decide) (by decide)) (by decide)) (n_fr_w fr2 (by decide) (by decide))
  have fr3 : n_fr [17, 18, 19, 20] [(16, 0)] S (q_up S2 20 0 1) := n_fr_k fr2' (by decide)
  have fr13 : n_fr [20] [(16, 0)] S1 (q_up S2 20 0 1) := n_fr_k (n_fr_t (n_fr_i n_fr_r (by decide)) (n_fr_w fr2 (by decide) (by decide))) (by decide)
  have g1 := v_gc_fr fr3 (by decide) hR
  have g2 := k_sd_fr fr13 (by decide) sd1
  have g3 := k_fo_fr fr3 (by decide) hF
  have g4 : k_dt (q_up S2 20 0 1) V := fun t p t0 t1 => by omega
  have g5 : (q_up S2 20 0 1) 16 0 = vSt V := by rw [q_up_ne (by decide), n_fr_c fr2 (by decide), n_up1, h0]
  have gm : k_md (q_up S2 20 0 1) V (fun p d => p = 0 ∧ d = 0) := fun p p0 p1 => by
    rw [n_up]
    by_cases e : p = 0
    · rw [if_pos ⟨rfl, e⟩]
      refine ⟨⟨by decide, by decide⟩, fun d => ?_⟩
      rw [n_bit_1]
      exact ⟨fun q => ⟨e, by omega⟩, fun q => by omega⟩
    · rw [if_neg (by omega), z2 p p0 (by omega)]
      refine ⟨n_sm0, fun d => ?_⟩
      rw [n_bit0]
      exact ⟨fun q => (by cases q), fun q => absurd q.1 e⟩
  refine c_149 g1 hV g2 g3 g4 gm (fun p d q => ?_) g5 ⟨by omega, by omega⟩ fun S3 frS dt3 e3 => ?_
  · have := hV.2.1 p (by omega) (by omega)
    exact ⟨by omega, by omega, by omega⟩
  have B0 : x_B (x_V0 V) 0 := x_B_0 hV h0 hi
  have fr03 : n_fr [17, 18, 19, 20] [(16, 0)] S S3 := n_fr_t fr3 (n_fr_w frS (by decide) (by decide))
  have R0 : k_R S3 (x_V0 V) 0 := ⟨v_gc_geq w_st_g (v_gc_fr frS (by decide) g1), k_sd_g w_st_g (k_sd_fr frS (by decide) g2), k_fo_g w_st_g (k_fo_fr frS (by decide) g3), dt3, e3, fun s y s0 s1 y0 y1 hlt => by omega⟩
  let I : Nat → q_S → Prop := fun n U => x_B (x_sq (x_V0 V) n) n ∧ v_geq V (x_sq (x_V0 V) n) ∧ n_fr [17, 18, 19, 20] [(16, 0)] S U ∧ k_R U (x_sq (x_V0 V) n) n ∧ ∀ m, m < n → ¬ x_sp (x_V0 V) m
  have outer : ∀ (x : Nat × q_S × q_J), (I x.1 x.2.1 ∧ x.1 % 16 = 0 ∧ (x.1 : Int) ≤ 16 * vSt (x_sq (x_V0 V) x.1)) → q_r 139 31 [vR 16, vI ((x.1 / 16 : Nat) : Int), vJ x.2.2] [] x.2.1 Q Z := by
    refine n_wf (fun x : Nat × q_S × q_J => 700 - x.1) (fun x : Nat × q_S × q_J => I x.1 x.2.1 ∧ x.1 % 16 = 0 ∧ (x.1 : Int) ≤ 16 * vSt (x_sq (x_V0 V) x.1)) (fun x : Nat × q_S × q_J => q_r 139 31 [vR 16, vI ((x.1 / 16 : Nat) : Int), vJ x.2.2] [] x.2.1 Q Z) ?_
    rintro ⟨n, U, j⟩ ⟨⟨hB, hg, fr, hRU, hno⟩, hm, hle⟩ ih
    simp only at hB hg fr hRU hno hm hle ih ⊢
    have b1 := hB.1
    have e16 := hRU.2.2.2.2.1
    refine b_139_31 ?_
    rw [e16]
    refine ⟨fun g => ⟨⟨by omega, by omega⟩, h n U ⟨Or.inl (by omega), hno⟩ (by omega) hB hg fr hRU⟩, fun g => ⟨fun g2 => by omega, fun _ => ?_⟩⟩
    have inner : ∀ (i : Int) (W : q_S), i ≤ 16 → (0 ≤ i ∧ I (n + i.toNat) W ∧ ((n / 16 : Nat) : Int) < vSt (x_sq (x_V0 V) (n + i.toNat))) → q_r 139 47 [vR 16, vI ((n / 16 : Nat) : Int), vI i] [] W Q Z := by
      refine n_for 16 (fun (i : Int) (W : q_S) => 0 ≤ i ∧ I (n + i.toNat) W ∧ ((n / 16 : Nat) : Int) < vSt (x_sq (x_V0 V) (n + i.toNat))) (fun (i : Int) (W : q_S) => q_r 139 47 [vR 16, vI ((n / 16 : Nat) : Int), vI i] [] W Q Z) ?_ ?_
      · rintro W ⟨-, hI, hlt⟩
        have e : n + (16 : Int).toNat = n + 16 := rfl
        rw [e] at hI hlt
        have := ih (n + 16, W, .inl 16) ⟨hI, by omega, by simp only; omega⟩ (by simp only; omega)
        simp only at this
        rw [show (((n + 16) / 16 : Nat) : Int) = ((n / 16 : Nat) : Int) + 1 by omega] at this
        exact b_139_47 ⟨fun _ => ⟨by unfold q_rg; omega, this⟩, fun g => by omega⟩
      · rintro i W ⟨i0, ⟨hB', hg', fr', hR', hno'⟩, hlt⟩ il ih2
        have b1' := hB'.1
        have ek : (((n + i.toNat : Nat)) : Int) = 16 * ((n / 16 : Nat) : Int) + i := by omega
        have ek2 : (n + (i + 1).toNat) = n + i.toNat + 1 := by omega
        refine b_139_47 ⟨fun g => by omega, fun _ => ?_⟩
        rw [ek] at hB' hR'
        have hV' := v_gw_geq hg' hV
        refine c_145 hR' hV' hB' ⟨by omega, hlt⟩ ⟨i0, il⟩ (fun S' V' st fr2 hR2 => ?_) (fun fl S' fr2 => ?_)
        · refine ⟨fun _ => ⟨by unfold q_rg; omega, ih2 S' ?_⟩, fun g => absurd (by decide) g⟩
          obtain ⟨k1, k2, k3⟩ := x_st_B hV' hB' ⟨by omega, hlt⟩ ⟨i0, il⟩ st
          have es := x_sq_s ek ⟨i0, il⟩ st
          rw [ek2, es]
          refine ⟨by omega, ⟨?_, ?_, n_fr_t fr' (n_fr_w fr2 (by decide) (by decide)), ?_, fun m hm => ?_⟩, by omega⟩
          · rw [es, show (((n + i.toNat + 1 : Nat)) : Int) = 16 * ((n / 16 : Nat) : Int) + i + 1 by omega]; exact k1
          · rw [es]; exact v_geq_t hg' k2
          · rw [es, show (((n + i.toNat + 1 : Nat)) : Int) = 16 * ((n / 16 : Nat) : Int) + i + 1 by omega]; exact hR2
          · by_cases e : m = n + i.toNat
            · subst e
              rintro (q | q)
              · omega
              · rw [ek, show (16 * ((n / 16 : Nat) : Int) + i) / 16 = ((n / 16 : Nat) : Int) by omega, show (16 * ((n / 16 : Nat) : Int) + i) % 16 = i by omega] at q
                exact x_fl_n st q
            · exact hno' m (by omega)
        · refine ⟨fun g => absurd rfl g, fun _ => ⟨⟨by omega, by omega⟩, hf (n + i.toNat) S' ⟨Or.inr ?_, hno'⟩ (by omega) (n_fr_t fr' (n_fr_w fr2 (by decide) (by decide)))⟩⟩
          rw [ek, show (16 * ((n / 16 : Nat) : Int) + i) / 16 = ((n / 16 : Nat) : Int) by omega, show (16 * ((n / 16 : Nat) : Int) + i) % 16 = i by omega]
          exact fl
    exact inner 0 U (by omega) ⟨by omega, ⟨hB, hg, fr, hRU, hno⟩, by simp only [Int.toNat_zero, Nat.add_zero]; omega⟩
  have last := outer (0, S3, .inr (.inr ())) ⟨⟨B0, w_st_g, fr03, R0, fun m hm => by omega⟩, rfl, by show (0 : Int) ≤ 16 * vSt (x_V0 V); have := B0.1; omega⟩
  have e0 : (((0 : Nat) / 16 : Nat) : Int) = 0 := by decide
  change q_r 139 31 [vR 16, vI (((0 : Nat) / 16 : Nat) : Int), vU] [] S3 Q Z at last
  rw [e0] at last
  exact last
end StatesE
