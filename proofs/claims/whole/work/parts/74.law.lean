/-! the law's loop, from the two pairs read and token -/
def l_k (S T : q_S) : Prop := T 63 = S 63 ∧ T 64 = S 64 ∧ T 65 0 ≤ S 65 0 + 1
def l_RD : Prop := ∀ (S : q_S) (V : v_V) (b : v_B) (Q : Int → Int → q_S → Prop) (Z : q_Z), j_J S V b → (∀ a T V', j_J T V' b → l_k S T → Q a a T) → q_c 2 [vR 0] S (fun r S1 => q_c 40 [vR 36] S1 (fun r' S2 => Q r r' S2) Z) Z
def l_TK : Prop := ∀ (S : q_S) (V : v_V) (b : v_B) (c : Int) (Q : q_Q) (Z : q_Z), j_J S V b → (0 ≤ c ∧ c < 65536) → S 65 0 < 1000 → (∀ k T, l_k S T → (∀ (Q' : q_Q) (Z' : q_Z), (∀ a U, j_J U V b → l_k S U → U 36 0 = k → (k = 0 → U 62 0 = a) → Q' a U) → q_c 75 [vR 36, vI c] T Q' Z') → Q k T) → q_c 170 [vR 0, vI c, vR 62] S Q Z
section Law
variable {S T : q_S} {V : v_V} {b : v_B} {Q : q_Q} {Z : q_Z}
theorem l_k_ag (h : j_ag S T) (h5 : T 65 0 ≤ S 65 0 + 1) : l_k S T := ⟨j_ag_f h (by decide) (by decide) (by decide), j_ag_f h (by decide) (by decide) (by decide), h5⟩
theorem l_k_fr {ks : List Nat} {fs : List (Nat × Int)} (h : n_fr ks fs S T) (h1 : (n_ok ks fs 63 && n_ok ks fs 64 && n_ok ks fs 65) = true) : l_k S T := by
  rw [Bool.and_eq_true, Bool.and_eq_true] at h1
  exact ⟨n_fr_c h h1.1.1, n_fr_c h h1.1.2, by rw [n_fr_c h h1.2]; omega⟩
/-- what the class's helper leaves -/
def l_hT (S T : q_S) (k a : Int) : Prop := k = 0 ∧ T = q_up S 62 0 a ∨ k ≠ 0 ∧ T = q_tk S
theorem l_hT_ag {k a : Int} (h : l_hT S T k a) : j_ag S T ∧ l_k S T ∧ (k = 0 → T 62 0 = a) := by
  rcases h with ⟨h1, rfl⟩ | ⟨h1, rfl⟩
  · exact ⟨j_ag_62, l_k_ag j_ag_62 (by rw [q_up_ne (by decide)]; omega), fun _ => n_up1 _ _ _ _⟩
  · exact ⟨j_ag_tk, l_k_ag j_ag_tk (by unfold q_tk; rw [n_up1]; omega), fun e => absurd e h1⟩
theorem l_t {sp : Int → Int → Prop} {M : Nat} {bs : List q_V} {k a a4 : Int} (hu : ∀ k a k' a', sp k a → sp k' a' → k = k' ∧ (k = 0 → a = a')) (hs : sp k a) (hJ : j_J S V b) (hT : l_hT S T k a) (hM : ∀ (Q' : q_Q), j_m T sp Q' → q_c M bs T Q' Z) (ha : q_rg (a4 + 4))
    (hn : ∀ U j5 j6, j_J U V b → l_k S U → q_r 175 23 [vR 63, vR 0, vR 36, vR 62, vI (a4 + 4), vJ j5, vJ j6] [] U Q Z) :
    q_c M bs T (fun r26 S25 => q_c 28 [vR 36] S25 (fun r28 S27 =>
            (r28 = k →
              (k ≠ 0 →
                q_rg (a4 + 4) ∧
                q_r 175 23 [vR 63, vR 0, vR 36, vR 62, vI (a4 + 4), vI k, vI r26] [] S27 Q Z) ∧
              (¬ k ≠ 0 →
                (0 : Int) ≤ 0 ∧ (0 : Int) < 1 ∧
                ((q_wcmp (S27 62 0) r26) = 0 →
                  q_rg (a4 + 4) ∧
                  q_r 175 23 [vR 63, vR 0, vR 36, vR 62, vI (a4 + 4), vI k, vI r26] [] S27 Q Z) ∧
                (¬ (q_wcmp (S27 62 0) r26) = 0 →
                  q_bo 0 ∧ Q 0 S27))) ∧
            (¬ r28 = k →
              q_bo 0 ∧ Q 0 S27)) Z) Z := by
  obtain ⟨g1, g2, g3⟩ := l_hT_ag hT
  refine hM _ ?_
  intro k' a' a'' hs' he
  obtain ⟨e1, e2⟩ := hu _ _ _ _ hs hs'
  subst e1
  have ag : j_ag S (q_up T 36 0 k) := j_ag_t g1 j_ag_0
  have nx : ∀ j6, q_r 175 23 [vR 63, vR 0, vR 36, vR 62, vI (a4 + 4), vI k, vJ j6] [] (q_up T 36 0 k) Q Z := fun j6 => hn _ (.inl k) j6 (j_J_ag ag hJ) (l_k_ag ag (by rw [q_up_ne (by decide)]; exact g2.2.2))
  refine b_28_0 ?_
  rw [n_up1]
  refine ⟨fun _ => ⟨fun g => ⟨ha, nx (.inl _)⟩, fun g => ⟨by omega, by omega, fun _ => ⟨ha, nx (.inl _)⟩, fun g2 => absurd ?_ g2⟩⟩, fun g => absurd rfl g⟩
  have k0 : k = 0 := by omega
  rw [q_up_ne (by decide), g3 k0, he k0, e2 k0]
  unfold q_wcmp
  rw [if_neg (by omega), if_pos rfl]
theorem s_num_u {h : Int} {w : Int} : ∀ k a k' a', s_num h V b w k a → s_num h V b w k' a' → k = k' ∧ (k = 0 → a = a') := fun k a k' a' h1 h2 => j_sp_u (fun x y hx hy => by
  obtain ⟨⟨c1, c2⟩, x1, x2, x3, x4⟩ := hx
  obtain ⟨-, y1, y2, y3, y4⟩ := hy
  have hw : w = 0 ∨ w = 1 ∨ w = 2 ∨ w = 3 := by omega
  rcases hw with e | e | e | e
  · rw [x1 e, y1 e]
  · rw [x2 e, y2 e]
  · exact v_kd_u (x3 e) (y3 e)
  · rw [x4 e, y4 e]) h1 h2
theorem s_eq_u {c1 c2 c3 : Prop} {x : Int} : ∀ k a k' a', j_sp c1 c2 c3 (fun a => a = x) k a → j_sp c1 c2 c3 (fun a => a = x) k' a' → k = k' ∧ (k = 0 → a = a') := fun k a k' a' h1 h2 => j_sp_u (fun x y hx hy => by rw [hx, hy]) h1 h2
theorem l_law (hRD : l_RD) (hTK : l_TK) : ∀ (n : Nat) (a4 : Int) (S : q_S) (V : v_V) (b : v_B) (j5 j6 : q_J), (S 64 0 - a4).toNat < n → 0 ≤ a4 → 4 * S 65 0 ≤ a4 → S 64 0 ≤ 2048 → 0 ≤ S 64 0 → j_J S V b → q_r 175 23 [vR 63, vR 0, vR 36, vR 62, vI a4, vJ j5, vJ j6] [] S (fun a _ => a = 1) (fun _ _ => False) := by
  intro n
  induction n with
  | zero => intro a4 S V b j5 j6 hn; omega
  | succ n ih =>
    intro a4 S V b j5 j6 hn h0 h5 hL hL0 hJ
    refine b_175_23 ⟨by unfold q_rg; omega, fun g => ⟨⟨by omega, by omega⟩, rfl⟩, fun g => ⟨by omega, by omega, ?_⟩⟩
    have hx : S 65 0 < 1000 := by omega
    have ha : q_rg (a4 + 4) := by unfold q_rg; omega
    have r1 : q_rg (a4 + 1) := by unfold q_rg; omega
    have r2 : q_rg (a4 + 2) := by unfold q_rg; omega
    have r3 : q_rg (a4 + 3) := by unfold q_rg; omega
    have nx : ∀ U V' b' j5 j6, j_J U V' b' → l_k S U → q_r 175 23 [vR 63, vR 0, vR 36, vR 62, vI (a4 + 4), vJ j5, vJ j6] [] U (fun a _ => a = 1) (fun _ _ => False) := by
      intro U V' b' j5 j6 hU hk
      obtain ⟨k1, k2, k3⟩ := hk
      refine ih (a4 + 4) U V' b' j5 j6 ?_ ?_ ?_ ?_ ?_ hU
      · rw [k2]; omega
      · omega
      · omega
      · rw [k2]; omega
      · rw [k2]; omega
    have nx' : ∀ U j5 j6, j_J U V b → l_k S U → q_r 175 23 [vR 63, vR 0, vR 36, vR 62, vI (a4 + 4), vJ j5, vJ j6] [] U (fun a _ => a = 1) (fun _ _ => False) := fun U j5 j6 => nx U V b j5 j6
    refine ⟨⟨fun _ => ?_, ⟨fun _ => ?_, ⟨fun _ => ?_, ⟨fun _ => ?_, ⟨fun _ => ?_, ⟨fun _ => ?_, ⟨fun _ => ?_, ⟨fun _ => ?_, ⟨fun _ => ?_, ⟨fun _ => ?_, ⟨fun _ => ?_, ⟨fun _ => ?_, ⟨fun _ => ?_, ⟨fun _ => ?_, ⟨fun _ => ?_, ⟨fun _ => ?_, ⟨fun _ => ?_, ⟨fun _ => ?_, ⟨fun _ => ?_, ⟨fun _ => ?_, trivial⟩⟩⟩⟩⟩⟩⟩⟩⟩⟩⟩⟩⟩⟩⟩⟩⟩⟩⟩⟩, fun _ => ⟨ha, nx S V b _ _ hJ ⟨rfl, rfl, by omega⟩⟩⟩
    · refine ⟨r1, by omega, by omega, r2, by omega, by omega, ?_⟩
      refine l_write hJ fun r T f1 hM => ?_
      have e63 : T 63 = S 63 := n_fr_c f1 (by decide)
      have e64 : T 64 = S 64 := n_fr_c f1 (by decide)
      rw [e63, e64]
      refine ⟨r1, by omega, by omega, r2, by omega, by omega, hM _ _ fun U hU fU => ?_⟩
      exact ⟨fun _ => ⟨ha, nx U V b _ _ hU (l_k_fr fU (by decide))⟩, fun g => absurd rfl g⟩
    · refine b_1_0 ?_
      refine b_154_0 ?_
      refine b_33_0 ?_
      have fr : n_fr [2, 37] [(1, 1), (36, 0), (36, 2)] S (q_up (q_up (q_up S 1 1 0) 36 0 0) 36 2 0) := n_fr_i (n_fr_i (n_fr_i n_fr_r (by decide)) (by decide)) (by decide)
      have e2 : q_up S 1 1 0 36 2 = S 36 2 := by rw [q_up_ne (by decide)]
      rw [e2, ← hJ.1.1]
      refine ⟨fun _ => ⟨ha, nx _ V b _ _ (j_J_t fr ⟨?_, ?_, fun i i0 i1 => ?_⟩ hJ) (l_k_fr fr (by decide))⟩, fun g => absurd rfl g⟩
      · rw [n_up1, q_up_ne (by decide), q_up_ne (by decide), n_up1]
      · rw [q_up_ne (by decide), q_up_ne (by decide), n_up1]; omega
      · rw [q_up_ne (by decide), q_up_ne (by decide), n_up1] at i1; omega
    · refine hRD S V b (fun r10 r12 S11 => (r10 = r12 → q_rg (a4 + 4) ∧ q_r 175 23 [vR 63, vR 0, vR 36, vR 62, vI (a4 + 4), vJ j5, vJ j6] [] S11 (fun a _ => a = 1) (fun _ _ => False)) ∧ (¬ r10 = r12 → q_bo 0 ∧ (0 : Int) = 1)) _ hJ ?_
      intro a T V' hT hk
      exact ⟨fun _ => ⟨ha, nx T V' b _ _ hT hk⟩, fun g => absurd rfl g⟩
    · refine b_3_0 ?_
      refine b_41_0 ?_
      rw [hJ.2.1]
      exact ⟨fun _ => ⟨ha, nx _ V b _ _ (j_J_ag j_ag_0 hJ) (l_k_ag j_ag_0 (by rw [q_up_ne (by decide)]; omega))⟩, fun g => absurd rfl g⟩
    · refine ⟨r1, by omega, by omega, r2, by omega, by omega, r3, by omega, by omega, ?_⟩
      refine c_160 (by omega) hx (fun hg => ?_) (fun hg => ?_)
      · have e63 : q_up (q_up (q_up S 24 (S 63 (a4 + 1) % 65536 - 97) (S 63 (a4 + 2))) 25 (S 63 (a4 + 1) % 65536 - 97) (S 63 (a4 + 3))) 27 0 0 63 = S 63 := by rw [q_up_ne (by decide), q_up_ne (by decide), q_up_ne (by decide)]
        have e64 : q_up (q_up (q_up S 24 (S 63 (a4 + 1) % 65536 - 97) (S 63 (a4 + 2))) 25 (S 63 (a4 + 1) % 65536 - 97) (S 63 (a4 + 3))) 27 0 0 64 = S 64 := by rw [q_up_ne (by decide), q_up_ne (by decide), q_up_ne (by decide)]
        rw [e63, e64]
        refine ⟨r1, by omega, by omega, r2, by omega, by omega, r3, by omega, by omega, m_61 (by omega) (fun _ => ?_) (fun g => absurd hg g)⟩
        refine b_28_0 ?_
        obtain ⟨b', hb'⟩ := j_bind hg hJ
        have fr : n_fr [24, 25, 52, 53] [(27, 0), (36, 0), (36, 24)] S (q_up (q_up (q_up (q_up (q_up (q_up (q_up S 24 (S 63 (a4 + 1) % 65536 - 97) (S 63 (a4 + 2))) 25 (S 63 (a4 + 1) % 65536 - 97) (S 63 (a4 + 3))) 27 0 0) 36 0 0) 52 (S 63 (a4 + 1) % 65536 - 97) (S 63 (a4 + 2))) 53 (S 63 (a4 + 1) % 65536 - 97) (S 63 (a4 + 3))) 36 24 0) := n_fr_i (n_fr_k (n_fr_k (n_fr_i (n_fr_i (n_fr_k (n_fr_k n_fr_r (by decide)) (by decide)) (by decide)) (by decide)) (by decide)) (by decide)) (by decide)
        refine ⟨fun _ => ⟨ha, nx _ V b' (.inl 0) _ hb' (l_k_fr fr (by decide))⟩, fun g => absurd ?_ g⟩
        rw [n_up, if_neg (by omega), q_up_ne (by decide), q_up_ne (by decide), n_up1]
      · have e63 : q_tk S 63 = S 63 := by unfold q_tk; rw [q_up_ne (by decide)]
        have e64 : q_tk S 64 = S 64 := by unfold q_tk; rw [q_up_ne (by decide)]
        rw [e63, e64]
        refine ⟨r1, by omega, by omega, r2, by omega, by omega, r3, by omega, by omega, m_61 (by omega) (fun g => absurd g hg) (fun _ => ?_)⟩
        refine b_28_0 ?_
        rw [n_up1]
        have ag : j_ag S (q_up (q_tk S) 36 0 1) := j_ag_t j_ag_tk j_ag_0
        exact ⟨fun _ => ⟨ha, nx _ V b (.inl 1) _ (j_J_ag ag hJ) (l_k_ag ag (by rw [q_up_ne (by decide)]; unfold q_tk; rw [n_up1]; omega))⟩, fun g => absurd rfl g⟩
    · refine ⟨r1, by omega, by omega, ?_⟩
      refine c_161 hJ hx fun k a T hs hT => ?_
      obtain ⟨ag, hk, -⟩ := l_hT_ag hT
      have hJT := j_J_ag ag hJ
      have e09 : T 0 = S 0 := j_ag_f ag (by decide) (by decide) (by decide)
      rw [hk.1, hk.2.1]
      refine ⟨r1, by omega, by omega, ?_⟩
      refine l_t s_num_u hs hJ hT (fun Q' hq => m_62 hJT (by rw [e09]; exact hq)) ha nx'
    · refine ⟨r1, by omega, by omega, r2, by omega, by omega, ?_⟩
      refine c_162 hJ hx fun k a T hs hT => ?_
      obtain ⟨ag, hk, -⟩ := l_hT_ag hT
      have hJT := j_J_ag ag hJ
      have e09 : T 0 = S 0 := j_ag_f ag (by decide) (by decide) (by decide)
      rw [hk.1, hk.2.1]
      refine ⟨r1, by omega, by omega, r2, by omega, by omega, ?_⟩
      refine l_t s_eq_u hs hJ hT (fun Q' hq => m_65 hJT (by rw [e09]; exact hq)) ha nx'
    · refine ⟨r1, by omega, by omega, r2, by omega, by omega, ?_⟩
      refine c_163 hJ hx fun k a T hs hT => ?_
      obtain ⟨ag, hk, -⟩ := l_hT_ag hT
      have hJT := j_J_ag ag hJ
      have e09 : T 0 = S 0 := j_ag_f ag (by decide) (by decide) (by decide)
      rw [hk.1, hk.2.1]
      refine ⟨r1, by omega, by omega, r2, by omega, by omega, ?_⟩
      refine l_t s_eq_u hs hJ hT (fun Q' hq => m_66 hJT (by omega) (by rw [e09]; exact hq)) ha nx'
    · refine ⟨r1, by omega, by omega, r2, by omega, by omega, ?_⟩
      refine c_164 hJ hx fun k a T hs hT => ?_
      obtain ⟨ag, hk, -⟩ := l_hT_ag hT
      have hJT := j_J_ag ag hJ
      have e09 : T 0 = S 0 := j_ag_f ag (by decide) (by decide) (by decide)
      rw [hk.1, hk.2.1]
      refine ⟨r1, by omega, by omega, r2, by omega, by omega, ?_⟩
      refine l_t (fun _ _ _ _ => j_sp_u (fun _ _ => v_ia_u)) hs hJ hT (fun Q' hq => m_67 hJT (by rw [e09]; exact hq)) ha nx'
    · refine ⟨r1, by omega, by omega, r2, by omega, by omega, ?_⟩
      refine c_165 hJ hx fun k a T hs hT => ?_
      obtain ⟨ag, hk, -⟩ := l_hT_ag hT
      have hJT := j_J_ag ag hJ
      have e09 : T 0 = S 0 := j_ag_f ag (by decide) (by decide) (by decide)
      rw [hk.1, hk.2.1]
      refine ⟨r1, by omega, by omega, r2, by omega, by omega, ?_⟩
      refine l_t s_eq_u hs hJ hT (fun Q' hq => m_68 hJT (by rw [e09]; exact hq)) ha nx'
    · refine ⟨r1, by omega, by omega, r2, by omega, by omega, r3, by omega, by omega, ?_⟩
      refine c_166 hJ hx fun k a T hs hT => ?_
      obtain ⟨ag, hk, -⟩ := l_hT_ag hT
      have hJT := j_J_ag ag hJ
      have e09 : T 0 = S 0 := j_ag_f ag (by decide) (by decide) (by decide)
      rw [hk.1, hk.2.1]
      refine ⟨r1, by omega, by omega, r2, by omega, by omega, r3, by omega, by omega, ?_⟩
      refine l_t s_eq_u hs hJ hT (fun Q' hq => m_69 hJT (by rw [e09]; exact hq)) ha nx'
    · refine ⟨r1, by omega, by omega, r2, by omega, by omega, ?_⟩
      refine c_167 hJ hx fun k a T hs hT => ?_
      obtain ⟨ag, hk, -⟩ := l_hT_ag hT
      have hJT := j_J_ag ag hJ
      have e09 : T 0 = S 0 := j_ag_f ag (by decide) (by decide) (by decide)
      rw [hk.1, hk.2.1]
      refine ⟨r1, by omega, by omega, r2, by omega, by omega, ?_⟩
      refine l_t (fun _ _ _ _ => j_sp_u (fun _ _ => v_act_u)) hs hJ hT (fun Q' hq => m_70 hJT (by rw [e09]; exact hq)) ha nx'
    · refine ⟨r1, by omega, by omega, ?_⟩
      refine c_168 hJ hx fun k a T hs hT => ?_
      obtain ⟨ag, hk, -⟩ := l_hT_ag hT
      have hJT := j_J_ag ag hJ
      have e09 : T 0 = S 0 := j_ag_f ag (by decide) (by decide) (by decide)
      rw [hk.1, hk.2.1]
      refine ⟨r1, by omega, by omega, ?_⟩
      refine l_t (fun _ _ _ _ => j_sp_u (fun _ _ => v_ua_u)) hs hJ hT (fun Q' hq => m_71 hJT (by rw [e09]; exact hq)) ha nx'
    · refine ⟨r1, by omega, by omega, r2, by omega, by omega, ?_⟩
      have bad : ∀ k : Int, (∀ (Q' : q_Q) (Z' : q_Z), j_J (q_tk S) V b → Q' 0 (q_up (q_tk S) 36 0 k) → q_c 72 [vR 36, vI (S 63 (a4 + 1)), vI (S 63 (a4 + 2))] (q_tk S) Q' Z') → q_rg (a4 + 1) ∧ 0 ≤ a4 + 1 ∧ a4 + 1 < q_tk S 64 0 ∧ q_rg (a4 + 2) ∧ 0 ≤ a4 + 2 ∧ a4 + 2 < q_tk S 64 0 ∧ q_c 72 [vR 36, vI (q_tk S 63 (a4 + 1)), vI (q_tk S 63 (a4 + 2))] (q_tk S) (fun _ S2 => q_c 28 [vR 36] S2 (fun r S3 => (r = k → q_rg (a4 + 4) ∧ q_r 175 23 [vR 63, vR 0, vR 36, vR 62, vI (a4 + 4), vI k, vJ j6] [] S3 (fun a _ => a = 1) (fun _ _ => False)) ∧ (¬ r = k → q_bo 0 ∧ (0 : Int) = 1)) (fun _ _ => False)) (fun _ _ => False) := by
        intro k hm
        have e63 : q_tk S 63 = S 63 := by unfold q_tk; rw [q_up_ne (by decide)]
        have e64 : q_tk S 64 = S 64 := by unfold q_tk; rw [q_up_ne (by decide)]
        rw [e63, e64]
        refine ⟨r1, by omega, by omega, r2, by omega, by omega, hm _ _ (j_J_ag j_ag_tk hJ) ?_⟩
        refine b_28_0 ?_
        rw [n_up1]
        have ag : j_ag S (q_up (q_tk S) 36 0 k) := j_ag_t j_ag_tk j_ag_0
        exact ⟨fun _ => ⟨ha, nx _ V b (.inl k) _ (j_J_ag ag hJ) (l_k_ag ag (by rw [q_up_ne (by decide)]; unfold q_tk; rw [n_up1]; omega))⟩, fun g => absurd rfl g⟩
      have e09 : q_tk S 0 = S 0 := by unfold q_tk; rw [q_up_ne (by decide)]
      refine c_169 hJ hx (fun g => ?_) (fun g g2 => ?_) (fun g g2 => ?_)
      · exact bad 1 fun Q' Z' hT hq => m_72 hT (fun _ => hq) (fun q => by rw [e09] at q; omega) (fun q => by rw [e09] at q; omega)
      · exact bad 2 fun Q' Z' hT hq => m_72 hT (fun q => by rw [e09] at q; omega) (fun _ _ => hq) (fun _ q => absurd q g2)
      · obtain ⟨T, hT⟩ : ∃ T, T = q_up (q_up (q_up (q_up (q_up (q_up (q_up (q_up S 27 0 1) 27 1 0) 27 2 1) 28 0 0) 27 3 0) 30 5 0) 27 10 (S 63 (a4 + 1))) 27 11 (S 63 (a4 + 2)) := ⟨_, rfl⟩
        rw [← hT]
        have fr : n_fr [] [(27, 0), (27, 1), (27, 2), (28, 0), (27, 3), (30, 5), (27, 10), (27, 11), (36, 0), (36, 24), (36, 25), (36, 26), (36, 27), (36, 28), (36, 29), (36, 30), (54, 0)] S T := by
          rw [hT]
          exact n_fr_i (n_fr_i (n_fr_i (n_fr_i (n_fr_i (n_fr_i (n_fr_i (n_fr_i n_fr_r (by decide)) (by decide)) (by decide)) (by decide)) (by decide)) (by decide)) (by decide)) (by decide)
        have e63 : T 63 = S 63 := n_fr_c fr (by decide)
        have e64 : T 64 = S 64 := n_fr_c fr (by decide)
        rw [e63, e64]
        refine ⟨r1, by omega, by omega, r2, by omega, by omega, ?_⟩
        have eT0 : T 0 = S 0 := n_fr_c fr (by decide)
        have eT4 : T 36 4 = S 36 4 := by rw [hT]; simp only [q_up_ne (show (36 : Nat) ≠ 27 by decide), q_up_ne (show (36 : Nat) ≠ 28 by decide), q_up_ne (show (36 : Nat) ≠ 30 by decide)]
        refine b_72_0 ?_
        have h4 := (j_has hJ).1
        have fin : ∀ (U : q_S), U = q_up (q_up (q_up (q_up (q_up (q_up (q_up (q_up (q_up T 36 0 0) 36 24 1) 36 25 0) 36 26 (S 63 (a4 + 1))) 36 27 (S 63 (a4 + 2))) 36 28 1) 36 29 0) 36 30 0) 54 0 0 → j_J U V b ∧ l_k S U ∧ U 36 0 = 0 := by
          intro U hU
          have fr2 : n_fr [] [(27, 0), (27, 1), (27, 2), (28, 0), (27, 3), (30, 5), (27, 10), (27, 11), (36, 0), (36, 24), (36, 25), (36, 26), (36, 27), (36, 28), (36, 29), (36, 30), (54, 0)] S U := by
            rw [hU]
            exact n_fr_i (n_fr_i (n_fr_i (n_fr_i (n_fr_i (n_fr_i (n_fr_i (n_fr_i (n_fr_i fr (by decide)) (by decide)) (by decide)) (by decide)) (by decide)) (by decide)) (by decide)) (by decide)) (by decide)
          refine ⟨j_beg g2 g hJ fr2 ?_ ?_ ?_ ?_ ?_ ?_ ?_ ?_ ?_ ?_ ?_ ?_ ?_ ?_ ?_ ?_, l_k_fr fr2 (by decide), ?_⟩
          all_goals (rw [hU, hT]; simp [n_up])
        obtain ⟨f1, f2, f3⟩ := fin _ rfl
        refine ⟨fun _ => ⟨fun q => by omega, fun _ => ⟨fun q => by omega, fun _ => ⟨fun q => by omega, fun _ => ⟨fun _ => ⟨fun q => absurd rfl q, fun _ => ⟨⟨by omega, by omega⟩, by omega, by omega, b_28_0 ⟨fun _ => ⟨ha, nx _ V b (.inl 0) _ f1 f2⟩, fun q => absurd f3 q⟩⟩⟩, fun q => by omega⟩⟩⟩⟩, fun q => by omega⟩
    · refine ⟨r1, by omega, by omega, ?_⟩
      refine hTK S V b _ _ _ hJ (by omega) hx fun k T hk hM => ?_
      rw [hk.1, hk.2.1]
      refine ⟨r1, by omega, by omega, hM _ _ fun a U hU hkU e1 e2 => b_28_0 ?_⟩
      have nk := nx' U (.inl k) (.inl a) hU hkU
      rw [e1]
      refine ⟨fun _ => ⟨fun g => ⟨ha, nk⟩, fun g => ⟨by omega, by omega, fun _ => ⟨ha, nk⟩, fun g2 => absurd ?_ g2⟩⟩, fun g => absurd rfl g⟩
      rw [e2 (by omega)]
      unfold q_wcmp
      rw [if_neg (by omega), if_pos rfl]
    · refine ⟨r1, by omega, by omega, ?_⟩
      refine c_15 ?_
      refine ⟨r1, by omega, by omega, m_76 hJ ?_⟩
      exact ⟨fun _ => ⟨ha, nx _ V b _ _ (j_J_ag j_ag_0 hJ) (l_k_ag j_ag_0 (by rw [q_up_ne (by decide)]; omega))⟩, fun g => absurd rfl g⟩
    · refine ⟨r1, by omega, by omega, ?_⟩
      refine c_171 hJ hx fun k a T hs hT => ?_
      obtain ⟨ag, hk, -⟩ := l_hT_ag hT
      have hJT := j_J_ag ag hJ
      have e09 : T 0 = S 0 := j_ag_f ag (by decide) (by decide) (by decide)
      have eS : s_stk T (S 63 (a4 + 1)) = s_stk S (S 63 (a4 + 1)) := by
        unfold s_stk
        rw [j_ag_f ag (k := 27) (by decide) (by decide) (by decide), j_ag_f ag (k := 28) (by decide) (by decide) (by decide)]
      rw [hk.1, hk.2.1]
      refine ⟨r1, by omega, by omega, ?_⟩
      refine l_t s_eq_u hs hJ hT (fun Q' hq => m_77 hJT (by rw [eS]; exact hq)) ha nx'
    · refine c_172 hJ hx fun k a T hs hT => ?_
      obtain ⟨ag, hk, -⟩ := l_hT_ag hT
      have hJT := j_J_ag ag hJ
      have e09 : T 0 = S 0 := j_ag_f ag (by decide) (by decide) (by decide)
      have eS : s_exp T V b = s_exp S V b := by
        unfold s_exp
        rw [j_ag_f ag (k := 27) (by decide) (by decide) (by decide), j_ag_f ag (k := 28) (by decide) (by decide) (by decide)]
      refine l_t (fun _ _ _ _ => j_sp_u (fun _ _ => v_ex_u)) hs hJ hT (fun Q' hq => m_78 hJT (by rw [eS]; exact hq)) ha nx'
    · refine ⟨r1, by omega, by omega, r2, by omega, by omega, ?_⟩
      refine c_173 hJ hx fun k a T hs hT => ?_
      obtain ⟨ag, hk, -⟩ := l_hT_ag hT
      have hJT := j_J_ag ag hJ
      have e09 : T 0 = S 0 := j_ag_f ag (by decide) (by decide) (by decide)
      have eS : s_nod T V (S 63 (a4 + 1)) (S 63 (a4 + 2)) = s_nod S V (S 63 (a4 + 1)) (S 63 (a4 + 2)) := by
        unfold s_nod j_nz
        rw [j_ag_f ag (k := 27) (by decide) (by decide) (by decide), j_ag_f ag (k := 30) (by decide) (by decide) (by decide), j_ag_f ag (k := 31) (by decide) (by decide) (by decide), j_ag_f ag (k := 32) (by decide) (by decide) (by decide), j_ag_f ag (k := 33) (by decide) (by decide) (by decide), j_ag_f ag (k := 34) (by decide) (by decide) (by decide)]
      rw [hk.1, hk.2.1]
      refine ⟨r1, by omega, by omega, r2, by omega, by omega, ?_⟩
      refine l_t s_eq_u hs hJ hT (fun Q' hq => m_79 hJT (by rw [eS]; exact hq)) ha nx'
    · refine ⟨r1, by omega, by omega, r2, by omega, by omega, ?_⟩
      refine c_174 hJ hx fun k a T hs hT => ?_
      obtain ⟨ag, hk, -⟩ := l_hT_ag hT
      have hJT := j_J_ag ag hJ
      have e09 : T 0 = S 0 := j_ag_f ag (by decide) (by decide) (by decide)
      have eS : s_chd T V (S 63 (a4 + 1)) (S 63 (a4 + 2)) = s_chd S V (S 63 (a4 + 1)) (S 63 (a4 + 2)) := by
        unfold s_chd j_nz
        rw [j_ag_f ag (k := 27) (by decide) (by decide) (by decide), j_ag_f ag (k := 30) (by decide) (by decide) (by decide), j_ag_f ag (k := 32) (by decide) (by decide) (by decide), j_ag_f ag (k := 35) (by decide) (by decide) (by decide)]
      rw [hk.1, hk.2.1]
      refine ⟨r1, by omega, by omega, r2, by omega, by omega, ?_⟩
      refine l_t s_eq_u hs hJ hT (fun Q' hq => m_80 hJT (by rw [eS]; exact hq)) ha nx'
end Law
