section ScanD
variable {S U G : q_S} {Q : q_Q} {Z : q_Z} {T : Int → Int} {L : Nat}
/-- an alternative of the class -/
theorem c_127 {pl c : Int} (hI : g_I G pl) (hm : G 0 0 = 1 ∨ G 0 0 = 2) (h : r_c S G) (hf : G 0 2 = 15 → Q 4 S) (ho : G 0 2 ≠ 15 → ∀ S', r_c S' (q_up (q_up (q_up (q_up G 0 2 (G 0 2 + 1)) 1 (G 0 2 + 1) (G 0 1)) 2 (G 0 2 + 1) 0) 0 0 2) → n_fr r_ck r_cf S S' → Q 0 S') : q_c 127 [vR 9] S Q Z := by
  have h0 := h
  obtain ⟨⟨h1, h2, h3, h4, h5, h6, h7, h8, h9⟩, h10⟩ := h
  have i1 := hI.1
  have i8' := hI.2.2.2.2.2.2.2.1 (by omega)
  have inow := (hI.2.2.2.2.1 (G 0 3 - 1) (by omega) (by omega)).1
  rw [← i8'.2] at inow
  have h2' := h2 (by omega)
  refine b_127_0 ?_
  refine b_102_0 ?_
  rw [h3, h2']
  refine ⟨by unfold q_rg; omega, fun q => ⟨⟨by omega, by omega⟩, ⟨fun _ => b_103_0 ?_, fun q2 => absurd rfl q2⟩⟩, fun q => ⟨⟨by omega, by omega⟩, ⟨fun q2 => by omega, fun _ => hf (by omega)⟩⟩⟩
  rw [h3]
  refine ⟨by unfold q_rg; omega, by omega, by omega, by omega, by omega, by omega, by omega, fun q2 => ⟨by omega, by omega, ?_⟩, fun q2 => ⟨by omega, by omega, by omega, by omega, ?_⟩⟩
  · refine ho (by omega) _ (r_c_1 hI hm h0 _ fun k i => ?_) (n_fr_i (n_fr_k (n_fr_k (n_fr_k (n_fr_i n_fr_r (by decide)) (by decide)) (by decide)) (by decide)) (by decide))
    simp only [n_up]
    by_cases e3 : k = 3
    · subst e3; simp
    · by_cases e4 : k = 4
      · subst e4; simp
      · by_cases e5 : k = 5
        · subst e5; simp
        · by_cases e6 : k = 6
          · subst e6; simp [q2]
          · by_cases e7 : k = 7
            · subst e7; simp
            · by_cases e9 : k = 9
              · subst e9; simp
              · simp [e3, e4, e5, e6, e7, e9]
  · refine ho (by omega) _ (r_c_1 hI hm h0 _ fun k i => ?_) (n_fr_i (n_fr_k (n_fr_k (n_fr_k (n_fr_k (n_fr_i n_fr_r (by decide)) (by decide)) (by decide)) (by decide)) (by decide)) (by decide))
    have q3 : S 6 (G 0 1) = 0 := by omega
    simp only [n_up]
    by_cases e3 : k = 3
    · subst e3; simp
    · by_cases e4 : k = 4
      · subst e4; simp
      · by_cases e5 : k = 5
        · subst e5; simp
        · by_cases e6 : k = 6
          · subst e6; simp [q3]
          · by_cases e7 : k = 7
            · subst e7; simp
            · by_cases e9 : k = 9
              · subst e9; simp
              · simp [e3, e4, e5, e6, e7, e9]
theorem c_125 {pl c : Int} (hI : g_I G pl) (hpl : 0 ≤ pl) (h : r_c S G) (hf : ∀ k, g_k G c = k → k ≠ 0 → Q k S) (ho : g_k G c = 0 → ∀ S', r_c S' (g_n G c pl) → n_fr r_ck r_cf S S' → Q 0 S') : q_c 125 [vR 9, vI c, vI pl] S Q Z := by
  have h0 := h
  obtain ⟨⟨h1, h2, h3, h4, h5, h6, h7, h8, h9⟩, h10⟩ := h
  have i1 := hI.1
  have yr := v_sym_r c
  refine b_125_0 ?_
  rw [h1]
  refine ⟨fun m0 => c_25 ?_, fun m0 => ⟨fun m1 => ⟨fun hc => ?_, fun hc => ?_⟩, fun m1 => ?_⟩⟩
  · have ek : g_k G c = if v_sym c < 0 ∨ 7 < v_sym c then 1 else if 0 ≤ G 6 (v_sym c) then 2 else 0 := by unfold g_k; rw [if_pos m0]
    refine b_126_0 ⟨fun q => hf 1 (by rw [ek, if_pos (by omega)]) (by decide), fun q => ⟨fun q2 => ?_, fun q2 => hf 1 (by rw [ek, if_pos (by omega)]) (by decide)⟩⟩
    have hn := h6 (v_sym c) (by omega) (by omega)
    have i10 := hI.2.2.2.2.2.2.2.2.2.1 (v_sym c) (by omega) (by omega)
    rw [if_neg (by omega)] at ek
    refine b_106_0 ⟨by omega, by omega, fun q3 => ⟨⟨by omega, by omega⟩, ⟨fun _ => ⟨by omega, by omega, ?_⟩, fun q4 => absurd rfl q4⟩⟩, fun q3 => ⟨⟨by omega, by omega⟩, ⟨fun q4 => by omega, fun _ => ?_⟩⟩⟩
    · have nb : ¬ 0 ≤ G 6 (v_sym c) := fun q4 => by
        rcases hn with ⟨-, n2⟩ | ⟨n1, -⟩
        · rcases i10 q4 with ⟨p, p1, p2⟩ | ⟨p1, -⟩
          · exact n2 p p1 p2
          · omega
        · omega
      refine ho (by rw [ek, if_neg nb]) _ ?_ (n_fr_i (n_fr_k (n_fr_i n_fr_r (by decide)) (by decide)) (by decide))
      unfold g_n
      rw [if_pos m0]
      exact r_c_0 hI m0 (by omega) h0
    · have yb : 0 ≤ G 6 (v_sym c) := by
        rcases hn with ⟨n1, -⟩ | ⟨n1, n2⟩
        · exact absurd n1 q3
        · have pr : g_pr G (S 6 (v_sym c)) := ⟨n1.1, by omega⟩
          have := (n2 _ pr).mpr ⟨by omega, n1.2.1⟩
          have b := (hI.2.1 _ pr).2.1
          rw [this] at b
          exact b
      exact hf 2 (by rw [ek, if_pos yb]) (by decide)
  · exact hf 1 (by unfold g_k; rw [if_neg m0, if_pos m1, if_pos hc]) (by decide)
  · have ek : g_k G c = if G 0 2 = 15 then 4 else 0 := by unfold g_k; rw [if_neg m0, if_pos m1, if_neg hc]
    refine c_127 (c := c) hI (Or.inl m1) h0 (fun q => hf 4 (by rw [ek, if_pos q]) (by decide)) (fun q S' r f => ho (by rw [ek, if_neg q]) S' ?_ f)
    unfold g_n
    rw [if_neg m0, if_pos (Or.inl m1)]
    exact r
  · have m2 : G 0 0 = 2 := by omega
    have ek : g_k G c = if c = 124 then (if G 0 2 = 15 then 4 else 0) else if c = 59 then 0 else if v_sym c < 0 then 1 else if G 2 (G 0 2) = 4 then 3 else 0 := by unfold g_k; rw [if_neg m0, if_neg m1]
    refine b_128_0 ⟨fun hc => ⟨fun hs => c_25 ?_, fun hs => ?_⟩, fun hc => ?_⟩
    · rw [if_neg hc, if_neg hs] at ek
      refine ⟨fun q => ?_, fun q => hf 1 (by rw [ek, if_pos (by omega)]) (by decide)⟩
      rw [if_neg (by omega)] at ek
      have hP := (hI.2.2.2.2.2.2.2.2.2.2.2.1 m2).1
      have hz := (hI.2.1 (G 0 2) ⟨hP, by omega⟩).2.2
      have e5 := (h4 (G 0 2) ⟨hP, by omega⟩).2
      refine b_129_0 ?_
      rw [h3, e5]
      refine ⟨by omega, by omega, fun q4 => b_104_0 ?_, fun q4 => hf 3 (by rw [ek, if_pos (by omega)]) (by decide)⟩
      rw [e5, show G 0 2 * 4 = 4 * G 0 2 from Int.mul_comm _ _]
      have nx : ∀ X : q_S, (∀ k i, X k i = if k = 8 ∧ i = 4 * G 0 2 + G 2 (G 0 2) then v_sym c else if k = 5 ∧ i = G 0 2 then G 2 (G 0 2) + 1 else if k = 11 ∧ i = v_sym c ∧ v_sym c < 8 ∧ S 11 (v_sym c) = -1 then pl else S k i) → n_fr r_ck r_cf S X → Q 0 X := fun X hX fX => by
        refine ho (by rw [ek, if_neg q4]) X ?_ fX
        unfold g_n
        rw [if_neg m0, if_neg (by omega), if_neg hs]
        exact r_c_3 hI m2 (by omega) q4 h0 X hX
      have e11 : q_up (q_up S 8 (4 * G 0 2 + G 2 (G 0 2)) (v_sym c)) 5 (G 0 2) (G 2 (G 0 2) + 1) 11 = S 11 := by rw [q_up_ne (by decide), q_up_ne (by decide)]
      have f1 : n_fr r_ck r_cf S (q_up (q_up S 8 (4 * G 0 2 + G 2 (G 0 2)) (v_sym c)) 5 (G 0 2) (G 2 (G 0 2) + 1)) := n_fr_k (n_fr_k n_fr_r (by decide)) (by decide)
      refine ⟨by unfold q_rg; omega, by omega, by omega, by unfold q_rg; omega, by omega, by omega, by omega, by omega, by unfold q_rg; omega, by omega, by omega, fun q8 => nx _ (fun k i => ?_) f1, fun q8 => ⟨by omega, by omega, ?_⟩⟩
      · have : ¬ v_sym c < 8 := by omega
        simp only [n_up]
        by_cases k8 : k = 8
        · subst k8; simp
        · by_cases k5 : k = 5
          · subst k5; simp
          · simp [k8, k5, this]
      · rw [e11]
        refine ⟨fun q11 => nx _ (fun k i => ?_) f1, fun q11 => ⟨by omega, by omega, nx _ (fun k i => ?_) (n_fr_k f1 (by decide))⟩⟩
        · have : ¬ S 11 (v_sym c) = -1 := q11
          simp only [n_up]
          by_cases k8 : k = 8
          · subst k8; simp
          · by_cases k5 : k = 5
            · subst k5; simp
            · simp [k8, k5, this]
        · have a1 : S 11 (v_sym c) = -1 := by omega
          have a2 : v_sym c < 8 := by omega
          simp only [n_up]
          by_cases k8 : k = 8
          · subst k8; simp
          · by_cases k5 : k = 5
            · subst k5; simp
            · by_cases k11 : k = 11
              · subst k11; simp [a1, a2]
              · simp [k8, k5, k11]
    · have hs' : c = 59 := by omega
      rw [if_neg hc, if_pos hs'] at ek
      refine ho ek _ ?_ (n_fr_i n_fr_r (by decide))
      unfold g_n
      rw [if_neg m0, if_neg (by omega), if_pos hs']
      exact r_c_2 h0
    · have hc' : c = 124 := by omega
      rw [if_pos hc'] at ek
      refine c_127 (c := c) hI (Or.inr m2) h0 (fun q => hf 4 (by rw [ek, if_pos q]) (by decide)) (fun q S' r f => ho (by rw [ek, if_neg q]) S' ?_ f)
      unfold g_n
      rw [if_neg m0, if_pos (Or.inr hc')]
      exact r
/-- the reader's state is cleared -/
theorem c_123 (h : ∀ S', r_c S' g_0 → n_fr r_ck r_cf S S' → Q 0 S') : q_c 123 [vR 9] S Q Z := by
  refine b_123_0 ?_
  refine b_101_0 ⟨by omega, by omega, f_6 fun S1 f1 e1 => f_11 fun S3 f3 e3 => ?_⟩
  have fr : n_fr r_ck r_cf S (q_up (q_up S3 9 5 0) 9 0 (-1)) := n_fr_i (n_fr_i (n_fr_t (n_fr_t (n_fr_k (n_fr_i n_fr_r (by decide)) (by decide)) (n_fr_w f1 (by decide) (by decide))) (n_fr_w f3 (by decide) (by decide))) (by decide)) (by decide)
  have np : ∀ p, ¬ g_pr g_0 p := fun p hp => by unfold g_pr at hp; have : g_0 0 2 = 0 := rfl; omega
  have s3 : S3 3 = S1 3 := n_fr_c f3 (by decide)
  have s5 : S3 5 = S1 5 := n_fr_c f3 (by decide)
  have s6 : S3 6 = S1 6 := n_fr_c f3 (by decide)
  have t3 : S1 3 = q_up (q_up S 3 4 0) 5 0 0 3 := n_fr_c f1 (by decide)
  have t5 : S1 5 = q_up (q_up S 3 4 0) 5 0 0 5 := n_fr_c f1 (by decide)
  refine h _ ⟨⟨?_, fun q => absurd rfl q, ?_, fun p hp => absurd hp (np p), fun p i hl => absurd hl.1 (np p), fun n n0 n1 => Or.inl ⟨?_, fun p hp => absurd hp (np p)⟩, fun n n0 n1 hn => ?_, fun n n0 n1 => Or.inl ⟨?_, fun p i hl => absurd hl.1 (np p)⟩, n_up1 _ _ _ _⟩, ?_⟩ fr
  · rw [n_up, if_neg (by omega), n_up1]; rfl
  · rw [q_up_ne (by decide), q_up_ne (by decide), s3, t3]
    simp [n_up]; rfl
  · rw [q_up_ne (by decide), q_up_ne (by decide), s6]; exact e1 n n0 (by omega)
  · have : g_0 6 n = -1 := rfl
    omega
  · rw [q_up_ne (by decide), q_up_ne (by decide)]; exact e3 n n0 (by omega)
  · rw [q_up_ne (by decide), q_up_ne (by decide), s5, t5, n_up1]
theorem c_124 (h0 : r_c S g_0) (hL : S 1 1 = L) (hL2 : L ≤ 200) (hT : ∀ i : Int, 0 ≤ i → i < L → S 2 i = T i) (hf : ∀ k a U, g_out T L k a → n_fr r_ck r_cf S U → U 9 0 = a → Q k U) (hg : g_fin T L → ∀ U, r_cb U (g_s T L) → U 5 0 = 1 → U 8 0 = g_s T L 1 1 → n_fr r_ck r_cf S U → Q 0 U) : q_c 124 [vR 9] S Q Z := by
  refine b_124_0 ?_
  have key : ∀ (i : Int) (x : q_S × q_J × q_J), i ≤ L → (0 ≤ i ∧ (∀ m : Nat, (m : Int) < i → g_ok T m) ∧ r_c x.1 (g_s T i.toNat) ∧ n_fr r_ck r_cf S x.1) → q_r 124 2 [vR 9, vI i, vJ x.2.1, vJ x.2.2] [] x.1 Q Z := by
    refine n_for L (fun (i : Int) (x : q_S × q_J × q_J) => 0 ≤ i ∧ (∀ m : Nat, (m : Int) < i → g_ok T m) ∧ r_c x.1 (g_s T i.toNat) ∧ n_fr r_ck r_cf S x.1) (fun (i : Int) (x : q_S × q_J × q_J) => q_r 124 2 [vR 9, vI i, vJ x.2.1, vJ x.2.2] [] x.1 Q Z) ?_ ?_
    · rintro ⟨U, j2, j3⟩ ⟨-, ho, hr, fr⟩
      simp only at hr fr ⊢
      have eL : (L : Int).toNat = L := by omega
      rw [eL] at hr
      have ho' : ∀ m : Nat, m < L → g_ok T m := fun m hm => ho m (by omega)
      have e2 : U 1 1 = L := by rw [n_fr_c fr (by decide)]; exact hL
      have hI := g_s_I L ho'
      have flt : (g_s T L 0 0 ≠ 0 ∨ g_s T L 0 3 = 0) → Q 1 (q_up U 9 0 L) := fun q => hf 1 L _ (Or.inr ⟨ho', q, rfl, rfl⟩) (n_fr_i fr (by decide)) (n_up1 _ _ _ _)
      have hr0 := hr
      obtain ⟨⟨h1, h2, h3, h4, h5, h6, h7, h8, h9⟩, h10⟩ := hr
      refine b_124_2 ?_
      rw [e2, h1, h3]
      refine ⟨fun _ => ⟨fun q => flt (Or.inl q), fun q => ⟨fun q2 => b_107_0 ⟨by omega, by omega, b_104_0 ?_⟩, fun q2 => flt (Or.inr ((hI.2.2.2.2.2.2.2.2.2.2.2.2.2.2.1 (by omega)).1 (by omega)))⟩⟩, fun q => by omega⟩
      have i1 := hI.1
      have p1 : g_pr (g_s T L) 1 := ⟨by omega, by omega⟩
      rw [h10, (h4 1 p1).1]
      refine ⟨by unfold q_rg; omega, by omega, by omega, by unfold q_rg; omega, by omega, by omega, by omega, by omega, by unfold q_rg; omega, by omega, by omega, ?_⟩
      rw [show (0 : Int) * 4 + 0 = 0 from rfl, show (0 : Int) + 1 = 1 from rfl]
      have hl0 : ∀ p i, g_le (g_s T L) p i → 4 * p + i ≠ 0 := fun p i hl => by
        obtain ⟨⟨q1, q2⟩, q3, q4⟩ := hl
        omega
      have rl : g_s T L 0 3 ≠ 0 := by
        have a := hI.2.1 1 p1
        obtain ⟨r, r1, -⟩ := hI.2.2.2.2.2.2.1 (g_s T L 1 1) a.1.1 a.1.2 a.2.1
        omega
      have hfin : g_fin T L := by
        refine ⟨ho', ?_, ?_⟩
        · omega
        · exact rl
      refine hg hfin _ ?_ (n_up1 _ _ _ _) ?_ (n_fr_k (n_fr_k fr (by decide)) (by decide))
      · refine ⟨by simpa [n_up] using h1, fun q3 => by simpa [n_up] using h2 q3, by simpa [n_up] using h3, fun p hp => ?_, fun p i hl => ?_, fun n n0 n1 => ?_, fun n n0 n1 hn => by simpa [n_up] using h7 n n0 n1 hn, fun n n0 n1 => ?_, by simpa [n_up] using h9⟩
        · have : p ≠ 0 := by unfold g_pr at hp; omega
          simpa [n_up, this] using h4 p hp
        · have := hl0 p i hl
          simpa [n_up, this] using h5 p i hl
        · have := h6 n n0 n1
          unfold r_fo at this ⊢
          simpa [n_up] using this
        · have := h8 n n0 n1
          unfold r_us at this ⊢
          simpa [n_up] using this
      · simp [n_up]
    · rintro i ⟨U, j2, j3⟩ ⟨i0, ho, hr, fr⟩ hi ih
      simp only at hr fr ⊢
      have ei : ((i.toNat : Nat) : Int) = i := by omega
      have en : (i + 1).toNat = i.toNat + 1 := by omega
      have ho' : ∀ m : Nat, m < i.toNat → g_ok T m := fun m hm => ho m (by omega)
      have hI := g_s_I i.toNat ho'
      rw [ei] at hI
      have e2 : U 1 1 = L := by rw [n_fr_c fr (by decide)]; exact hL
      have ec : U 2 i = T i := by rw [n_fr_c fr (by decide)]; exact hT i i0 hi
      have es : g_s T (i.toNat + 1) = if T i = 32 then g_s T i.toNat else g_n (g_s T i.toNat) (T i) i := by
        show (if T (i.toNat : Nat) = 32 then g_s T i.toNat else g_n (g_s T i.toNat) (T (i.toNat : Nat)) (i.toNat : Nat)) = _
        rw [ei]
      have oks : (T i = 32 ∨ g_k (g_s T i.toNat) (T i) = 0) → ∀ m : Nat, (m : Int) < i + 1 → g_ok T m := fun q m hm => by
        by_cases e : (m : Int) = i
        · have : m = i.toNat := by omega
          subst this
          unfold g_ok
          rw [ei]; exact q
        · exact ho m (by omega)
      have rg : q_rg (i + 1) := by unfold q_rg; omega
      refine b_124_2 ?_
      rw [e2, ec]
      refine ⟨fun q => by omega, fun _ => ⟨by omega, by omega, fun h32 => ?_, fun h32 => ⟨fun _ => ⟨rg, ?_⟩, fun q => absurd rfl q⟩⟩⟩
      · refine c_125 hI i0 hr (fun k q1 q2 => ⟨fun q3 => absurd q3 q2, fun _ => ?_⟩) (fun q1 U' r' f' => ⟨fun _ => ⟨rg, ?_⟩, fun q3 => absurd rfl q3⟩)
        · exact hf k i _ (Or.inl ⟨i.toNat, by omega, ho', by rw [ei]; exact h32, by rw [ei]; exact q1, q2, by omega⟩) (n_fr_i fr (by decide)) (n_up1 _ _ _ _)
        · refine ih (U', .inl _, .inl _) ⟨by omega, oks (Or.inr q1), ?_, n_fr_t fr f'⟩
          simp only
          rw [en, es, if_neg h32]; exact r'
      · refine ih (U, .inl _, .inl _) ⟨by omega, oks (Or.inl (by omega)), ?_, fr⟩
        simp only
        rw [en, es, if_pos (by omega)]; exact hr
  exact key 0 (S, _, _) (by omega) ⟨by omega, fun m hm => by omega, h0, n_fr_r⟩
end ScanD
