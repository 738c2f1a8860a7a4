/-! the reference reads the text -/
def r_m (S G : q_S) : Prop := S 36 5 = G 0 2 ∧ S 36 10 = G 0 3 ∧ (∀ p, g_pr G p → S 38 p = G 1 p ∧ S 39 p = G 2 p) ∧ (∀ p i, g_le G p i → S 40 (4 * p + i) = G 3 (4 * p + i) ∧ S 41 (4 * p + i) = G 4 (4 * p + i)) ∧ (∀ r, 0 ≤ r → r < G 0 3 → S 42 r = G 5 r) ∧ (∀ n, 0 ≤ n → n ≤ 7 → S 43 n = G 6 n)
def g_out (T : Int → Int) (L : Nat) (k a : Int) : Prop := (∃ n : Nat, n < L ∧ (∀ m : Nat, m < n → g_ok T m) ∧ T n ≠ 32 ∧ g_k (g_s T n) (T n) = k ∧ k ≠ 0 ∧ a = n) ∨ ((∀ m : Nat, m < L → g_ok T m) ∧ (g_s T L 0 0 ≠ 0 ∨ g_s T L 0 3 = 0) ∧ k = 1 ∧ a = L)
def g_fin (T : Int → Int) (L : Nat) : Prop := (∀ m : Nat, m < L → g_ok T m) ∧ g_s T L 0 0 = 0 ∧ g_s T L 0 3 ≠ 0
abbrev r_mk : List Nat := [38, 39, 40, 41, 42, 43]
abbrev r_mf : List (Nat × Int) := [(36, 3), (36, 5), (36, 10)]
section ScanM
variable {S U G : q_S} {Q : q_Q} {Z : q_Z} {T : Int → Int} {L : Nat}
theorem g_out_u {k a k' a' : Int} (h : g_out T L k a) (h' : g_out T L k' a') : k = k' ∧ a = a' := by
  have nope : ∀ n : Nat, g_ok T n → T n ≠ 32 → g_k (g_s T n) (T n) ≠ 0 → False := fun n h1 h2 h3 => by
    rcases h1 with h1 | h1
    · exact h2 h1
    · exact h3 h1
  rcases h with ⟨n, n1, n2, n3, n4, n5, n6⟩ | ⟨n1, n2, n3, n4⟩ <;> rcases h' with ⟨m, m1, m2, m3, m4, m5, m6⟩ | ⟨m1, m2, m3, m4⟩
  · by_cases q : n < m
    · exact (nope n (m2 n q) n3 (by rw [n4]; exact n5)).elim
    · by_cases q2 : m < n
      · exact (nope m (n2 m q2) m3 (by rw [m4]; exact m5)).elim
      · have : n = m := by omega
        subst this
        exact ⟨by omega, by omega⟩
  · exact (nope n (m1 n n1) n3 (by rw [n4]; exact n5)).elim
  · exact (nope m (n1 m m1) m3 (by rw [m4]; exact m5)).elim
  · exact ⟨by omega, by omega⟩
theorem g_out_nf {k a : Int} (h : g_out T L k a) (h' : g_fin T L) : False := by
  rcases h with ⟨n, n1, n2, n3, n4, n5, n6⟩ | ⟨n1, n2, n3, n4⟩
  · rcases h'.1 n n1 with q | q
    · exact n3 q
    · omega
  · have := h'.2; omega
theorem g_out_k {k a : Int} (h : g_out T L k a) : k ≠ 0 := by
  rcases h with ⟨n, n1, n2, n3, n4, n5, n6⟩ | ⟨n1, n2, n3, n4⟩
  · exact n5
  · omega
theorem r_m_0 {y pl : Int} (h : r_m U G) : r_m (q_up (q_up (q_up U 43 y pl) 42 (G 0 3) y) 36 10 (G 0 3 + 1)) (q_up (q_up (q_up (q_up (q_up G 6 y pl) 5 (G 0 3) y) 0 3 (G 0 3 + 1)) 0 1 y) 0 0 1) := by
  obtain ⟨h1, h2, h3, h4, h5, h6⟩ := h
  refine ⟨by simpa [n_up] using h1, by simp [n_up], fun p hp => ?_, fun p i hp => ?_, fun r r0 r1 => ?_, fun n n0 n1 => ?_⟩
  · have hp' : g_pr G p := by unfold g_pr at hp ⊢; simpa [n_up] using hp
    simpa [n_up] using h3 p hp'
  · have hp' : g_le G p i := by unfold g_le g_pr at hp ⊢; simpa [n_up] using hp
    simpa [n_up] using h4 p i hp'
  · by_cases e : r = G 0 3
    · simp [n_up, e]
    · have hr : r < G 0 3 := by
        simp [n_up] at r1
        omega
      simpa [n_up, e] using h5 r r0 hr
  · by_cases e : n = y
    · simp [n_up, e]
    · simpa [n_up, e] using h6 n n0 n1
theorem r_m_1 {w : Int} (h : r_m U G) : r_m (q_up (q_up (q_up U 36 5 (G 0 2 + 1)) 38 (G 0 2 + 1) w) 39 (G 0 2 + 1) 0) (q_up (q_up (q_up (q_up G 0 2 (G 0 2 + 1)) 1 (G 0 2 + 1) w) 2 (G 0 2 + 1) 0) 0 0 2) := by
  obtain ⟨h1, h2, h3, h4, h5, h6⟩ := h
  refine ⟨by simp [n_up], by simpa [n_up] using h2, fun p hp => ?_, fun p i hp => ?_, fun r r0 r1 => ?_, fun n n0 n1 => ?_⟩
  · by_cases e : p = G 0 2 + 1
    · simp [n_up, e]
    · have hp' : g_pr G p := by
        unfold g_pr at hp ⊢
        simp [n_up] at hp
        omega
      simpa [n_up, e] using h3 p hp'
  · have e : p ≠ G 0 2 + 1 := by
      rintro rfl
      have := hp.2
      simp [n_up] at this
      omega
    have hp' : g_le G p i := by
      unfold g_le g_pr at hp ⊢
      simp [n_up, e] at hp
      omega
    simpa [n_up] using h4 p i hp'
  · simp [n_up] at r1
    simpa [n_up] using h5 r r0 r1
  · simpa [n_up] using h6 n n0 n1
theorem r_m_2 (h : r_m U G) : r_m U (q_up G 0 0 0) := by
  obtain ⟨h1, h2, h3, h4, h5, h6⟩ := h
  refine ⟨by simpa [n_up] using h1, by simpa [n_up] using h2, fun p hp => ?_, fun p i hp => ?_, fun r r0 r1 => ?_, fun n n0 n1 => ?_⟩
  · have hp' : g_pr G p := by unfold g_pr at hp ⊢; simpa [n_up] using hp
    simpa [n_up] using h3 p hp'
  · have hp' : g_le G p i := by unfold g_le g_pr at hp ⊢; simpa [n_up] using hp
    simpa [n_up] using h4 p i hp'
  · simp [n_up] at r1
    simpa [n_up] using h5 r r0 r1
  · simpa [n_up] using h6 n n0 n1
theorem r_m_3 {y pl pl' : Int} (h : r_m U G) (hI : g_I G pl') : r_m (q_up (q_up (q_up U 40 (4 * G 0 2 + G 2 (G 0 2)) y) 41 (4 * G 0 2 + G 2 (G 0 2)) pl) 39 (G 0 2) (G 2 (G 0 2) + 1)) (q_up (q_up (q_up G 3 (4 * G 0 2 + G 2 (G 0 2)) y) 4 (4 * G 0 2 + G 2 (G 0 2)) pl) 2 (G 0 2) (G 2 (G 0 2) + 1)) := by
  obtain ⟨h1, h2, h3, h4, h5, h6⟩ := h
  refine ⟨by simpa [n_up] using h1, by simpa [n_up] using h2, fun p hp => ?_, fun p i hp => ?_, fun r r0 r1 => ?_, fun n n0 n1 => ?_⟩
  · have hp' : g_pr G p := by unfold g_pr at hp ⊢; simpa [n_up] using hp
    have := h3 p hp'
    by_cases e : p = G 0 2
    · simp [n_up, e]
      rw [← e]; exact this.1
    · simpa [n_up, e] using this
  · have hp' : g_pr G p := by
      have := hp.1
      unfold g_pr at this ⊢
      simpa [n_up] using this
    by_cases q : 4 * p + i = 4 * G 0 2 + G 2 (G 0 2)
    · simp [n_up, q]
    · have hl : g_le G p i := by
        refine ⟨hp', ?_⟩
        have hi := hp.2
        by_cases e : p = G 0 2
        · simp [n_up, e] at hi
          rw [e]
          omega
        · simpa [n_up, e] using hi
      simpa [n_up, q] using h4 p i hl
  · simp [n_up] at r1
    simpa [n_up] using h5 r r0 r1
  · simpa [n_up] using h6 n n0 n1
theorem m_35 (hL : S 36 2 = L) (hL2 : L ≤ 200) (hT : ∀ i : Int, 0 ≤ i → i < L → S 37 i = T i) (hf : ∀ k a U, g_out T L k a → n_fr r_mk r_mf S U → U 36 3 = a → Q k U) (hg : g_fin T L → ∀ U, r_m U (g_s T L) → n_fr r_mk [(36, 5), (36, 10)] S U → Q 0 U) : q_c 35 [vR 36] S Q Z := by
  refine b_35_0 ?_
  have key : ∀ (i : Int) (x : q_S × q_J × q_J × q_J), i ≤ L → (0 ≤ i ∧ (∀ m : Nat, (m : Int) < i → g_ok T m) ∧ r_m x.1 (g_s T i.toNat) ∧ n_fr r_mk [(36, 5), (36, 10)] S x.1) → q_r 35 37 [vR 36, vI (g_s T i.toNat 0 0), vI (g_s T i.toNat 0 1), vI i, vJ x.2.1, vJ x.2.2.1, vJ x.2.2.2] [] x.1 Q Z := by
    refine n_for L (fun (i : Int) (x : q_S × q_J × q_J × q_J) => 0 ≤ i ∧ (∀ m : Nat, (m : Int) < i → g_ok T m) ∧ r_m x.1 (g_s T i.toNat) ∧ n_fr r_mk [(36, 5), (36, 10)] S x.1) (fun (i : Int) (x : q_S × q_J × q_J × q_J) => q_r 35 37 [vR 36, vI (g_s T i.toNat 0 0), vI (g_s T i.toNat 0 1), vI i, vJ x.2.1, vJ x.2.2.1, vJ x.2.2.2] [] x.1 Q Z) ?_ ?_
    · rintro ⟨U, j4, j5, j6⟩ ⟨-, ho, hr, fr⟩
      simp only at hr fr ⊢
      have eL : (L : Int).toNat = L := by omega
      rw [eL] at hr ⊢
      have ho' : ∀ m : Nat, m < L → g_ok T m := fun m hm => ho m (by omega)
      have e2 : U 36 2 = L := by rw [n_fr_f fr (by decide)]; exact hL
      have flt : (g_s T L 0 0 ≠ 0 ∨ g_s T L 0 3 = 0) → q_c 34 [vR 36, vI 1, vI L] U Q Z := fun q => b_34_0 (hf 1 L _ (Or.inr ⟨ho', q, rfl, rfl⟩) (n_fr_i (n_fr_w fr (by decide) (by decide)) (by decide)) (n_up1 _ _ _ _))
      have hi := (g_s_I L ho').1
      refine b_35_37 ?_
      rw [e2, hr.2.1]
      exact ⟨fun _ => ⟨fun q => flt (Or.inl q), fun q => ⟨fun q2 => flt (Or.inr (by omega)), fun q2 => hg ⟨ho', by omega, by omega⟩ U hr fr⟩⟩, fun q => by omega⟩
    · rintro i ⟨U, j4, j5, j6⟩ ⟨i0, ho, hr, fr⟩ hi ih
      simp only at hr fr ⊢
      have ei : ((i.toNat : Nat) : Int) = i := by omega
      have en : (i + 1).toNat = i.toNat + 1 := by omega
      have ho' : ∀ m : Nat, m < i.toNat → g_ok T m := fun m hm => ho m (by omega)
      have hI := g_s_I i.toNat ho'
      rw [ei] at hI
      have e2 : U 36 2 = L := by rw [n_fr_f fr (by decide)]; exact hL
      have ec : U 37 i = T i := by rw [n_fr_c fr (by decide)]; exact hT i i0 hi
      have es : g_s T (i.toNat + 1) = if T i = 32 then g_s T i.toNat else g_n (g_s T i.toNat) (T i) i := by
        show (if T (i.toNat : Nat) = 32 then g_s T i.toNat else g_n (g_s T i.toNat) (T (i.toNat : Nat)) (i.toNat : Nat)) = _
        rw [ei]
      have oks : (T i = 32 ∨ g_k (g_s T i.toNat) (T i) = 0) → ∀ m : Nat, (m : Int) < i + 1 → g_ok T m := fun q m hm => by
        by_cases e : (m : Int) = i
        · have : m = i.toNat := by omega
          subst this
          unfold g_ok
          rw [ei]; exact q
        · exact ho m (by omega)
      obtain ⟨G, hG⟩ : ∃ G, G = g_s T i.toNat := ⟨_, rfl⟩
      rw [← hG] at hr hI es oks ⊢
      have hI0 := hI
      obtain ⟨⟨i1, i2, i3⟩, i4, i5, i6, i7, -, -, i8, -, -, -, i12, -, -, -, i16⟩ := hI
      have hr0 := hr
      obtain ⟨r1, r2, r3, r4, r5, r6⟩ := hr
      have yr := v_sym_r (T i)
      have rg : q_rg (i + 1) := by unfold q_rg; omega
      have nx : ∀ (U' : q_S) (j4 j5 j6 : q_J) (G' : q_S), (T i = 32 ∨ g_k G (T i) = 0) → g_s T (i.toNat + 1) = G' → r_m U' G' → n_fr r_mk [(36, 5), (36, 10)] S U' → q_r 35 37 [vR 36, vI (G' 0 0), vI (G' 0 1), vI (i + 1), vJ j4, vJ j5, vJ j6] [] U' Q Z := by
        intro U' j4 j5 j6 G' q1 q2 q3 q4
        have := ih (U', j4, j5, j6) ⟨by omega, oks q1, by simp only; rw [en, q2]; exact q3, q4⟩
        simp only at this
        rw [en, q2] at this
        exact this
      have flt : T i ≠ 32 → ∀ k, g_k G (T i) = k → k ≠ 0 → q_c 34 [vR 36, vI k, vI i] U Q Z := fun q k q1 q2 => b_34_0 (hf k i _ (Or.inl ⟨i.toNat, by omega, ho', by rw [ei]; exact q, by rw [ei, ← hG]; exact q1, q2, by omega⟩) (n_fr_i (n_fr_w fr (by decide) (by decide)) (by decide)) (n_up1 _ _ _ _))
      refine b_35_37 ?_
      rw [e2, ec]
      refine ⟨fun q => by omega, fun _ => ⟨by omega, by omega, m_29 ?_⟩⟩
      rw [r1, r2]
      by_cases h32 : T i = 32
      · refine ⟨fun q => absurd h32 q, fun _ => ⟨rg, ?_⟩⟩
        have := nx U (.inl (T i)) (.inl (v_sym (T i))) j6 G (Or.inl h32) (by rw [es, if_pos h32]) hr0 fr
        exact this
      · rw [if_neg h32] at es
        refine ⟨fun _ => ?_, fun q => absurd h32 q⟩
        by_cases m0 : G 0 0 = 0
        · refine ⟨fun q => absurd m0 q, fun _ => ?_⟩
          have ek : g_k G (T i) = if v_sym (T i) < 0 ∨ 7 < v_sym (T i) then 1 else if 0 ≤ G 6 (v_sym (T i)) then 2 else 0 := by unfold g_k; rw [if_pos m0]
          by_cases hy : v_sym (T i) < 0 ∨ 7 < v_sym (T i)
          · have f1 := flt h32 1 (by rw [ek, if_pos hy]) (by decide)
            repeat' (first | omega | exact f1 | apply And.intro | intro _)
          · have e6 := r6 (v_sym (T i)) (by omega) (by omega)
            rw [e6]
            by_cases hb : 0 ≤ G 6 (v_sym (T i))
            · have f2 := flt h32 2 (by rw [ek, if_neg hy, if_pos hb]) (by decide)
              repeat' (first | omega | exact f2 | apply And.intro | intro _)
            · have ek0 : g_k G (T i) = 0 := by rw [ek, if_neg hy, if_neg hb]
              have en2 : g_n G (T i) i = q_up (q_up (q_up (q_up (q_up G 6 (v_sym (T i)) i) 5 (G 0 3) (v_sym (T i))) 0 3 (G 0 3 + 1)) 0 1 (v_sym (T i))) 0 0 1 := by unfold g_n; rw [if_pos m0]
              have c8 := g_c8_r G
              have c8' : G 0 3 < 8 := by
                have a := (g_I_n hI0 i0 ek0).2.2.2.2.2.2.2.2.2.2.2.2.2.2.2
                have b := g_c8_r (g_n G (T i) i)
                rw [← a, en2] at b
                simp [n_up] at b
                omega
              have n1 := nx _ (.inl (T i)) (.inl (v_sym (T i))) j6 _ (Or.inr ek0) (es.trans en2) (r_m_0 hr0) (n_fr_i (n_fr_k (n_fr_k fr (by decide)) (by decide)) (by decide))
              have t1 : ∀ (S : q_S) (v : Int), q_up (q_up (q_up S 0 3 (G 0 3 + 1)) 0 1 v) 0 0 1 0 1 = v := fun S v => by simp [n_up]
              rw [n_up1, t1] at n1
              repeat' (first | omega | exact n1 | apply And.intro | intro _)
        · refine ⟨fun _ => ?_, fun q => absurd m0 q⟩
          by_cases m1 : G 0 0 = 1
          · refine ⟨fun _ => ?_, fun q => absurd m1 q⟩
            have ek : g_k G (T i) = if T i ≠ 58 then 1 else if G 0 2 = 15 then 4 else 0 := by unfold g_k; rw [if_neg m0, if_pos m1]
            by_cases hc : T i ≠ 58
            · have f1 := flt h32 1 (by rw [ek, if_pos hc]) (by decide)
              repeat' (first | omega | exact f1 | apply And.intro | intro _)
            · by_cases hP : G 0 2 = 15
              · have f1 := flt h32 4 (by rw [ek, if_neg hc, if_pos hP]) (by decide)
                repeat' (first | omega | exact f1 | apply And.intro | intro _)
              · have ek0 : g_k G (T i) = 0 := by rw [ek, if_neg hc, if_neg hP]
                have en2 : g_n G (T i) i = q_up (q_up (q_up (q_up G 0 2 (G 0 2 + 1)) 1 (G 0 2 + 1) (G 0 1)) 2 (G 0 2 + 1) 0) 0 0 2 := by unfold g_n; rw [if_neg m0, if_pos (Or.inl m1)]
                have n1 := nx _ (.inl (T i)) (.inl (v_sym (T i))) j6 _ (Or.inr ek0) (es.trans en2) (r_m_1 hr0) (n_fr_k (n_fr_k (n_fr_i fr (by decide)) (by decide)) (by decide))
                have t1 : q_up (q_up (q_up (q_up G 0 2 (G 0 2 + 1)) 1 (G 0 2 + 1) (G 0 1)) 2 (G 0 2 + 1) 0) 0 0 2 0 1 = G 0 1 := by simp [n_up]
                rw [n_up1, t1] at n1
                repeat' (first | omega | exact n1 | apply And.intro | intro _)
          · refine ⟨fun q => absurd q m1, fun _ => ?_⟩
            have ek : g_k G (T i) = if T i = 124 then (if G 0 2 = 15 then 4 else 0) else if T i = 59 then 0 else if v_sym (T i) < 0 then 1 else if G 2 (G 0 2) = 4 then 3 else 0 := by unfold g_k; rw [if_neg m0, if_neg m1]
            by_cases hc : T i = 124
            · by_cases hP : G 0 2 = 15
              · have f1 := flt h32 4 (by rw [ek, if_pos hc, if_pos hP]) (by decide)
                repeat' (first | omega | exact f1 | apply And.intro | intro _)
              · have ek0 : g_k G (T i) = 0 := by rw [ek, if_pos hc, if_neg hP]
                have en2 : g_n G (T i) i = q_up (q_up (q_up (q_up G 0 2 (G 0 2 + 1)) 1 (G 0 2 + 1) (G 0 1)) 2 (G 0 2 + 1) 0) 0 0 2 := by unfold g_n; rw [if_neg m0, if_pos (Or.inr hc)]
                have n1 := nx _ (.inl (T i)) (.inl (v_sym (T i))) j6 _ (Or.inr ek0) (es.trans en2) (r_m_1 hr0) (n_fr_k (n_fr_k (n_fr_i fr (by decide)) (by decide)) (by decide))
                have t1 : q_up (q_up (q_up (q_up G 0 2 (G 0 2 + 1)) 1 (G 0 2 + 1) (G 0 1)) 2 (G 0 2 + 1) 0) 0 0 2 0 1 = G 0 1 := by simp [n_up]
                rw [n_up1, t1] at n1
                repeat' (first | omega | exact n1 | apply And.intro | intro _)
            · rw [if_neg hc] at ek
              refine ⟨fun _ => ⟨fun q59 => ?_, fun q59 => ⟨rg, ?_⟩⟩, fun q => absurd hc q⟩
              · rw [if_neg q59] at ek
                have hP := (i12 (by omega)).1
                have hz := (i4 (G 0 2) ⟨hP, by omega⟩).2.2
                have e39 := (r3 (G 0 2) ⟨hP, by omega⟩).2
                rw [e39]
                by_cases hy : v_sym (T i) < 0
                · have f1 := flt h32 1 (by rw [ek, if_pos hy]) (by decide)
                  repeat' (first | omega | exact f1 | apply And.intro | intro _)
                · by_cases h4 : G 2 (G 0 2) = 4
                  · have f1 := flt h32 3 (by rw [ek, if_neg hy, if_pos h4]) (by decide)
                    repeat' (first | omega | exact f1 | apply And.intro | intro _)
                  · have ek0 : g_k G (T i) = 0 := by rw [ek, if_neg hy, if_neg h4]
                    have en2 : g_n G (T i) i = q_up (q_up (q_up G 3 (4 * G 0 2 + G 2 (G 0 2)) (v_sym (T i))) 4 (4 * G 0 2 + G 2 (G 0 2)) i) 2 (G 0 2) (G 2 (G 0 2) + 1) := by unfold g_n; rw [if_neg m0, if_neg (by omega), if_neg q59]
                    have n1 := nx _ (.inl (T i)) (.inl (v_sym (T i))) (.inl (G 2 (G 0 2))) _ (Or.inr ek0) (es.trans en2) (r_m_3 hr0 hI0) (n_fr_k (n_fr_k (n_fr_k fr (by decide)) (by decide)) (by decide))
                    rw [q_up_ne (by decide), q_up_ne (by decide), q_up_ne (by decide)] at n1
                    repeat' (first | omega | exact n1 | apply And.intro | intro _)
              · have q59' : T i = 59 := by omega
                rw [if_pos q59'] at ek
                have en2 : g_n G (T i) i = q_up G 0 0 0 := by unfold g_n; rw [if_neg m0, if_neg (by omega), if_pos q59']
                have n1 := nx U (.inl (T i)) (.inl (v_sym (T i))) j6 _ (Or.inr ek) (es.trans en2) (r_m_2 hr0) fr
                rw [n_up1, show q_up G 0 0 0 0 1 = G 0 1 by simp [n_up]] at n1
                exact n1
  have key0 : ∀ (i : Int) (x : q_S × q_J × q_J × q_J × q_J × q_J), i ≤ 8 → (0 ≤ i ∧ n_fr r_mk [(36, 5), (36, 10)] S x.1 ∧ x.1 36 5 = 0 ∧ x.1 36 10 = 0 ∧ ∀ n, 0 ≤ n → n < i → x.1 43 n = -1) → q_r 35 12 [vR 36, vI i, vJ x.2.1, vJ x.2.2.1, vJ x.2.2.2.1, vJ x.2.2.2.2.1, vJ x.2.2.2.2.2] [] x.1 Q Z := by
    refine n_for 8 (fun (i : Int) (x : q_S × q_J × q_J × q_J × q_J × q_J) => 0 ≤ i ∧ n_fr r_mk [(36, 5), (36, 10)] S x.1 ∧ x.1 36 5 = 0 ∧ x.1 36 10 = 0 ∧ ∀ n, 0 ≤ n → n < i → x.1 43 n = -1) (fun (i : Int) (x : q_S × q_J × q_J × q_J × q_J × q_J) => q_r 35 12 [vR 36, vI i, vJ x.2.1, vJ x.2.2.1, vJ x.2.2.2.1, vJ x.2.2.2.2.1, vJ x.2.2.2.2.2] [] x.1 Q Z) ?_ ?_
    · rintro ⟨U, j2, j3, j4, j5, j6⟩ ⟨-, fr, e5, e10, e43⟩
      refine b_35_12 ⟨fun _ => ?_, fun q => by omega⟩
      refine key 0 (U, j4, j5, j6) (by omega) ⟨by omega, fun m hm => by omega, ?_, fr⟩
      have np : ∀ p, ¬ g_pr g_0 p := fun p hp => by unfold g_pr at hp; have : g_0 0 2 = 0 := rfl; omega
      refine ⟨e5, e10, fun p hp => absurd hp (np p), fun p i hl => absurd hl.1 (np p), fun r r0 r1 => ?_, fun n n0 n1 => e43 n n0 (by omega)⟩
      have : g_s T (0 : Int).toNat 0 3 = 0 := rfl
      omega
    · rintro i ⟨U, j2, j3, j4, j5, j6⟩ ⟨i0, fr, e5, e10, e43⟩ hi ih
      simp only at fr e5 e10 e43 ⊢
      refine b_35_12 ⟨fun q => by omega, fun _ => ⟨by omega, by omega, by unfold q_rg; omega, ih (q_up U 43 i (-1), j2, j3, j4, j5, j6) ⟨by omega, n_fr_k fr (by decide), ?_, ?_, fun n n0 n1 => ?_⟩⟩⟩
      · simp only; rw [q_up_ne (by decide)]; exact e5
      · simp only; rw [q_up_ne (by decide)]; exact e10
      · simp only
        rw [n_up]
        by_cases e : n = i
        · rw [if_pos ⟨rfl, e⟩]
        · rw [if_neg (fun q => e q.2)]; exact e43 n n0 (by omega)
  refine key0 0 (q_up (q_up S 36 5 0) 36 10 0, _, _, _, _, _) (by omega) ⟨by omega, n_fr_i (n_fr_i n_fr_r (by decide)) (by decide), ?_, ?_, fun n n0 n1 => by omega⟩
  · simp [n_up]
  · simp [n_up]
end ScanM
