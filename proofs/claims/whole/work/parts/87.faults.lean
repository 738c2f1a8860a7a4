/-! the grammar of a text, and its faults 5 to 7 -/
def gr (G : q_S) : v_V := fun t a b _ => if t = 0 then G 0 2 else if t = 1 then G 1 a else if t = 2 then (if a = 0 then 1 else G 2 a) else if t = 3 then (if a = 0 then G 1 1 else G 3 (4 * a + b)) else if t = 11 then (if 0 ≤ G 6 a then 1 else 0) else 0
def u_m (G : q_S) (M : Int → Prop) (a : Int) : Prop := (a = -1 ∧ ∀ n, 0 ≤ n → n ≤ 7 → 0 ≤ G 6 n → M n) ∨ (∃ n, (0 ≤ n ∧ n ≤ 7) ∧ ¬ M n ∧ 0 ≤ G 6 n ∧ a = G 6 n ∧ ∀ n', 0 ≤ n' → n' ≤ 7 → 0 ≤ G 6 n' → ¬ M n' → G 6 n ≤ G 6 n')
def g_b5 (G : q_S) (p i : Int) : Prop := g_le G p i ∧ G 3 (4 * p + i) < 8 ∧ G 6 (G 3 (4 * p + i)) < 0
def u_5 (G : q_S) (a : Int) : Prop := (a = -1 ∧ ∀ p i, ¬ g_b5 G p i) ∨ (∃ p i, g_b5 G p i ∧ a = G 4 (4 * p + i) ∧ 0 ≤ a ∧ ∀ p' i', g_b5 G p' i' → a ≤ G 4 (4 * p' + i'))
def g_chk (G : q_S) (k a : Int) : Prop := (u_5 G a ∧ 0 ≤ a ∧ k = 5) ∨ (u_5 G (-1) ∧ ((u_m G (x_gr (gr G) v_m7) a ∧ 0 ≤ a ∧ k = 6) ∨ (u_m G (x_gr (gr G) v_m7) (-1) ∧ ((u_m G (x_re (gr G)) a ∧ 0 ≤ a ∧ k = 7) ∨ (u_m G (x_re (gr G)) (-1) ∧ k = 0 ∧ a = -1)))))
section Faults
variable {S U G : q_S} {M : Int → Prop} {Q : q_Q} {Z : q_Z} {pl : Int}
theorem u_m_u {a a' : Int} (h : u_m G M a) (h' : u_m G M a') : a = a' := by
  rcases h with ⟨h1, h2⟩ | ⟨n, n1, n2, n3, n4, n5⟩ <;> rcases h' with ⟨g1, g2⟩ | ⟨m, m1, m2, m3, m4, m5⟩
  · omega
  · exact absurd (h2 m m1.1 m1.2 m3) m2
  · exact absurd (g2 n n1.1 n1.2 n3) n2
  · have := n5 m m1.1 m1.2 m3 m2
    have := m5 n n1.1 n1.2 n3 n2
    omega
theorem u_5_u {a a' : Int} (h : u_5 G a) (h' : u_5 G a') : a = a' := by
  rcases h with ⟨h1, h2⟩ | ⟨p, i, n1, n2, n3, n4⟩ <;> rcases h' with ⟨g1, g2⟩ | ⟨p', i', m1, m2, m3, m4⟩
  · omega
  · exact absurd m1 (h2 p' i')
  · exact absurd n1 (g2 p i)
  · have := n4 p' i' m1
    have := m4 p i n1
    omega
theorem g_chk_u {k a k' a' : Int} (h : g_chk G k a) (h' : g_chk G k' a') : k = k' ∧ a = a' := by
  rcases h with ⟨h1, h2, h3⟩ | ⟨h1, h2⟩ <;> rcases h' with ⟨g1, g2, g3⟩ | ⟨g1, g2⟩
  · exact ⟨by omega, u_5_u h1 g1⟩
  · have := u_5_u h1 g1; omega
  · have := u_5_u h1 g1; omega
  · rcases h2 with ⟨h2, h3, h4⟩ | ⟨h2, h3⟩ <;> rcases g2 with ⟨g2, g3, g4⟩ | ⟨g2, g3⟩
    · exact ⟨by omega, u_m_u h2 g2⟩
    · have := u_m_u h2 g2; omega
    · have := u_m_u h2 g2; omega
    · rcases h3 with ⟨h3, h4, h5⟩ | ⟨h3, h4, h5⟩ <;> rcases g3 with ⟨g3, g4, g5⟩ | ⟨g3, g4, g5⟩
      · exact ⟨by omega, u_m_u h3 g3⟩
      · have := u_m_u h3 g3; omega
      · have := u_m_u h3 g3; omega
      · exact ⟨by omega, by omega⟩
theorem gr_P : vP (gr G) = G 0 2 := rfl
theorem gr_L (p : Int) : vLf (gr G) p = G 1 p := rfl
theorem gr_Z (p : Int) : vSz (gr G) p = if p = 0 then 1 else G 2 p := rfl
theorem gr_T (p i : Int) : vLt (gr G) p i = if p = 0 then G 1 1 else G 3 (4 * p + i) := rfl
theorem g_P1 (hI : g_I G pl) (hm : G 0 0 = 0) (hr : G 0 3 ≠ 0) : 1 ≤ G 0 2 := by
  have := hI.1
  have h15 := hI.2.2.2.2.2.2.2.2.2.2.2.2.2.2.1
  by_cases e : G 0 2 = 0
  · exact absurd ((h15 e).1 hm) hr
  · omega
theorem gr_w (hI : g_I G pl) (hm : G 0 0 = 0) (hr : G 0 3 ≠ 0) : v_gw (gr G) := by
  have hP := g_P1 hI hm hr
  have i1 := hI.1
  have i2 := hI.2.1
  have i3 := hI.2.2.1
  refine ⟨by rw [gr_P]; omega, fun p p0 p1 => ?_, fun p i p0 p1 i0 i1 => ?_, fun p p0 p1 => ?_⟩
  · rw [gr_P] at p1
    rw [gr_Z]
    split
    · omega
    · exact (i2 p ⟨by omega, p1⟩).2.2
  · rw [gr_P] at p1
    rw [gr_Z] at i1
    rw [gr_T]
    split
    · have := (i2 1 ⟨by omega, hP⟩).1
      omega
    · rename_i e
      rw [if_neg e] at i1
      exact (i3 p i ⟨⟨by omega, p1⟩, i0, i1⟩).1
  · rw [gr_P] at p1
    rw [gr_L]; exact (i2 p ⟨p0, p1⟩).1
theorem gr_c (h : r_cb S G) (h5 : S 5 0 = 1) (h8 : S 8 0 = G 1 1) : v_gc S (gr G) := by
  obtain ⟨-, -, h3, h4, h5', -⟩ := h
  refine ⟨h3, fun p p0 p1 => ?_, fun p p0 p1 => (h4 p ⟨p0, p1⟩).1, fun p i p0 p1 i0 i1 => ?_⟩
  · rw [gr_Z]
    split
    · rename_i e; rw [e]; exact h5
    · rename_i e; exact (h4 p ⟨by omega, p1⟩).2
  · rw [gr_Z] at i1
    rw [gr_T]
    split
    · rename_i e
      rw [if_pos e] at i1
      rw [e, show 4 * (0 : Int) + i = 0 by omega]; exact h8
    · rename_i e
      rw [if_neg e] at i1
      exact h5' p i ⟨⟨by omega, p1⟩, i0, i1⟩
theorem gr_m (h : r_m S G) : v_gm S (gr G) := by
  obtain ⟨h1, h2, h3, h4, h5, h6⟩ := h
  refine ⟨h1, fun p p0 p1 => ?_, fun p p0 p1 => (h3 p ⟨p0, p1⟩).1, fun p i p0 p1 i0 i1 => ?_⟩
  · rw [gr_Z, if_neg (by omega)]; exact (h3 p ⟨p0, p1⟩).2
  · rw [gr_Z, if_neg (by omega)] at i1
    rw [gr_T, if_neg (by omega)]; exact (h4 p i ⟨⟨p0, p1⟩, i0, i1⟩).1
/-- the first rule whose nonterminal is not marked -/
theorem c_131 {mk ft : Int} (hI : g_I G pl) (hm : G 0 0 = 0) (hP : 1 ≤ G 0 2) (h : r_cb S G) (hs : n_sm mk) (hM : ∀ n : Nat, n < 8 → (n_bit mk n = true ↔ M n)) (h1 : ∀ a, u_m G M a → 0 ≤ a → Q ft (q_up S 9 0 a)) (h0 : u_m G M (-1) → Q 0 S) : q_c 131 [vR 9, vI mk, vI ft] S Q Z := by
  obtain ⟨-, -, h3, h4, -, -, h7, -, -⟩ := h
  obtain ⟨⟨i1, i2, i3⟩, i4, -, -, -, -, -, -, i9, i10, -⟩ := hI
  refine b_131_0 ?_
  have key : ∀ (p : Int) (j : q_J), p ≤ G 0 2 + 1 → (1 ≤ p ∧ ∀ p', 1 ≤ p' → p' < p → M (G 1 p')) → q_r 131 2 [vR 9, vI mk, vI ft, vI p, vJ j] [] S Q Z := by
    refine n_for (G 0 2 + 1) (fun (p : Int) (j : q_J) => 1 ≤ p ∧ ∀ p', 1 ≤ p' → p' < p → M (G 1 p')) (fun (p : Int) (j : q_J) => q_r 131 2 [vR 9, vI mk, vI ft, vI p, vJ j] [] S Q Z) ?_ ?_
    · rintro j ⟨-, hall⟩
      refine b_131_2 ?_
      rw [h3]
      refine ⟨fun _ => h0 (Or.inl ⟨rfl, fun n n0 n1 hn => ?_⟩), fun q => by omega⟩
      rcases i10 n n0 n1 hn with ⟨p, p1, p2⟩ | ⟨q, -⟩
      · rw [← p2]; exact hall p p1.1 (by have := p1.2; omega)
      · omega
    · rintro p j ⟨p1, hall⟩ pl ih
      have hp : g_pr G p := ⟨p1, by omega⟩
      have b := i4 p hp
      have e4 := (h4 p hp).1
      have hb := hM (G 1 p).toNat (by omega)
      rw [show (((G 1 p).toNat : Nat) : Int) = G 1 p by omega] at hb
      refine b_131_2 ?_
      rw [h3, e4, n_shr1 hs b.1.1 (by omega)]
      refine ⟨fun q => by omega, fun _ => ⟨by omega, by omega, fun q => ⟨by unfold q_rg; omega, ih (.inl _) ⟨by omega, fun p' q1 q2 => ?_⟩⟩, fun q => ⟨by omega, by omega, ?_⟩⟩⟩
      · by_cases e : p' = p
        · rw [e]
          refine hb.mp ?_
          cases e2 : n_bit mk (G 1 p).toNat with
          | true => rfl
          | false => rw [e2] at q; exact absurd rfl q
        · exact hall p' q1 (by omega)
      · have nm : ¬ M (G 1 p) := fun q2 => by
          rw [hb.mpr q2] at q
          exact q (by decide)
        rw [h7 _ b.1.1 b.1.2 b.2.1]
        refine h1 _ (Or.inr ⟨G 1 p, b.1, nm, b.2.1, rfl, fun n' n0 n1 hn hnm => ?_⟩) b.2.1
        rcases i10 n' n0 n1 hn with ⟨p', q1, q2⟩ | ⟨q1, -⟩
        · by_cases e : p' < p
          · exact absurd (by rw [← q2]; exact hall p' q1.1 e) hnm
          · rw [← q2]; exact i9 p p' hp q1 (by omega)
        · omega
  exact key 1 _ (by omega) ⟨by omega, fun p' q1 q2 => by omega⟩
theorem m_38 (hI : g_I G pl) (h : r_m S G) (hM : ∀ n, 0 ≤ n → n ≤ 7 → v_b01 (M n) (S 44 n)) (hq : ∀ a, u_m G M a → Q a S) : q_c 38 [vR 36] S Q Z := by
  obtain ⟨h1, h2, h3, h4, h5, h6⟩ := h
  obtain ⟨⟨i1, i2, i3⟩, i4, -, -, i5, i6, i7, -, -, -, -, -, -, -, -, i16⟩ := hI
  have c8 := g_c8_r G
  refine b_38_0 ?_
  have key : ∀ (r : Int) (_ : Unit), r ≤ G 0 3 → (0 ≤ r ∧ ∀ r', 0 ≤ r' → r' < r → M (G 5 r')) → q_r 38 2 [vR 36, vI r] [] S Q Z := by
    refine n_for (G 0 3) (fun (r : Int) (_ : Unit) => 0 ≤ r ∧ ∀ r', 0 ≤ r' → r' < r → M (G 5 r')) (fun (r : Int) (_ : Unit) => q_r 38 2 [vR 36, vI r] [] S Q Z) ?_ ?_
    · rintro _ ⟨-, hall⟩
      refine b_38_2 ?_
      rw [h2]
      refine ⟨fun _ => hq _ (Or.inl ⟨rfl, fun n n0 n1 hn => ?_⟩), fun q => by omega⟩
      obtain ⟨r, r1, r2⟩ := i7 n n0 n1 hn
      rw [← r2]; exact hall r r1.1 r1.2
    · rintro r _ ⟨r0, hall⟩ rl ih
      have b := i5 r r0 rl
      have e42 := h5 r r0 rl
      have e43 := h6 (G 5 r) b.1.1 b.1.2
      have hb := hM (G 5 r) b.1.1 b.1.2
      refine b_38_2 ?_
      rw [h2, e42, e43]
      refine ⟨fun q => by omega, fun _ => ⟨by omega, by omega, by omega, by omega, fun q => ⟨by unfold q_rg; omega, ih () ⟨by omega, fun r' q1 q2 => ?_⟩⟩, fun q => ⟨by omega, by omega, by omega, by omega, hq _ (Or.inr ⟨G 5 r, b.1, ?_, b.2, rfl, fun n' n0 n1 hn hnm => ?_⟩)⟩⟩⟩
      · by_cases e : r' = r
        · rw [e]
          rcases hb with ⟨hb, -⟩ | ⟨-, hb⟩
          · exact hb
          · exact absurd hb q
        · exact hall r' q1 (by omega)
      · rcases hb with ⟨-, hb⟩ | ⟨hb, -⟩
        · omega
        · exact hb
      · obtain ⟨r', q1, q2⟩ := i7 n' n0 n1 hn
        by_cases e : r' < r
        · exact absurd (by rw [← q2]; exact hall r' q1.1 e) hnm
        · by_cases e2 : r' = r
          · rw [← q2, e2]; omega
          · have := i6 r r' r0 (by omega) q1.2
            rw [q2] at this; omega
  exact key 0 () i3 ⟨by omega, fun r' q1 q2 => by omega⟩
theorem c_130 (hI : g_I G pl) (hm : G 0 0 = 0) (h : r_cb S G) (h5 : ∀ a U, u_5 G a → 0 ≤ a → n_fr [] [(9, 0)] S U → U 9 0 = a → Q 5 U) (h0 : u_5 G (-1) → ∀ U, n_fr [] [(9, 0)] S U → U 9 0 = -1 → Q 0 U) : q_c 130 [vR 9] S Q Z := by
  obtain ⟨-, -, h3, h4, -, h6, h7, h8, h9⟩ := h
  obtain ⟨⟨i1, i2, i3⟩, i4, i5, -, -, -, -, -, i9, i10, -⟩ := hI
  -- a used nonterminal without a rule
  let bd : Int → Prop := fun n => S 11 n ≠ -1 ∧ S 6 n = 0
  have norule : ∀ n, 0 ≤ n → n ≤ 7 → (S 6 n = 0 ↔ G 6 n < 0) := fun n n0 n1 => by
    rcases h6 n n0 n1 with ⟨o1, o2⟩ | ⟨o1, o2⟩
    · refine ⟨fun _ => ?_, fun _ => o1⟩
      by_cases e : 0 ≤ G 6 n
      · rcases i10 n n0 n1 e with ⟨p, p1, p2⟩ | ⟨q, -⟩
        · exact absurd p2 (o2 p p1)
        · omega
      · omega
    · refine ⟨fun q => by omega, fun q => ?_⟩
      have hp : g_pr G (S 6 n) := ⟨o1.1, by omega⟩
      have b := (i4 _ hp).2.1
      rw [(o2 _ hp).mpr ⟨by omega, o1.2.1⟩] at b
      omega
  have bd1 : ∀ n, 0 ≤ n → n ≤ 7 → bd n → 0 ≤ S 11 n ∧ ∃ p i, g_b5 G p i ∧ S 11 n = G 4 (4 * p + i) := fun n n0 n1 hb => by
    rcases h8 n n0 n1 with ⟨o1, -⟩ | ⟨p, i, o1, o2, o3, -⟩
    · exact absurd o1 hb.1
    · have w := i5 p i o1
      exact ⟨by omega, p, i, ⟨o1, by omega, by rw [o2]; exact (norule n n0 n1).mp hb.2⟩, o3⟩
  have bd2 : ∀ p i, g_b5 G p i → bd (G 3 (4 * p + i)) ∧ S 11 (G 3 (4 * p + i)) ≤ G 4 (4 * p + i) := fun p i hb => by
    have w := i5 p i hb.1
    rcases h8 (G 3 (4 * p + i)) (by omega) (by have := hb.2.1; omega) with ⟨-, o2⟩ | ⟨p', i', o1, o2, o3, o4⟩
    · exact absurd rfl (o2 p i hb.1)
    · have w' := i5 p' i' o1
      have := o4 p i hb.1 rfl
      exact ⟨⟨by omega, (norule _ (by omega) (by have := hb.2.1; omega)).mpr hb.2.2⟩, by omega⟩
  refine b_130_0 ?_
  have key : ∀ (n : Int) (x : q_S × q_J), n ≤ 8 → (0 ≤ n ∧ n_fr [] [(9, 0)] S x.1 ∧ ((x.1 9 0 = -1 ∧ ∀ k, 0 ≤ k → k < n → ¬ bd k) ∨ (∃ k, (0 ≤ k ∧ k < n) ∧ bd k ∧ x.1 9 0 = S 11 k ∧ ∀ k', 0 ≤ k' → k' < n → bd k' → S 11 k ≤ S 11 k'))) → q_r 130 2 [vR 9, vI n, vJ x.2] [] x.1 Q Z := by
    refine n_for 8 (fun (n : Int) (x : q_S × q_J) => 0 ≤ n ∧ n_fr [] [(9, 0)] S x.1 ∧ ((x.1 9 0 = -1 ∧ ∀ k, 0 ≤ k → k < n → ¬ bd k) ∨ (∃ k, (0 ≤ k ∧ k < n) ∧ bd k ∧ x.1 9 0 = S 11 k ∧ ∀ k', 0 ≤ k' → k' < n → bd k' → S 11 k ≤ S 11 k'))) (fun (n : Int) (x : q_S × q_J) => q_r 130 2 [vR 9, vI n, vJ x.2] [] x.1 Q Z) ?_ ?_
    · rintro ⟨U, j⟩ ⟨-, fr, hx⟩
      simp only at fr hx ⊢
      refine b_130_2 ⟨fun _ => ?_, fun q => by omega⟩
      rcases hx with ⟨x1, x2⟩ | ⟨k, k1, k2, k3, k4⟩
      · refine ⟨fun q => absurd x1 q, fun _ => h0 (Or.inl ⟨rfl, fun p i hb => ?_⟩) U fr x1⟩
        have w := i5 p i hb.1
        exact x2 _ (by omega) (by have := hb.2.1; omega) (bd2 p i hb).1
      · obtain ⟨b1, p, i, b2, b3⟩ := bd1 k k1.1 (by omega) k2
        refine ⟨fun _ => h5 _ U (Or.inr ⟨p, i, b2, rfl, by omega, fun p' i' hb => ?_⟩) (by omega) fr (by omega), fun q => by omega⟩
        have w := i5 p' i' hb.1
        have := k4 _ (by omega) (by have := hb.2.1; omega) (bd2 p' i' hb).1
        have := (bd2 p' i' hb).2
        omega
    · rintro n ⟨U, j⟩ ⟨n0, fr, hx⟩ hn ih
      simp only at fr hx ⊢
      have u11 : U 11 = S 11 := n_fr_c fr (by decide)
      have u6 : U 6 = S 6 := n_fr_c fr (by decide)
      have rg : q_rg (n + 1) := by unfold q_rg; omega
      have same : ¬ bd n → q_r 130 2 [vR 9, vI (n + 1), vI (S 11 n)] [] U Q Z := fun hb => by
        refine ih (U, .inl _) ⟨by omega, fr, ?_⟩
        rcases hx with ⟨x1, x2⟩ | ⟨k, k1, k2, k3, k4⟩
        · refine Or.inl ⟨x1, fun k k0 k1 => ?_⟩
          by_cases e : k = n
          · rw [e]; exact hb
          · exact x2 k k0 (by omega)
        · refine Or.inr ⟨k, by omega, k2, k3, fun k' q0 q1 q2 => ?_⟩
          by_cases e : k' = n
          · rw [e] at q2; exact absurd q2 hb
          · exact k4 k' q0 (by omega) q2
      refine b_130_2 ?_
      rw [u11]
      refine ⟨fun q => by omega, fun _ => ⟨by omega, by omega, fun q => ⟨rg, same fun hb => hb.1 q⟩, fun q => b_106_0 ?_⟩⟩
      rw [u6]
      refine ⟨by omega, by omega, fun q2 => ⟨⟨by omega, by omega⟩, ⟨fun q3 => absurd rfl q3, fun _ => ?_⟩⟩, fun q2 => ⟨⟨by omega, by omega⟩, ⟨fun _ => ⟨rg, same fun hb => q2 hb.2⟩, fun q3 => by omega⟩⟩⟩
      have hb : bd n := ⟨q, q2⟩
      have n11 := (bd1 n n0 (by omega) hb).1
      refine ⟨fun q3 => ⟨rg, ih (q_up U 9 0 (S 11 n), .inl _) ⟨by omega, n_fr_i fr (by decide), Or.inr ⟨n, by omega, hb, n_up1 U 9 0 (S 11 n), fun k' k0 k1 k2 => ?_⟩⟩⟩, fun q3 => ⟨fun q4 => ⟨rg, ih (U, .inl _) ⟨by omega, fr, ?_⟩⟩, fun q4 => ⟨rg, ih (q_up U 9 0 (S 11 n), .inl _) ⟨by omega, n_fr_i fr (by decide), Or.inr ⟨n, by omega, hb, n_up1 U 9 0 (S 11 n), fun k' k0 k1 k2 => ?_⟩⟩⟩⟩⟩
      · rcases hx with ⟨x1, x2⟩ | ⟨k, x1, x2, x3, x4⟩
        · by_cases e : k' = n
          · rw [e]; omega
          · exact absurd k2 (x2 k' k0 (by omega))
        · have := (bd1 k x1.1 (by omega) x2).1
          omega
      · rcases hx with ⟨x1, x2⟩ | ⟨k, x1, x2, x3, x4⟩
        · exact absurd x1 q3
        · refine Or.inr ⟨k, by omega, x2, x3, fun k' k0 k1 k2 => ?_⟩
          by_cases e : k' = n
          · rw [e]; omega
          · exact x4 k' k0 (by omega) k2
      · rcases hx with ⟨x1, x2⟩ | ⟨k, x1, x2, x3, x4⟩
        · exact absurd x1 q3
        · by_cases e : k' = n
          · rw [e]; omega
          · have := x4 k' k0 (by omega) k2
            omega
  exact key 0 (S, _) (by omega) ⟨by omega, n_fr_r, Or.inl ⟨h9, fun k k0 k1 => by omega⟩⟩
theorem r_m_fr {ks : List Nat} {fs : List (Nat × Int)} (h : n_fr ks fs S U) (h1 : (n_ok ks fs 38 && n_ok ks fs 39 && n_ok ks fs 40 && n_ok ks fs 41 && n_ok ks fs 42 && n_ok ks fs 43 && n_okf ks fs 36 5 && n_okf ks fs 36 10) = true) (hg : r_m S G) : r_m U G := by
  rw [Bool.and_eq_true, Bool.and_eq_true, Bool.and_eq_true, Bool.and_eq_true, Bool.and_eq_true, Bool.and_eq_true, Bool.and_eq_true] at h1
  obtain ⟨⟨⟨⟨⟨⟨⟨a1, a2⟩, a3⟩, a4⟩, a5⟩, a6⟩, a7⟩, a8⟩ := h1
  unfold r_m at hg ⊢
  rw [n_fr_c h a1, n_fr_c h a2, n_fr_c h a3, n_fr_c h a4, n_fr_c h a5, n_fr_c h a6, n_fr_f h a7, n_fr_f h a8]
  exact hg
theorem m_39 (hI : g_I G pl) (hm : G 0 0 = 0) (hr : G 0 3 ≠ 0) (h : r_m S G) (hf : ∀ k a U, g_chk G k a → k ≠ 0 → n_fr [44] [(36, 3)] S U → U 36 3 = a → Q k U) (hg : g_chk G 0 (-1) → ∀ U, n_fr [44] [] S U → Q 0 U) : q_c 39 [vR 36] S Q Z := by
  have hP := g_P1 hI hm hr
  have hw := gr_w hI hm hr
  have h0 := h
  obtain ⟨h1, h2, h3, h4, h5, h6⟩ := h
  have hI0 := hI
  obtain ⟨⟨i1, i2, i3⟩, i4, i5, -, -, -, -, -, -, -, -, -, i13, i14, -⟩ := hI
  refine b_39_0 ?_
  have key : ∀ (p : Int) (j : q_J), p ≤ G 0 2 + 1 → (1 ≤ p ∧ ∀ p' i', p' < p → ¬ g_b5 G p' i') → q_r 39 2 [vR 36, vI p, vJ j] [] S Q Z := by
    refine n_for (G 0 2 + 1) (fun (p : Int) (j : q_J) => 1 ≤ p ∧ ∀ p' i', p' < p → ¬ g_b5 G p' i') (fun (p : Int) (j : q_J) => q_r 39 2 [vR 36, vI p, vJ j] [] S Q Z) ?_ ?_
    · rintro j ⟨-, hall⟩
      have u5 : u_5 G (-1) := Or.inl ⟨rfl, fun p i hb => hall p i (by have := hb.1.1.2; omega) hb⟩
      refine b_39_2 ?_
      rw [h1]
      refine ⟨fun _ => ?_, fun q => by omega⟩
      refine m_36 (gr_m h0) hw fun S1 f1 e1 => m_38 hI0 (r_m_fr f1 (by decide) h0) e1 fun a ha => ⟨fun q => ?_, fun q => ?_⟩
      · have ha1 : a = -1 := by
          rcases ha with ⟨ha, -⟩ | ⟨n, -, -, n3, n4, -⟩
          · exact ha
          · omega
        rw [ha1] at ha
        have r1 := r_m_fr f1 (by decide) h0
        have e42 : S1 42 0 = vLf (gr G) 1 := by rw [r1.2.2.2.2.1 0 (by omega) (by omega), gr_L]; exact (i14 hP).symm
        refine m_37 (gr_m r1) hw e42 fun S5 f5 e5 => m_38 hI0 (r_m_fr f5 (by decide) r1) e5 fun x hx => ⟨fun q2 => ?_, fun q2 => b_34_0 ?_⟩
        · have hx1 : x = -1 := by
            rcases hx with ⟨hx, -⟩ | ⟨n, -, -, n3, n4, -⟩
            · exact hx
            · omega
          rw [hx1] at hx
          exact hg (Or.inr ⟨u5, Or.inr ⟨ha, Or.inr ⟨hx, rfl, rfl⟩⟩⟩) S5 (n_fr_t f1 f5)
        · exact hf 7 x _ (Or.inr ⟨u5, Or.inr ⟨ha, Or.inl ⟨hx, by omega, rfl⟩⟩⟩) (by decide) (n_fr_i (n_fr_t (n_fr_w f1 (by decide) (by decide)) (n_fr_w f5 (by decide) (by decide))) (by decide)) (n_up1 _ _ _ _)
      · exact b_34_0 (hf 6 a _ (Or.inr ⟨u5, Or.inl ⟨ha, by omega, rfl⟩⟩) (by decide) (n_fr_i (n_fr_w f1 (by decide) (by decide)) (by decide)) (n_up1 _ _ _ _))
    · rintro p j ⟨p1, hall⟩ pl ih
      have hp : g_pr G p := ⟨p1, by omega⟩
      have b := i4 p hp
      have e39 := (h3 p hp).2
      refine b_39_2 ?_
      rw [h1]
      refine ⟨fun q => by omega, fun _ => ?_⟩
      have lets : ∀ (i : Int) (_ : Unit), i ≤ G 2 p → (0 ≤ i ∧ ∀ i', i' < i → ¬ g_b5 G p i') → q_r 39 12 [vR 36, vI p, vI i] [] S Q Z := by
        refine n_for (G 2 p) (fun (i : Int) (_ : Unit) => 0 ≤ i ∧ ∀ i', i' < i → ¬ g_b5 G p i') (fun (i : Int) (_ : Unit) => q_r 39 12 [vR 36, vI p, vI i] [] S Q Z) ?_ ?_
        · rintro _ ⟨-, hl⟩
          refine b_39_12 ?_
          rw [e39]
          refine ⟨by omega, by omega, fun _ => ⟨by unfold q_rg; omega, ih (.inl _) ⟨by omega, fun p' i' q hb => ?_⟩⟩, fun q => by omega⟩
          by_cases e : p' = p
          · subst e
            exact hl i' hb.1.2.2 hb
          · exact hall p' i' (by omega) hb
        · rintro i _ ⟨i0, hl⟩ il ih2
          have le : g_le G p i := ⟨hp, i0, il⟩
          have w := i5 p i le
          have e40 := h4 p i le
          have rg : q_rg (i + 1) := by unfold q_rg; omega
          have ext : ¬ g_b5 G p i → ∀ i', i' < i + 1 → ¬ g_b5 G p i' := fun q i' q2 => by
            by_cases e : i' = i
            · rw [e]; exact q
            · exact hl i' (by omega)
          refine b_39_12 ?_
          rw [e39, e40.1, e40.2]
          refine ⟨by omega, by omega, fun q => by omega, fun _ => ⟨by unfold q_rg; omega, by unfold q_rg; omega, by omega, by omega, fun q => ⟨rg, ih2 () ⟨by omega, ext fun hb => by have := hb.2.1; omega⟩⟩, fun q => ⟨by unfold q_rg; omega, by unfold q_rg; omega, by omega, by omega, by omega, by omega, ?_⟩⟩⟩
          rw [h6 _ w.1.1 (by omega)]
          refine ⟨fun q2 => ⟨rg, ih2 () ⟨by omega, ext fun hb => by have := hb.2.2; omega⟩⟩, fun q2 => ⟨by unfold q_rg; omega, by unfold q_rg; omega, by omega, by omega, b_34_0 ?_⟩⟩
          have b5 : g_b5 G p i := ⟨le, by omega, by omega⟩
          refine hf 5 _ _ (Or.inl ⟨Or.inr ⟨p, i, b5, rfl, w.2.1, fun p' i' hb => ?_⟩, w.2.1, rfl⟩) (by decide) (n_fr_i n_fr_r (by decide)) (n_up1 _ _ _ _)
          by_cases e : 4 * p + i < 4 * p' + i'
          · have := i13 p i p' i' le hb.1 e; omega
          · by_cases e2 : 4 * p + i = 4 * p' + i'
            · rw [e2]; omega
            · have b' := (i4 p' hb.1.1).2.2
              have l' := hb.1.2
              by_cases e3 : p' = p
              · subst e3
                exact absurd hb (hl i' (by omega))
              · exact absurd hb (hall p' i' (by omega))
      exact lets 0 () b.2.2.1 ⟨by omega, fun i' q hb => by have := hb.1.2.1; omega⟩
  exact key 1 _ (by omega) ⟨by omega, fun p' i' q hb => by have := hb.1.1.1; omega⟩
end Faults
