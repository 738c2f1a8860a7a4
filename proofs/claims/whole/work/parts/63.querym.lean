section QueryM
variable {S : q_S} {V : v_V} {b : v_B} {Q : q_Q} {Z : q_Z}
theorem v_sh_r {s t : Int} (hV : v_wf V) (hs : 0 ≤ s ∧ s < vSt V) (ht : 0 ≤ t ∧ t ≤ 8) : (-1 ≤ v_sh V s t ∧ v_sh V s t < 40) ∧ (v_sh V s t ≠ -1 → t < 8) := by
  unfold v_sh
  split
  · exact ⟨by omega, fun h => absurd rfl h⟩
  · have := hV.2.2.2.2.2.1 s (8 + t) hs.1 hs.2 (by omega) (by omega)
    have := hV.2.2.2.2.1
    exact ⟨by omega, fun _ => by omega⟩
theorem v_ls_r {s t f r : Int} (h : v_ls V s t f r) : r = -1 ∨ (f ≤ r ∧ r ≤ vP V) := by
  rcases h with ⟨h1, -⟩ | ⟨h1, -⟩
  · exact Or.inl h1
  · exact Or.inr h1
theorem m_57 {s t : Int} (hR : v_rm S V) (hV : v_wf V) (hB : v_bm S b) (hbw : v_bw b) (hs : 0 ≤ s ∧ s < vSt V) (ht : 0 ≤ t ∧ t ≤ 8) (h : ∀ a, v_act V b s t a → Q a S) : q_c 57 [vR 36, vI s, vI t] S Q Z := by
  refine b_57_0 ?_
  refine m_54 hR hV hs ht ?_
  refine m_55 hR hV hs ht ?_
  intro r hr
  obtain ⟨hgo, ht8⟩ := v_sh_r hV hs ht
  have hq : ∀ a, a = v_af V b s t r → Q a S := fun a ha => h a ⟨r, hr, ha⟩
  have hrr := v_ls_r hr
  unfold v_af at hq
  refine ⟨fun h1 => ?_, fun h1 => ?_⟩
  · have hne : ¬ r = -1 := by omega
    rw [if_neg hne] at hq
    have hlv := v_lev_r hV hbw (p := r) (by omega)
    have both : ∀ x : Int, (x = if r = 0 then 16 else r) → ((v_sh V s t ≥ 0 → q_c 56 [vR 36, vI r] S (fun r6 S5 =>
              (r6 = 0 →
                q_rg (20 + v_sh V s t) ∧
                Q (20 + v_sh V s t) S5) ∧
              (¬ r6 = 0 →
                0 ≤ t ∧ t < 8 ∧
                ((S5 52 t) = 0 →
                  q_rg (20 + v_sh V s t) ∧
                  Q (20 + v_sh V s t) S5) ∧
                (¬ (S5 52 t) = 0 →
                  0 ≤ t ∧ t < 8 ∧
                  (r6 ≥ (S5 52 t) →
                    0 ≤ t ∧ t < 8 ∧
                    (r6 ≤ (S5 52 t) →
                      0 ≤ t ∧ t < 8 ∧
                      ((S5 53 t) ≠ 0 →
                        0 ≤ t ∧ t < 8 ∧
                        ((S5 53 t) ≠ 1 →
                          Q 0 S5) ∧
                        (¬ (S5 53 t) ≠ 1 →
                          q_rg (20 + v_sh V s t) ∧
                          Q (20 + v_sh V s t) S5)) ∧
                      (¬ (S5 53 t) ≠ 0 →
                        Q x S5)) ∧
                    (¬ r6 ≤ (S5 52 t) →
                      Q x S5)) ∧
                  (¬ r6 ≥ (S5 52 t) →
                    q_rg (20 + v_sh V s t) ∧
                    Q (20 + v_sh V s t) S5)))) Z) ∧
          (¬ v_sh V s t ≥ 0 →
            Q x S)) := by
      intro x hx
      refine ⟨fun h3 => ?_, fun h3 => ?_⟩
      · have ht9 := ht8 (by omega)
        have eb := hB t ht.1 ht9
        refine m_56 hR hV hB (by omega) ?_
        rw [eb.1, eb.2]
        rw [if_neg (by omega)] at hq
        refine ⟨fun g => ⟨by unfold q_rg; omega, ?_⟩, fun g => ⟨by omega, by omega, fun g2 => ⟨by unfold q_rg; omega, ?_⟩, fun g2 => ⟨by omega, by omega, fun g3 => ⟨by omega, by omega, fun g4 => ⟨by omega, by omega, fun g5 => ⟨by omega, by omega, fun g6 => ?_, fun g6 => ⟨by unfold q_rg; omega, ?_⟩⟩, fun g5 => ?_⟩, fun g4 => ?_⟩, fun g3 => ⟨by unfold q_rg; omega, ?_⟩⟩⟩⟩
        · rw [if_pos (by omega)] at hq; exact hq _ rfl
        · rw [if_pos (by omega)] at hq; exact hq _ rfl
        · rw [if_neg (by omega), if_neg (by omega), if_neg g5, if_neg g6] at hq; exact hq _ rfl
        · rw [if_neg (by omega), if_neg (by omega), if_neg g5, if_pos (by omega)] at hq; exact hq _ rfl
        · rw [if_neg (by omega), if_neg (by omega), if_pos (by omega)] at hq; exact hq _ hx
        · rw [if_neg (by omega), if_pos (by omega)] at hq; exact hq _ hx
        · rw [if_pos (by omega)] at hq; exact hq _ rfl
      · rw [if_pos (by omega)] at hq; exact hq _ hx
    exact ⟨fun h2 => both r (by rw [if_neg h2]), fun h2 => both 16 (by rw [if_pos (by omega)])⟩
  · rw [if_pos (by omega)] at hq
    refine ⟨fun h2 => ⟨by unfold q_rg; omega, ?_⟩, fun h2 => ?_⟩
    · rw [if_neg (by omega)] at hq; exact hq _ rfl
    · rw [if_pos (by omega)] at hq; exact hq _ rfl
-- how many reductions
def v_cr (V : v_V) (s t o : Int) : Nat → Int
  | 0 => 0
  | n + 1 => v_cr V s t o n + (if n_bit (v_sb V s n o) t.toNat then 1 else 0)
theorem v_cr_r {s t o : Int} (n : Nat) : 0 ≤ v_cr V s t o n ∧ v_cr V s t o n ≤ n := by
  induction n with
  | zero => show 0 ≤ (0 : Int) ∧ (0 : Int) ≤ ((0 : Nat) : Int); omega
  | succ n ih => unfold v_cr; split <;> omega
theorem v_cr_s {s t o : Int} (n : Nat) : v_cr V s t o (n + 1) = v_cr V s t o n + (if n_bit (v_sb V s n o) t.toNat then 1 else 0) := rfl
theorem v_cr_m {s t o : Int} (n k : Nat) : v_cr V s t o n ≤ v_cr V s t o (n + k) := by
  induction k with
  | zero => exact Int.le_refl _
  | succ k ih =>
    rw [← Nat.add_assoc, v_cr_s]
    split <;> omega
theorem v_cr_c {s t o : Int} (n k : Nat) (h : ∀ p : Nat, n ≤ p → p < n + k → n_bit (v_sb V s p o) t.toNat = false) : v_cr V s t o (n + k) = v_cr V s t o n := by
  induction k with
  | zero => rfl
  | succ k ih =>
    rw [← Nat.add_assoc, v_cr_s, ih (fun p h1 h2 => h p h1 (by omega)), h (n + k) (by omega) (by omega)]
    simp
theorem m_53 {s t o : Int} (hR : v_rm S V) (hV : v_wf V) (hs : 0 ≤ s ∧ s < vSt V) (ht : 0 ≤ t ∧ t ≤ 8) (h : Q (v_cr V s t o (vP V + 1).toNat) S) : q_c 53 [vR 36, vI s, vI t, vI o] S Q Z := by
  refine b_53_0 ?_
  have hP := hR.1
  have hP2 := hV.1
  have key : ∀ (p x : Int), p ≤ vP V + 1 → (0 ≤ p ∧ x = v_cr V s t o p.toNat) → q_r 53 6 [vR 36, vI s, vI t, vI o, vI x, vI p] [] S Q Z := by
    refine n_for (vP V + 1) (fun p x => 0 ≤ p ∧ x = v_cr V s t o p.toNat) (fun p x => q_r 53 6 [vR 36, vI s, vI t, vI o, vI x, vI p] [] S Q Z) ?_ ?_
    · rintro x ⟨-, rfl⟩
      refine b_53_6 ⟨fun _ => h, fun h1 => ?_⟩
      rw [hP] at h1; omega
    · rintro p x ⟨h0, rfl⟩ hlt ih
      refine b_53_6 ⟨fun h1 => ?_, fun h1 => ?_⟩
      · rw [hP] at h1; omega
      · refine m_52 hR hV hs ⟨h0, by omega⟩ ?_
        rw [n_shr1 (v_sb_sm hV).1 ht.1 (by omega)]
        have hr := v_cr_r (V := V) (s := s) (t := t) (o := o) p.toNat
        have en : (p + 1).toNat = p.toNat + 1 := by omega
        have ei : ((p.toNat : Nat) : Int) = p := by omega
        refine ⟨by unfold q_rg; split <;> omega, by unfold q_rg; omega, ih _ ⟨by omega, ?_⟩⟩
        rw [en, v_cr_s, ei]
  exact key 0 0 (by omega) ⟨by omega, rfl⟩
-- unsettled
def v_un (V : v_V) (b : v_B) (s t : Int) : Prop := ∃ r, v_ls V s t 0 r ∧ r ≠ -1 ∧ ((∃ r', v_ls V s t (r + 1) r' ∧ r' ≠ -1) ∨ (v_sh V s t ≠ -1 ∧ (b.1 t = 0 ∨ v_lev V b r = 0)))
theorem v_ls_cr {s t r r' : Int} (hV : v_wf V) (h : v_ls V s t 0 r) (h' : v_ls V s t (r + 1) r') : (r = -1 → v_cr V s t 2 (vP V + 1).toNat = 0) ∧ (r ≠ -1 → r' = -1 → v_cr V s t 2 (vP V + 1).toNat = 1) ∧ (r ≠ -1 → r' ≠ -1 → 2 ≤ v_cr V s t 2 (vP V + 1).toNat) := by
  have hP := hV.1
  have hbt : ∀ p : Nat, n_bit (v_sb V s p 2) t.toNat = v_bt V s p t := fun p => rfl
  refine ⟨fun h1 => ?_, fun h1 h2 => ?_, fun h1 h2 => ?_⟩
  · rcases h with ⟨-, g⟩ | ⟨⟨g, -⟩, -⟩
    · have := v_cr_c (V := V) (s := s) (t := t) (o := 2) 0 (vP V + 1).toNat (fun p hp1 hp2 => by rw [hbt]; exact g p (by omega) (by omega))
      rw [Nat.zero_add] at this
      rw [this]; rfl
    · omega
  · rcases h with ⟨g, -⟩ | ⟨⟨g1, g2⟩, g3, g4⟩
    · exact absurd g h1
    · rcases h' with ⟨-, k⟩ | ⟨⟨k, -⟩, -⟩
      · have e1 := v_cr_c (V := V) (s := s) (t := t) (o := 2) 0 r.toNat (fun p hp1 hp2 => by rw [hbt]; exact g4 p (by omega) (by omega))
        rw [Nat.zero_add] at e1
        have e2 := v_cr_c (V := V) (s := s) (t := t) (o := 2) (r.toNat + 1) ((vP V).toNat - r.toNat) (fun p hp1 hp2 => by rw [hbt]; exact k p (by omega) (by omega))
        have e3 : r.toNat + 1 + ((vP V).toNat - r.toNat) = (vP V + 1).toNat := by omega
        rw [e3, v_cr_s, e1, hbt] at e2
        have e4 : ((r.toNat : Nat) : Int) = r := by omega
        rw [e4, g3] at e2
        rw [e2]; rfl
      · omega
  · rcases h with ⟨g, -⟩ | ⟨⟨g1, g2⟩, g3, g4⟩
    · exact absurd g h1
    · rcases h' with ⟨k, -⟩ | ⟨⟨k1, k2⟩, k3, k4⟩
      · exact absurd k h2
      · have e1 := v_cr_r (V := V) (s := s) (t := t) (o := 2) r.toNat
        have e2 := v_cr_s (V := V) (s := s) (t := t) (o := 2) r.toNat
        have e3 := v_cr_m (V := V) (s := s) (t := t) (o := 2) (r.toNat + 1) (r'.toNat - (r.toNat + 1))
        have e4 := v_cr_s (V := V) (s := s) (t := t) (o := 2) r'.toNat
        have e5 := v_cr_m (V := V) (s := s) (t := t) (o := 2) (r'.toNat + 1) ((vP V + 1).toNat - (r'.toNat + 1))
        have f1 : ((r.toNat : Nat) : Int) = r := by omega
        have f2 : ((r'.toNat : Nat) : Int) = r' := by omega
        have f3 : r.toNat + 1 + (r'.toNat - (r.toNat + 1)) = r'.toNat := by omega
        have f4 : r'.toNat + 1 + ((vP V + 1).toNat - (r'.toNat + 1)) = (vP V + 1).toNat := by omega
        rw [hbt, f1, g3] at e2
        rw [hbt, f2, k3] at e4
        rw [f3] at e3
        rw [f4] at e5
        simp only [if_true] at e2 e4
        omega
theorem v_ls_ex (V : v_V) (s t f : Int) (hf : 0 ≤ f) : ∃ r, v_ls V s t f r := by
  by_cases h : ∃ p, f ≤ p ∧ p ≤ vP V ∧ v_bt V s p t = true
  · have key : ∀ (n : Nat) (p : Int), p.toNat = n → f ≤ p → p ≤ vP V → v_bt V s p t = true → ∃ r, v_ls V s t f r := by
      intro n
      induction n using Nat.strongRecOn with
      | _ n ih =>
        intro p hn h1 h2 h3
        by_cases hl : ∃ x, f ≤ x ∧ x < p ∧ v_bt V s x t = true
        · obtain ⟨x, x1, x2, x3⟩ := hl
          exact ih x.toNat (by omega) x rfl x1 (by omega) x3
        · refine ⟨p, Or.inr ⟨⟨h1, h2⟩, h3, fun x x1 x2 => ?_⟩⟩
          cases hb : v_bt V s x t with
          | false => rfl
          | true => exact absurd ⟨x, x1, x2, hb⟩ hl
    obtain ⟨p, p1, p2, p3⟩ := h
    exact key _ p rfl p1 p2 p3
  · refine ⟨-1, Or.inl ⟨rfl, fun p p1 p2 => ?_⟩⟩
    cases hb : v_bt V s p t with
    | false => rfl
    | true => exact absurd ⟨p, p1, p2, hb⟩ h
def v_b01 (c : Prop) (a : Int) : Prop := (c ∧ a = 1) ∨ (¬ c ∧ a = 0)
theorem v_b01_u {c : Prop} {a a' : Int} (h : v_b01 c a) (h' : v_b01 c a') : a = a' := by
  rcases h with ⟨h1, h2⟩ | ⟨h1, h2⟩ <;> rcases h' with ⟨g1, g2⟩ | ⟨g1, g2⟩ <;> first | omega | exact absurd h1 g1 | exact absurd g1 h1
theorem m_58 {s t : Int} (hR : v_rm S V) (hV : v_wf V) (hB : v_bm S b) (hs : 0 ≤ s ∧ s < vSt V) (ht : 0 ≤ t ∧ t ≤ 8) (h : ∀ a, v_b01 (v_un V b s t) a → Q a S) : q_c 58 [vR 36, vI s, vI t] S Q Z := by
  obtain ⟨r, hr⟩ := v_ls_ex V s t 0 (by omega)
  have hrr := v_ls_r hr
  obtain ⟨r', hr'⟩ := v_ls_ex V s t (r + 1) (by omega)
  obtain ⟨n0, n1, n2⟩ := v_ls_cr hV hr hr'
  obtain ⟨hgo, ht8⟩ := v_sh_r hV hs ht
  have hP := hV.1
  refine b_58_0 ?_
  refine m_53 hR hV hs ht ?_
  refine ⟨fun h1 => ?_, fun h1 => ?_⟩
  · have hr1 : r ≠ -1 := fun e => by have := n0 e; omega
    have hr2 : r' = -1 := by
      by_cases e : r' = -1
      · exact e
      · have := n2 hr1 e; omega
    have hu : v_un V b s t ↔ (v_sh V s t ≠ -1 ∧ (b.1 t = 0 ∨ v_lev V b r = 0)) := by
      constructor
      · rintro ⟨x, x1, x2, x3⟩
        have := v_ls_u (by omega) x1 hr
        subst this
        rcases x3 with ⟨z, z1, z2⟩ | x3
        · exact absurd (v_ls_u (by omega) z1 hr') (by omega)
        · exact x3
      · intro g
        exact ⟨r, hr, hr1, Or.inr g⟩
    refine m_54 hR hV hs ht ⟨fun h2 => ⟨⟨by omega, by omega⟩, h _ (Or.inr ⟨fun g => ?_, rfl⟩)⟩, fun h2 => ?_⟩
    · have := (hu.mp g).1; omega
    · have ht9 := ht8 (by omega)
      have eb := hB t ht.1 ht9
      rw [eb.1]
      refine ⟨by omega, by omega, fun h3 => ⟨⟨by omega, by omega⟩, h _ (Or.inl ⟨hu.mpr ⟨by omega, Or.inl h3⟩, rfl⟩)⟩, fun h3 => ?_⟩
      refine m_55 hR hV hs ht ?_
      intro x hx
      have := v_ls_u (by omega) hx hr
      subst this
      refine m_56 hR hV hB (by omega) ⟨fun h4 => ⟨⟨by omega, by omega⟩, h _ (Or.inr ⟨fun g => ?_, rfl⟩)⟩, fun h4 => ⟨⟨by omega, by omega⟩, h _ (Or.inl ⟨hu.mpr ⟨by omega, Or.inr (by omega)⟩, rfl⟩)⟩⟩
      have := (hu.mp g).2
      omega
  · refine ⟨fun h2 => ⟨⟨by omega, by omega⟩, h _ (Or.inr ⟨fun g => ?_, rfl⟩)⟩, fun h2 => ⟨⟨by omega, by omega⟩, h _ (Or.inl ⟨?_, rfl⟩)⟩⟩
    · obtain ⟨x, x1, x2, -⟩ := g
      have := v_ls_u (by omega) x1 hr
      subst this
      by_cases e : r' = -1
      · have := n1 x2 e; omega
      · have := n2 x2 e; omega
    · have hr1 : r ≠ -1 := fun e => by have := n0 e; omega
      have hr2 : r' ≠ -1 := fun e => by have := n1 hr1 e; omega
      exact ⟨r, hr, hr1, Or.inl ⟨r', hr', hr2⟩⟩
theorem c_95 {s t : Int} (hR : v_rc S V) (hV : v_wf V) (hB : v_bc S b) (hbw : v_bw b) (hs : 0 ≤ s ∧ s < vSt V) (ht : 0 ≤ t ∧ t ≤ 8) (h : ∀ a, v_b01 (v_un V b s t) a → Q a S) : q_c 95 [vR 26, vI s, vI t] S Q Z := by
  obtain ⟨hgo, ht8⟩ := v_sh_r hV hs ht
  have hP := hV.1
  refine b_95_0 ?_
  refine c_96 hR hV hs ht ⟨by omega, by omega⟩ ?_
  intro r hr
  have hrr := v_ls_r hr
  refine ⟨fun h1 => ⟨by unfold q_rg; omega, ?_⟩, fun h1 => ⟨⟨by omega, by omega⟩, h _ (Or.inr ⟨fun g => ?_, rfl⟩)⟩⟩
  · refine c_96 hR hV hs ht ⟨by omega, by omega⟩ ?_
    intro r' hr'
    refine ⟨fun h2 => ?_, fun h2 => ⟨⟨by omega, by omega⟩, h _ (Or.inl ⟨⟨r, hr, h1, Or.inl ⟨r', hr', h2⟩⟩, rfl⟩)⟩⟩
    have hu : v_un V b s t ↔ (v_sh V s t ≠ -1 ∧ (b.1 t = 0 ∨ v_lev V b r = 0)) := by
      constructor
      · rintro ⟨x, x1, x2, x3⟩
        have := v_ls_u (by omega) x1 hr
        subst this
        rcases x3 with ⟨z, z1, z2⟩ | x3
        · exact absurd (v_ls_u (by omega) z1 hr') (by omega)
        · exact x3
      · intro g
        exact ⟨r, hr, h1, Or.inr g⟩
    refine c_100 hR hV hs ht ⟨fun h3 => ⟨⟨by omega, by omega⟩, h _ (Or.inr ⟨fun g => ?_, rfl⟩)⟩, fun h3 => ?_⟩
    · exact (hu.mp g).1 h3
    · have hlv := v_lev_r hV hbw (p := r) (by omega)
      refine c_86 hR hV hB hbw ⟨ht.1, ht8 h3⟩ (by omega) hlv.1 ?_
      by_cases g : b.1 t = 0 ∨ v_lev V b r = 0
      · rw [if_pos g]
        exact ⟨fun h4 => absurd rfl h4, fun _ => ⟨⟨by omega, by omega⟩, h _ (Or.inl ⟨hu.mpr ⟨h3, g⟩, rfl⟩)⟩⟩
      · rw [if_neg g]
        exact ⟨fun _ => ⟨⟨by omega, by omega⟩, h _ (Or.inr ⟨fun k => g (hu.mp k).2, rfl⟩)⟩, fun h4 => absurd (by omega) h4⟩
  · obtain ⟨x, x1, x2, -⟩ := g
    have := v_ls_u (by omega) x1 hr
    omega
end QueryM
