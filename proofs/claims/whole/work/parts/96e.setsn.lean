section SetsN
variable {S : q_S} {V : v_V} {Q : q_Q} {Z : q_Z}
/-- FIRST -/
theorem m_48b (hR : v_gn S V) (hV : v_gw V) (h45 : ∀ n, 0 ≤ n → n < 8 → v_b01 (x_nu V n) (S 45 n)) (h46 : x_sN 8 (x_Fi V) (S 46)) {j2 j3 j4 : q_J} (h : ∀ S', n_fr [46] [] S S' → (∀ n, 0 ≤ n → n < 8 → n_sm (S' 46 n) ∧ ∀ t : Nat, n_bit (S' 46 n) t = true ↔ x_Fi V n t) → ∀ j2 j3 j4 : q_J, q_r 48 182 [vR 36, vI 0, vJ j2, vJ j3, vJ j4] [] S' Q Z) : q_r 48 123 [vR 36, vI 0, vJ j2, vJ j3, vJ j4] [] S Q Z := by
  have hP := hV.1
  let I : Int → q_S → Prop := fun r U => 0 ≤ r ∧ n_fr [46] [] S U ∧ x_sN 8 (x_Fi V) (U 46) ∧ (x_cN 8 (x_Fi V) (U 46) ∨ r.toNat ≤ x_cn 8 8 (U 46))
  have key : ∀ (r : Int) (x : q_S × q_J × q_J × q_J), r ≤ 70 → I r x.1 → q_r 48 123 [vR 36, vI r, vJ x.2.1, vJ x.2.2.1, vJ x.2.2.2] [] x.1 Q Z := by
    refine n_for 70 (fun (r : Int) (x : q_S × q_J × q_J × q_J) => I r x.1) (fun (r : Int) (x : q_S × q_J × q_J × q_J) => q_r 48 123 [vR 36, vI r, vJ x.2.1, vJ x.2.2.1, vJ x.2.2.2] [] x.1 Q Z) ?_ ?_
    · rintro ⟨U, k2, k3, k4⟩ ⟨-, fU, hs, hc⟩
      simp only at fU hs hc ⊢
      have hc' : x_cN 8 (x_Fi V) (U 46) := by
        rcases hc with hc | hc
        · exact hc
        · have := x_cn_le (N := 8) (T := 8) (M := U 46)
          omega
      exact b_48_123 ⟨fun _ => h U fU (fun n n0 n1 => ⟨(hs n n0 (by omega)).1, fun t => ⟨(hs n n0 (by omega)).2 t, hc' n n0 (by omega) t⟩⟩) k2 k3 k4, fun g => by omega⟩
    · rintro r ⟨U, k2, k3, k4⟩ ⟨r0, fU, hs, hc⟩ rl ih
      simp only at fU hs hc ⊢
      refine b_48_123 ⟨fun g => by omega, fun _ => ?_⟩
      let J : Int → q_S → Prop := fun p W => 1 ≤ p ∧ n_fr [46] [] S W ∧ x_sN 8 (x_Fi V) (W 46) ∧ x_gN 8 (U 46) (W 46) ∧ ∀ p', 1 ≤ p' → p' < p → ∀ t, x_rp V (x_nu V) (n_mb (U 46)) p' 0 t → n_bit (W 46 (vLf V p')) t = true
      have inner : ∀ (p : Int) (W : q_S), p ≤ vP V + 1 → J p W → q_r 48 131 [vR 36, vI r, vI p, vJ k3, vJ k4] [] W Q Z := by
        refine n_for (vP V + 1) (fun (p : Int) (W : q_S) => J p W) (fun (p : Int) (W : q_S) => q_r 48 131 [vR 36, vI r, vI p, vJ k3, vJ k4] [] W Q Z) ?_ ?_
        · rintro W ⟨-, fW, sW, gW, cl⟩
          refine b_48_131 ?_
          rw [(v_gn_fr fW (by decide) hR).1]
          refine ⟨fun _ => ⟨by unfold q_rg; omega, ih (W, .inl (vP V + 1), k3, k4) ⟨by omega, fW, sW, ?_⟩⟩, fun g => by omega⟩
          have := x_pass (T := 8) (r := r.toNat) (by decide) (fun n t q => (x_Fi_r hV q).2) hs sW gW (fun same n n0 n1 t q => by
            refine q (fun n t => n_bit (U 46 n) t = true) fun p t p1 p2 q2 => ?_
            have z4 := hV.2.2.2 p p1 p2
            rw [← same _ z4.1 (by omega)]
            exact cl p p1 (by omega) t q2) hc
          rw [show (r + 1).toNat = r.toNat + 1 by omega]
          exact this
        · rintro p W ⟨p1, fW, sW, gW, cl⟩ pl ih2
          have hRW := v_gn_fr fW (by decide) hR
          have z4 := hV.2.2.2 p p1 (by omega)
          have z2 := hV.2.1 p (by omega) (by omega)
          have e45 : W 45 = S 45 := n_fr_c fW (by decide)
          have n45 : ∀ n, 0 ≤ n → n < 8 → v_b01 (x_nu V n) (W 45 n) := fun n n0 n1 => by rw [e45]; exact h45 n n0 n1
          refine b_48_131 ?_
          rw [hRW.1, hRW.2.2.1 p p1 (by omega)]
          refine ⟨fun g => by omega, fun _ => ⟨by omega, by omega, by omega, by omega, by omega, by omega, m_47 hRW hV (fun n n0 n1 => (sW n n0 (by omega)).1) ⟨by omega, by omega⟩ ⟨by omega, z2.1⟩ fun m sm bm => ⟨by omega, by omega, by unfold q_rg; omega, ih2 _ ?_⟩⟩⟩
          have sl := (sW (vLf V p) z4.1 (by omega)).1
          have bo : ∀ t : Nat, n_bit (q_or (W 46 (vLf V p)) m) t = true ↔ (n_bit (W 46 (vLf V p)) t = true ∨ x_rp V (x_nu V) (n_mb (W 46)) p 0 t) := fun t => by
            rw [n_bit_or sl sm, Bool.or_eq_true, bm t]
            have : x_rp V (k_45 W) (n_mb (W 46)) p 0 t ↔ x_rp V (x_nu V) (n_mb (W 46)) p 0 t := ⟨x_rp_n hV (fun y y0 _ q => (k_45_e hV n45 y y0).mp q) ⟨by omega, by omega⟩ (by omega), x_rp_n hV (fun y y0 _ q => (k_45_e hV n45 y y0).mpr q) ⟨by omega, by omega⟩ (by omega)⟩
            rw [this]
          refine ⟨by omega, n_fr_k fW (by decide), fun n n0 n1 => ?_, fun n n0 n1 t q => ?_, fun p' a b t q => ?_⟩
          · rw [n_fr_same]
            by_cases e : n = vLf V p
            · rw [if_pos e]
              refine ⟨n_or_sm sl sm, fun t q => ?_⟩
              rcases (bo t).mp q with q | q
              · rw [e]; exact (sW _ z4.1 (by omega)).2 t q
              · rw [e]
                exact x_Fi_c p1 (by omega) (x_rp_m (fun n t n0 n1 q => (sW n n0 (by omega)).2 t q) hV ⟨by omega, by omega⟩ (by omega) q)
            · rw [if_neg e]; exact sW n n0 n1
          · rw [n_fr_same]
            by_cases e : n = vLf V p
            · rw [if_pos e, bo t]
              rw [e] at q
              exact Or.inl (gW _ z4.1 (by omega) t q)
            · rw [if_neg e]; exact gW n n0 n1 t q
          · rw [n_fr_same]
            by_cases e3 : p' = p
            · subst e3
              rw [if_pos rfl, bo t]
              exact Or.inr (x_rp_m (fun n t n0 n1 q => gW n n0 (by omega) t q) hV ⟨by omega, by omega⟩ (by omega) q)
            · have c := cl p' a (by omega) t q
              by_cases e4 : vLf V p' = vLf V p
              · rw [if_pos e4, bo t]
                rw [e4] at c
                exact Or.inl c
              · rw [if_neg e4]; exact c
      exact inner 1 U (by omega) ⟨by omega, fU, hs, x_gN_r, fun p' a b => by omega⟩
  exact key 0 (S, j2, j3, j4) (by omega) ⟨by omega, n_fr_r, h46, Or.inr (by simp)⟩
def x_nL (V : v_V) (n : Int) (t : Nat) : Prop := x_nu V n ∧ t = 0
theorem n_01 {L : Int → Nat → Prop} {M : Int → Int} {n : Int} (hs : n_sm (M n) ∧ ∀ t : Nat, n_bit (M n) t = true → x_nL V n t) : (M n = 0 ∧ n_bit (M n) 0 = false) ∨ (M n = 1 ∧ n_bit (M n) 0 = true) := by
  cases e : n_bit (M n) 0 with
  | false =>
    refine Or.inl ⟨(n_zero hs.1).mpr fun i => ?_, rfl⟩
    cases e2 : n_bit (M n) i with
    | false => rfl
    | true =>
      have := (hs.2 i e2).2
      subst this
      rw [e] at e2; cases e2
  | true =>
    refine Or.inr ⟨n_ext hs.1 ⟨by decide, by decide⟩ fun i => ?_, rfl⟩
    apply Bool.eq_iff_iff.mpr
    rw [n_bit_1]
    constructor
    · intro q; exact (hs.2 i q).2
    · rintro rfl; exact e
/-- nullable -/
theorem m_48a (hR : v_gn S V) (hV : v_gw V) (h45 : x_sN 8 (x_nL V) (S 45)) {j2 j3 j4 : q_J} (h : ∀ S', n_fr [45] [] S S' → (∀ n, 0 ≤ n → n < 8 → v_b01 (x_nu V n) (S' 45 n)) → ∀ j2 j3 j4 : q_J, q_r 48 123 [vR 36, vI 0, vJ j2, vJ j3, vJ j4] [] S' Q Z) : q_r 48 53 [vR 36, vI 0, vJ j2, vJ j3, vJ j4] [] S Q Z := by
  have hP := hV.1
  let I : Int → q_S → Prop := fun r U => 0 ≤ r ∧ n_fr [45] [] S U ∧ x_sN 8 (x_nL V) (U 45) ∧ (x_cN 8 (x_nL V) (U 45) ∨ r.toNat ≤ x_cn 8 1 (U 45))
  have key : ∀ (r : Int) (x : q_S × q_J × q_J × q_J), r ≤ 150 → I r x.1 → q_r 48 53 [vR 36, vI r, vJ x.2.1, vJ x.2.2.1, vJ x.2.2.2] [] x.1 Q Z := by
    refine n_for 150 (fun (r : Int) (x : q_S × q_J × q_J × q_J) => I r x.1) (fun (r : Int) (x : q_S × q_J × q_J × q_J) => q_r 48 53 [vR 36, vI r, vJ x.2.1, vJ x.2.2.1, vJ x.2.2.2] [] x.1 Q Z) ?_ ?_
    · rintro ⟨U, k2, k3, k4⟩ ⟨-, fU, hs, hc⟩
      simp only at fU hs hc ⊢
      have hc' : x_cN 8 (x_nL V) (U 45) := by
        rcases hc with hc | hc
        · exact hc
        · have := x_cn_le (N := 8) (T := 1) (M := U 45)
          omega
      refine b_48_53 ⟨fun _ => h U fU (fun n n0 n1 => ?_) k2 k3 k4, fun g => by omega⟩
      rcases n_01 (L := x_nL V) (hs n n0 (by omega)) with ⟨q1, q2⟩ | ⟨q1, q2⟩
      · refine Or.inr ⟨fun q => ?_, q1⟩
        rw [hc' n n0 (by omega) 0 ⟨q, rfl⟩] at q2; cases q2
      · exact Or.inl ⟨((hs n n0 (by omega)).2 0 q2).1, q1⟩
    · rintro r ⟨U, k2, k3, k4⟩ ⟨r0, fU, hs, hc⟩ rl ih
      simp only at fU hs hc ⊢
      refine b_48_53 ⟨fun g => by omega, fun _ => ?_⟩
      let J : Int → q_S → Prop := fun p W => 1 ≤ p ∧ n_fr [45] [] S W ∧ x_sN 8 (x_nL V) (W 45) ∧ x_gN 8 (U 45) (W 45) ∧ ∀ p', 1 ≤ p' → p' < p → x_nr V (k_45 U) p' 0 → n_bit (W 45 (vLf V p')) 0 = true
      have inner : ∀ (p : Int) (W : q_S), p ≤ vP V + 1 → J p W → q_r 48 62 [vR 36, vI r, vI p, vJ k3, vJ k4] [] W Q Z := by
        refine n_for (vP V + 1) (fun (p : Int) (W : q_S) => J p W) (fun (p : Int) (W : q_S) => q_r 48 62 [vR 36, vI r, vI p, vJ k3, vJ k4] [] W Q Z) ?_ ?_
        · rintro W ⟨-, fW, sW, gW, cl⟩
          refine b_48_62 ?_
          rw [(v_gn_fr fW (by decide) hR).1]
          refine ⟨fun _ => ⟨by unfold q_rg; omega, ih (W, .inl (vP V + 1), k3, k4) ⟨by omega, fW, sW, ?_⟩⟩, fun g => by omega⟩
          have := x_pass (T := 1) (r := r.toNat) (by decide) (fun n t q => by have := q.2; omega) hs sW gW (fun same n n0 n1 t q => by
            rw [q.2]
            refine (q.1 (fun n => (0 ≤ n ∧ n < 8) ∧ n_bit (U 45 n) 0 = true) fun p p1 p2 q2 => ?_).2
            have z4 := hV.2.2.2 p p1 p2
            refine ⟨by omega, ?_⟩
            rw [← same _ z4.1 (by omega)]
            refine cl p p1 (by omega) fun l l0 l1 => ?_
            rcases q2 l l0 l1 with q3 | q3
            · exact q3.elim
            · refine ⟨q3.1.2, ?_⟩
              rcases n_01 (L := x_nL V) (hs _ q3.1.1 (by omega)) with ⟨e1, e2⟩ | ⟨e1, e2⟩
              · rw [q3.2] at e2; cases e2
              · omega) hc
          rw [show (r + 1).toNat = r.toNat + 1 by omega]
          exact this
        · rintro p W ⟨p1, fW, sW, gW, cl⟩ pl ih2
          have hRW := v_gn_fr fW (by decide) hR
          have z4 := hV.2.2.2 p p1 (by omega)
          have z2 := hV.2.1 p (by omega) (by omega)
          have rg : q_rg (p + 1) := by unfold q_rg; omega
          have mono : x_nr V (k_45 U) p 0 → x_nr V (k_45 W) p 0 := x_nr_n hV (fun y y0 _ q => ⟨q.1, fun e => by
            have q1 := q.1
            have q2 := q.2
            rcases n_01 (L := x_nL V) (hs y y0 (by omega)) with ⟨e1, e2⟩ | ⟨e1, e2⟩
            · exact q2 e1
            · have := gW y y0 (by omega) 0 e2
              rw [e, n_bit0] at this; cases this⟩) ⟨by omega, by omega⟩ (by omega)
          have snd : x_nr V (k_45 W) p 0 → x_nu V (vLf V p) := fun q => x_gr_c p1 (by omega) fun l l0 l1 => by
            have z3 := hV.2.2.1 p l (by omega) (by omega) l0 l1
            obtain ⟨q1, q2⟩ := q l l0 l1
            rcases n_01 (L := x_nL V) (sW _ z3.1 (by omega)) with ⟨e1, e2⟩ | ⟨e1, e2⟩
            · exact absurd e1 q2
            · exact Or.inr ((sW _ z3.1 (by omega)).2 0 e2).1
          have one : x_nu V (vLf V p) → J (p + 1) (q_up W 45 (vLf V p) 1) := fun hn => by
            refine ⟨by omega, n_fr_k fW (by decide), fun n n0 n1 => ?_, fun n n0 n1 t q => ?_, fun p' a b q => ?_⟩
            · rw [n_fr_same]
              by_cases e : n = vLf V p
              · rw [if_pos e, e]
                exact ⟨⟨by decide, by decide⟩, fun t q => ⟨hn, (n_bit_1 t).mp q⟩⟩
              · rw [if_neg e]; exact sW n n0 n1
            · rw [n_fr_same]
              by_cases e : n = vLf V p
              · rw [if_pos e, n_bit_1]
                exact ((hs n n0 n1).2 t q).2
              · rw [if_neg e]; exact gW n n0 n1 t q
            · rw [n_fr_same]
              by_cases e4 : vLf V p' = vLf V p
              · rw [if_pos e4, n_bit_1]
              · rw [if_neg e4]
                have : p' ≠ p := fun e => e4 (by rw [e])
                exact cl p' a (by omega) q
          refine b_48_62 ?_
          rw [hRW.1, hRW.2.2.1 p p1 (by omega)]
          refine ⟨fun g => by omega, fun _ => ⟨by omega, by omega, by omega, by omega, by omega, by omega, fun g => ⟨by omega, by omega, ⟨by omega, by omega⟩, rg, ih2 _ (one ?_)⟩, fun g => m_46 hRW hV ⟨by omega, by omega⟩ ⟨by omega, z2.1⟩ ?_⟩⟩
          · rcases n_01 (L := x_nL V) (sW _ z4.1 (by omega)) with ⟨e1, e2⟩ | ⟨e1, e2⟩
            · exact absurd e1 g
            · exact ((sW _ z4.1 (by omega)).2 0 e2).1
          rintro x (⟨hx, rfl⟩ | ⟨hx, rfl⟩)
          · exact ⟨fun g => by omega, fun _ => ⟨by omega, by omega, ⟨by omega, by omega⟩, rg, ih2 _ (one (snd hx))⟩⟩
          · have e0 : W 45 (vLf V p) = 0 := by
              by_cases q : W 45 (vLf V p) = 0
              · exact q
              · exact absurd q g
            refine ⟨fun _ => ⟨by omega, by omega, ⟨by omega, by omega⟩, rg, ih2 _ ?_⟩, fun g => absurd rfl g⟩
            have same : ∀ n, q_up W 45 (vLf V p) 0 45 n = W 45 n := fun n => by
              rw [n_fr_same]
              by_cases e : n = vLf V p
              · rw [if_pos e, e, e0]
              · rw [if_neg e]
            refine ⟨by omega, n_fr_k fW (by decide), fun n n0 n1 => ?_, fun n n0 n1 t q => ?_, fun p' a b q => ?_⟩
            · rw [same]; exact sW n n0 n1
            · rw [same]; exact gW n n0 n1 t q
            · rw [same]
              by_cases e : p' = p
              · rw [e] at q; exact absurd (mono q) hx
              · exact cl p' a (by omega) q
      exact inner 1 U (by omega) ⟨by omega, fU, hs, x_gN_r, fun p' a b => by omega⟩
  exact key 0 (S, j2, j3, j4) (by omega) ⟨by omega, n_fr_r, h45, Or.inr (by simp)⟩
theorem m_48 (hR : v_gn S V) (hV : v_gw V) (h42 : S 42 0 = vLf V 1) (h : ∀ S', n_fr k_mk [] S S' → k_ms S' V → Q 0 S') : q_c 48 [vR 36] S Q Z := by
  have hP := hV.1
  have l1 := hV.2.2.2 1 (by omega) hP.1
  refine b_48_0 ?_
  have key : ∀ (n : Int) (U : q_S), n ≤ 8 → (0 ≤ n ∧ n_fr k_mk [] S U ∧ ∀ i, 0 ≤ i → i < n → U 45 i = 0 ∧ U 46 i = 0 ∧ U 47 i = if i = vLf V 1 then 256 else 0) → q_r 48 2 [vR 36, vI n, vU, vU, vU] [] U Q Z := by
    refine n_for 8 (fun (n : Int) (U : q_S) => 0 ≤ n ∧ n_fr k_mk [] S U ∧ ∀ i, 0 ≤ i → i < n → U 45 i = 0 ∧ U 46 i = 0 ∧ U 47 i = if i = vLf V 1 then 256 else 0) (fun (n : Int) (U : q_S) => q_r 48 2 [vR 36, vI n, vU, vU, vU] [] U Q Z) ?_ ?_
    · rintro U ⟨-, fU, hz⟩
      refine b_48_2 ⟨fun _ => ?_, fun g => by omega⟩
      have hRU := v_gn_fr fU (by decide) hR
      refine m_48a hRU hV (fun n n0 n1 => ?_) fun S1 fr1 h45 j2 j3 j4 => ?_
      · rw [(hz n n0 (by omega)).1]
        exact ⟨n_sm0, fun t q => by rw [n_bit0] at q; cases q⟩
      have hR1 := v_gn_fr fr1 (by decide) hRU
      refine m_48b hR1 hV h45 (fun n n0 n1 => ?_) fun S2 fr2 h46 j2 j3 j4 => ?_
      · rw [n_fr_c fr1 (by decide), (hz n n0 (by omega)).2.1]
        exact ⟨n_sm0, fun t q => by rw [n_bit0] at q; cases q⟩
      have hR2 := v_gn_fr fr2 (by decide) hR1
      have e47 : S2 47 = U 47 := (n_fr_c fr2 (by decide)).trans (n_fr_c fr1 (by decide))
      refine m_48c hR2 hV (fun n n0 n1 => ?_) h46 (fun n n0 n1 => ?_) ?_ fun S3 fr3 ms => ?_
      · rw [n_fr_c fr2 (by decide)]; exact h45 n n0 n1
      · rw [e47, (hz n n0 (by omega)).2.2]
        by_cases e : n = vLf V 1
        · rw [if_pos e, e]
          refine ⟨⟨by decide, by decide⟩, fun t q => ?_⟩
          rw [(n_bit_256 t).mp q]
          exact x_Fo_0
        · rw [if_neg e]
          exact ⟨n_sm0, fun t q => by rw [n_bit0] at q; cases q⟩
      · rw [e47, (hz _ l1.1 (by omega)).2.2, if_pos rfl]
        exact (n_bit_256 8).mpr rfl
      · exact h S3 (n_fr_t (n_fr_t (n_fr_t fU (n_fr_w fr1 (by decide) (by decide))) (n_fr_w fr2 (by decide) (by decide))) (n_fr_w fr3 (by decide) (by decide))) ms
    · rintro n U ⟨n0, fU, hz⟩ nl ih
      have e42 : U 42 0 = vLf V 1 := (congrFun (n_fr_c fU (by decide)) 0).trans h42
      have rg : q_rg (n + 1) := by unfold q_rg; omega
      have nx : ∀ v, v = (if n = vLf V 1 then 256 else 0) → q_r 48 2 [vR 36, vI (n + 1), vU, vU, vU] [] (q_up (q_up (q_up U 45 n 0) 46 n 0) 47 n v) Q Z := fun v hv => by
        refine ih _ ⟨by omega, n_fr_k (n_fr_k (n_fr_k fU (by decide)) (by decide)) (by decide), fun i i0 i1 => ?_⟩
        by_cases e : i = n
        · subst e
          refine ⟨by simp [n_up], by simp [n_up], ?_⟩
          rw [n_up1]; exact hv
        · obtain ⟨a, b, c⟩ := hz i i0 (by omega)
          refine ⟨by simpa [n_up, e] using a, by simpa [n_up, e] using b, ?_⟩
          rw [n_fr_same, if_neg e, q_up_ne (by decide), q_up_ne (by decide)]
          exact c
      refine b_48_2 ?_
      rw [e42]
      refine ⟨fun g => by omega, fun _ => ⟨by omega, by omega, ⟨by omega, by omega⟩, by omega, by omega, by omega, by omega, fun g => ⟨by omega, by omega, rg, nx 0 ?_⟩, fun g => ⟨by omega, by omega, rg, nx 256 ?_⟩⟩⟩
      · rw [if_neg g]
      · rw [if_pos]
        by_cases q : n = vLf V 1
        · exact q
        · exact absurd q g
  exact key 0 S (by omega) ⟨by omega, n_fr_r, fun i a b => by omega⟩
end SetsN
