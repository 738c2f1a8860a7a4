section AheadD
variable {S U W X : q_S} {V : v_V} {Q : q_Q} {Z : q_Z}
def k_ah (S : q_S) (V : v_V) : Prop := ∀ i, 0 ≤ i → i < 3200 → n_sm (S 22 i) ∧ ∀ t : Nat, n_bit (S 22 i) t = true ↔ k_L V i t
theorem k_fin (hV : v_gw V) (hB : x_B V (16 * vSt V)) (hI : k_aI S V U) (h0 : k_K U 0 0 0 8) (hc : ∀ s, 0 ≤ s → s < vSt V → k_cz V U s) : k_ah U V := fun i i0 i1 => by
  have hP := hV.1
  have b1 := hB.1
  refine ⟨(hI.2.1 i i0 (by omega)).1, fun t => ⟨(hI.2.1 i i0 (by omega)).2 t, fun q => ?_⟩⟩
  have := q (fun s p d t => k_K U s p d t) h0 (fun s p d t hs q => (hc s hs.1.1 hs.1.2 p d hs).1 t q) (fun s p d r t hs r1 r2 e q => (hc s hs.1.1 hs.1.2 p d hs).2 r r1 r2 e t q)
  unfold k_K at this
  rwa [show i / 80 * 80 + i % 80 / 5 * 5 + i % 5 = i by omega] at this
theorem c_81 (hV : v_gw V) (hB : x_B V (16 * vSt V)) (hE : k_E S V) (h : ∀ S', n_fr [22] [(21, 4)] S S' → k_ah S' V → Q 0 S') : q_c 81 [vR 21] S Q Z := by
  have hP := hV.1
  have b1 := hB.1
  refine b_81_0 (f_22 fun S1 fr1 z1 => ?_)
  have e16 : S1 16 0 = vSt V := (congrFun (n_fr_c fr1 (by decide)) 0).trans hE.2.2.2.1
  rw [e16]
  obtain ⟨w1, w2⟩ := w_sub1 (k := vSt V) (by omega) (by omega)
  have I0 : k_aI S V (q_up S1 21 4 (q_wsub (q_wshl 1 (vSt V)) 1)) := by
    refine ⟨n_fr_i (n_fr_w fr1 (by decide) (by decide)) (by decide), fun i i0 i1 => ?_, ?_, fun j q => ?_⟩
    · rw [q_up_ne (by decide), z1 i i0 (by omega)]
      exact ⟨n_sm0, fun t q => by rw [n_bit0] at q; cases q⟩
    · rw [n_up1]; exact w1
    · rw [n_up1, w2, decide_eq_true_eq] at q; exact q
  have z0 := hV.2.1 0 (by omega) (by omega)
  refine c_85 hV hB I0 ⟨by omega, by omega⟩ ⟨by omega, by omega⟩ ⟨by omega, by omega⟩ (show n_sm 256 from ⟨by decide, by decide⟩) (fun t q => by rw [(n_bit_256 t).mp q]; exact x_Ah_0) fun S2 I2 gw2 t2 => ?_
  have base := t2 8 ((n_bit_256 8).mpr rfl)
  have fin : ∀ U, k_aI S V U → k_K U 0 0 0 8 → (∀ s, 0 ≤ s → s < vSt V → n_bit (U 21 4) s.toNat = false → k_cz V U s) → U 21 4 = 0 → Q 0 U := fun U hI h0 hc e => h U hI.1 (k_fin hV hB hI h0 fun s s0 s1 => hc s s0 s1 (by rw [e, n_bit0]))
  let I : Int → q_S → Prop := fun r U => 0 ≤ r ∧ k_aI S V U ∧ k_K U 0 0 0 8 ∧ (∀ s, 0 ≤ s → s < vSt V → n_bit (U 21 4) s.toNat = false → k_cz V U s) ∧ (U 21 4 = 0 ∨ r.toNat ≤ x_cn 3200 9 (U 22))
  have key : ∀ (r : Int) (x : q_S × q_J), r ≤ 1000000 → I r x.1 → q_r 81 35 [vR 21, vI r, vJ x.2] [] x.1 Q Z := by
    refine n_for 1000000 (fun (r : Int) (x : q_S × q_J) => I r x.1) (fun (r : Int) (x : q_S × q_J) => q_r 81 35 [vR 21, vI r, vJ x.2] [] x.1 Q Z) ?_ ?_
    · rintro ⟨U, j⟩ ⟨-, hI, h0, hc, he⟩
      simp only at hI h0 hc he ⊢
      have e0 : U 21 4 = 0 := by
        rcases he with he | he
        · exact he
        · have := x_cn_le (N := 3200) (T := 9) (M := U 22)
          omega
      refine b_81_35 ?_
      rw [w_cmp0]
      exact ⟨fun _ => fin U hI h0 hc e0, fun g => absurd e0 g⟩
    · rintro r ⟨U, j⟩ ⟨r0, hI, h0, hc, he⟩ rl ih
      simp only at hI h0 hc he ⊢
      refine b_81_35 ?_
      rw [w_cmp0]
      refine ⟨fun e => fin U hI h0 hc e, fun ne => ⟨fun g => by omega, fun _ => ?_⟩⟩
      have hr : r.toNat ≤ x_cn 3200 9 (U 22) := by
        rcases he with he | he
        · exact absurd he ne
        · exact he
      let J : Int → q_S → Prop := fun i W => 0 ≤ i ∧ k_aI S V W ∧ k_K W 0 0 0 8 ∧ (∀ s, 0 ≤ s → s < vSt V → n_bit (W 21 4) s.toNat = false → k_cz V W s) ∧ ((W 22 = U 22 ∧ ∀ s, 0 ≤ s → s < i → n_bit (W 21 4) s.toNat = false) ∨ x_cn 3200 9 (U 22) < x_cn 3200 9 (W 22))
      have inner : ∀ (i : Int) (W : q_S), i ≤ vSt V → J i W → q_r 81 52 [vR 21, vI r, vI i] [] W Q Z := by
        refine n_for (vSt V) (fun (i : Int) (W : q_S) => J i W) (fun (i : Int) (W : q_S) => q_r 81 52 [vR 21, vI r, vI i] [] W Q Z) ?_ ?_
        · rintro W ⟨-, hW, w0, cW, gW⟩
          refine b_81_52 ?_
          rw [(k_E_fr hW.1 hE).2.2.2.1]
          refine ⟨fun _ => ⟨by unfold q_rg; omega, ih (W, .inl (vSt V)) ⟨by omega, hW, w0, cW, ?_⟩⟩, fun g => by omega⟩
          rcases gW with ⟨-, g2⟩ | g
          · refine Or.inl ((w_zero hW.2.2.1).mpr fun j => ?_)
            cases e : n_bit (W 21 4) j with
            | false => rfl
            | true =>
              have := hW.2.2.2 j e
              have g3 := g2 j (by omega) this
              rw [Int.toNat_natCast, e] at g3
              cases g3
          · exact Or.inr (by simp only; omega)
        · rintro i W ⟨i0, hW, w0, cW, gW⟩ il ih2
          have rg : q_rg (i + 1) := by unfold q_rg; omega
          refine b_81_52 ?_
          rw [(k_E_fr hW.1 hE).2.2.2.1, w_cmp0, w_shr1 hW.2.2.1 i0 (by omega)]
          refine ⟨fun g => by omega, fun _ => ⟨fun g => ⟨rg, ih2 W ⟨by omega, hW, w0, cW, ?_⟩⟩, fun g => ?_⟩⟩
          · rcases gW with ⟨g1, g2⟩ | g3
            · refine Or.inl ⟨g1, fun s s0 s1 => ?_⟩
              by_cases e : s = i
              · rw [e]
                cases e2 : n_bit (W 21 4) i.toNat with
                | false => rfl
                | true => rw [e2] at g; exact absurd g (by decide)
              · exact g2 s s0 (by omega)
            · exact Or.inr g3
          -- this state's bit is taken away, then it is handed on
          have sh := w_shl1_sm i0 (show i < 63 by omega)
          obtain ⟨a1, a2⟩ := w_andn hW.2.2.1 sh
          have e21 : q_up W 21 4 (q_wand (W 21 4) (q_wxor (q_wshl 1 i) (-1))) 21 4 = q_wand (W 21 4) (q_wxor (q_wshl 1 i) (-1)) := n_up1 _ _ _ _
          have e22 : q_up W 21 4 (q_wand (W 21 4) (q_wxor (q_wshl 1 i) (-1))) 22 = W 22 := q_up_ne (by decide)
          have bs : ∀ j : Nat, n_bit (q_wand (W 21 4) (q_wxor (q_wshl 1 i) (-1))) j = true ↔ (n_bit (W 21 4) j = true ∧ i ≠ j) := fun j => by
            rw [a2, w_bit_shl1 i0 (by omega), Bool.and_eq_true]
            by_cases e : i = (j : Int)
            · simp [e]
            · simp [e]
          have I1 : k_aI S V (q_up W 21 4 (q_wand (W 21 4) (q_wxor (q_wshl 1 i) (-1)))) := ⟨n_fr_i hW.1 (by decide), by rw [e22]; exact hW.2.1, by rw [e21]; exact a1, fun j q => by rw [e21] at q; exact hW.2.2.2 j ((bs j).mp q).1⟩
          refine c_83 hV hB hE I1 ⟨i0, il⟩ fun X hX gX cX => ⟨rg, ih2 X ⟨by omega, hX, ?_, fun s s0 s1 hn => ?_, ?_⟩⟩
          · have := gX.1 (0 * 80 + 0 * 5 + 0) (by omega) (by omega) 8
            rw [e22] at this
            exact this w0
          · by_cases e : s = i
            · rw [e] at hn ⊢; exact cX hn
            · have hn1 : n_bit (q_up W 21 4 (q_wand (W 21 4) (q_wxor (q_wshl 1 i) (-1))) 21 4) s.toNat = false := by
                cases e2 : n_bit (q_up W 21 4 (q_wand (W 21 4) (q_wxor (q_wshl 1 i) (-1))) 21 4) s.toNat with
                | false => rfl
                | true => rw [gX.2.1 _ e2] at hn; cases hn
              have hn2 : n_bit (W 21 4) s.toNat = false := by
                cases e2 : n_bit (W 21 4) s.toNat with
                | false => rfl
                | true =>
                  rw [e21, (bs s.toNat).mpr ⟨e2, by omega⟩] at hn1
                  cases hn1
              have c0 := cW s s0 s1 hn2
              have c1 : k_cz V (q_up W 21 4 (q_wand (W 21 4) (q_wxor (q_wshl 1 i) (-1)))) s := fun p d hp => by
                have := c0 p d hp
                unfold k_ci k_K x_st2 at this ⊢
                rw [e22]
                exact this
              exact k_cz_m hV hB ⟨s0, s1⟩ gX hn c1
          · rcases gX.2.2.2 with e | lt
            · rw [e, e22, e21]
              rcases gW with ⟨g1, g2⟩ | g3
              · refine Or.inl ⟨g1, fun s s0 s1 => ?_⟩
                cases e2 : n_bit (q_wand (W 21 4) (q_wxor (q_wshl 1 i) (-1))) s.toNat with
                | false => rfl
                | true =>
                  obtain ⟨q1, q2⟩ := (bs _).mp e2
                  have := g2 s s0 (by omega)
                  rw [q1] at this; cases this
              · exact Or.inr g3
            · rw [e22] at lt
              rcases gW with ⟨g1, g2⟩ | g3
              · rw [g1] at lt; exact Or.inr lt
              · exact Or.inr (by omega)
      exact inner 0 U (by omega) ⟨by omega, hI, h0, hc, Or.inl ⟨rfl, fun s a b => by omega⟩⟩
  refine key 0 (S2, _) (by omega) ⟨by omega, I2, base, fun s s0 s1 hn => ?_, Or.inr (by simp)⟩
  have := gw2.2.1 s.toNat (by rw [n_up1, w2, decide_eq_true_eq]; omega)
  simp only at hn
  rw [this] at hn
  cases hn
end AheadD
