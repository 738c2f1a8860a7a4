section Reader
variable {S U G : q_S} {Q : q_Q} {Z : q_Z} {T : Int → Int} {L : Nat}
theorem r_cb_fr {ks : List Nat} {fs : List (Nat × Int)} (h : n_fr ks fs S U) (h1 : (n_ok ks fs 4 && n_ok ks fs 5 && n_ok ks fs 6 && n_ok ks fs 7 && n_ok ks fs 8 && n_ok ks fs 10 && n_ok ks fs 11 && n_okf ks fs 3 4 && n_okf ks fs 9 5 && n_okf ks fs 9 6) = true) (h0 : U 9 0 = -1) (hg : r_cb S G) : r_cb U G := by
  rw [Bool.and_eq_true, Bool.and_eq_true, Bool.and_eq_true, Bool.and_eq_true, Bool.and_eq_true, Bool.and_eq_true, Bool.and_eq_true, Bool.and_eq_true, Bool.and_eq_true] at h1
  obtain ⟨⟨⟨⟨⟨⟨⟨⟨⟨a1, a2⟩, a3⟩, a4⟩, a5⟩, a6⟩, a7⟩, a8⟩, a9⟩, a10⟩ := h1
  obtain ⟨g1, g2, g3, g4, g5, g6, g7, g8, -⟩ := hg
  refine ⟨by rw [n_fr_f h a9]; exact g1, fun q => by rw [n_fr_f h a10]; exact g2 q, by rw [n_fr_f h a8]; exact g3, ?_, ?_, ?_, ?_, ?_, h0⟩
  · rw [n_fr_c h a1, n_fr_c h a2]; exact g4
  · rw [n_fr_c h a5]; exact g5
  · unfold r_fo at g6 ⊢
    rw [n_fr_c h a3, n_fr_c h a4]; exact g6
  · rw [n_fr_c h a6]; exact g7
  · unfold r_us at g8 ⊢
    rw [n_fr_c h a7]; exact g8
/-- the class's reader: the text, then the checks -/
theorem c_122 (hL : S 1 1 = L) (hL2 : L ≤ 200) (hT : ∀ i : Int, 0 ≤ i → i < L → S 2 i = T i) (hf : ∀ k a U, (g_out T L k a ∨ (g_fin T L ∧ g_chk (g_s T L) k a ∧ k ≠ 0)) → n_fr r_ck r_cf S U → U 9 0 = a → Q k U) (hg : g_fin T L → g_chk (g_s T L) 0 (-1) → ∀ U, r_cb U (g_s T L) → U 5 0 = 1 → U 8 0 = g_s T L 1 1 → n_fr r_ck r_cf S U → Q 0 U) : q_c 122 [vR 9] S Q Z := by
  refine b_122_0 ?_
  refine c_123 fun S1 h1 f1 => ?_
  have e1 : S1 1 = S 1 := n_fr_c f1 (by decide)
  have e2 : S1 2 = S 2 := n_fr_c f1 (by decide)
  refine c_124 (T := T) (L := L) h1 (by rw [e1]; exact hL) hL2 (fun i i0 i1 => by rw [e2]; exact hT i i0 i1) (fun k a U ho fr ea => ?_) (fun hfin U hr u5 u8 fr => ?_)
  · have hk := g_out_k ho
    exact ⟨fun _ => ⟨fun _ => ⟨fun _ => hf k a U (Or.inl ho) (n_fr_t f1 fr) ea, fun q => absurd hk q⟩, fun q => absurd hk q⟩, fun q => absurd hk q⟩
  · refine ⟨fun q => absurd rfl q, fun _ => ?_⟩
    have hI := g_s_I L hfin.1
    have hw := gr_w hI hfin.2.1 hfin.2.2
    have hP := g_P1 hI hfin.2.1 hfin.2.2
    refine c_130 hI hfin.2.1 hr (fun a W h5 ha fW ea => ?_) (fun h5 W fW ea => ?_)
    · exact ⟨fun _ => ⟨fun _ => hf 5 a W (Or.inr ⟨hfin, Or.inl ⟨h5, ha, rfl⟩, by decide⟩) (n_fr_t (n_fr_t f1 fr) (n_fr_w fW (by decide) (by decide))) ea, fun q => absurd (by decide) q⟩, fun q => absurd (by decide) q⟩
    · refine ⟨fun q => absurd rfl q, fun _ => ?_⟩
      have hrW : r_cb W (g_s T L) := r_cb_fr fW (by decide) ea hr
      have w5 : W 5 0 = 1 := by rw [n_fr_c fW (by decide)]; exact u5
      have w8 : W 8 0 = g_s T L 1 1 := by rw [n_fr_c fW (by decide)]; exact u8
      have hgc := gr_c hrW w5 w8
      have frW : n_fr r_ck r_cf S W := n_fr_t (n_fr_t f1 fr) (n_fr_w fW (by decide) (by decide))
      refine c_108 hgc hw ⟨by decide, by decide⟩ fun a ha hb => ?_
      have hM : ∀ n : Nat, n < 8 → (n_bit a n = true ↔ x_gr (gr (g_s T L)) v_m7 n) := fun n hn => by
        have m1 : ∀ y : Int, 0 ≤ y → y ≤ 15 → (n_b8 65280 y ↔ v_m7 y) := fun y y0 y1 => by
          have : ∀ k : Nat, k < 16 → (n_bit 65280 k = true ↔ 7 < k) := by decide
          have t := this y.toNat (by omega)
          unfold n_b8 v_m7
          rw [t]; omega
        rw [hb n]
        constructor
        · rintro (q | q)
          · have : ∀ k : Nat, k < 8 → n_bit 65280 k = false := by decide
            rw [this n hn] at q; cases q
          · exact x_gr_m hw (fun y y0 y1 => (m1 y y0 y1).mp) q
        · intro q
          exact Or.inr (x_gr_m hw (fun y y0 y1 => (m1 y y0 y1).mpr) q)
      refine c_131 hI hfin.2.1 hP hrW ha hM (fun x hx h0 => ?_) (fun hx => ?_)
      · exact ⟨fun _ => hf 6 x _ (Or.inr ⟨hfin, Or.inr ⟨h5, Or.inl ⟨hx, h0, rfl⟩⟩, by decide⟩) (n_fr_i frW (by decide)) (n_up1 _ _ _ _), fun q => absurd (by decide) q⟩
      · refine ⟨fun q => absurd rfl q, fun _ => c_109 hgc hw fun a' ha' hb' => ?_⟩
        refine c_131 hI hfin.2.1 hP hrW ha' hb' (fun x hx2 h0 => ?_) (fun hx2 => ?_)
        · exact hf 7 x _ (Or.inr ⟨hfin, Or.inr ⟨h5, Or.inr ⟨hx, Or.inl ⟨hx2, h0, rfl⟩⟩⟩, by decide⟩) (n_fr_i frW (by decide)) (n_up1 _ _ _ _)
        · exact hg hfin (Or.inr ⟨h5, Or.inr ⟨hx, Or.inr ⟨hx2, rfl, rfl⟩⟩⟩) W hrW w5 w8 frW
end Reader
