theorem n_cpy (S : q_S) (ks : Nat) (sp : Int) (kd : Nat) (dp n : Int) (a : Nat) (j : Int) : q_cpy S ks sp kd dp n a j = if a = kd ∧ (dp ≤ j ∧ j < dp + n) then S ks (sp + (j - dp)) else S a j := by
  unfold q_cpy
  by_cases h : a = kd
  · subst h
    rw [show Nat.beq a a = true from Nat.beq_refl a]
    by_cases h2 : dp ≤ j ∧ j < dp + n <;> simp [h2]
  · have : Nat.beq a kd = false := by
      cases e : Nat.beq a kd with
      | false => rfl
      | true => exact absurd (Nat.eq_of_beq_eq_true e) h
    rw [this]
    simp [h]
section ParseD
variable {S X X' : q_S} {V : v_V} {b : v_B} {Q : q_Q} {Z : q_Z}
theorem n_fr_cpy {ks : List Nat} {fs : List (Nat × Int)} {T : q_S} {k1 k2 : Nat} {s d n : Int} (h : n_fr ks fs S T) (hk : ks.contains k2 = true) : n_fr ks fs S (q_cpy T k1 s k2 d n) := fun k' i' h1 h2 => by
  rw [n_cpy, if_neg, h k' i' h1 h2]
  rintro ⟨rfl, -⟩
  rw [hk] at h1; cases h1
def p_bg (X : q_S) (h n : Int) : Int := if n = 0 then X 27 3 else X 33 (X 29 h)
def p_en (X : q_S) (h n : Int) : Int := if n = 0 then X 27 3 else X 34 (X 29 (h + n - 1))
theorem c_118 {p : Int} (hX : j_pc X V) (hR : v_rc X V) (hV : v_wf V) (hpx : v_px V) (hp : 1 ≤ p ∧ p ≤ vP V) (hi : vIt V (X 28 (X 27 2 - 1)) p (vSz V p) = 1)
    (hf : ¬ (X 27 2 - vSz V p + 1 ≤ X 27 10 ∧ X 30 5 < X 27 11) → Q 0 (q_up X 27 1 3))
    (ho : (X 27 2 - vSz V p + 1 ≤ X 27 10 ∧ X 30 5 < X 27 11) → ∀ X', n_fr p_ks p_fs X X' → p_nw X X' (X 27 2 - vSz V p) (vGo V (X 28 (X 27 2 - vSz V p - 1)) (vLf V p)) (X 27 3) (vLf V p) p (p_bg X (X 27 2 - vSz V p) (vSz V p)) (p_en X (X 27 2 - vSz V p) (vSz V p)) (vSz V p) → Q 0 X') : q_c 118 [vR 27, vI p] X Q Z := by
  obtain ⟨l1, l2, l3⟩ := p_red hX hV hpx hp hi
  obtain ⟨a1, a2, a3, a4, a5, a6, a7, a8, a9, a10, -⟩ := hX
  have hP := hV.1
  have hz := hV.2.1 p (by omega) hp.2
  have hl := hV.2.2.2.1 p hp.1 hp.2
  have e5 := hR.2.1 p (by omega) hp.2
  have e4 := hR.2.2.1 p hp.1 hp.2
  refine b_118_0 ?_
  rw [e5, e4]
  refine ⟨by omega, by omega, by unfold q_rg; omega, by omega, by omega, ?_⟩
  refine b_119_0 ⟨fun _ => ⟨by unfold q_rg; omega, by omega, by omega, c_142 hR hV l3 ⟨by omega, by omega⟩ ⟨fun _ => ⟨by unfold q_rg; omega, c_120 ?_⟩, fun g => by omega⟩⟩, fun g => by omega⟩
  rintro r (⟨hr, rfl⟩ | ⟨hr, rfl⟩)
  · refine ⟨fun _ => b_159_0 ?_, fun g => by omega⟩
    have em : X 30 5 * 4 = 4 * X 30 5 := Int.mul_comm _ _
    rw [e5, e4, em]
    have fin : ∀ (bg en : Int) (Y : q_S), bg = p_bg X (X 27 2 - vSz V p) (vSz V p) → en = p_en X (X 27 2 - vSz V p) (vSz V p) → Y = q_up (q_up (q_up (q_cpy (q_up (q_up X 31 (X 30 5) (vLf V p)) 32 (X 30 5) p) 29 (X 27 2 - vSz V p) 35 (4 * X 30 5) (vSz V p)) 33 (X 30 5) bg) 34 (X 30 5) en) 30 5 (X 30 5 + 1) → q_c 121 [vR 27, vI (vGo V (X 28 (X 27 2 - vSz V p - 1)) (vLf V p)), vI (X 30 5)] (q_up Y 27 2 (X 27 2 - vSz V p)) (fun _ S7 => Q 0 S7) Z := by
      intro bg en Y hbg hen hY
      refine b_121_0 ?_
      rw [n_up1]
      refine ⟨by omega, by omega, by omega, by omega, by unfold q_rg; omega, ho hr _ ?_ ?_⟩
      · rw [hY]
        exact n_fr_i (n_fr_k (n_fr_k (n_fr_i (n_fr_i (n_fr_k (n_fr_k (n_fr_cpy (n_fr_k (n_fr_k n_fr_r (by decide)) (by decide)) (by decide)) (by decide)) (by decide)) (by decide)) (by decide)) (by decide)) (by decide)) (by decide)
      · rw [hY, ← hbg, ← hen]
        refine ⟨?_, ?_, ?_, ?_, ?_, ?_, fun k => ?_, fun k => ?_, fun k => ?_, fun k => ?_, fun k => ?_, fun k => ?_, fun i => ?_⟩
        all_goals (simp [n_up, n_cpy]; done)
    have r60 : ∀ k, 1 ≤ k → k < X 27 2 → 0 ≤ X 29 k ∧ X 29 k < 60 := fun k k0 k1 => by have := a10 k k0 k1; omega
    refine ⟨by omega, by omega, by omega, by omega, by omega, by omega, by omega, by omega, by unfold q_rg; omega, ⟨by omega, by omega, by omega, by omega, by omega⟩, fun g => ?_, fun g => ?_⟩
    · have k1 := r60 (X 27 2 - vSz V p) (by omega) (by omega)
      have k2 := r60 (X 27 2 - vSz V p + vSz V p - 1) (by omega) (by omega)
      refine ⟨by omega, by omega, k1.1, k1.2, by omega, by omega, fun g2 => ⟨by unfold q_rg; omega, by unfold q_rg; omega, by omega, by omega, k2.1, k2.2, by omega, by omega, by unfold q_rg; omega, fin _ _ _ ?_ ?_ rfl⟩, fun g2 => absurd g g2⟩
      · unfold p_bg; rw [if_neg g]
      · unfold p_en; rw [if_neg g]
    · refine ⟨by omega, by omega, fun g2 => absurd g2 g, fun _ => ⟨by omega, by omega, by unfold q_rg; omega, fin _ _ _ ?_ ?_ rfl⟩⟩
      · unfold p_bg; rw [if_pos (by omega)]
      · unfold p_en; rw [if_pos (by omega)]
  · exact ⟨fun g => absurd rfl g, fun _ => hf hr⟩
end ParseD
