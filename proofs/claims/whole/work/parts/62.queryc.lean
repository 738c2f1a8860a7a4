section QueryC
variable {S : q_S} {V : v_V} {b : v_B} {Q : q_Q} {Z : q_Z}
theorem c_105 {p i : Int} (hR : v_rc S V) (hV : v_wf V) (hp : 0 ≤ p ∧ p ≤ vP V) (hi : 0 ≤ i ∧ i < vSz V p) (h : Q (vLt V p i) S) : q_c 105 [vR 3, vI p, vI i] S Q Z := by
  have e := hR.2.2.2.1 p i hp.1 hp.2 hi.1 hi.2
  have z1 := hV.1
  have z2 := hV.2.1 p hp.1 hp.2
  rw [Int.mul_comm] at e
  refine b_105_0 ⟨by unfold q_rg; omega, by unfold q_rg; omega, by omega, by omega, ?_⟩
  rw [e]; exact h
theorem c_142 {s y : Int} (hR : v_rc S V) (hV : v_wf V) (hs : 0 ≤ s ∧ s < vSt V) (hy : 0 ≤ y ∧ y < 16) (h : Q (vGo V s y) S) : q_c 142 [vR 16, vI s, vI y] S Q Z := by
  have e := hR.2.2.2.2.2.2.1 s y hs.1 hs.2 hy.1 hy.2
  have z1 := hV.2.2.2.2.1
  rw [Int.mul_comm] at e
  refine b_142_0 ⟨by unfold q_rg; omega, by unfold q_rg; omega, by omega, by omega, ?_⟩
  rw [e]; exact h
theorem c_140 {s p d : Int} (hR : v_rc S V) (hV : v_wf V) (hs : 0 ≤ s ∧ s < vSt V) (hp : 0 ≤ p ∧ p ≤ vP V) (hd : 0 ≤ d ∧ d ≤ 7) (h : Q (vIt V s p d) S) : q_c 140 [vR 16, vI s, vI p, vI d] S Q Z := by
  obtain ⟨e1, e2⟩ := hR.2.2.2.2.2.1 s p hs.1 hs.2 hp.1 hp.2
  have z1 := hV.2.2.2.2.1
  have z2 := hV.1
  have z3 := hV.2.2.2.2.2.2.1 s p d
  have e3 := e2 d.toNat (by omega)
  have e4 : ((d.toNat : Nat) : Int) = d := by omega
  rw [e4] at e3
  rw [Int.mul_comm] at e1 e3
  refine b_140_0 ⟨by unfold q_rg; omega, by unfold q_rg; omega, by omega, by omega, ?_⟩
  rw [n_shr1 e1 hd.1 (by omega), e3]
  rcases z3 with z3 | z3 <;> rw [z3] at h ⊢
  · exact ⟨fun _ => ⟨⟨by omega, by omega⟩, h⟩, fun h1 => absurd rfl h1⟩
  · exact ⟨fun h1 => by simp at h1, fun _ => ⟨⟨by omega, by omega⟩, h⟩⟩
theorem c_141 {s p : Int} (hR : v_rc S V) (hV : v_wf V) (hs : 0 ≤ s ∧ s < vSt V) (hp : 0 ≤ p ∧ p ≤ vP V) (h : Q (vIt V s p (vSz V p)) S) : q_c 141 [vR 16, vI s, vI p] S Q Z := by
  obtain ⟨e1, e2⟩ := hR.2.2.2.2.2.1 s p hs.1 hs.2 hp.1 hp.2
  have z1 := hV.2.2.2.2.1
  have z2 := hV.1
  have z3 := hV.2.2.2.2.2.2.1 s p (vSz V p)
  have z4 := hV.2.1 p hp.1 hp.2
  have e5 := hR.2.1 p hp.1 hp.2
  have e3 := e2 (vSz V p).toNat (by omega)
  have e4 : (((vSz V p).toNat : Nat) : Int) = vSz V p := by omega
  rw [e4] at e3
  rw [Int.mul_comm] at e1 e3
  refine b_141_0 ⟨by unfold q_rg; omega, by unfold q_rg; omega, by omega, by omega, by omega, by omega, ?_⟩
  rw [e5, n_shr1 e1 z4.1 (by omega), e3]
  rcases z3 with z3 | z3 <;> rw [z3] at h ⊢
  · exact ⟨fun _ => ⟨⟨by omega, by omega⟩, h⟩, fun h1 => absurd rfl h1⟩
  · exact ⟨fun h1 => by simp at h1, fun _ => ⟨⟨by omega, by omega⟩, h⟩⟩
theorem c_82 {s p : Int} (hR : v_rc S V) (hV : v_wf V) (hs : 0 ≤ s ∧ s < vSt V) (hp : 0 ≤ p ∧ p ≤ vP V) (h : Q (vAh V s p (vSz V p)) S) : q_c 82 [vR 21, vI s, vI p, vI (vSz V p)] S Q Z := by
  have e := hR.2.2.2.2.2.2.2.2.2.1 s p hs.1 hs.2 hp.1 hp.2
  have z1 := hV.2.2.2.2.1
  have z2 := hV.1
  have z4 := hV.2.1 p hp.1 hp.2
  rw [Int.mul_comm, Int.mul_comm 5] at e
  refine b_82_0 ⟨by unfold q_rg; omega, by unfold q_rg; omega, by unfold q_rg; omega, by unfold q_rg; omega, by omega, by omega, ?_⟩
  rw [e]; exact h
theorem c_89 {s p o : Int} (hR : v_rc S V) (hV : v_wf V) (hs : 0 ≤ s ∧ s < vSt V) (hp : 0 ≤ p ∧ p ≤ vP V) (h : Q (v_sb V s p o) S) : q_c 89 [vR 26, vI s, vI p, vI o] S Q Z := by
  refine b_89_0 ?_
  refine c_141 hR hV hs hp ?_
  unfold v_sb at h
  have z1 := hV.1
  refine ⟨fun h1 => ⟨fun h2 => ⟨fun h3 => ?_, fun h3 => ⟨fun h4 => ⟨by omega, by omega, ?_⟩, fun h4 => ⟨by omega, by omega, ?_⟩⟩⟩, fun h2 => ?_⟩, fun h1 => ?_⟩
  · rw [if_neg h1, if_neg h2, if_pos h3] at h; exact h
  · have e3 := hR.2.2.1 p (by omega) hp.2
    have z4 := hV.2.2.2.1 p (by omega) hp.2
    rw [e3]
    refine ⟨by omega, by omega, ?_⟩
    rw [(hR.2.2.2.2.2.2.2.2.1 (vLf V p) (by omega) (by omega)).2]
    rw [if_neg h1, if_neg h2, if_neg h3, if_pos h4] at h; exact h
  · rw [hR.2.1 p hp.1 hp.2]
    refine c_82 hR hV hs hp ?_
    rw [if_neg h1, if_neg h2, if_neg h3, if_neg h4] at h; exact h
  · rw [if_neg h1, if_pos (by omega)] at h; exact h
  · rw [if_pos (by omega)] at h; exact h
theorem c_100 {s t : Int} (hR : v_rc S V) (hV : v_wf V) (hs : 0 ≤ s ∧ s < vSt V) (ht : 0 ≤ t ∧ t ≤ 8) (h : Q (v_sh V s t) S) : q_c 100 [vR 26, vI s, vI t] S Q Z := by
  refine b_100_0 ⟨fun h1 => ⟨by unfold q_rg; omega, ?_⟩, fun h1 => ?_⟩
  · refine c_142 hR hV hs ⟨by omega, by omega⟩ ?_
    unfold v_sh at h
    rw [if_neg h1] at h; exact h
  · unfold v_sh at h
    rw [if_pos (by omega)] at h; exact h
theorem c_96 {s t f : Int} (hR : v_rc S V) (hV : v_wf V) (hs : 0 ≤ s ∧ s < vSt V) (ht : 0 ≤ t ∧ t ≤ 8) (hf : 0 ≤ f ∧ f ≤ vP V + 1) (h : ∀ r, v_ls V s t f r → Q r S) : q_c 96 [vR 26, vI s, vI t, vI f] S Q Z := by
  refine b_96_0 ?_
  have hP := hR.1
  have hP2 := hV.1
  have key : ∀ (p : Int) (j : q_J), p ≤ vP V + 1 → (f ≤ p ∧ ∀ x, f ≤ x → x < p → v_bt V s x t = false) → q_r 96 3 [vR 26, vI s, vI t, vJ j, vI p] [] S Q Z := by
    refine n_for (vP V + 1) (fun p _ => f ≤ p ∧ ∀ x, f ≤ x → x < p → v_bt V s x t = false) (fun p j => q_r 96 3 [vR 26, vI s, vI t, vJ j, vI p] [] S Q Z) ?_ ?_
    · rintro j ⟨h1, h2⟩
      refine b_96_3 ⟨fun _ => h _ (Or.inl ⟨rfl, fun x hx1 hx2 => h2 x hx1 (by omega)⟩), fun h3 => ?_⟩
      rw [hP] at h3; omega
    · rintro p j ⟨h1, h2⟩ hlt ih
      refine b_96_3 ⟨fun h3 => ?_, fun h3 => ?_⟩
      · rw [hP] at h3; omega
      · refine c_89 hR hV hs ⟨by omega, by omega⟩ ?_
        rw [v_bt_q hV ht]
        cases hb : v_bt V s p t
        · refine ⟨fun _ => ⟨by unfold q_rg; omega, ih _ ⟨by omega, fun x hx1 hx2 => ?_⟩⟩, fun h4 => absurd rfl h4⟩
          by_cases hxp : x = p
          · rw [hxp]; exact hb
          · exact h2 x hx1 (by omega)
        · exact ⟨fun h4 => by simp at h4, fun _ => h _ (Or.inr ⟨⟨h1, by omega⟩, hb, h2⟩)⟩
  exact key f _ hf.2 ⟨by omega, fun x h1 h2 => by omega⟩
theorem c_88 {p : Int} (hR : v_rc S V) (hV : v_wf V) (hB : v_bc S b) (hp : 0 ≤ p ∧ p ≤ vP V) (h : Q (v_lev V b p) S) : q_c 88 [vR 23, vI p] S Q Z := by
  have e2 := hR.2.1 p hp.1 hp.2
  have z1 := hV.1
  have z2 := hV.2.1 p hp.1 hp.2
  refine b_88_0 ⟨by omega, by omega, by rw [e2]; unfold q_rg; omega, ?_⟩
  rw [e2]
  have key : ∀ (n : Nat) (i : Int) (j : q_J), i + 1 = n → i < vSz V p → (v_lr V b p n = v_lev V b p) → q_r 88 12 [vR 23, vI p, vI i, vJ j] [] S Q Z := by
    intro n
    induction n with
    | zero =>
      intro i j hn hi hq
      refine b_88_12 ⟨fun _ => ?_, fun h1 => by omega⟩
      rw [← hq] at h; exact h
    | succ n ih =>
      intro i j hn hi hq
      refine b_88_12 ⟨fun h1 => by omega, fun h1 => ?_⟩
      have z3 := hV.2.2.1 p i hp.1 hp.2 (by omega) hi
      refine c_105 hR hV hp ⟨by omega, hi⟩ ?_
      have ei : ((n : Nat) : Int) = i := by omega
      have hq2 : v_lr V b p (n + 1) = if vLt V p i ≤ 7 then v_lr V b p n else b.1 (vLt V p i - 8) := by
        conv => lhs; unfold v_lr
        rw [ei]
      rw [hq2] at hq
      refine ⟨fun h2 => ⟨by unfold q_rg; omega, ih _ _ (by omega) (by omega) ?_⟩, fun h2 => ⟨by unfold q_rg; omega, by omega, by omega, ?_⟩⟩
      · rw [if_pos (by omega)] at hq; exact hq
      · rw [if_neg (by omega)] at hq
        rw [(hB _ (by omega) (by omega)).1, hq]; exact h
  exact key (vSz V p).toNat (vSz V p - 1) _ (by omega) (by omega) rfl
theorem c_86 {t p : Int} (hR : v_rc S V) (hV : v_wf V) (hB : v_bc S b) (hbw : v_bw b) (ht : 0 ≤ t ∧ t < 8) (hp : 0 ≤ p ∧ p ≤ vP V) (hlv : 0 ≤ v_lev V b p) (h : Q (if b.1 t = 0 ∨ v_lev V b p = 0 then 0 else 1) S) : q_c 86 [vR 23, vI t, vI p] S Q Z := by
  have e1 := (hB t ht.1 ht.2).1
  have z1 := (hbw t ht.1 ht.2).1
  refine b_86_0 ⟨by omega, by omega, fun h1 => ⟨⟨by omega, by omega⟩, ?_⟩, fun h1 => ?_⟩
  · rw [e1] at h1
    rw [if_pos (Or.inl (by omega))] at h; exact h
  · rw [e1] at h1
    refine c_88 hR hV hB hp ⟨fun h2 => ⟨⟨by omega, by omega⟩, ?_⟩, fun h2 => ⟨⟨by omega, by omega⟩, ?_⟩⟩
    · rw [if_pos (Or.inr (by omega))] at h; exact h
    · rw [if_neg (by omega)] at h; exact h
theorem v_lev_r {p : Int} (hV : v_wf V) (hbw : v_bw b) (hp : 0 ≤ p ∧ p ≤ vP V) : 0 ≤ v_lev V b p ∧ v_lev V b p ≤ 9 := by
  have z2 := hV.2.1 p hp.1 hp.2
  have key : ∀ n : Nat, (n : Int) ≤ vSz V p → 0 ≤ v_lr V b p n ∧ v_lr V b p n ≤ 9 := by
    intro n
    induction n with
    | zero => intro _; show 0 ≤ (0 : Int) ∧ (0 : Int) ≤ 9; omega
    | succ n ih =>
      intro hn
      have z3 := hV.2.2.1 p n hp.1 hp.2 (by omega) (by omega)
      unfold v_lr
      split
      · exact ih (by omega)
      · exact (hbw _ (by omega) (by omega)).1
  exact key _ (by omega)
theorem c_87 {t p : Int} (hR : v_rc S V) (hV : v_wf V) (hB : v_bc S b) (hbw : v_bw b) (ht : 0 ≤ t ∧ t < 8) (hp : 0 ≤ p ∧ p ≤ vP V) (h : Q (if v_lev V b p = 0 ∨ b.1 t = 0 ∨ v_lev V b p < b.1 t then 1 else if b.1 t < v_lev V b p then 0 else b.2 t) S) : q_c 87 [vR 23, vI t, vI p] S Q Z := by
  have e1 := hB t ht.1 ht.2
  have hl := v_lev_r hV hbw hp
  refine b_87_0 ?_
  refine c_88 hR hV hB hp ?_
  refine c_86 hR hV hB hbw ht hp hl.1 ?_
  rw [e1.1, e1.2]
  by_cases hc : b.1 t = 0 ∨ v_lev V b p = 0
  · rw [if_pos hc]
    refine ⟨fun _ => ?_, fun h1 => absurd rfl h1⟩
    rw [if_pos (by omega)] at h; exact h
  · rw [if_neg hc]
    refine ⟨fun h1 => by simp at h1, fun _ => ⟨by omega, by omega, fun h1 => ⟨by omega, by omega, fun h2 => ⟨by omega, by omega, ?_⟩, fun h2 => ?_⟩, fun h1 => ?_⟩⟩
    · rw [if_neg (by omega), if_neg (by omega)] at h; exact h
    · rw [if_neg (by omega), if_pos (by omega)] at h; exact h
    · rw [if_pos (by omega)] at h; exact h
theorem c_91 {s t : Int} (hR : v_rc S V) (hV : v_wf V) (hB : v_bc S b) (hbw : v_bw b) (hs : 0 ≤ s ∧ s < vSt V) (ht : 0 ≤ t ∧ t ≤ 8) (h : ∀ a, v_act V b s t a → Q a S) : q_c 91 [vR 26, vI s, vI t] S Q Z := by
  refine b_91_0 ?_
  refine c_100 hR hV hs ht ?_
  refine c_96 hR hV hs ht ⟨by omega, by have := hV.1; omega⟩ ?_
  intro r hr
  have hgo : -1 ≤ v_sh V s t ∧ v_sh V s t < 40 := by
    unfold v_sh
    split
    · omega
    · have := hV.2.2.2.2.2.1 s (8 + t) hs.1 hs.2 (by omega) (by omega)
      have := hV.2.2.2.2.1
      omega
  have hq : ∀ a, a = v_af V b s t r → Q a S := fun a ha => h a ⟨r, hr, ha⟩
  have hrr : r = -1 ∨ (0 ≤ r ∧ r ≤ vP V) := by
    rcases hr with ⟨h1, -⟩ | ⟨h1, -⟩
    · exact Or.inl h1
    · exact Or.inr h1
  have ht8 : v_sh V s t ≠ -1 → t < 8 := by
    intro h1
    unfold v_sh at h1
    split at h1
    · exact absurd rfl h1
    · omega
  unfold v_af at hq
  refine ⟨fun h1 => ⟨fun h2 => ⟨fun h3 => ?_, fun h3 => ?_⟩, fun h2 => ⟨fun h3 => ?_, fun h3 => ?_⟩⟩, fun h1 => ⟨fun h2 => ⟨by unfold q_rg; omega, ?_⟩, fun h2 => ?_⟩⟩
  · rw [if_neg h1, if_neg h3] at hq
    refine c_87 hR hV hB hbw ⟨ht.1, ht8 h3⟩ (by omega) ?_
    have hsd := (hbw t ht.1 (ht8 h3)).2
    by_cases g1 : v_lev V b r = 0 ∨ b.1 t = 0 ∨ v_lev V b r < b.1 t
    · rw [if_pos g1] at hq ⊢
      exact ⟨fun h4 => by simp at h4, fun _ => ⟨fun _ => ⟨by unfold q_rg; omega, hq _ rfl⟩, fun h4 => absurd rfl h4⟩⟩
    · rw [if_neg g1] at hq ⊢
      by_cases g2 : b.1 t < v_lev V b r
      · rw [if_pos g2, if_neg h2] at hq
        rw [if_pos g2]
        exact ⟨fun _ => hq _ rfl, fun h4 => absurd rfl h4⟩
      · rw [if_neg g2, if_neg h2] at hq
        rw [if_neg g2]
        refine ⟨fun h4 => ?_, fun h4 => ⟨fun h5 => ⟨by unfold q_rg; omega, ?_⟩, fun h5 => ?_⟩⟩
        · rw [if_pos h4] at hq; exact hq _ rfl
        · rw [if_neg h4, if_pos h5] at hq; exact hq _ rfl
        · rw [if_neg h4, if_neg h5] at hq; exact hq _ rfl
  · rw [if_neg h1, if_pos (by omega), if_neg h2] at hq; exact hq _ rfl
  · rw [if_neg h1, if_neg h3] at hq
    refine c_87 hR hV hB hbw ⟨ht.1, ht8 h3⟩ (by omega) ?_
    by_cases g1 : v_lev V b r = 0 ∨ b.1 t = 0 ∨ v_lev V b r < b.1 t
    · rw [if_pos g1] at hq ⊢
      exact ⟨fun h4 => by simp at h4, fun _ => ⟨fun _ => ⟨by unfold q_rg; omega, hq _ rfl⟩, fun h4 => absurd rfl h4⟩⟩
    · rw [if_neg g1] at hq ⊢
      by_cases g2 : b.1 t < v_lev V b r
      · rw [if_pos g2, if_pos (by omega)] at hq
        rw [if_pos g2]
        exact ⟨fun _ => hq _ rfl, fun h4 => absurd rfl h4⟩
      · rw [if_neg g2, if_pos (show r = 0 by omega)] at hq
        rw [if_neg g2]
        refine ⟨fun h4 => ?_, fun h4 => ⟨fun h5 => ⟨by unfold q_rg; omega, ?_⟩, fun h5 => ?_⟩⟩
        · rw [if_pos h4] at hq; exact hq _ rfl
        · rw [if_neg h4, if_pos h5] at hq; exact hq _ rfl
        · rw [if_neg h4, if_neg h5] at hq; exact hq _ rfl
  · rw [if_neg h1, if_pos (by omega), if_pos (by omega)] at hq; exact hq _ rfl
  · rw [if_pos (by omega), if_neg h2] at hq; exact hq _ rfl
  · rw [if_pos (by omega), if_pos (by omega)] at hq; exact hq _ rfl
end QueryC
