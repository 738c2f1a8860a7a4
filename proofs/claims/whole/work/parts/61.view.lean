/-! the tables of a read grammar, as one abstract value that class and reference both stand for -/
abbrev v_V : Type := Nat → Int → Int → Int → Int
abbrev vP (V : v_V) : Int := V 0 0 0 0
abbrev vLf (V : v_V) (p : Int) : Int := V 1 p 0 0
abbrev vSz (V : v_V) (p : Int) : Int := V 2 p 0 0
abbrev vLt (V : v_V) (p i : Int) : Int := V 3 p i 0
abbrev vSt (V : v_V) : Int := V 4 0 0 0
abbrev vIt (V : v_V) (s p d : Int) : Int := V 5 s p d
abbrev vGo (V : v_V) (s y : Int) : Int := V 6 s y 0
abbrev vNu (V : v_V) (n : Int) : Int := V 7 n 0 0
abbrev vFi (V : v_V) (n : Int) : Int := V 8 n 0 0
abbrev vFo (V : v_V) (n : Int) : Int := V 9 n 0 0
abbrev vAh (V : v_V) (s p d : Int) : Int := V 10 s p d
abbrev vHr (V : v_V) (n : Int) : Int := V 11 n 0 0
abbrev v_B : Type := (Int → Int) × (Int → Int)
def v_wf (V : v_V) : Prop := (1 ≤ vP V ∧ vP V ≤ 15) ∧ (∀ p, 0 ≤ p → p ≤ vP V → 0 ≤ vSz V p ∧ vSz V p ≤ 4) ∧ (∀ p i, 0 ≤ p → p ≤ vP V → 0 ≤ i → i < vSz V p → 0 ≤ vLt V p i ∧ vLt V p i ≤ 15) ∧ (∀ p, 1 ≤ p → p ≤ vP V → 0 ≤ vLf V p ∧ vLf V p ≤ 7)
  ∧ (1 ≤ vSt V ∧ vSt V ≤ 40) ∧ (∀ s y, 0 ≤ s → s < vSt V → 0 ≤ y → y < 16 → -1 ≤ vGo V s y ∧ vGo V s y < vSt V) ∧ (∀ s p d, vIt V s p d = 0 ∨ vIt V s p d = 1) ∧ (∀ n, 0 ≤ vFo V n ∧ vFo V n ≤ 511) ∧ (∀ s p d, 0 ≤ vAh V s p d ∧ vAh V s p d ≤ 511) ∧ (∀ n, 0 ≤ vFi V n ∧ vFi V n ≤ 511)
def v_bw (b : v_B) : Prop := ∀ t, 0 ≤ t → t < 8 → (0 ≤ b.1 t ∧ b.1 t ≤ 9) ∧ (0 ≤ b.2 t ∧ b.2 t ≤ 2)
/-- the reference stands for V -/
def v_rm (S : q_S) (V : v_V) : Prop := S 36 5 = vP V ∧ (∀ p, 0 ≤ p → p ≤ vP V → S 39 p = vSz V p) ∧ (∀ p, 1 ≤ p → p ≤ vP V → S 38 p = vLf V p) ∧ (∀ p i, 0 ≤ p → p ≤ vP V → 0 ≤ i → i < vSz V p → S 40 (4 * p + i) = vLt V p i)
  ∧ S 36 17 = vSt V ∧ (∀ s p d, 0 ≤ s → s < vSt V → 0 ≤ p → p ≤ 15 → 0 ≤ d → d ≤ 7 → S 48 (128 * s + 8 * p + d) = vIt V s p d) ∧ (∀ s y, 0 ≤ s → s < vSt V → 0 ≤ y → y < 16 → S 50 (16 * s + y) = vGo V s y)
  ∧ (∀ n, 0 ≤ n → n < 8 → S 45 n = vNu V n ∧ S 46 n = vFi V n ∧ S 47 n = vFo V n) ∧ (∀ s p, 0 ≤ s → s < vSt V → 0 ≤ p → p ≤ vP V → S 49 (128 * s + 8 * p + vSz V p) = vAh V s p (vSz V p)) ∧ (∀ n, 0 ≤ n → n < 8 → (S 43 n < 0 ↔ vHr V n = 0))
def v_bm (S : q_S) (b : v_B) : Prop := ∀ t, 0 ≤ t → t < 8 → S 52 t = b.1 t ∧ S 53 t = b.2 t
/-- the class stands for V -/
def v_rc (S : q_S) (V : v_V) : Prop := S 3 4 = vP V ∧ (∀ p, 0 ≤ p → p ≤ vP V → S 5 p = vSz V p) ∧ (∀ p, 1 ≤ p → p ≤ vP V → S 4 p = vLf V p) ∧ (∀ p i, 0 ≤ p → p ≤ vP V → 0 ≤ i → i < vSz V p → S 8 (4 * p + i) = vLt V p i)
  ∧ S 16 0 = vSt V ∧ (∀ s p, 0 ≤ s → s < vSt V → 0 ≤ p → p ≤ vP V → n_sm (S 17 (16 * s + p)) ∧ ∀ d : Nat, d ≤ 7 → n_bit (S 17 (16 * s + p)) d = decide (vIt V s p d = 1)) ∧ (∀ s y, 0 ≤ s → s < vSt V → 0 ≤ y → y < 16 → S 18 (16 * s + y) = vGo V s y)
  ∧ (n_sm (S 12 4) ∧ ∀ n : Nat, n < 8 → n_bit (S 12 4) n = decide (vNu V n = 1)) ∧ (∀ n, 0 ≤ n → n < 8 → S 13 n = vFi V n ∧ S 14 n = vFo V n) ∧ (∀ s p, 0 ≤ s → s < vSt V → 0 ≤ p → p ≤ vP V → S 22 (80 * s + 5 * p + vSz V p) = vAh V s p (vSz V p)) ∧ (∀ n, 0 ≤ n → n < 8 → (S 6 n = 0 ↔ vHr V n = 0))
def v_bc (S : q_S) (b : v_B) : Prop := ∀ t, 0 ≤ t → t < 8 → S 24 t = b.1 t ∧ S 25 t = b.2 t
-- answers
def v_lr (V : v_V) (b : v_B) (p : Int) : Nat → Int
  | 0 => 0
  | n + 1 => if vLt V p n ≤ 7 then v_lr V b p n else b.1 (vLt V p n - 8)
def v_lev (V : v_V) (b : v_B) (p : Int) : Int := v_lr V b p (vSz V p).toNat
def v_sb (V : v_V) (s p sort : Int) : Int := if vIt V s p (vSz V p) = 0 then 0 else if p = 0 then 256 else if sort = 0 then 511 else if sort = 1 then vFo V (vLf V p) else vAh V s p (vSz V p)
def v_sh (V : v_V) (s t : Int) : Int := if t = 8 then -1 else vGo V s (8 + t)
def v_bt (V : v_V) (s p t : Int) : Bool := n_bit (v_sb V s p 2) t.toNat
def v_ls (V : v_V) (s t f r : Int) : Prop := (r = -1 ∧ ∀ p, f ≤ p → p ≤ vP V → v_bt V s p t = false) ∨ ((f ≤ r ∧ r ≤ vP V) ∧ v_bt V s r t = true ∧ ∀ p, f ≤ p → p < r → v_bt V s p t = false)
theorem v_ls_u {V : v_V} {s t f r r' : Int} (hf : 0 ≤ f) (h : v_ls V s t f r) (h' : v_ls V s t f r') : r = r' := by
  rcases h with ⟨h1, h2⟩ | ⟨⟨h1, h2⟩, h3, h4⟩ <;> rcases h' with ⟨g1, g2⟩ | ⟨⟨g1, g2⟩, g3, g4⟩
  · omega
  · rw [h2 r' g1 g2] at g3; cases g3
  · rw [g2 r h1 h2] at h3; cases h3
  · by_cases e : r < r'
    · rw [g4 r h1 e] at h3; cases h3
    · by_cases e2 : r' < r
      · rw [h4 r' g1 e2] at g3; cases g3
      · omega
def v_af (V : v_V) (b : v_B) (s t r : Int) : Int :=
  if r = -1 then (if v_sh V s t = -1 then 0 else 20 + v_sh V s t)
  else if v_sh V s t = -1 then (if r = 0 then 16 else r)
  else if v_lev V b r = 0 ∨ b.1 t = 0 ∨ v_lev V b r < b.1 t then 20 + v_sh V s t
  else if b.1 t < v_lev V b r then (if r = 0 then 16 else r)
  else if b.2 t = 0 then (if r = 0 then 16 else r) else if b.2 t = 1 then 20 + v_sh V s t else 0
def v_act (V : v_V) (b : v_B) (s t a : Int) : Prop := ∃ r, v_ls V s t 0 r ∧ a = v_af V b s t r
theorem v_act_u {V : v_V} {b : v_B} {s t a a' : Int} (h : v_act V b s t a) (h' : v_act V b s t a') : a = a' := by
  obtain ⟨r, h1, h2⟩ := h
  obtain ⟨r', g1, g2⟩ := h'
  rw [h2, g2, v_ls_u (by decide) h1 g1]
theorem v_sb_sm {V : v_V} (h : v_wf V) {s p sort : Int} : n_sm (v_sb V s p sort) ∧ v_sb V s p sort ≤ 511 := by
  obtain ⟨-, -, -, -, -, -, -, h8, h9, -⟩ := h
  unfold v_sb n_sm
  have a1 := h8 (vLf V p)
  have a2 := h9 s p (vSz V p)
  split
  · omega
  · split
    · omega
    · split
      · omega
      · split <;> omega
section Query
variable {S : q_S} {V : v_V} {b : v_B} {Q : q_Q} {Z : q_Z}
theorem m_52 {s p o : Int} (hR : v_rm S V) (hV : v_wf V) (hs : 0 ≤ s ∧ s < vSt V) (hp : 0 ≤ p ∧ p ≤ vP V) (h : Q (v_sb V s p o) S) : q_c 52 [vR 36, vI s, vI p, vI o] S Q Z := by
  obtain ⟨r1, r2, r3, r4, r5, r6, r7, r8, r9, r10⟩ := hR
  obtain ⟨w1, w2, w3, w4, w5, w6, w7, w8, w9, w10⟩ := hV
  have e2 := r2 p hp.1 hp.2
  have z2 := w2 p hp.1 hp.2
  have e6 := r6 s p (vSz V p) hs.1 hs.2 hp.1 (by omega) z2.1 (by omega)
  have e9 := r9 s p hs.1 hs.2 hp.1 hp.2
  have hi := w7 s p (vSz V p)
  refine b_52_0 ?_
  rw [e2, e6, e9]
  unfold v_sb at h
  refine ⟨?_, ?_, ?_, by omega, by omega, ?_, by omega, by omega, fun h1 => ⟨fun h2 => ⟨fun h3 => ⟨fun h4 => ⟨?_, ?_, ?_, by omega, by omega, ?_, by omega, by omega, ?_⟩, fun h4 => ⟨by omega, by omega, ?_⟩⟩, fun h3 => ?_⟩, fun h2 => ?_⟩, fun h1 => ?_⟩
  all_goals first | (unfold q_rg; omega) | skip
  · rw [if_neg h1, if_neg h2, if_neg h3, if_neg h4] at h; exact h
  · have hp1 : 1 ≤ p := by omega
    have e3 := r3 p hp1 hp.2
    have z4 := w4 p hp1 hp.2
    rw [e3]
    refine ⟨by omega, by omega, ?_⟩
    rw [(r8 (vLf V p) (by omega) (by omega)).2.2]
    rw [if_neg h1, if_neg h2, if_neg h3, if_pos (by omega)] at h; exact h
  · rw [if_neg h1, if_neg h2, if_pos (by omega)] at h; exact h
  · rw [if_neg h1, if_pos (by omega)] at h; exact h
  · rw [if_pos (by omega)] at h; exact h
theorem m_54 {s t : Int} (hR : v_rm S V) (hV : v_wf V) (hs : 0 ≤ s ∧ s < vSt V) (ht : 0 ≤ t ∧ t ≤ 8) (h : Q (v_sh V s t) S) : q_c 54 [vR 36, vI s, vI t] S Q Z := by
  obtain ⟨r1, r2, r3, r4, r5, r6, r7, -⟩ := hR
  obtain ⟨w1, w2, w3, w4, w5, -⟩ := hV
  refine b_54_0 ?_
  unfold v_sh at h
  refine ⟨fun h1 => ⟨?_, ?_, ?_, by omega, by omega, ?_⟩, fun h1 => ?_⟩
  all_goals first | (unfold q_rg; omega) | skip
  · rw [if_neg h1] at h
    have e := r7 s (8 + t) hs.1 hs.2 (by omega) (by omega)
    rw [← Int.add_assoc] at e
    rw [e]; exact h
  · rw [if_pos (by omega)] at h; exact h
theorem v_bt_q {s p t : Int} (hV : v_wf V) (ht : 0 ≤ t ∧ t ≤ 8) : q_and (q_shr (v_sb V s p 2) t) 1 = (if v_bt V s p t then 1 else 0) := n_shr1 (v_sb_sm hV).1 ht.1 (by omega)
theorem m_55 {s t : Int} (hR : v_rm S V) (hV : v_wf V) (hs : 0 ≤ s ∧ s < vSt V) (ht : 0 ≤ t ∧ t ≤ 8) (h : ∀ r, v_ls V s t 0 r → Q r S) : q_c 55 [vR 36, vI s, vI t] S Q Z := by
  refine b_55_0 ?_
  have hP := hR.1
  have hP2 := hV.1
  rw [hP]
  have key : ∀ (n : Nat) (f p : Int), p + 1 = n → p ≤ vP V → v_ls V s t (p + 1) f → q_r 55 8 [vR 36, vI s, vI t, vI f, vI p] [] S Q Z := by
    intro n
    induction n with
    | zero =>
      intro f p hn hp hf
      refine b_55_8 ⟨fun _ => h f ?_, fun h1 => by omega⟩
      have : p + 1 = 0 := by omega
      rw [this] at hf
      exact hf
    | succ n ih =>
      intro f p hn hp hf
      refine b_55_8 ⟨fun h1 => by omega, fun h1 => ?_⟩
      refine m_52 hR hV hs ⟨by omega, hp⟩ ?_
      rw [v_bt_q hV ht]
      have e : p + -1 + 1 = p := by omega
      cases hb : v_bt V s p t
      · refine ⟨fun _ => ⟨by unfold q_rg; omega, ih f (p + -1) (by omega) (by omega) ?_⟩, fun h2 => absurd h2 (by simp)⟩
        rw [e]
        rcases hf with ⟨f1, f2⟩ | ⟨⟨f1, f2⟩, f3, f4⟩
        · refine Or.inl ⟨f1, fun x hx1 hx2 => ?_⟩
          by_cases hxp : x = p
          · rw [hxp]; exact hb
          · exact f2 x (by omega) hx2
        · refine Or.inr ⟨⟨by omega, f2⟩, f3, fun x hx1 hx2 => ?_⟩
          by_cases hxp : x = p
          · rw [hxp]; exact hb
          · exact f4 x (by omega) hx2
      · refine ⟨fun h2 => absurd h2 (by simp), fun _ => ⟨by unfold q_rg; omega, ih p (p + -1) (by omega) (by omega) ?_⟩⟩
        rw [e]
        exact Or.inr ⟨⟨by omega, hp⟩, hb, fun x hx1 hx2 => by omega⟩
  refine key (vP V + 1).toNat (-1) (vP V) (by omega) (by omega) (Or.inl ⟨rfl, fun x h1 h2 => by omega⟩)
theorem m_56 {p : Int} (hR : v_rm S V) (hV : v_wf V) (hB : v_bm S b) (hp : 0 ≤ p ∧ p ≤ vP V) (h : Q (v_lev V b p) S) : q_c 56 [vR 36, vI p] S Q Z := by
  refine b_56_0 ?_
  obtain ⟨r1, r2, r3, r4, -⟩ := hR
  obtain ⟨w1, w2, w3, w4, -⟩ := hV
  have e2 := r2 p hp.1 hp.2
  have z2 := w2 p hp.1 hp.2
  have key : ∀ (i : Int) (x : Int), i ≤ vSz V p → (0 ≤ i ∧ x = v_lr V b p i.toNat) → q_r 56 4 [vR 36, vI p, vI x, vI i] [] S Q Z := by
    refine n_for (vSz V p) (fun i x => 0 ≤ i ∧ x = v_lr V b p i.toNat) (fun i x => q_r 56 4 [vR 36, vI p, vI x, vI i] [] S Q Z) ?_ ?_
    · rintro x ⟨-, rfl⟩
      refine b_56_4 ⟨by omega, by omega, fun _ => h, fun h1 => ?_⟩
      rw [e2] at h1; omega
    · rintro i x ⟨hi, rfl⟩ hlt ih
      have e4 := r4 p i hp.1 hp.2 hi hlt
      have z3 := w3 p i hp.1 hp.2 hi hlt
      have en : (i + 1).toNat = i.toNat + 1 := by omega
      have ei : ((i.toNat : Nat) : Int) = i := by omega
      refine b_56_4 ⟨by omega, by omega, fun h1 => ?_, fun h1 => ?_⟩
      · rw [e2] at h1; omega
      · rw [e4]
        refine ⟨by unfold q_rg; omega, by unfold q_rg; omega, by omega, by omega, fun h2 => ⟨by unfold q_rg; omega, ih _ ⟨by omega, ?_⟩⟩, fun h2 => ⟨by unfold q_rg; omega, by unfold q_rg; omega, by omega, by omega, by unfold q_rg; omega, by omega, by omega, by unfold q_rg; omega, ih _ ⟨by omega, ?_⟩⟩⟩
        · rw [en]
          show _ = v_lr V b p (i.toNat + 1)
          conv => rhs; unfold v_lr
          rw [ei, if_pos h2]
        · rw [en, (hB _ (by omega) (by omega)).1]
          show _ = v_lr V b p (i.toNat + 1)
          conv => rhs; unfold v_lr
          rw [ei, if_neg h2]
  exact key 0 0 (by omega) ⟨by omega, rfl⟩
end Query
