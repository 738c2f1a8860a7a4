/-! the states, abstractly -/
def x_cl (V : v_V) (K : Int → Int → Prop) (p d : Int) : Prop := ∀ C : Int → Int → Prop, (∀ p d, K p d → C p d) → (∀ p d q, C p d → 0 ≤ d → d < vSz V p → 1 ≤ q → q ≤ vP V → vLf V q = vLt V p d → C q 0) → C p d
def x_va (V : v_V) (p d : Int) : Prop := (0 ≤ p ∧ p ≤ vP V) ∧ 0 ≤ d ∧ d ≤ vSz V p
def x_mv (V : v_V) (s y p d : Int) : Prop := 1 ≤ d ∧ vIt V s p (d - 1) = 1 ∧ d - 1 < vSz V p ∧ vLt V p (d - 1) = y
noncomputable def x_ind (c : Prop) : Int := @ite Int c (Classical.propDecidable _) 1 0
def w_go (V : v_V) (s y t : Int) : v_V := fun k a b c => if k = 6 ∧ a = s ∧ b = y then t else V k a b c
noncomputable def w_st (V : v_V) (K : Int → Int → Prop) : v_V := fun k a b c => if k = 4 then vSt V + 1 else if k = 5 ∧ a = vSt V then x_ind (x_cl V K b c) else V k a b c
def v_geq (V V' : v_V) : Prop := vP V' = vP V ∧ (∀ p, vLf V' p = vLf V p) ∧ (∀ p, vSz V' p = vSz V p) ∧ (∀ p i, vLt V' p i = vLt V p i)
def x_kr (V : v_V) (t p d : Int) : Prop := (t = 0 ∧ p = 0 ∧ d = 0) ∨ (t ≠ 0 ∧ 1 ≤ d ∧ vIt V t p d = 1)
def x_sm (V : v_V) (t : Int) (K : Int → Int → Prop) : Prop := ∀ p d, vIt V t p d = 1 ↔ x_cl V K p d
def x_gd (V : v_V) (s y : Int) : Prop := (vGo V s y = -1 ∧ ∀ p d, ¬ x_mv V s y p d) ∨ ((0 ≤ vGo V s y ∧ vGo V s y < vSt V) ∧ (∃ p d, x_mv V s y p d) ∧ x_sm V (vGo V s y) (x_mv V s y))
def x_B (V : v_V) (k : Int) : Prop := (1 ≤ vSt V ∧ vSt V ≤ 40) ∧ (∀ s p d, vIt V s p d = 0 ∨ vIt V s p d = 1) ∧ (∀ t, 0 ≤ t → t < vSt V → x_sm V t (x_kr V t)) ∧ (∀ t, 1 ≤ t → t < vSt V → ∃ p d, 1 ≤ d ∧ vIt V t p d = 1) ∧ (∀ t p d, 0 ≤ t → t < vSt V → vIt V t p d = 1 → x_va V p d) ∧ (∀ s y, 0 ≤ s → s < vSt V → 0 ≤ y → y < 16 → 16 * s + y < k → x_gd V s y)
def x_st (V : v_V) (s y : Int) (V' : v_V) : Prop := ((∀ p d, ¬ x_mv V s y p d) ∧ V' = w_go V s y (-1)) ∨ ((∃ p d, x_mv V s y p d) ∧ ((∃ t, (0 ≤ t ∧ t < vSt V) ∧ x_sm V t (x_mv V s y) ∧ (∀ t', 0 ≤ t' → t' < t → ¬ x_sm V t' (x_mv V s y)) ∧ V' = w_go V s y t) ∨ ((∀ t, 0 ≤ t → t < vSt V → ¬ x_sm V t (x_mv V s y)) ∧ vSt V < 40 ∧ V' = w_go (w_st V (x_mv V s y)) s y (vSt V))))
def x_fl (V : v_V) (s y : Int) : Prop := (∃ p d, x_mv V s y p d) ∧ (∀ t, 0 ≤ t → t < vSt V → ¬ x_sm V t (x_mv V s y)) ∧ vSt V = 40
section States
variable {V V' : v_V} {K K' : Int → Int → Prop}
theorem x_ind_r (c : Prop) : x_ind c = 0 ∨ x_ind c = 1 := by
  unfold x_ind
  by_cases h : c
  · rw [if_pos h]; exact Or.inr rfl
  · rw [if_neg h]; exact Or.inl rfl
theorem x_ind_1 (c : Prop) : x_ind c = 1 ↔ c := by
  unfold x_ind
  by_cases h : c
  · rw [if_pos h]; exact ⟨fun _ => h, fun _ => rfl⟩
  · rw [if_neg h]; exact ⟨fun q => by omega, fun q => absurd q h⟩
theorem x_cl_k {p d : Int} (h : K p d) : x_cl V K p d := fun _ h1 _ => h1 p d h
theorem x_cl_c {p d q : Int} (h : x_cl V K p d) (d0 : 0 ≤ d) (h1 : d < vSz V p) (q1 : 1 ≤ q) (q2 : q ≤ vP V) (e : vLf V q = vLt V p d) : x_cl V K q 0 := fun C c1 c2 => c2 p d q (h C c1 c2) d0 h1 q1 q2 e
theorem x_cl_1 {p d : Int} (h : x_cl V K p d) (hd : 1 ≤ d) : K p d := by
  have := h (fun p d => 1 ≤ d → K p d) (fun p d hk _ => hk) (fun p d q _ _ _ _ _ _ h0 => by omega)
  exact this hd
theorem x_cl_m (hK : ∀ p d, K p d → K' p d) {p d : Int} (h : x_cl V K p d) : x_cl V K' p d := fun C c1 c2 => h C (fun p d q => c1 p d (hK p d q)) c2
theorem x_cl_v (hV : v_gw V) (hK : ∀ p d, K p d → x_va V p d) {p d : Int} (h : x_cl V K p d) : x_va V p d := h (x_va V) hK fun p d q _ _ _ q1 q2 _ => ⟨⟨by omega, q2⟩, by omega, (hV.2.1 q (by omega) q2).1⟩
theorem x_cl_geq (h : v_geq V V') {p d : Int} : x_cl V' K p d ↔ x_cl V K p d := by
  obtain ⟨h1, h2, h3, h4⟩ := h
  unfold x_cl
  simp only [h1, h2, h3, h4]
theorem v_gw_geq (h : v_geq V V') : v_gw V → v_gw V' := by
  obtain ⟨h1, h2, h3, h4⟩ := h
  unfold v_gw
  simp only [h1, h2, h3, h4]
  exact fun q => q
theorem v_gc_geq {S : q_S} (h : v_geq V V') : v_gc S V → v_gc S V' := by
  obtain ⟨h1, h2, h3, h4⟩ := h
  unfold v_gc
  simp only [h1, h2, h3, h4]
  exact fun q => q
theorem v_geq_t {V'' : v_V} (h : v_geq V V') (h' : v_geq V' V'') : v_geq V V'' := by
  obtain ⟨h1, h2, h3, h4⟩ := h
  obtain ⟨g1, g2, g3, g4⟩ := h'
  exact ⟨g1.trans h1, fun p => (g2 p).trans (h2 p), fun p => (g3 p).trans (h3 p), fun p i => (g4 p i).trans (h4 p i)⟩
theorem v_geq_r : v_geq V V := ⟨rfl, fun _ => rfl, fun _ => rfl, fun _ _ => rfl⟩
theorem w_go_g {s y t : Int} : v_geq V (w_go V s y t) := ⟨rfl, fun _ => rfl, fun _ => rfl, fun _ _ => rfl⟩
theorem w_st_g : v_geq V (w_st V K) := ⟨rfl, fun _ => rfl, fun _ => rfl, fun _ _ => rfl⟩
theorem w_go_s {s y t : Int} : vSt (w_go V s y t) = vSt V := rfl
theorem w_go_i {s y t a p d : Int} : vIt (w_go V s y t) a p d = vIt V a p d := rfl
theorem w_go_o {s y t a b : Int} : vGo (w_go V s y t) a b = if a = s ∧ b = y then t else vGo V a b := by
  show (if 6 = 6 ∧ a = s ∧ b = y then t else V 6 a b 0) = _
  simp
theorem w_st_s : vSt (w_st V K) = vSt V + 1 := rfl
theorem w_st_o {a b : Int} : vGo (w_st V K) a b = vGo V a b := rfl
theorem w_st_i {a p d : Int} : vIt (w_st V K) a p d = if a = vSt V then x_ind (x_cl V K p d) else vIt V a p d := by
  show (if 5 = 4 then vSt V + 1 else if 5 = 5 ∧ a = vSt V then x_ind (x_cl V K p d) else V 5 a p d) = _
  simp
theorem x_mv_v (hV : v_gw V) {k s y : Int} (hB : x_B V k) (hs : 0 ≤ s ∧ s < vSt V) {p d : Int} (h : x_mv V s y p d) : x_va V p d ∧ 1 ≤ d ∧ d ≤ 4 := by
  obtain ⟨h1, h2, h3, h4⟩ := h
  have a1 := hB.2.2.2.2.1 s p (d - 1) hs.1 hs.2 h2
  have a2 := hV.2.1 p a1.1.1 a1.1.2
  exact ⟨⟨a1.1, by omega, by omega⟩, h1, by omega⟩
theorem x_mv_old {s y a b t : Int} (hs : s < vSt V) : x_mv (w_go (w_st V K) a b t) s y = x_mv V s y := funext fun p => funext fun d => propext (by
  have old : vIt (w_st V K) s p (d - 1) = vIt V s p (d - 1) := by rw [w_st_i, if_neg (by omega)]
  unfold x_mv
  rw [w_go_i, old]
  exact Iff.rfl)
theorem x_0d {k : Int} (hB : x_B V k) {p d : Int} (hd : 1 ≤ d) : vIt V 0 p d ≠ 1 := by
  intro h
  have h1 := (hB.2.2.1 0 (by omega) (by have := hB.1; omega) p d).mp h
  have h2 := x_cl_1 h1 hd
  rcases h2 with ⟨-, -, h2⟩ | ⟨h2, -⟩
  · omega
  · exact h2 rfl
/-- the kernel tells the closed set -/
theorem x_eqk {k t : Int} (hB : x_B V k) (ht : 0 ≤ t ∧ t < vSt V) (hK : ∀ p d, K p d → 1 ≤ d) (hne : ∃ p d, K p d) : x_sm V t K ↔ ∀ p d, 1 ≤ d → (vIt V t p d = 1 ↔ K p d) := by
  constructor
  · intro h p d hd
    rw [h p d]
    exact ⟨fun q => x_cl_1 q hd, fun q => x_cl_k q⟩
  · intro h p d
    by_cases e : t = 0
    · obtain ⟨p', d', q⟩ := hne
      have := (h p' d' (hK p' d' q)).mpr q
      rw [e] at this
      exact absurd this (x_0d hB (hK p' d' q))
    · rw [hB.2.2.1 t ht.1 ht.2 p d]
      constructor
      · refine x_cl_m fun p d q => ?_
        rcases q with ⟨q, -⟩ | ⟨-, q1, q2⟩
        · exact absurd q e
        · exact (h p d q1).mp q2
      · exact x_cl_m fun p d q => Or.inr ⟨e, hK p d q, (h p d (hK p d q)).mpr q⟩
theorem x_gd_w {s y a b t : Int} (h : x_gd V s y) (hn : ¬ (s = a ∧ y = b)) : x_gd (w_go V a b t) s y := by
  unfold x_gd at h ⊢
  rw [w_go_o, if_neg hn]
  rcases h with h | ⟨h1, h2, h3⟩
  · exact Or.inl h
  · exact Or.inr ⟨h1, h2, h3⟩
theorem x_B_go {s y t : Int} (hB : x_B V (16 * s + y)) (hs : 0 ≤ s ∧ s < vSt V) (hy : 0 ≤ y ∧ y < 16) (hg : x_gd (w_go V s y t) s y) : x_B (w_go V s y t) (16 * s + y + 1) := by
  obtain ⟨b1, b2, b3, b4, b5, b6⟩ := hB
  refine ⟨b1, b2, b3, b4, b5, fun a b a0 a1 b0 b1' hlt => ?_⟩
  by_cases e : a = s ∧ b = y
  · rw [e.1, e.2]; exact hg
  · exact x_gd_w (b6 a b a0 a1 b0 b1' (by omega)) e
theorem x_B_st {k : Int} (hV : v_gw V) (hB : x_B V k) (hK : ∀ p d, K p d → 1 ≤ d ∧ x_va V p d) (hne : ∃ p d, K p d) (h40 : vSt V < 40) (hk : k ≤ 16 * vSt V) : x_B (w_st V K) k := by
  obtain ⟨b1, b2, b3, b4, b5, b6⟩ := hB
  have old : ∀ a p d, a < vSt V → vIt (w_st V K) a p d = vIt V a p d := fun a p d h => by rw [w_st_i, if_neg (by omega)]
  have new : ∀ p d, vIt (w_st V K) (vSt V) p d = x_ind (x_cl V K p d) := fun p d => by rw [w_st_i, if_pos rfl]
  refine ⟨by rw [w_st_s]; omega, fun a p d => ?_, fun t t0 t1 p d => ?_, fun t t0 t1 => ?_, fun t p d t0 t1 h => ?_, fun a b a0 a1 b0 b1' hlt => ?_⟩
  · rw [w_st_i]
    split
    · exact x_ind_r _
    · exact b2 a p d
  · rw [w_st_s] at t1
    rw [x_cl_geq w_st_g]
    by_cases e : t = vSt V
    · subst e
      rw [new, x_ind_1]
      constructor
      · refine x_cl_m fun p d q => Or.inr ⟨by omega, (hK p d q).1, ?_⟩
        rw [new, x_ind_1]; exact x_cl_k q
      · refine x_cl_m fun p d q => ?_
        rcases q with ⟨q, -⟩ | ⟨-, q1, q2⟩
        · omega
        · rw [new, x_ind_1] at q2; exact x_cl_1 q2 q1
    · rw [old t p d (by omega), b3 t t0 (by omega) p d]
      constructor
      · refine x_cl_m fun p d q => ?_
        rcases q with q | ⟨q1, q2, q3⟩
        · exact Or.inl q
        · exact Or.inr ⟨q1, q2, by rw [old t p d (by omega)]; exact q3⟩
      · refine x_cl_m fun p d q => ?_
        rcases q with q | ⟨q1, q2, q3⟩
        · exact Or.inl q
        · rw [old t p d (by omega)] at q3
          exact Or.inr ⟨q1, q2, q3⟩
  · rw [w_st_s] at t1
    by_cases e : t = vSt V
    · subst e
      obtain ⟨p, d, q⟩ := hne
      exact ⟨p, d, (hK p d q).1, by rw [new, x_ind_1]; exact x_cl_k q⟩
    · obtain ⟨p, d, q1, q2⟩ := b4 t t0 (by omega)
      exact ⟨p, d, q1, by rw [old t p d (by omega)]; exact q2⟩
  · rw [w_st_s] at t1
    by_cases e : t = vSt V
    · subst e
      rw [new, x_ind_1] at h
      exact x_cl_v hV (fun p d q => (hK p d q).2) h
    · rw [old t p d (by omega)] at h
      exact b5 t p d t0 (by omega) h
  · rw [w_st_s] at a1
    have ha : a < vSt V := by omega
    have mv : ∀ p d, x_mv (w_st V K) a b p d ↔ x_mv V a b p d := fun p d => by
      unfold x_mv
      rw [old a p (d - 1) ha]
      exact Iff.rfl
    have mve : x_mv (w_st V K) a b = x_mv V a b := funext fun p => funext fun d => propext (mv p d)
    rcases b6 a b a0 ha b0 b1' hlt with ⟨q1, q2⟩ | ⟨q1, q2, q3⟩
    · exact Or.inl ⟨q1, fun p d h => q2 p d ((mv p d).mp h)⟩
    · refine Or.inr ⟨by rw [w_st_o, w_st_s]; omega, by rw [mve]; exact q2, fun p d => ?_⟩
      rw [mve, w_st_o, old _ p d q1.2, x_cl_geq w_st_g]
      exact q3 p d
theorem x_st_B {s y : Int} (hV : v_gw V) (hB : x_B V (16 * s + y)) (hs : 0 ≤ s ∧ s < vSt V) (hy : 0 ≤ y ∧ y < 16) (h : x_st V s y V') : x_B V' (16 * s + y + 1) ∧ v_geq V V' ∧ vSt V ≤ vSt V' := by
  rcases h with ⟨h1, rfl⟩ | ⟨h1, ⟨t, t1, t2, t3, rfl⟩ | ⟨h2, h3, rfl⟩⟩
  · refine ⟨x_B_go hB hs hy (Or.inl ⟨by rw [w_go_o, if_pos ⟨rfl, rfl⟩], h1⟩), w_go_g, by rw [w_go_s]; omega⟩
  · refine ⟨x_B_go hB hs hy (Or.inr ?_), w_go_g, by rw [w_go_s]; omega⟩
    rw [w_go_o, if_pos ⟨rfl, rfl⟩]
    exact ⟨t1, h1, t2⟩
  · have hB' := x_B_st (K := x_mv V s y) hV hB (fun p d q => ⟨q.1, (x_mv_v hV hB hs q).1⟩) h1 h3 (by omega)
    refine ⟨x_B_go hB' (by rw [w_st_s]; omega) hy (Or.inr ?_), v_geq_t w_st_g w_go_g, by rw [w_go_s, w_st_s]; omega⟩
    rw [w_go_o, if_pos ⟨rfl, rfl⟩]
    have mve : x_mv (w_go (w_st V (x_mv V s y)) s y (vSt V)) s y = x_mv V s y := x_mv_old hs.2
    refine ⟨by rw [w_go_s, w_st_s]; omega, by rw [mve]; exact h1, fun p d => ?_⟩
    rw [mve, x_cl_geq (v_geq_t w_st_g w_go_g), w_go_i, w_st_i, if_pos rfl, x_ind_1]
/-- the first state -/
theorem x_B_0 (hV : v_gw V) (h0 : vSt V = 0) (hi : ∀ s p d, vIt V s p d = 0 ∨ vIt V s p d = 1) : x_B (w_st V (fun p d => p = 0 ∧ d = 0)) 0 := by
  have new : ∀ p d, vIt (w_st V (fun p d => p = 0 ∧ d = 0)) 0 p d = x_ind (x_cl V (fun p d => p = 0 ∧ d = 0) p d) := fun p d => by rw [w_st_i, h0, if_pos rfl]
  refine ⟨by rw [w_st_s]; omega, fun a p d => ?_, fun t t0 t1 p d => ?_, fun t t0 t1 => ?_, fun t p d t0 t1 h => ?_, fun a b a0 a1 b0 b1 hlt => by omega⟩
  · rw [w_st_i]
    split
    · exact x_ind_r _
    · exact hi a p d
  · rw [w_st_s] at t1
    have : t = 0 := by omega
    subst this
    rw [new, x_ind_1, x_cl_geq w_st_g]
    constructor
    · exact x_cl_m fun p d q => Or.inl ⟨rfl, q⟩
    · refine x_cl_m fun p d q => ?_
      rcases q with ⟨-, q⟩ | ⟨q, -⟩
      · exact q
      · exact absurd rfl q
  · rw [w_st_s] at t1; omega
  · rw [w_st_s] at t1
    have : t = 0 := by omega
    subst this
    rw [new, x_ind_1] at h
    refine x_cl_v hV (fun p d q => ?_) h
    have := hV.1
    have := hV.2.1 p (by omega) (by omega)
    exact ⟨by omega, by omega, by omega⟩
/-- the states are whole: what the parser and the queries need -/
theorem x_B_px (hV : v_gw V) (hB : x_B V (16 * vSt V)) : v_px V ∧ v_wi V ∧ ∀ s y, 0 ≤ s → s < vSt V → 0 ≤ y → y < 16 → -1 ≤ vGo V s y ∧ vGo V s y < vSt V := by
  obtain ⟨b1, b2, b3, b4, b5, b6⟩ := hB
  refine ⟨⟨fun s y s0 s1 y0 y1 hne p d hd hi => ?_, fun p d hd => x_0d ⟨b1, b2, b3, b4, b5, b6⟩ hd, fun s p s0 s1 p1 hi => ?_⟩, fun s p d s0 s1 hi => ?_, fun s y s0 s1 y0 y1 => ?_⟩
  · rcases b6 s y s0 s1 y0 y1 (by omega) with ⟨q, -⟩ | ⟨-, -, q⟩
    · exact absurd q hne
    · have := x_cl_1 ((q p d).mp hi) hd
      exact ⟨this.2.1, this.2.2.2⟩
  · have va := b5 s p 0 s0 s1 hi
    have z4 := hV.2.2.2 p p1 va.1.2
    have hc := (b3 s s0 s1 p 0).mp hi
    have key := hc (fun p d => vIt V s p d = 1 ∧ (d = 0 → 1 ≤ p → ∃ q e, vIt V s q e = 1 ∧ (0 ≤ e ∧ e < vSz V q) ∧ vLt V q e = vLf V p)) (fun p d q => ⟨(b3 s s0 s1 p d).mpr (x_cl_k q), fun d0 p1 => by
      rcases q with ⟨-, q, -⟩ | ⟨-, q, -⟩
      · omega
      · omega⟩) (fun p d q h d0 d1 q1 q2 e => ⟨(b3 s s0 s1 q 0).mpr (x_cl_c ((b3 s s0 s1 p d).mp h.1) d0 d1 q1 q2 e), fun _ _ => ⟨p, d, h.1, ⟨d0, d1⟩, e.symm⟩⟩)
    obtain ⟨q, e, k1, k2, k3⟩ := key.2 rfl p1
    rcases b6 s (vLf V p) s0 s1 z4.1 (by omega) (by omega) with ⟨-, q2⟩ | ⟨q2, -⟩
    · exact absurd ⟨by omega, by rw [show e + 1 - 1 = e by omega]; exact k1, by omega, by rw [show e + 1 - 1 = e by omega]; exact k3⟩ (q2 q (e + 1))
    · omega
  · exact b5 s p d s0 s1 hi
  · rcases b6 s y s0 s1 y0 y1 (by omega) with ⟨q, -⟩ | ⟨q, -⟩
    · omega
    · omega
end States
