/-! what stays as it was -/
def n_fr (ks : List Nat) (fs : List (Nat × Int)) (S T : q_S) : Prop := ∀ k i, ks.contains k = false → fs.contains (k, i) = false → T k i = S k i
def n_ok (ks : List Nat) (fs : List (Nat × Int)) (k : Nat) : Bool := !ks.contains k && fs.all (fun f => !Nat.beq f.1 k)
def n_okf (ks : List Nat) (fs : List (Nat × Int)) (k : Nat) (i : Int) : Bool := !ks.contains k && !fs.contains (k, i)
section Frames
variable {ks : List Nat} {fs : List (Nat × Int)} {S T U : q_S} {V : v_V} {b : v_B}
theorem n_fr_c (h : n_fr ks fs S T) {k : Nat} (hk : n_ok ks fs k = true) : T k = S k := by
  unfold n_ok at hk
  rw [Bool.and_eq_true, Bool.not_eq_true'] at hk
  refine funext fun i => h k i hk.1 ?_
  cases hc : fs.contains (k, i) with
  | false => rfl
  | true =>
    have h1 : (k, i) ∈ fs := by simpa using hc
    have h2 := List.all_eq_true.mp hk.2 _ h1
    simp at h2
theorem n_fr_f (h : n_fr ks fs S T) {k : Nat} {i : Int} (hk : n_okf ks fs k i = true) : T k i = S k i := by
  unfold n_okf at hk
  rw [Bool.and_eq_true, Bool.not_eq_true', Bool.not_eq_true'] at hk
  exact h k i hk.1 hk.2
theorem n_fr_r : n_fr ks fs S S := fun _ _ _ _ => rfl
theorem n_fr_t (h : n_fr ks fs S T) (h' : n_fr ks fs T U) : n_fr ks fs S U := fun k i h1 h2 => (h' k i h1 h2).trans (h k i h1 h2)
theorem n_fr_k (h : n_fr ks fs S T) {k : Nat} {i v : Int} (hk : ks.contains k = true) : n_fr ks fs S (q_up T k i v) := fun k' i' h1 h2 => by
  rw [n_up, if_neg, h k' i' h1 h2]
  rintro ⟨rfl, -⟩
  rw [hk] at h1; cases h1
theorem n_fr_i (h : n_fr ks fs S T) {k : Nat} {i v : Int} (hk : fs.contains (k, i) = true) : n_fr ks fs S (q_up T k i v) := fun k' i' h1 h2 => by
  rw [n_up, if_neg, h k' i' h1 h2]
  rintro ⟨rfl, rfl⟩
  rw [hk] at h2; cases h2
/-- a smaller frame is a larger one -/
theorem n_fr_w {ks' : List Nat} {fs' : List (Nat × Int)} (h : n_fr ks fs S T) (h1 : ks.all (fun k => ks'.contains k) = true) (h2 : fs.all (fun f => ks'.contains f.1 || fs'.contains f) = true) : n_fr ks' fs' S T := by
  intro k i g1 g2
  refine h k i ?_ ?_
  · cases hc : ks.contains k with
    | false => rfl
    | true =>
      have m : k ∈ ks := by simpa using hc
      have := List.all_eq_true.mp h1 _ m
      rw [g1] at this; cases this
  · cases hc : fs.contains (k, i) with
    | false => rfl
    | true =>
      have m : (k, i) ∈ fs := by simpa using hc
      have := List.all_eq_true.mp h2 _ m
      simp only at this
      rw [g1, g2] at this; cases this
def j_gk : List Nat := [4, 5, 6, 8, 13, 14, 17, 18, 22, 38, 39, 40, 43, 45, 46, 47, 48, 49, 50]
def j_gf : List (Nat × Int) := [(3, 4), (16, 0), (12, 4), (36, 5), (36, 17)]
theorem n_all_c {l : List Nat} (h : n_fr ks fs S T) (hk : l.all (fun k => n_ok ks fs k) = true) {k : Nat} (hm : l.contains k = true) : T k = S k := n_fr_c h (List.all_eq_true.mp hk _ (by simpa using hm))
theorem n_all_f {l : List (Nat × Int)} (h : n_fr ks fs S T) (hk : l.all (fun f => n_okf ks fs f.1 f.2) = true) {k : Nat} {i : Int} (hm : l.contains (k, i) = true) : T k i = S k i := n_fr_f h (List.all_eq_true.mp hk _ (by simpa using hm))
theorem j_g_rm (h : n_fr ks fs S T) (h1 : j_gk.all (fun k => n_ok ks fs k) = true) (h2 : j_gf.all (fun f => n_okf ks fs f.1 f.2) = true) (hg : v_rm S V) : v_rm T V := by
  unfold v_rm at hg ⊢
  rw [n_all_c h h1 (k := 38) (by decide), n_all_c h h1 (k := 39) (by decide), n_all_c h h1 (k := 40) (by decide), n_all_c h h1 (k := 43) (by decide), n_all_c h h1 (k := 45) (by decide), n_all_c h h1 (k := 46) (by decide), n_all_c h h1 (k := 47) (by decide), n_all_c h h1 (k := 48) (by decide), n_all_c h h1 (k := 49) (by decide), n_all_c h h1 (k := 50) (by decide), n_all_f h h2 (k := 36) (i := 5) (by decide), n_all_f h h2 (k := 36) (i := 17) (by decide)]
  exact hg
theorem j_g_rc (h : n_fr ks fs S T) (h1 : j_gk.all (fun k => n_ok ks fs k) = true) (h2 : j_gf.all (fun f => n_okf ks fs f.1 f.2) = true) (hg : v_rc S V) : v_rc T V := by
  unfold v_rc at hg ⊢
  rw [n_all_c h h1 (k := 4) (by decide), n_all_c h h1 (k := 5) (by decide), n_all_c h h1 (k := 6) (by decide), n_all_c h h1 (k := 8) (by decide), n_all_c h h1 (k := 13) (by decide), n_all_c h h1 (k := 14) (by decide), n_all_c h h1 (k := 17) (by decide), n_all_c h h1 (k := 18) (by decide), n_all_c h h1 (k := 22) (by decide), n_all_f h h2 (k := 3) (i := 4) (by decide), n_all_f h h2 (k := 16) (i := 0) (by decide), n_all_f h h2 (k := 12) (i := 4) (by decide)]
  exact hg
theorem j_g_fr (h : n_fr ks fs S T) (h1 : j_gk.all (fun k => n_ok ks fs k) = true) (h2 : j_gf.all (fun f => n_okf ks fs f.1 f.2) = true) (hg : j_g S V) : j_g T V := by
  obtain ⟨g1, g2, g3, g4, g5, g6⟩ := hg
  exact ⟨g1, g2, g3, g4, j_g_rm h h1 h2 g5, j_g_rc h h1 h2 g6⟩
def j_pk : List Nat := [27, 28, 29, 31, 32, 33, 34, 35, 54, 55, 56, 57, 58, 59, 60, 61]
def j_pf : List (Nat × Int) := [(30, 5), (36, 25), (36, 26), (36, 27), (36, 28), (36, 29), (36, 30)]
theorem j_p_fr (h : n_fr ks fs S T) (h1 : j_pk.all (fun k => n_ok ks fs k) = true) (h2 : j_pf.all (fun f => n_okf ks fs f.1 f.2) = true) (hg : j_p S V) : j_p T V := by
  unfold j_p j_nz at hg ⊢
  rw [n_all_c h h1 (k := 27) (by decide), n_all_c h h1 (k := 28) (by decide), n_all_c h h1 (k := 29) (by decide), n_all_c h h1 (k := 31) (by decide), n_all_c h h1 (k := 32) (by decide), n_all_c h h1 (k := 33) (by decide), n_all_c h h1 (k := 34) (by decide), n_all_c h h1 (k := 35) (by decide), n_all_c h h1 (k := 54) (by decide), n_all_c h h1 (k := 55) (by decide), n_all_c h h1 (k := 56) (by decide), n_all_c h h1 (k := 57) (by decide), n_all_c h h1 (k := 58) (by decide), n_all_c h h1 (k := 59) (by decide), n_all_c h h1 (k := 60) (by decide), n_all_c h h1 (k := 61) (by decide), n_all_f h h2 (k := 30) (i := 5) (by decide),
    n_all_f h h2 (k := 36) (i := 25) (by decide), n_all_f h h2 (k := 36) (i := 26) (by decide), n_all_f h h2 (k := 36) (i := 27) (by decide), n_all_f h h2 (k := 36) (i := 28) (by decide), n_all_f h h2 (k := 36) (i := 29) (by decide), n_all_f h h2 (k := 36) (i := 30) (by decide)]
  exact hg
end Frames
