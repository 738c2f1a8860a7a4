/-! the start of the law: the world as the constructors leave it -/
theorem b_world_eq : b_world = b_wl := by decide +kernel
def b_S (k : Nat) (i : Int) : Int := match b_wl[k]? with
  | some (.inl (_, fs)) => (match fs[i.toNat]? with | some (kd, v) => (bif Nat.blt kd 3 && decide (0 ≤ i) then v else 0) | none => 0)
  | _ => 0
def q_S0 (Ls : Nat) (xs : Nat → Int32) : q_S := fun k i => if k = 63 then (if 0 ≤ i ∧ i < Ls then (xs i.toNat).toInt else 0) else if k = 64 then (Ls : Int) else if k = 65 then 0 else b_S k i
theorem q_S0_b {Ls : Nat} {xs : Nat → Int32} {k : Nat} (h : k < 63) : q_S0 Ls xs k = b_S k := by
  funext i
  unfold q_S0
  rw [if_neg (by omega), if_neg (by omega), if_neg (by omega)]
def b_ckf1 (fs : List (Nat × Int)) (ks : List Nat) (j : Nat) : Bool := match fs[j]?, ks[j]? with
  | some (kd, v), some t => (Nat.blt kd 3 && Nat.beq kd t && decide (0 ≤ v + 1 ∧ v ≤ 0) && (Nat.beq kd 0 || decide (v = 0))) || (Nat.beq kd 3 && Nat.beq t (v.toNat + 3) && Nat.blt v.toNat 63)
  | _, _ => false
def b_ckw (k : Nat) : Bool := match b_wl[k]? with
  | some (.inl (c, fs)) => (match q_ob k with
    | some (c', ks) => Nat.beq c c' && Nat.beq fs.length ks.length && q_all fs.length (b_ckf1 fs ks)
    | none => false)
  | some (.inr (t, n)) => (match q_ar k with | some (t', n') => Nat.beq t t' && decide (n' = (n : Int)) | none => false)
  | none => false
theorem b_k8 : q_all 63 b_ckw = true := by decide +kernel
theorem b_wl_len : b_wl.length = 63 := by decide +kernel
theorem b_en_eq {ad : Nat → Nat} {as : List Nat} {cA : Nat → ClassId} {Ls : Nat} {xs : Nat → Int32} (had : ∀ k, k < 63 → ad k = b_ad as k) {k : Nat} (hk : k < 63) {e : q_B} (he : b_wl[k]? = some e) : b_en (b_ad as) cA e = q_en ad cA (q_S0 Ls xs) k := by
  have h := q_all_of b_k8 k hk
  unfold b_ckw at h
  rw [he] at h
  match e, he, h with
  | .inl (c, fs), he, h =>
    cases hob : q_ob k with
    | none => simp [hob] at h
    | some q =>
      obtain ⟨c', ks⟩ := q
      simp only [hob, Bool.and_eq_true] at h
      obtain ⟨⟨h1, h2⟩, h3⟩ := h
      cases Nat.eq_of_beq_eq_true h1
      have h2 := Nat.eq_of_beq_eq_true h2
      unfold b_en q_en
      rw [hob]
      simp only
      congr 2
      refine List.ext_getElem? fun j => ?_
      rw [List.getElem?_map, List.getElem?_mapIdx]
      by_cases hj : j < fs.length
      · have h4 := q_all_of h3 j hj
        unfold b_ckf1 at h4
        have e1 : fs[j]? = some fs[j] := List.getElem?_eq_getElem hj
        have e2 : ks[j]? = some (ks[j]'(by omega)) := List.getElem?_eq_getElem (by omega)
        rw [e1, e2] at h4
        rw [e1, e2]
        simp only [Option.map_some]
        congr 1
        have e4 : q_S0 Ls xs k (j : Int) = (bif Nat.blt fs[j].1 3 && decide ((0 : Int) ≤ (j : Int)) then fs[j].2 else 0) := by
          rw [q_S0_b hk]
          unfold b_S
          rw [he]
          have : ((j : Int)).toNat = j := by omega
          simp only [this, e1]
        generalize fs[j] = f at h4 e4
        generalize ks[j]'(by omega) = t at h4
        obtain ⟨kd, v⟩ := f
        simp only [Bool.or_eq_true, Bool.and_eq_true] at h4
        have hj0 : decide ((0 : Int) ≤ (j : Int)) = true := decide_eq_true (by omega)
        rcases h4 with ⟨⟨⟨g1, g2⟩, -⟩, -⟩ | ⟨⟨g1, g2⟩, g3⟩
        · cases Nat.eq_of_beq_eq_true g2
          simp only [g1, hj0, Bool.and_true, cond_true] at e4
          have g1 : t < 3 := b_blt g1
          unfold b_fv q_fv
          rw [e4]
          match t, g1 with
          | 0, _ => rfl
          | 1, _ => rfl
          | 2, _ => rfl
        · cases Nat.eq_of_beq_eq_true g1
          rw [Nat.eq_of_beq_eq_true g2]
          unfold b_fv q_fv
          simp only
          rw [had _ (b_blt g3)]
      · rw [List.getElem?_eq_none (by omega), List.getElem?_eq_none (by omega)]
        rfl
  | .inr (t, n), he, h =>
    cases har : q_ar k with
    | none => simp [har] at h
    | some q =>
      obtain ⟨t', n'⟩ := q
      simp only [har, Bool.and_eq_true, decide_eq_true_eq] at h
      obtain ⟨h1, h2⟩ := h
      cases Nat.eq_of_beq_eq_true h1
      subst h2
      rw [q_en_ar har]
      unfold b_en
      simp only
      have e1 : q_S0 Ls xs k = fun _ => 0 := by
        rw [q_S0_b hk]
        funext i
        unfold b_S
        rw [he]
      rw [e1]
      simp
theorem b_wd_q {ad : Nat → Nat} {as : List Nat} {cA : Nat → ClassId} {Ls : Nat} {xs : Nat → Int32} (had : ∀ k, k < 63 → ad k = b_ad as k) : b_wd as cA b_wl = q_wd ad cA (q_S0 Ls xs) := by
  refine List.ext_getElem? fun k => ?_
  have hl := b_wl_len
  by_cases hk : k < 63
  · have he : b_wl[k]? = some (b_wl[k]'(by omega)) := List.getElem?_eq_getElem (by omega)
    rw [b_wd_at he, q_wd_at hk, b_en_eq had hk he, had k hk]
  · rw [List.getElem?_eq_none (by simp [b_wd, hl]; omega), List.getElem?_eq_none (by simp [q_wd]; omega)]
theorem q_ob_ar {k : Nat} {x : Nat × List Nat} (h : q_ob k = some x) : q_ar k = none := by
  cases ha : q_ar k with
  | none => rfl
  | some y => rw [q_ar_ob ha] at h; cases h
theorem q_S0_ok (Ls : Nat) (xs : Nat → Int32) : q_ok Ls xs (q_S0 Ls xs) := by
  refine ⟨fun k c ks j t hob ht => ?_, fun k t n i har h0 h1 => ?_, ?_, fun i hi => ?_, ?_⟩
  · have hk := q_ob_lt hob
    have h := q_all_of b_k8 k hk
    unfold b_ckw at h
    have hl := b_wl_len
    have he : b_wl[k]? = some (b_wl[k]'(by omega)) := List.getElem?_eq_getElem (by omega)
    rw [q_S0_b hk]
    unfold b_S
    rw [he] at h ⊢
    generalize b_wl[k]'(by omega) = e at h
    match e, h with
    | .inl (c', fs), h =>
      simp only [hob, Bool.and_eq_true] at h
      obtain ⟨⟨h1, h2⟩, h3⟩ := h
      have h2 := Nat.eq_of_beq_eq_true h2
      have hj : j < fs.length := by have := (List.getElem?_eq_some_iff.mp ht).1; omega
      have h4 := q_all_of h3 j hj
      unfold b_ckf1 at h4
      have e1 : fs[j]? = some fs[j] := List.getElem?_eq_getElem hj
      have e3 : ((j : Int)).toNat = j := by omega
      rw [e1, ht] at h4
      simp only [e3, e1]
      generalize fs[j] = f at h4
      obtain ⟨kd, v⟩ := f
      have hj0 : decide ((0 : Int) ≤ (j : Int)) = true := decide_eq_true (by omega)
      simp only [Bool.or_eq_true, Bool.and_eq_true, decide_eq_true_eq] at h4
      rcases h4 with ⟨⟨⟨g1, g2⟩, g3⟩, g4⟩ | ⟨⟨g1, g2⟩, g3⟩
      · cases Nat.eq_of_beq_eq_true g2
        simp only [g1, hj0, Bool.and_true, cond_true]
        have g1 : t < 3 := b_blt g1
        match t, g1, g4 with
        | 0, _, _ => exact ⟨by omega, by omega⟩
        | 1, _, g4 => rcases g4 with g4 | g4
                      · cases g4
                      · rw [g4]; exact ⟨by decide, by decide⟩
        | 2, _, g4 => rcases g4 with g4 | g4
                      · cases g4
                      · rw [g4]; exact ⟨by decide, by decide⟩
      · rw [Nat.eq_of_beq_eq_true g2]
        exact trivial
    | .inr _, h => rw [q_ob_ar hob] at h; cases h
  · have hk := q_ar_lt har
    have hl := b_wl_len
    have he : b_wl[k]? = some (b_wl[k]'(by omega)) := List.getElem?_eq_getElem (by omega)
    have h := q_all_of b_k8 k hk
    unfold b_ckw at h
    rw [q_S0_b hk]
    unfold b_S
    rw [he] at h ⊢
    generalize b_wl[k]'(by omega) = e at h
    match e, h with
    | .inl (c', fs), h => rw [q_ar_ob har] at h; cases h
    | .inr _, h =>
      show q_tr t 0
      have := (q_ar_ok har).1
      match t, this with
      | 0, _ => exact ⟨by decide, by decide⟩
      | 1, _ => exact ⟨by decide, by decide⟩
      | 2, _ => exact ⟨by decide, by decide⟩
      | 3, _ => exact ⟨by decide, by decide⟩
      | n + 4, h9 => omega
  · rfl
  · unfold q_S0
    rw [if_pos rfl, if_pos ⟨by omega, by omega⟩]
    simp
  · have : q_S0 Ls xs 65 0 = 0 := rfl
    rw [this]
    exact ⟨by decide, by decide⟩
