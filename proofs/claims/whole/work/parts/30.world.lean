/-! From the pure reading to the machine: values, locals, the world. -/
def q_r64 (x : Int) : Prop := -9223372036854775808 ≤ x ∧ x ≤ 9223372036854775807
theorem q_ti {a : Int} (h : q_rg a) : (Int32.ofInt a).toInt = a := Int32.toInt_ofInt_of_le (by have := h.1; omega) (by have := h.2; omega)
theorem q_tl {a : Int} (h : q_r64 a) : (Int64.ofInt a).toInt = a := Int64.toInt_ofInt_of_le (by have := h.1; omega) (by have := h.2; omega)
theorem q_rgI (x : Int32) : q_rg x.toInt := ⟨by have := x.le_toInt; omega, by have := x.toInt_lt; omega⟩
theorem q_rgL (x : Int64) : q_r64 x.toInt := ⟨by have := x.le_toInt; omega, by have := x.toInt_lt; omega⟩
theorem q_lt {a b : Int} (ha : q_rg a) (hb : q_rg b) : Int32.ofInt a < Int32.ofInt b ↔ a < b := by rw [Int32.lt_iff_toInt_lt, q_ti ha, q_ti hb]
theorem q_le {a b : Int} (ha : q_rg a) (hb : q_rg b) : Int32.ofInt a ≤ Int32.ofInt b ↔ a ≤ b := by rw [Int32.le_iff_toInt_le, q_ti ha, q_ti hb]
theorem q_eq {a b : Int} (ha : q_rg a) (hb : q_rg b) : Int32.ofInt a = Int32.ofInt b ↔ a = b := by rw [← Int32.toInt_inj, q_ti ha, q_ti hb]
theorem q_rg0 : q_rg 0 := ⟨by decide, by decide⟩
theorem q_cl_nat {a : Int} (h : q_rg a) (h0 : 0 ≤ a) : (Int32.ofInt a).toNatClampNeg = a.toNat := by
  show (Int32.ofInt a).toInt.toNat = a.toNat
  rw [q_ti h]
theorem q_nI {a : Int} (h0 : 0 ≤ a) : Int32.ofInt a = nI a.toNat := by
  obtain ⟨n, rfl⟩ := Int.eq_ofNat_of_zero_le h0
  show Int32.ofInt (n : Int) = Int32.ofNat n
  exact Int32.ofInt_eq_ofNat
theorem q_div {a b : Int} (ha : q_rg a) (hb : q_rg b) (h0 : 0 ≤ a) (h1 : 0 < b) : Int32.ofInt a / Int32.ofInt b = Int32.ofInt (a / b) := by
  obtain ⟨n, rfl⟩ := Int.eq_ofNat_of_zero_le h0
  obtain ⟨d, rfl⟩ := Int.eq_ofNat_of_zero_le (Int.le_of_lt h1)
  have e : ((n : Int) / (d : Int)) = ((n / d : Nat) : Int) := by simp
  rw [e]
  rw [show Int32.ofInt (n : Int) = nI n from Int32.ofInt_eq_ofNat, show Int32.ofInt (d : Int) = nI d from Int32.ofInt_eq_ofNat, show Int32.ofInt ((n / d : Nat) : Int) = nI (n / d) from Int32.ofInt_eq_ofNat]
  exact pk_div (by have := ha.2; omega) (by omega) (by have := hb.2; omega)
theorem q_rem {a b : Int} (ha : q_rg a) (hb : q_rg b) (h0 : 0 ≤ a) (h1 : 0 < b) : Int32.ofInt a - Int32.ofInt a / Int32.ofInt b * Int32.ofInt b = Int32.ofInt (a % b) := by
  obtain ⟨n, rfl⟩ := Int.eq_ofNat_of_zero_le h0
  obtain ⟨d, rfl⟩ := Int.eq_ofNat_of_zero_le (Int.le_of_lt h1)
  have e : ((n : Int) % (d : Int)) = ((n % d : Nat) : Int) := by simp
  rw [e]
  rw [show Int32.ofInt (n : Int) = nI n from Int32.ofInt_eq_ofNat, show Int32.ofInt (d : Int) = nI d from Int32.ofInt_eq_ofNat, show Int32.ofInt ((n % d : Nat) : Int) = nI (n % d) from Int32.ofInt_eq_ofNat]
  exact pk_rem (by have := ha.2; omega) (by omega) (by have := hb.2; omega)
theorem q_rdiv {a b : Int} (ha : q_rg a) (h0 : 0 ≤ a) (h1 : 0 < b) : q_rg (a / b) := by
  have h2 : 0 ≤ a / b := Int.ediv_nonneg h0 (by omega)
  have h3 : a / b ≤ a := Int.ediv_le_self b h0
  exact ⟨by omega, by have := ha.2; omega⟩
theorem q_rrem {a b : Int} (hb : q_rg b) (h1 : 0 < b) : q_rg (a % b) := by
  have h2 : 0 ≤ a % b := Int.emod_nonneg a (by omega)
  have h3 : a % b < b := Int.emod_lt_of_pos a h1
  exact ⟨by omega, by have := hb.2; omega⟩
theorem q_vin {i : Int} {n : Nat} (h : q_rg i) (h0 : 0 ≤ i) (h1 : i < n) : vp_in (Int32.ofInt i) n := vp_in_iff.mpr (by rw [q_ti h]; exact ⟨h0, h1⟩)
theorem q_i2l {a : Int} (h : q_rg a) : (Int32.ofInt a).toInt64 = Int64.ofInt a := by
  rw [← Int64.toInt_inj, Int32.toInt_toInt64, q_ti h, q_tl ⟨by have := h.1; omega, by have := h.2; omega⟩]
theorem q_i2c {a : Int} (h : q_rg a) : ((Int32.ofInt a).toUInt32 % 65536).toInt32 = Int32.ofInt (a % 65536) := by
  rw [pk_char]
  have e : ((Int32.ofInt a).toBitVec.toNat : Int) = a % 4294967296 := by
    show ((BitVec.ofInt 32 a).toNat : Int) = _
    rw [BitVec.toNat_ofInt]
    have : 0 ≤ a % 4294967296 := Int.emod_nonneg a (by decide)
    omega
  rw [q_nI (a := a % 65536) (Int.emod_nonneg a (by decide))]
  congr 1
  omega
theorem q_rcm {a : Int} : q_rg (a % 65536) := ⟨by have := Int.emod_nonneg a (show (65536 : Int) ≠ 0 by decide); omega, by have := Int.emod_lt_of_pos a (show (0 : Int) < 65536 by decide); omega⟩
-- values
def q_rv (ad : Nat → Nat) (v : q_V) (x : Value) : Prop := match v with
  | .inl (.inl a) => q_rg a ∧ x = .int (Int32.ofInt a)
  | .inr a => q_r64 a ∧ x = .long (Int64.ofInt a)
  | .inl (.inr (.inl k)) => x = .ref (ad k)
  | .inl (.inr (.inr _)) => x.category = 1
def q_sr (ad : Nat → Nat) : List q_V → List Value → Prop
  | [], [] => True
  | v :: r, x :: y => q_rv ad v x ∧ q_sr ad r y
  | _, _ => False
def q_l1r (ad : Nat → Nat) (v : q_V) (x : Option Slot) : Prop := match v with
  | .inl (.inl a) => q_rg a ∧ x = some (.val (.int (Int32.ofInt a)))
  | .inr a => q_r64 a ∧ x = some (.val (.long (Int64.ofInt a)))
  | .inl (.inr (.inl k)) => x = some (.val (.ref (ad k)))
  | .inl (.inr (.inr _)) => True
def q_lr (ad : Nat → Nat) (L : List q_V) (ls : Array Slot) : Prop := ls.size = L.length ∧ lv_wf ls ∧ ∀ (i : Nat) (v : q_V), L[i]? = some v → q_l1r ad v ls[i]?
def q_lvA (ls : Array Slot) : List (Nat × Value) := (List.range ls.size).filterMap (fun (j : Nat) => match ls[j]? with | some (Slot.val v) => some (j, v) | _ => none)
theorem q_lvA_has {ls : Array Slot} (h : lv_wf ls) : lv_has ls ls.size (q_lvA ls) := by
  refine ⟨rfl, h, ?_⟩
  intro q hq
  obtain ⟨j, -, hj⟩ := List.mem_filterMap.mp hq
  split at hj
  · rename_i v hv
    cases hj
    exact hv
  · cases hj
theorem q_lvA_mem {ls : Array Slot} {j : Nat} {v : Value} (h : ls[j]? = some (.val v)) : (j, v) ∈ q_lvA ls := by
  refine List.mem_filterMap.mpr ⟨j, List.mem_range.mpr (Array.getElem?_eq_some_iff.mp h).1, ?_⟩
  rw [h]
/-- behind a store -/
theorem q_lr_set {ad : Nat → Nat} {L : List q_V} {ls ls' : Array Slot} {i : Nat} {w : q_V} {x : Value} (h : q_lr ad L ls) (h0 : q_st0 L i = true) (hx : q_l1r ad w (some (.val x))) (hi : i < L.length)
    (h' : lv_has ls' ls.size ((i, x) :: (q_lvA ls).filter (fun q => !(q.1 == i) && !(q.1 + 1 == i && q.2.category == 2)))) : q_lr ad (L.set i w) ls' := by
  obtain ⟨a1, a2, a3⟩ := h'
  refine ⟨by rw [a1, h.1, List.length_set], a2, ?_⟩
  intro j v hv
  by_cases e : j = i
  · subst e
    rw [List.getElem?_set_self hi] at hv
    cases hv
    rw [a3 (j, x) List.mem_cons_self]
    exact hx
  · rw [List.getElem?_set_ne (fun h => e h.symm)] at hv
    have hb := h.2.2 j v hv
    have keep : ∀ y : Value, ls[j]? = some (.val y) → (y.category = 1 ∨ ¬ j + 1 = i) → ls'[j]? = some (.val y) := by
      intro y hy hc
      refine a3 (j, y) (List.mem_cons_of_mem _ (List.mem_filter.mpr ⟨q_lvA_mem hy, ?_⟩))
      rcases hc with hc | hc
      · simp [e, hc]
      · simp [e, hc]
    match v, hv, hb with
    | .inl (.inl a), _, hb => exact ⟨hb.1, keep _ hb.2 (Or.inl rfl)⟩
    | .inl (.inr (.inl k)), _, hb => exact keep _ hb (Or.inl rfl)
    | .inl (.inr (.inr _)), _, _ => exact trivial
    | .inr a, hv, hb =>
      refine ⟨hb.1, keep _ hb.2 (Or.inr ?_)⟩
      intro e2
      subst e2
      simp [q_st0, hv] at h0
theorem q_l1r_of {ad : Nat → Nat} {w : q_V} {x : Value} (h : q_rv ad w x) : q_l1r ad w (some (.val x)) := by
  match w, h with
  | .inl (.inl a), h => exact ⟨h.1, by rw [h.2]⟩
  | .inl (.inr (.inl k)), h => exact congrArg (fun z => some (Slot.val z)) h
  | .inl (.inr (.inr _)), _ => exact trivial
  | .inr a, h => exact ⟨h.1, by rw [h.2]⟩
/-! the world's cells -/
theorem q_up_ne {S : q_S} {k a : Nat} {i v : Int} (h : a ≠ k) : q_up S k i v a = S a := by
  have : Nat.beq a k = false := by cases e : Nat.beq a k with | false => rfl | true => exact absurd (Nat.eq_of_beq_eq_true e) h
  simp [q_up, this]
theorem q_up_eq {S : q_S} {k : Nat} {i v : Int} : q_up S k i v k = fun b => if b = i then v else S k b := by
  have : Nat.beq k k = true := Nat.beq_refl k
  simp [q_up, this]
theorem q_cpy_ne {S : q_S} {ks kd a : Nat} {sp dp n : Int} (h : a ≠ kd) : q_cpy S ks sp kd dp n a = S a := by
  have : Nat.beq a kd = false := by cases e : Nat.beq a kd with | false => rfl | true => exact absurd (Nat.eq_of_beq_eq_true e) h
  simp [q_cpy, this]
theorem q_cpy_eq {S : q_S} {ks kd : Nat} {sp dp n : Int} : q_cpy S ks sp kd dp n kd = fun b => if dp ≤ b ∧ b < dp + n then S ks (sp + (b - dp)) else S kd b := by
  have : Nat.beq kd kd = true := Nat.beq_refl kd
  simp [q_cpy, this]
theorem q_ob_lt {k : Nat} {x : Nat × List Nat} (h : q_ob k = some x) : k < 63 := by
  by_cases e : k < 63
  · exact e
  · have : Nat.blt k 63 = false := by
      cases e2 : Nat.blt k 63 with
      | false => rfl
      | true => exact absurd (Nat.le_of_ble_eq_true e2) e
    unfold q_ob at h
    rw [this] at h
    cases h
theorem q_ar_lt {k : Nat} {x : Nat × Int} (h : q_ar k = some x) : k < 63 := by
  by_cases e : k < 63
  · exact e
  · have : Nat.blt k 63 = false := by
      cases e2 : Nat.blt k 63 with
      | false => rfl
      | true => exact absurd (Nat.le_of_ble_eq_true e2) e
    unfold q_ar at h
    rw [this] at h
    cases h
def q_cka (k : Nat) : Bool := ((q_ob k).isNone || (q_ar k).isNone) && ((match q_ar k with | some (t, n) => Nat.ble t 3 && decide (0 ≤ n ∧ n ≤ 100000) | none => true) && (match q_ob k with | some (c, ks) => ks.all (fun t => Nat.blt t 66) && (match q_cls[c]? with | some (_, _, n) => Nat.beq n ks.length | none => false) | none => true))
theorem k_a : q_all 63 q_cka = true := by decide +kernel
theorem q_cka_of {k : Nat} (h : k < 63) : q_cka k = true := q_all_of k_a k h
theorem q_ar_ob {k : Nat} {x : Nat × Int} (h : q_ar k = some x) : q_ob k = none := by
  have h1 := q_cka_of (q_ar_lt h)
  cases hb : q_ob k with
  | none => rfl
  | some y => rw [q_cka, hb, h] at h1; simp at h1
theorem q_ar_ok {k t : Nat} {n : Int} (h : q_ar k = some (t, n)) : t ≤ 3 ∧ 0 ≤ n ∧ n ≤ 100000 := by
  have h1 := q_cka_of (q_ar_lt h)
  rw [q_cka, h, q_ar_ob h] at h1
  simp at h1
  exact h1
theorem q_ob_ok {k c : Nat} {ks : List Nat} (h : q_ob k = some (c, ks)) : ∃ C T, q_cls[c]? = some (C, T, ks.length) := by
  have h1 := q_cka_of (q_ob_lt h)
  rw [q_cka, h] at h1
  cases hc : q_cls[c]? with
  | none => simp [hc] at h1
  | some q =>
    obtain ⟨C, T, n⟩ := q
    have e : n = ks.length := by
      simp only [hc, Bool.and_eq_true] at h1
      exact Nat.eq_of_beq_eq_true h1.2.2.2
    exact ⟨C, T, by rw [e]⟩
def q_fv (ad : Nat → Nat) (S : q_S) (k j t : Nat) : Value := match t with
  | 0 => .int (Int32.ofInt (S k j))
  | 1 => .int (Int32.ofInt (S k j))
  | 2 => .long (Int64.ofInt (S k j))
  | t + 3 => .ref (ad t)
def q_ae (c : ClassId) (t n : Nat) (f : Int → Int) : va_E := bif Nat.beq t 3 then .inl (c, n, .inr (.inl (fun j => Int64.ofInt (f j)))) else .inl (c, n, .inl (fun j => Int32.ofInt (f j)))
def q_en (ad : Nat → Nat) (cA : Nat → ClassId) (S : q_S) (k : Nat) : va_E := match q_ob k with
  | some (ci, ks) => .inr (ci, ks.mapIdx (fun j t => q_fv ad S k j t))
  | none => (match q_ar k with | some (t, n) => q_ae (cA t) t n.toNat (S k) | none => .inr (99, []))
def q_wd (ad : Nat → Nat) (cA : Nat → ClassId) (S : q_S) : va_W := (List.range 63).map (fun k => (ad k, q_en ad cA S k))
theorem q_wd_at {ad : Nat → Nat} {cA : Nat → ClassId} {S : q_S} {k : Nat} (hk : k < 63) : (q_wd ad cA S)[k]? = some (ad k, q_en ad cA S k) := by
  simp [q_wd, hk]
theorem q_en_congr {ad : Nat → Nat} {cA : Nat → ClassId} {S S' : q_S} {k : Nat} (h : S' k = S k) : q_en ad cA S' k = q_en ad cA S k := by
  have e : ∀ j t, q_fv ad S' k j t = q_fv ad S k j t := by
    intro j t
    unfold q_fv
    rw [h]
  unfold q_en
  rw [h]
  simp only [e]
theorem q_wd_set {ad : Nat → Nat} {cA : Nat → ClassId} {S S' : q_S} {k : Nat} (hk : k < 63) (h : ∀ a, a ≠ k → S' a = S a) : q_wd ad cA S' = (q_wd ad cA S).set k (ad k, q_en ad cA S' k) := by
  refine List.ext_getElem? fun i => ?_
  by_cases hi : i < 63
  · rw [q_wd_at hi, List.getElem?_set]
    by_cases e : k = i
    · subst e
      simp [q_wd, hk]
    · rw [if_neg e, q_wd_at hi, q_en_congr (h i (fun h => e h.symm))]
  · rw [List.getElem?_eq_none (by simp [q_wd]; omega), List.getElem?_eq_none (by simp [q_wd]; omega)]
theorem q_wd_same {ad : Nat → Nat} {cA : Nat → ClassId} {S S' : q_S} (h : ∀ a, a < 63 → S' a = S a) : q_wd ad cA S' = q_wd ad cA S := by
  refine List.ext_getElem? fun i => ?_
  by_cases hi : i < 63
  · rw [q_wd_at hi, q_wd_at hi, q_en_congr (h i hi)]
  · rw [List.getElem?_eq_none (by simp [q_wd]; omega), List.getElem?_eq_none (by simp [q_wd]; omega)]
theorem q_en_put {ad : Nat → Nat} {cA : Nat → ClassId} {S : q_S} {k ci j t : Nat} {ks : List Nat} {a : Int} (hob : q_ob k = some (ci, ks)) (ht : ks[j]? = some t) :
    q_en ad cA (q_up S k (j : Int) a) k = .inr (ci, (ks.mapIdx (fun j t => q_fv ad S k j t)).set j (q_fv ad (q_up S k (j : Int) a) k j t)) := by
  unfold q_en
  rw [hob]
  simp only
  congr 2
  refine List.ext_getElem? fun i => ?_
  rw [List.getElem?_set]
  have hj : j < ks.length := (List.getElem?_eq_some_iff.mp ht).1
  by_cases e : j = i
  · subst e
    simp [hj, ht]
    exact congrArg _ (Option.some.inj (by rw [← ht]; simp [hj]))
  · rw [if_neg e]
    simp only [List.getElem?_mapIdx]
    congr 1
    funext t
    unfold q_fv
    rw [q_up_eq]
    have : ¬ ((i : Int) = (j : Int)) := by omega
    simp [this]
theorem q_en_ar {ad : Nat → Nat} {cA : Nat → ClassId} {S : q_S} {k t : Nat} {n : Int} (h : q_ar k = some (t, n)) : q_en ad cA S k = q_ae (cA t) t n.toNat (S k) := by
  unfold q_en
  rw [q_ar_ob h]
  simp only [h]
theorem q_ae_i {c : ClassId} {t n : Nat} {f : Int → Int} (h : t ≠ 3) : q_ae c t n f = .inl (c, n, .inl (fun j => Int32.ofInt (f j))) := by
  have : Nat.beq t 3 = false := by cases e : Nat.beq t 3 with | false => rfl | true => exact absurd (Nat.eq_of_beq_eq_true e) h
  simp [q_ae, this]
theorem q_ae_l {c : ClassId} {n : Nat} {f : Int → Int} : q_ae c 3 n f = .inl (c, n, .inr (.inl (fun j => Int64.ofInt (f j)))) := rfl
theorem q_upd_i {S : q_S} {k : Nat} {i v : Int} (hi : 0 ≤ i) : (fun j : Nat => Int32.ofInt (q_up S k i v k j)) = upd (fun j : Nat => Int32.ofInt (S k j)) i.toNat (Int32.ofInt v) := by
  funext j
  rw [q_up_eq]
  unfold upd
  by_cases e : (j : Int) = i
  · have : j = i.toNat := by omega
    rw [if_pos this]
    exact congrArg _ (if_pos e)
  · have : ¬ j = i.toNat := by omega
    simp [this, e]
theorem q_upd_l {S : q_S} {k : Nat} {i v : Int} (hi : 0 ≤ i) : (fun j : Nat => Int64.ofInt (q_up S k i v k j)) = vp_updL (fun j : Nat => Int64.ofInt (S k j)) i.toNat (Int64.ofInt v) := by
  funext j
  rw [q_up_eq]
  unfold vp_updL
  by_cases e : (j : Int) = i
  · have : j = i.toNat := by omega
    rw [if_pos this]
    exact congrArg _ (if_pos e)
  · have : ¬ j = i.toNat := by omega
    simp [this, e]
-- ranges
def q_kr (t : Nat) (x : Int) : Prop := match t with | 0 => q_rg x | 1 => q_bo x | 2 => q_r64 x | _ => True
def q_tr (t : Nat) (x : Int) : Prop := match t with | 0 => q_rg x | 1 => q_bo x | 2 => q_ch x | _ => q_r64 x
def q_ok (Ls : Nat) (xs : Nat → Int32) (S : q_S) : Prop := (∀ (k c : Nat) (ks : List Nat) (j t : Nat), q_ob k = some (c, ks) → ks[j]? = some t → q_kr t (S k j)) ∧ (∀ (k t : Nat) (n i : Int), q_ar k = some (t, n) → 0 ≤ i → i < n → q_tr t (S k i)) ∧ S 64 0 = Ls ∧ (∀ i : Nat, i < Ls → S 63 i = (xs i).toInt) ∧ 0 ≤ S 65 0 ∧ S 65 0 ≤ 1000
theorem q_tr_rg {t : Nat} {x : Int} (h : q_tr t x) (ht : t ≠ 3) (ht3 : t ≤ 3) : q_rg x := by
  match t, h, ht, ht3 with
  | 0, h, _, _ => exact h
  | 1, h, _, _ => exact ⟨by have := h.1; omega, by have := h.2; omega⟩
  | 2, h, _, _ => exact ⟨by have := h.1; omega, by have := h.2; omega⟩
  | 3, _, h, _ => exact absurd rfl h
  | t + 4, _, _, h => omega
theorem q_ok_set {Ls : Nat} {xs : Nat → Int32} {S S' : q_S} {k : Nat} (h : q_ok Ls xs S) (hk : k < 63) (hs : ∀ a, a ≠ k → S' a = S a) (ho : ∀ (c : Nat) (ks : List Nat) (j t : Nat), q_ob k = some (c, ks) → ks[j]? = some t → q_kr t (S' k j)) (ha : ∀ (t : Nat) (n i : Int), q_ar k = some (t, n) → 0 ≤ i → i < n → q_tr t (S' k i)) : q_ok Ls xs S' := by
  obtain ⟨h1, h2, h3, h4, h5⟩ := h
  refine ⟨fun k' c ks j t hb ht => ?_, fun k' t n i hb h0 hn => ?_, by rw [hs 64 (by omega)]; exact h3, fun i hi => by rw [hs 63 (by omega)]; exact h4 i hi, by rw [hs 65 (by omega)]; exact h5⟩
  · by_cases e : k' = k
    · subst e; exact ho c ks j t hb ht
    · rw [hs k' e]; exact h1 k' c ks j t hb ht
  · by_cases e : k' = k
    · subst e; exact ha t n i hb h0 hn
    · rw [hs k' e]; exact h2 k' t n i hb h0 hn
theorem q_ok_up_o {Ls : Nat} {xs : Nat → Int32} {S : q_S} {k c j t : Nat} {ks : List Nat} {a : Int} (h : q_ok Ls xs S) (hb : q_ob k = some (c, ks)) (ht : ks[j]? = some t) (hr : q_kr t a) : q_ok Ls xs (q_up S k (j : Int) a) := by
  refine q_ok_set h (q_ob_lt hb) (fun a ha => q_up_ne ha) ?_ ?_
  · intro c' ks' j' t' hb' ht'
    rw [hb] at hb'
    cases hb'
    rw [q_up_eq]
    by_cases e : (j' : Int) = (j : Int)
    · have e2 : j' = j := by omega
      subst e2
      rw [ht] at ht'
      cases ht'
      simpa using hr
    · simp only [e, if_false]
      exact h.1 k c ks j' t' hb ht'
  · intro t' n i hb'
    rw [q_ar_ob hb'] at hb
    cases hb
theorem q_ok_up_a {Ls : Nat} {xs : Nat → Int32} {S : q_S} {k t : Nat} {n i a : Int} (h : q_ok Ls xs S) (hb : q_ar k = some (t, n)) (hr : q_tr t a) : q_ok Ls xs (q_up S k i a) := by
  refine q_ok_set h (q_ar_lt hb) (fun a ha => q_up_ne ha) ?_ ?_
  · intro c' ks' j' t' hb' ht'
    rw [q_ar_ob hb] at hb'
    cases hb'
  · intro t' n' i' hb' h0 h1
    rw [hb] at hb'
    cases hb'
    rw [q_up_eq]
    by_cases e : i' = i
    · simpa [e] using hr
    · simp only [e, if_false]
      exact h.2.1 k t n i' hb h0 h1
theorem q_ok_tk {Ls : Nat} {xs : Nat → Int32} {S : q_S} (h : q_ok Ls xs S) (h1 : S 65 0 < 1000) : q_ok Ls xs (q_tk S) := by
  obtain ⟨a1, a2, a3, a4, a5, a6⟩ := h
  have e : ∀ a, a ≠ 65 → q_tk S a = S a := fun a ha => q_up_ne ha
  refine ⟨fun k' c ks j t hb ht => ?_, fun k' t n i hb h0 hn => ?_, by rw [e 64 (by omega)]; exact a3, fun i hi => by rw [e 63 (by omega)]; exact a4 i hi, ?_⟩
  · have := q_ob_lt hb
    rw [e k' (by omega)]; exact a1 k' c ks j t hb ht
  · have := q_ar_lt hb
    rw [e k' (by omega)]; exact a2 k' t n i hb h0 hn
  · have : q_tk S 65 0 = S 65 0 + 1 := by unfold q_tk; rw [q_up_eq]; simp
    rw [this]
    omega
