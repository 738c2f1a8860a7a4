/-! one instruction: what is not a call, a throw or a return -/
section Simple
variable {E : q_E} {y pc len : Nat} {L st : List q_V} {S : q_S} {Q : q_Q} {Z : q_Z} {p : Program} {l : Launch} {e : Env} {R : Room} {s : State} {m : MethodId} {args : Array Value} {below : List Frame} {meth : Method} {c : Code} {H : Heap} {locs : List Loc} {cells slots : Nat} {ls : Array Slot} {sv : List Value} {Qf : State → Prop}
def q_go (E : q_E) (y : Nat) (p : Program) (l : Launch) (e : Env) (R : Room) (s : State) (m : MethodId) (args : Array Value) (below : List Frame) (meth : Method) (c : Code) (cells slots : Nat) (Qf : State → Prop) (K : q_K) : Prop :=
  ∀ (pc' : Nat) (L' st' : List q_V) (S' : q_S) (H' : Heap) (locs' : List Loc) (ls' : Array Slot) (sv' : List Value), K pc' L' st' S' → q_lr E.1 L' ls' → L'.length = q_ml y → q_sr E.1 st' sv' → q_Wd E S' H' locs' → S' 65 = S 65 → W p l e R s m args below meth c H' locs' cells slots Qf (F0 m pc' ls' sv')
def q_oth (i : Instr) : Bool := match i with | .invokevirtual _ => true | .invokestatic _ => true | .new _ => true | .ireturn => true | .return_ => true | _ => false
theorem q_s_load {j : Nat} {v : q_V} {x : Option Slot} (hl : q_lr E.1 L ls) (h : L[j]? = some v) (hx : ls[j]? = x) : q_l1r E.1 v x := hx ▸ hl.2.2 j v h
theorem q_if {cnd : Jvm.ClassFile.Cond} {o : Int} {a : Int} {rv : List Value} (hx : p.tables.exec = Jvm.exec) (hb : c.code = q_by y) (hd : decode (q_by y) pc = .ok (.ifCond cnd o, 3)) (ht : q_to pc o = true) (ha : q_rg a)
    (k1 : q_cmp cnd a 0 → W p l e R s m args below meth c H locs cells slots Qf (F0 m (q_tg pc o) ls rv)) (k2 : ¬ q_cmp cnd a 0 → W p l e R s m args below meth c H locs cells slots Qf (F0 m (pc + 3) ls rv)) :
    W p l e R s m args below meth c H locs cells slots Qf (F0 m pc ls (.int (Int32.ofInt a) :: rv)) := by
  have z : (0 : Int32) = Int32.ofInt 0 := rfl
  cases cnd
  · exact lv_if_eq hx hb hd (q_tgt ht) (fun h => k1 ((q_eq ha q_rg0).mp h)) (fun h => k2 (fun h2 => h ((q_eq ha q_rg0).mpr h2)))
  · exact lv_if_ne hx hb hd (q_tgt ht) (fun h => k1 (fun h2 => h ((q_eq ha q_rg0).mpr h2))) (fun h => k2 (fun h2 => h2 ((q_eq ha q_rg0).mp h)))
  · exact lv_if_lt hx hb hd (q_tgt ht) (fun h => k1 ((q_lt ha q_rg0).mp h)) (fun h => k2 (fun h2 => h ((q_lt ha q_rg0).mpr h2)))
  · exact lv_if_ge hx hb hd (q_tgt ht) (fun h => k1 ((q_le q_rg0 ha).mp h)) (fun h => k2 (fun h2 => h ((q_le q_rg0 ha).mpr h2)))
  · exact lv_if_gt hx hb hd (q_tgt ht) (fun h => k1 ((q_lt q_rg0 ha).mp h)) (fun h => k2 (fun h2 => h ((q_lt q_rg0 ha).mpr h2)))
  · exact lv_if_le hx hb hd (q_tgt ht) (fun h => k1 ((q_le ha q_rg0).mp h)) (fun h => k2 (fun h2 => h ((q_le ha q_rg0).mpr h2)))
theorem q_ifc {cnd : Jvm.ClassFile.Cond} {o : Int} {a b : Int} {rv : List Value} (hx : p.tables.exec = Jvm.exec) (hb : c.code = q_by y) (hd : decode (q_by y) pc = .ok (.if_icmp cnd o, 3)) (ht : q_to pc o = true) (ha : q_rg a) (hb' : q_rg b)
    (k1 : q_cmp cnd a b → W p l e R s m args below meth c H locs cells slots Qf (F0 m (q_tg pc o) ls rv)) (k2 : ¬ q_cmp cnd a b → W p l e R s m args below meth c H locs cells slots Qf (F0 m (pc + 3) ls rv)) :
    W p l e R s m args below meth c H locs cells slots Qf (F0 m pc ls (.int (Int32.ofInt b) :: .int (Int32.ofInt a) :: rv)) := by
  cases cnd
  · exact lv_icmp_eq hx hb hd (q_tgt ht) (fun h => k1 ((q_eq ha hb').mp h)) (fun h => k2 (fun h2 => h ((q_eq ha hb').mpr h2)))
  · exact lv_icmp_ne hx hb hd (q_tgt ht) (fun h => k1 (fun h2 => h ((q_eq ha hb').mpr h2))) (fun h => k2 (fun h2 => h2 ((q_eq ha hb').mp h)))
  · exact lv_icmp_lt hx hb hd (q_tgt ht) (fun h => k1 ((q_lt ha hb').mp h)) (fun h => k2 (fun h2 => h ((q_lt ha hb').mpr h2)))
  · exact lv_icmp_ge hx hb hd (q_tgt ht) (fun h => k1 ((q_le hb' ha).mp h)) (fun h => k2 (fun h2 => h ((q_le hb' ha).mpr h2)))
  · exact lv_icmp_gt hx hb hd (q_tgt ht) (fun h => k1 ((q_lt hb' ha).mp h)) (fun h => k2 (fun h2 => h ((q_lt hb' ha).mpr h2)))
  · exact lv_icmp_le hx hb hd (q_tgt ht) (fun h => k1 ((q_le ha hb').mp h)) (fun h => k2 (fun h2 => h ((q_le ha hb').mpr h2)))
theorem q_sw_o {a : Int} {k : Nat → Prop} : ∀ {os : List Int} {lo : Int} {n : Nat} {o : Int}, q_sw pc a k lo os → os[n]? = some o → a = lo + n → k (q_tg pc o)
  | [], _, n, _, _, h, _ => by simp at h
  | _ :: _, lo, 0, _, hs, h, ha => by
    simp at h
    subst h
    exact hs.1 (by omega)
  | _ :: os, lo, n + 1, o, hs, h, ha => by
    simp at h
    exact q_sw_o hs.2 h (by omega)
theorem q_lw_o {a : Int} {k : Nat → Prop} {d : Int} : ∀ {ps : List (Int × Int)}, q_lw pc a k d ps → k (q_tg pc (Op.lookupswitch.offset ps d a))
  | [], h => h
  | (v, o) :: ps, h => by
    rw [Op.lookupswitch.offset_cons]
    by_cases e : a = v
    · rw [if_pos e.symm]; exact h.1 e
    · rw [if_neg (fun h => e h.symm)]; exact q_lw_o (h.2 e)
theorem q_lw_t {a : Int} {d : Int} (hd : q_to pc d = true) : ∀ {ps : List (Int × Int)}, ps.all (fun q => q_to pc q.2) = true → q_to pc (Op.lookupswitch.offset ps d a) = true
  | [], _ => hd
  | (v, o) :: ps, h => by
    rw [Op.lookupswitch.offset_cons]
    rw [List.all_cons, Bool.and_eq_true] at h
    split
    · exact h.1
    · exact q_lw_t hd h.2
theorem q_gf_o {x k : Nat} {f : q_V → Prop} (h : q_gf y x k S f) : ∃ ci j jj ks t, q_fl y x = some (ci, j, jj) ∧ q_ob k = some (ci, ks) ∧ ks[j]? = some t ∧ q_gv S k jj f t := by
  unfold q_gf at h
  split at h
  · rename_i ci j jj c fs h1 h2
    cases hb : Nat.beq ci c <;> rw [hb] at h
    · exact h.elim
    · cases Nat.eq_of_beq_eq_true hb
      simp only [cond_true] at h
      split at h
      · rename_i t ht
        exact ⟨ci, j, jj, fs, t, h1, h2, ht, h⟩
      · exact h.elim
  · exact h.elim
theorem q_fl_o {x ci j : Nat} {jj : Int} (hy : q_mc y < 14) (h : q_fl y x = some (ci, j, jj)) : ∃ C T n, q_cls[ci]? = some (C, T, n) ∧ j < n ∧ jj = (j : Int) ∧ Cond.fieldLink (q_own (q_mc y)) x C (T j).2.1 (T j).2.2.1 ∈ lw_tbl ∧ q_gd (Cond.fieldLink (q_own (q_mc y)) x C (T j).2.1 (T j).2.2.1) = true ∧ (T j).1 = C := by
  have h4 : x < 400 ∧ q_fls (q_mc y) x = some (ci, j, jj) := by
    unfold q_fl at h
    cases hb4 : Nat.blt x 400 <;> rw [hb4] at h
    · cases h
    · exact ⟨Nat.le_of_ble_eq_true hb4, h⟩
  have h5 := q_all_of (q_all_of k_f _ hy) x h4.1
  simp only [q_ckf, h4.2] at h5
  cases hc : q_cls[ci]? with
  | none => simp [hc] at h5
  | some q =>
    obtain ⟨C, T, n⟩ := q
    simp only [hc, Bool.and_eq_true, decide_eq_true_eq] at h5
    have h6 := q_w_mem h5.2
    exact ⟨C, T, n, rfl, Nat.le_of_ble_eq_true h5.1.1.1, h5.1.1.2, h6.1, h6.2, h5.1.2⟩
theorem q_lay_hts {ci n : Nat} {C : String} {T : u_T} (hct : q_Ct E s) (hc : q_cls[ci]? = some (C, T, n)) : ∀ w ∈ u_ws C T n, w.before args s = true := by
  have h12 : ci < 12 := (List.getElem?_eq_some_iff.mp hc).1
  have h := q_all_of k_y ci h12
  simp only [q_cky, hc, Bool.and_eq_true] at h
  intro w hw
  obtain ⟨j, hj, rfl⟩ := List.mem_map.mp hw
  have h6 := q_w_mem (q_all_of h.1 j (List.mem_range.mp hj))
  exact hct.1 _ h6.1 h6.2 _
theorem q_al_o {ty k : Nat} {i : Int} {f : Int → Prop} (h : q_al ty k i S f) : (k = 63 ∧ ty = 0 ∧ 0 ≤ i ∧ i < S 64 0 ∧ f (S 63 i)) ∨ ∃ n, q_ar k = some (ty, n) ∧ 0 ≤ i ∧ i < n ∧ f (S k i) := by
  unfold q_al at h
  cases hb : Nat.beq k 63 <;> rw [hb] at h
  · simp only [cond_false] at h
    split at h
    · rename_i t n har
      cases ht : Nat.beq t ty <;> rw [ht] at h
      · exact h.elim
      · cases Nat.eq_of_beq_eq_true ht
        exact Or.inr ⟨n, har, h⟩
    · exact h.elim
  · simp only [cond_true] at h
    cases ht : Nat.beq ty 0 <;> rw [ht] at h
    · exact h.elim
    · exact Or.inl ⟨Nat.eq_of_beq_eq_true hb, Nat.eq_of_beq_eq_true ht, h⟩
theorem q_ln_o {k : Nat} {f : Int → Prop} (h : q_ln k S f) : (k = 63 ∧ f (S 64 0)) ∨ ∃ t n, q_ar k = some (t, n) ∧ f n := by
  unfold q_ln at h
  cases hb : Nat.beq k 63 <;> rw [hb] at h
  · simp only [cond_false] at h
    split at h
    · rename_i t n har
      exact Or.inr ⟨t, n, har, h⟩
    · exact h.elim
  · exact Or.inl ⟨Nat.eq_of_beq_eq_true hb, h⟩
theorem q_at_o {ty k : Nat} {i : Int} {f : Prop} (h : q_at ty k i f) : ∃ n, q_ar k = some (ty, n) ∧ 0 ≤ i ∧ i < n ∧ f := by
  unfold q_at at h
  split at h
  · rename_i t n har
    cases ht : Nat.beq t ty <;> rw [ht] at h
    · exact h.elim
    · cases Nat.eq_of_beq_eq_true ht
      exact ⟨n, har, h⟩
  · exact h.elim
theorem q_wd_ar {ad : Nat → Nat} {cA : Nat → ClassId} {k t : Nat} {n : Int} (h : q_ar k = some (t, n)) (ht : t ≠ 3) : (q_wd ad cA S)[k]? = some (ad k, .inl (cA t, n.toNat, .inl (fun j : Nat => Int32.ofInt (S k j)))) := by
  rw [q_wd_at (q_ar_lt h), q_en_ar h, q_ae_i ht]
theorem q_wd_arl {ad : Nat → Nat} {cA : Nat → ClassId} {k : Nat} {n : Int} (h : q_ar k = some (3, n)) : (q_wd ad cA S)[k]? = some (ad k, .inl (cA 3, n.toNat, .inr (.inl (fun j : Nat => Int64.ofInt (S k j))))) := by
  rw [q_wd_at (q_ar_lt h), q_en_ar h, q_ae_l]
theorem q_ast_i {ad : Nat → Nat} {cA : Nat → ClassId} {k t : Nat} {n i v : Int} (h : q_ar k = some (t, n)) (ht : t ≠ 3) (hi : 0 ≤ i) : (q_wd ad cA S).set k (ad k, .inl (cA t, n.toNat, .inl (upd (fun j : Nat => Int32.ofInt (S k j)) i.toNat (Int32.ofInt v)))) = q_wd ad cA (q_up S k i v) := by
  rw [q_wd_set (S := S) (q_ar_lt h) (fun b hb => q_up_ne hb), q_en_ar h, q_ae_i ht, q_upd_i hi]
theorem q_ast_l {ad : Nat → Nat} {cA : Nat → ClassId} {k : Nat} {n i v : Int} (h : q_ar k = some (3, n)) (hi : 0 ≤ i) : (q_wd ad cA S).set k (ad k, .inl (cA 3, n.toNat, .inr (.inl (vp_updL (fun j : Nat => Int64.ofInt (S k j)) i.toNat (Int64.ofInt v))))) = q_wd ad cA (q_up S k i v) := by
  rw [q_wd_set (S := S) (q_ar_lt h) (fun b hb => q_up_ne hb), q_en_ar h, q_ae_l, q_upd_l hi]
theorem q_b01 {v : Int} (h : q_bo v) : v = 0 ∨ v = 1 := by have := h.1; have := h.2; omega
theorem q_nz {v : Int} (h : q_bo v) : vp_nar .boolean (Int32.ofInt v) = Int32.ofInt v := by
  rcases q_b01 h with rfl | rfl <;> rfl
theorem q_nc {v : Int} (h : q_ch v) : vp_nar .char (Int32.ofInt v) = Int32.ofInt v := by
  rw [q_nI h.1]
  unfold vp_nar
  rw [(pk_charN (q := v.toNat) (by have := h.1; have := h.2; omega)).1]
theorem q_alen {k t : Nat} {n : Int} {rv : List Value} {D : va_G} {ad : Nat → Nat} {cA : Nat → ClassId} (hx : p.tables.exec = Jvm.exec) (hb : c.code = q_by y) (hK : va_K D q_cls (q_tys cA) s) (hP : va_P D q_cls (q_wd ad cA S) H) (har : q_ar k = some (t, n)) (hd : decode (q_by y) pc = .ok (.arraylength, 1))
    (kk : W p l e R s m args below meth c H locs cells slots Qf (F0 m (pc + 1) ls (.int (Int32.ofInt n) :: rv))) : W p l e R s m args below meth c H locs cells slots Qf (F0 m pc ls (.ref (ad k) :: rv)) := by
  have hn := q_ar_ok har
  have e : Int32.ofNat n.toNat = Int32.ofInt n := by rw [q_nI hn.2.1]; rfl
  match t, har, hn with
  | 0, har, _ => exact va_alen hx hb hK hP k 0 (q_wd_ar har (by decide)) rfl e hd kk
  | 1, har, _ => exact va_alen hx hb hK hP k 1 (q_wd_ar har (by decide)) rfl e hd kk
  | 2, har, _ => exact va_alen hx hb hK hP k 2 (q_wd_ar har (by decide)) rfl e hd kk
  | 3, har, _ => exact va_alen hx hb hK hP k 3 (q_wd_arl har) rfl e hd kk
  | t + 4, _, hn => omega
theorem q_pf_o {x : Nat} {ad : Nat → Nat} {f : List q_V → q_S → Prop} (h : q_pf y x st S f) (hs : q_sr ad st sv) : ∃ v k r x0 rv ci j jj ks t, sv = x0 :: .ref (ad k) :: rv ∧ q_rv ad v x0 ∧ q_sr ad r rv ∧ q_fl y x = some (ci, j, jj) ∧ q_ob k = some (ci, ks) ∧ ks[j]? = some t ∧ q_pv S k jj v (f r) t := by
  unfold q_pf at h
  split at h
  · rename_i v k r
    match sv, hs with
    | x0 :: z :: rv, hs =>
      split at h
      · rename_i ci j jj c fs h1 h2
        cases hb : Nat.beq ci c <;> rw [hb] at h
        · exact h.elim
        · cases Nat.eq_of_beq_eq_true hb
          simp only [cond_true] at h
          split at h
          · rename_i t ht
            exact ⟨v, k, r, x0, rv, ci, j, jj, fs, t, by rw [show z = _ from hs.2.1], hs.1, hs.2.2, h1, h2, ht, h⟩
          · exact h.elim
      · exact h.elim
  · exact h.elim
def q_fty (t : Nat) : Option FieldType := match t with | 0 => some .int | 1 => some .boolean | 2 => some .long | _ => none
def q_ckt (k : Nat) : Bool := match q_ob k with
  | some (c, ks) => (match q_cls[c]? with
    | some (_, T, n) => q_all n (fun j => (match ks[j]? with
        | some t => Nat.ble 3 t || (decide (parseFieldDescriptor (T j).2.2.1 = q_fty t) && !(T j).2.2.2)
        | none => false) && (parseFieldDescriptor (T j).2.2.1).isSome && q_all n (fun i => Nat.beq i j || decide ((T i).2.1 ≠ (T j).2.1)))
    | none => false)
  | none => true
theorem k_t : q_all 63 q_ckt = true := by decide +kernel
def q_ty0 (T : u_T) (k : Nat) : FieldType := (parseFieldDescriptor (T k).2.2.1).getD .int
theorem q_put_ok {k ci j t n : Nat} {ks : List Nat} {C : String} {T : u_T} (hob : q_ob k = some (ci, ks)) (ht : ks[j]? = some t) (hcl : q_cls[ci]? = some (C, T, n)) (hj : j < n) (ht3 : t < 3) :
    (T j).2.2.2 = false ∧ parseFieldDescriptor (T j).2.2.1 = q_fty t ∧ (∀ k, k < n → parseFieldDescriptor (T k).2.2.1 = some (q_ty0 T k)) ∧ (∀ a, a < n → ∀ b, b < n → a ≠ b → (T a).2.1 ≠ (T b).2.1) := by
  have h := q_all_of k_t k (q_ob_lt hob)
  simp only [q_ckt, hob, hcl] at h
  have hj' := q_all_of h j hj
  simp only [ht, Bool.and_eq_true, Bool.or_eq_true, decide_eq_true_eq, Bool.not_eq_true'] at hj'
  refine ⟨?_, ?_, ?_, ?_⟩
  · rcases hj'.1.1 with h9 | h9
    · have := Nat.le_of_ble_eq_true h9; omega
    · exact h9.2
  · rcases hj'.1.1 with h9 | h9
    · have := Nat.le_of_ble_eq_true h9; omega
    · exact h9.1
  · intro i hi
    have hi' := q_all_of h i hi
    simp only [Bool.and_eq_true] at hi'
    obtain ⟨z, hz⟩ := Option.isSome_iff_exists.mp hi'.1.2
    unfold q_ty0
    rw [hz]
    rfl
  · intro a ha b hb hab
    have hb' := q_all_of h b hb
    simp only [Bool.and_eq_true] at hb'
    have := q_all_of hb'.2 a ha
    simp only [Bool.or_eq_true, decide_eq_true_eq] at this
    rcases this with h9 | h9
    · exact absurd (Nat.eq_of_beq_eq_true h9) hab
    · exact h9
theorem q_pv_o {ad : Nat → Nat} {k j t : Nat} {v : q_V} {x0 : Value} {f : q_S → Prop} (hv : q_rv ad v x0) (h : q_pv S k (j : Int) v f t) : ∃ a ty, t < 3 ∧ q_fty t = some ty ∧ f (q_up S k (j : Int) a) ∧ q_kr t a ∧ q_fv ad (q_up S k (j : Int) a) k j t = x0 ∧ narrow ty x0 = x0 ∧ fits ty x0 = true := by
  unfold q_pv at h
  split at h
  · rename_i a
    refine ⟨a, .int, by omega, rfl, h, hv.1, ?_, by rw [hv.2]; rfl, by rw [hv.2]; rfl⟩
    rw [hv.2]; unfold q_fv; rw [q_up_eq]; simp
  · rename_i a
    refine ⟨a, .boolean, by omega, rfl, h.2, h.1, ?_, ?_, ?_⟩
    · rw [hv.2]; unfold q_fv; rw [q_up_eq]; simp
    · rw [hv.2]; rcases q_b01 h.1 with rfl | rfl <;> rfl
    · rw [hv.2]; rcases q_b01 h.1 with rfl | rfl <;> rfl
  · rename_i a
    refine ⟨a, .long, by omega, rfl, h, hv.1, ?_, by rw [hv.2]; rfl, by rw [hv.2]; rfl⟩
    rw [hv.2]; unfold q_fv; rw [q_up_eq]; simp
  · exact h.elim
set_option maxHeartbeats 1000000 in
theorem q_simple {i : Instr} {C : q_G} {K : q_K} (hE : q_Ei E) (hC : q_Cx E y p l R s m meth c) (hd : decode (q_by y) pc = .ok (i, len)) (hk : q_lk pc i len = true) (hy : q_mc y < 14)
    (go : q_go (S := S) E y p l e R s m args below meth c cells slots Qf K) (hl : q_lr E.1 L ls) (hL : L.length = q_ml y) (hs : q_sr E.1 st sv) (hw : q_Wd E S H locs) (hno : q_oth i = false)
    (h : q_ex C y i pc (pc + len) L st S K Q Z) : W p l e R s m args below meth c H locs cells slots Qf (F0 m pc ls sv) := by
  obtain ⟨hx, -, hb, -, -, -, -, hown, hct, -⟩ := hC
  have hL2 : L.length = ls.size := hl.1.symm
  cases i
  case iconst n =>
    obtain ⟨rfl, hr⟩ : len = 1 ∧ (-128 ≤ n ∧ n ≤ 127) := by simpa [q_lk] using hk
    exact lv_iconst hx hb hd rfl (go _ _ _ _ _ _ _ _ h hl hL ⟨⟨⟨by omega, by omega⟩, rfl⟩, hs⟩ hw rfl)
  case bipush n =>
    obtain ⟨rfl, hr⟩ : len = 2 ∧ (-128 ≤ n ∧ n ≤ 127) := by simpa [q_lk] using hk
    exact lv_bipush hx hb hd (Int8.toInt32_ofInt (by exact hr.1) (by exact hr.2)) (go _ _ _ _ _ _ _ _ h hl hL ⟨⟨⟨by omega, by omega⟩, rfl⟩, hs⟩ hw rfl)
  case sipush n =>
    obtain ⟨rfl, hr⟩ : len = 3 ∧ (-32768 ≤ n ∧ n ≤ 32767) := by simpa [q_lk] using hk
    exact lv_sipush hx hb hd (Int16.toInt32_ofInt (by exact hr.1) (by exact hr.2)) (go _ _ _ _ _ _ _ _ h hl hL ⟨⟨⟨by omega, by omega⟩, rfl⟩, hs⟩ hw rfl)
  case lconst n =>
    obtain rfl : len = 1 := by simpa [q_lk] using hk
    have hn := n.isLt
    exact lv_lconst hx hb hd (Int64.ofInt_eq_ofNat).symm (go _ _ _ _ _ _ _ _ h hl hL ⟨⟨⟨by omega, by omega⟩, rfl⟩, hs⟩ hw rfl)
  case ldc x =>
    obtain rfl : len = 2 := by simpa [q_lk] using hk
    replace h : (match q_ki y x with | some c => K (pc + 2) L (vI c :: st) S | none => False) := h
    split at h
    · rename_i v hv
      have h4 : x < 400 ∧ q_kis (q_mc y) x = some v := by
        unfold q_ki at hv
        cases hb4 : Nat.blt x 400 <;> rw [hb4] at hv
        · cases hv
        · exact ⟨Nat.le_of_ble_eq_true hb4, hv⟩
      have h5 := q_all_of (q_all_of k_c _ hy) x h4.1
      simp only [q_ckc, h4.2, Bool.and_eq_true, decide_eq_true_eq] at h5
      have h6 := q_w_mem h5.1.1
      exact lv_ldc hx hb hown (hct.1 _ h6.1 h6.2 _) hd (go _ _ _ _ _ _ _ _ h hl hL ⟨⟨h5.1.2, rfl⟩, hs⟩ hw rfl)
    · exact h.elim
  case ldc2_w x =>
    obtain rfl : len = 3 := by simpa [q_lk] using hk
    replace h : (match q_kl y x with | some c => K (pc + 3) L (vL c :: st) S | none => False) := h
    split at h
    · rename_i v hv
      have h4 : x < 400 ∧ q_kls (q_mc y) x = some v := by
        unfold q_kl at hv
        cases hb4 : Nat.blt x 400 <;> rw [hb4] at hv
        · cases hv
        · exact ⟨Nat.le_of_ble_eq_true hb4, hv⟩
      have h5 := q_all_of (q_all_of k_c _ hy) x h4.1
      simp only [q_ckc, h4.2, Bool.and_eq_true, decide_eq_true_eq] at h5
      have h6 := q_w_mem h5.2.1
      exact lv_ldc2 hx hb hown (hct.1 _ h6.1 h6.2 _) hd (go _ _ _ _ _ _ _ _ h hl hL ⟨⟨h5.2.2, rfl⟩, hs⟩ hw rfl)
    · exact h.elim
  case iload j =>
    obtain rfl : len = 2 := by simpa [q_lk] using hk
    obtain ⟨a, ha, h⟩ := q_gI_o h
    have hq := hl.2.2 j _ ha
    exact lv_iload hx hb hd hq.2 (go _ _ _ _ _ _ _ _ h hl hL ⟨⟨hq.1, rfl⟩, hs⟩ hw rfl)
  case iload_n j =>
    obtain rfl : len = 1 := by simpa [q_lk] using hk
    obtain ⟨a, ha, h⟩ := q_gI_o h
    have hq := hl.2.2 _ _ ha
    exact lv_iload_n hx hb hd rfl hq.2 (go _ _ _ _ _ _ _ _ h hl hL ⟨⟨hq.1, rfl⟩, hs⟩ hw rfl)
  case lload j =>
    obtain rfl : len = 2 := by simpa [q_lk] using hk
    obtain ⟨a, ha, h⟩ := q_gL_o h
    have hq := hl.2.2 j _ ha
    exact lv_lload hx hb hd hq.2 (go _ _ _ _ _ _ _ _ h hl hL ⟨⟨hq.1, rfl⟩, hs⟩ hw rfl)
  case lload_n j =>
    obtain rfl : len = 1 := by simpa [q_lk] using hk
    obtain ⟨a, ha, h⟩ := q_gL_o h
    have hq := hl.2.2 _ _ ha
    exact lv_lload_n hx hb hd rfl hq.2 (go _ _ _ _ _ _ _ _ h hl hL ⟨⟨hq.1, rfl⟩, hs⟩ hw rfl)
  case aload j =>
    obtain rfl : len = 2 := by simpa [q_lk] using hk
    obtain ⟨a, ha, h⟩ := q_gR_o h
    exact lv_aload hx hb hd (hl.2.2 j _ ha) (go _ _ _ _ _ _ _ _ h hl hL ⟨rfl, hs⟩ hw rfl)
  case aload_n j =>
    obtain rfl : len = 1 := by simpa [q_lk] using hk
    obtain ⟨a, ha, h⟩ := q_gR_o h
    exact lv_aload_n hx hb hd rfl (hl.2.2 _ _ ha) (go _ _ _ _ _ _ _ _ h hl hL ⟨rfl, hs⟩ hw rfl)
  case istore j =>
    obtain rfl : len = 2 := by simpa [q_lk] using hk
    obtain ⟨a, r, rv, rfl, ha, hr, h, -⟩ := q_i1_o h hs
    cases hc : (Nat.blt j L.length && q_st0 L j) <;> rw [hc] at h
    · exact h.elim
    · rw [Bool.and_eq_true] at hc
      have hj : j < L.length := Nat.le_of_ble_eq_true hc.1
      refine lv_istore hx hb hd (q_lvA_has hl.2.1) (by omega) rfl fun ls' h' => ?_
      exact go _ _ _ _ _ _ _ _ h (q_lr_set hl hc.2 ⟨ha, rfl⟩ hj h') (by rw [List.length_set]; exact hL) hr hw rfl
  case istore_n j =>
    obtain rfl : len = 1 := by simpa [q_lk] using hk
    obtain ⟨a, r, rv, rfl, ha, hr, h, -⟩ := q_i1_o h hs
    cases hc : (Nat.blt j.val L.length && q_st0 L j.val) <;> rw [hc] at h
    · exact h.elim
    · rw [Bool.and_eq_true] at hc
      have hj : j.val < L.length := Nat.le_of_ble_eq_true hc.1
      refine lv_istore_n hx hb hd rfl (q_lvA_has hl.2.1) (by omega) rfl fun ls' h' => ?_
      exact go _ _ _ _ _ _ _ _ h (q_lr_set hl hc.2 ⟨ha, rfl⟩ hj h') (by rw [List.length_set]; exact hL) hr hw rfl
  case iinc j n =>
    obtain ⟨rfl, hr⟩ : len = 3 ∧ (-128 ≤ n ∧ n ≤ 127) := by simpa [q_lk] using hk
    obtain ⟨a, ha, h1, h⟩ := q_gI_o h
    have hq := hl.2.2 j _ ha
    obtain ⟨k, hk'⟩ := List.getElem?_of_mem (q_lvA_mem hq.2)
    have hj : j < L.length := (List.getElem?_eq_some_iff.mp ha).1
    have h0 : q_st0 L j = true := by
      cases j with
      | zero => rfl
      | succ j =>
        unfold q_st0
        cases hv : L[j]? with
        | none => simp [hv]
        | some v =>
          match v, hv with
          | .inl _, hv => simp [hv]
          | .inr b, hv =>
            have h2 := hl.2.2 j _ hv
            have h3 := hl.2.1.1 j _ h2.2 rfl
            rw [hq.2] at h3
            cases h3
    refine lv_iinc hx hb hd (q_lvA_has hl.2.1) hk' (Int32.ofInt_add a n).symm (by omega) rfl fun ls' h' => ?_
    exact go _ _ _ _ _ _ _ _ h (q_lr_set hl h0 ⟨h1, rfl⟩ hj h') (by rw [List.length_set]; exact hL) hs hw rfl
  case iadd =>
    obtain rfl : len = 1 := by simpa [q_lk] using hk
    obtain ⟨a, b, r, rv, rfl, ha, hb', hr, h1, h⟩ := q_i2_o h hs
    refine lv_iadd hx hb hd ?_
    rw [← Int32.ofInt_add]
    exact go _ _ _ _ _ _ _ _ h hl hL ⟨⟨h1, rfl⟩, hr⟩ hw rfl
  case isub =>
    obtain rfl : len = 1 := by simpa [q_lk] using hk
    obtain ⟨a, b, r, rv, rfl, ha, hb', hr, h1, h⟩ := q_i2_o h hs
    refine lv_isub hx hb hd ?_
    rw [← Int32.ofInt_sub]
    exact go _ _ _ _ _ _ _ _ h hl hL ⟨⟨h1, rfl⟩, hr⟩ hw rfl
  case imul =>
    obtain rfl : len = 1 := by simpa [q_lk] using hk
    obtain ⟨a, b, r, rv, rfl, ha, hb', hr, h1, h⟩ := q_i2_o h hs
    refine lv_imul hx hb hd ?_
    rw [← Int32.ofInt_mul]
    exact go _ _ _ _ _ _ _ _ h hl hL ⟨⟨h1, rfl⟩, hr⟩ hw rfl
  case idiv =>
    obtain rfl : len = 1 := by simpa [q_lk] using hk
    obtain ⟨a, b, r, rv, rfl, ha, hb', hr, h1, h2, h⟩ := q_i2_o h hs
    refine lv_idiv hx hb hd (fun h0 => by have := (q_eq hb' q_rg0).mp h0; omega) ?_
    rw [q_div ha hb' h1 h2]
    exact go _ _ _ _ _ _ _ _ h hl hL ⟨⟨q_rdiv ha h1 h2, rfl⟩, hr⟩ hw rfl
  case irem =>
    obtain rfl : len = 1 := by simpa [q_lk] using hk
    obtain ⟨a, b, r, rv, rfl, ha, hb', hr, h1, h2, h⟩ := q_i2_o h hs
    refine lv_irem hx hb hd (fun h0 => by have := (q_eq hb' q_rg0).mp h0; omega) ?_
    rw [q_rem ha hb' h1 h2]
    exact go _ _ _ _ _ _ _ _ h hl hL ⟨⟨q_rrem hb' h2, rfl⟩, hr⟩ hw rfl
  case iand =>
    obtain rfl : len = 1 := by simpa [q_lk] using hk
    obtain ⟨a, b, r, rv, rfl, ha, hb', hr, h⟩ := q_i2_o h hs
    exact lv_iand hx hb hd (go _ _ _ _ _ _ _ _ h hl hL ⟨⟨q_rgI _, congrArg Value.int (Int32.ofInt_toInt _).symm⟩, hr⟩ hw rfl)
  case ior =>
    obtain rfl : len = 1 := by simpa [q_lk] using hk
    obtain ⟨a, b, r, rv, rfl, ha, hb', hr, h⟩ := q_i2_o h hs
    exact lv_ior hx hb hd (go _ _ _ _ _ _ _ _ h hl hL ⟨⟨q_rgI _, congrArg Value.int (Int32.ofInt_toInt _).symm⟩, hr⟩ hw rfl)
  case ixor =>
    obtain rfl : len = 1 := by simpa [q_lk] using hk
    obtain ⟨a, b, r, rv, rfl, ha, hb', hr, h⟩ := q_i2_o h hs
    exact lv_ixor hx hb hd (go _ _ _ _ _ _ _ _ h hl hL ⟨⟨q_rgI _, congrArg Value.int (Int32.ofInt_toInt _).symm⟩, hr⟩ hw rfl)
  case ishl =>
    obtain rfl : len = 1 := by simpa [q_lk] using hk
    obtain ⟨a, b, r, rv, rfl, ha, hb', hr, h⟩ := q_i2_o h hs
    exact lv_ishl hx hb hd (go _ _ _ _ _ _ _ _ h hl hL ⟨⟨q_rgI _, congrArg Value.int (Int32.ofInt_toInt _).symm⟩, hr⟩ hw rfl)
  case ishr =>
    obtain rfl : len = 1 := by simpa [q_lk] using hk
    obtain ⟨a, b, r, rv, rfl, ha, hb', hr, h⟩ := q_i2_o h hs
    exact lv_ishr hx hb hd (go _ _ _ _ _ _ _ _ h hl hL ⟨⟨q_rgI _, congrArg Value.int (Int32.ofInt_toInt _).symm⟩, hr⟩ hw rfl)
  case land =>
    obtain rfl : len = 1 := by simpa [q_lk] using hk
    obtain ⟨a, b, r, rv, rfl, ha, hb', hr, h⟩ := q_l2_o h hs
    exact lv_land hx hb hd (go _ _ _ _ _ _ _ _ h hl hL ⟨⟨q_rgL _, congrArg Value.long (Int64.ofInt_toInt _).symm⟩, hr⟩ hw rfl)
  case lor =>
    obtain rfl : len = 1 := by simpa [q_lk] using hk
    obtain ⟨a, b, r, rv, rfl, ha, hb', hr, h⟩ := q_l2_o h hs
    exact lv_lor hx hb hd (go _ _ _ _ _ _ _ _ h hl hL ⟨⟨q_rgL _, congrArg Value.long (Int64.ofInt_toInt _).symm⟩, hr⟩ hw rfl)
  case lxor =>
    obtain rfl : len = 1 := by simpa [q_lk] using hk
    obtain ⟨a, b, r, rv, rfl, ha, hb', hr, h⟩ := q_l2_o h hs
    exact lv_lxor hx hb hd (go _ _ _ _ _ _ _ _ h hl hL ⟨⟨q_rgL _, congrArg Value.long (Int64.ofInt_toInt _).symm⟩, hr⟩ hw rfl)
  case lsub =>
    obtain rfl : len = 1 := by simpa [q_lk] using hk
    obtain ⟨a, b, r, rv, rfl, ha, hb', hr, h⟩ := q_l2_o h hs
    exact lv_lsub hx hb hd (go _ _ _ _ _ _ _ _ h hl hL ⟨⟨q_rgL _, congrArg Value.long (Int64.ofInt_toInt _).symm⟩, hr⟩ hw rfl)
  case lshl =>
    obtain rfl : len = 1 := by simpa [q_lk] using hk
    obtain ⟨a, b, r, rv, rfl, ha, hb', hr, h⟩ := q_li_o h hs
    exact lv_lshl hx hb hd rfl (go _ _ _ _ _ _ _ _ h hl hL ⟨⟨q_rgL _, congrArg Value.long (Int64.ofInt_toInt _).symm⟩, hr⟩ hw rfl)
  case lshr =>
    obtain rfl : len = 1 := by simpa [q_lk] using hk
    obtain ⟨a, b, r, rv, rfl, ha, hb', hr, h⟩ := q_li_o h hs
    exact lv_lshr hx hb hd rfl (go _ _ _ _ _ _ _ _ h hl hL ⟨⟨q_rgL _, congrArg Value.long (Int64.ofInt_toInt _).symm⟩, hr⟩ hw rfl)
  case lushr =>
    obtain rfl : len = 1 := by simpa [q_lk] using hk
    obtain ⟨a, b, r, rv, rfl, ha, hb', hr, h⟩ := q_li_o h hs
    exact lv_lushr hx hb hd rfl (go _ _ _ _ _ _ _ _ h hl hL ⟨⟨q_rgL _, congrArg Value.long (Int64.ofInt_toInt _).symm⟩, hr⟩ hw rfl)
  case lcmp =>
    obtain rfl : len = 1 := by simpa [q_lk] using hk
    obtain ⟨a, b, r, rv, rfl, ha, hb', hr, h⟩ := q_l2_o h hs
    have e1 : lg_cmp (Int64.ofInt a) (Int64.ofInt b) = Int32.ofInt (q_wcmp a b) := by
      unfold lg_cmp q_wcmp
      have h1 : (Int64.ofInt a > Int64.ofInt b) ↔ b < a := by show Int64.ofInt b < Int64.ofInt a ↔ _; rw [Int64.lt_iff_toInt_lt, q_tl ha, q_tl hb']
      have h2 : (Int64.ofInt a = Int64.ofInt b) ↔ a = b := by rw [← Int64.toInt_inj, q_tl ha, q_tl hb']
      by_cases c1 : b < a
      · rw [if_pos (h1.mpr c1), if_neg (by omega), if_neg (by omega)]; rfl
      · rw [if_neg (fun h => c1 (h1.mp h))]
        by_cases c2 : a = b
        · rw [if_pos (h2.mpr c2), if_neg (by omega), if_pos c2]; rfl
        · rw [if_neg (fun h => c2 (h2.mp h)), if_pos (by omega)]; rfl
    have e2 : q_rg (q_wcmp a b) := by
      unfold q_wcmp q_rg
      split
      · omega
      · split <;> omega
    refine W.lcmp hx hb hd ?_
    rw [e1]
    exact go _ _ _ _ _ _ _ _ h hl hL ⟨⟨e2, rfl⟩, hr⟩ hw rfl
  case i2l =>
    obtain rfl : len = 1 := by simpa [q_lk] using hk
    obtain ⟨a, r, rv, rfl, ha, hr, h, -⟩ := q_i1_o h hs
    exact lv_i2l hx hb hd (q_i2l ha) (go _ _ _ _ _ _ _ _ h hl hL ⟨⟨⟨by have := ha.1; omega, by have := ha.2; omega⟩, rfl⟩, hr⟩ hw rfl)
  case l2i =>
    obtain rfl : len = 1 := by simpa [q_lk] using hk
    obtain ⟨a, r, rv, rfl, ha, hr, h⟩ := q_l1_o h hs
    exact lv_l2i hx hb hd rfl (go _ _ _ _ _ _ _ _ h hl hL ⟨⟨q_rgI _, congrArg Value.int (Int32.ofInt_toInt _).symm⟩, hr⟩ hw rfl)
  case i2c =>
    obtain rfl : len = 1 := by simpa [q_lk] using hk
    obtain ⟨a, r, rv, rfl, ha, hr, h, -⟩ := q_i1_o h hs
    exact lv_i2c hx hb hd (q_i2c ha) (go _ _ _ _ _ _ _ _ h hl hL ⟨⟨q_rcm, rfl⟩, hr⟩ hw rfl)
  case dup =>
    obtain rfl : len = 1 := by simpa [q_lk] using hk
    replace h : q_dup st (fun r => K (pc + 1) L r S) := h
    unfold q_dup at h
    split at h
    · match sv, hs with
      | x :: rv, hs => exact lv_dup hx hb hd (by rw [hs.1.2]; rfl) (go _ _ _ _ _ _ _ _ h hl hL ⟨hs.1, hs⟩ hw rfl)
    · match sv, hs with
      | x :: rv, hs => exact lv_dup hx hb hd (by rw [show x = _ from hs.1]; rfl) (go _ _ _ _ _ _ _ _ h hl hL ⟨hs.1, hs⟩ hw rfl)
    · exact h.elim
  case dup2 =>
    obtain rfl : len = 1 := by simpa [q_lk] using hk
    replace h : q_du2 st (fun r => K (pc + 1) L r S) := h
    unfold q_du2 at h
    split at h
    · match sv, hs with
      | x :: z :: rv, hs => exact lv_dup2_11 hx hb hd (by rw [hs.1.2]; rfl) (by rw [show z = _ from hs.2.1]; rfl) (go _ _ _ _ _ _ _ _ h hl hL ⟨hs.1, hs.2.1, hs⟩ hw rfl)
    · exact h.elim
  case pop =>
    obtain rfl : len = 1 := by simpa [q_lk] using hk
    replace h : q_pop st (fun r => K (pc + 1) L r S) := h
    unfold q_pop at h
    split at h
    · match sv, hs with
      | x :: rv, hs => exact lv_pop hx hb hd (by rw [hs.1.2]; rfl) (go _ _ _ _ _ _ _ _ h hl hL hs.2 hw rfl)
    · match sv, hs with
      | x :: rv, hs => exact lv_pop hx hb hd (by rw [show x = _ from hs.1]; rfl) (go _ _ _ _ _ _ _ _ h hl hL hs.2 hw rfl)
    · exact h.elim
  case goto o =>
    obtain ⟨rfl, ht⟩ : len = 3 ∧ q_to pc o = true := by simpa [q_lk] using hk
    exact lv_goto hx hb hd (q_tgt ht) (go _ _ _ _ _ _ _ _ h hl hL hs hw rfl)
  case ifCond cn o =>
    obtain ⟨rfl, ht⟩ : len = 3 ∧ q_to pc o = true := by simpa [q_lk] using hk
    obtain ⟨a, r, rv, rfl, ha, hr, h, -⟩ := q_i1_o h hs
    exact q_if hx hb hd ht ha (fun hc => go _ _ _ _ _ _ _ _ (h.1 hc) hl hL hr hw rfl) (fun hc => go _ _ _ _ _ _ _ _ (h.2 hc) hl hL hr hw rfl)
  case if_icmp cn o =>
    obtain ⟨rfl, ht⟩ : len = 3 ∧ q_to pc o = true := by simpa [q_lk] using hk
    obtain ⟨a, b, r, rv, rfl, ha, hb', hr, h⟩ := q_i2_o h hs
    exact q_ifc hx hb hd ht ha hb' (fun hc => go _ _ _ _ _ _ _ _ (h.1 hc) hl hL hr hw rfl) (fun hc => go _ _ _ _ _ _ _ _ (h.2 hc) hl hL hr hw rfl)
  case tableswitch d lo hi os =>
    simp only [q_lk, Bool.and_eq_true, decide_eq_true_eq] at hk
    obtain ⟨⟨hk1, hk2⟩, hk3, hk4⟩ := hk
    obtain ⟨a, r, rv, rfl, ha, hr, h, -⟩ := q_i1_o h hs
    by_cases hc : a < lo ∨ hi < a
    · exact lv_tableOut hx hb hd (by rw [q_ti ha]; exact hc) (q_tgt hk1) (go _ _ _ _ _ _ _ _ (h.2 hc) hl hL hr hw rfl)
    · have hn : (a - lo).toNat < os.size := by omega
      have ho : os[(a - lo).toNat]? = some (os[(a - lo).toNat]) := Array.getElem?_eq_getElem hn
      have ho2 : os.toList[(a - lo).toNat]? = some (os[(a - lo).toNat]) := by rw [Array.getElem?_toList]; exact ho
      refine lv_tableIn hx hb hd (by rw [q_ti ha]; omega) (by rw [q_ti ha]; omega) (by rw [q_ti ha]; exact ho) (q_tgt (List.all_eq_true.mp hk2 _ (List.mem_of_getElem? ho2))) (go _ _ _ _ _ _ _ _ (q_sw_o h.1 ho2 (by omega)) hl hL hr hw rfl)
  case lookupswitch d ps =>
    simp only [q_lk, Bool.and_eq_true] at hk
    obtain ⟨⟨hk1, hk2⟩, hk3⟩ := hk
    obtain ⟨a, r, rv, rfl, ha, hr, h, -⟩ := q_i1_o h hs
    refine lv_lookup hx hb hd hk3 rfl ?_ (go _ _ _ _ _ _ _ _ (q_lw_o h) hl hL hr hw rfl)
    rw [q_ti ha]
    exact q_tgt (q_lw_t hk1 hk2)
  case getfield x =>
    obtain rfl : len = 3 := by simpa [q_lk] using hk
    obtain ⟨k, r, rv, rfl, hr, h⟩ := q_r1_o h hs
    obtain ⟨ci, j, jj, ks, t, hfl, hob, ht, h⟩ := q_gf_o h
    obtain ⟨C0, T, n0, hcl, hlt, rfl, hw1, hw2, hC1⟩ := q_fl_o hy hfl
    obtain ⟨C', T', hcl'⟩ := q_ob_ok hob
    rw [hcl] at hcl'
    cases hcl'
    have hkb := q_ob_lt hob
    have he : (q_wd E.1 E.2.2.1 S)[k]? = some (E.1 k, .inr (ci, ks.mapIdx (fun j t => q_fv E.1 S k j t))) := by rw [q_wd_at hkb]; unfold q_en; rw [hob]
    have hv : (ks.mapIdx (fun j t => q_fv E.1 S k j t))[j]? = some (q_fv E.1 S k j t) := by simp [ht]
    refine va_get hx hb (Ts := u_ws C0 T ks.length) (q_lay_hts hct hcl) (fun _ h => h) hown hct.2.2.1 hw.1 k he hcl j hlt (ref := C0) (hct.1 _ hw1 hw2 _) (fun z hz => by rw [hC1] at hz; exact hz) hv hd ?_
    have hrng := hw.2.2.1 k ci ks j t hob ht
    match t, h, hrng with
    | 0, h, hrng => exact go _ _ _ _ _ _ _ _ h hl hL ⟨⟨hrng, rfl⟩, hr⟩ hw rfl
    | 1, h, hrng => exact go _ _ _ _ _ _ _ _ h hl hL ⟨⟨⟨by have := hrng.1; omega, by have := hrng.2; omega⟩, rfl⟩, hr⟩ hw rfl
    | 2, h, hrng => exact go _ _ _ _ _ _ _ _ h hl hL ⟨⟨hrng, rfl⟩, hr⟩ hw rfl
    | t + 3, h, hrng => exact go _ _ _ _ _ _ _ _ h hl hL ⟨rfl, hr⟩ hw rfl
  case iaload =>
    obtain rfl : len = 1 := by simpa [q_lk] using hk
    obtain ⟨k, i, r, rv, rfl, hi, hr, h⟩ := q_ri_o h hs
    rcases q_al_o h with ⟨rfl, -, h0, h1, h⟩ | ⟨n, har, h0, h1, h⟩
    · have hn : i < (E.2.2.2.2.1 : Int) := by rw [← hw.2.2.2.2.1]; exact h1
      refine va_sld hx hb hct.2.2.2.1 hE.2.2.1 (fun ⟨k, hk1, hk2⟩ => hE.2.1 k hk1 hk2) hw.2.1 (q_vin hi h0 hn) hd ?_
      rw [q_cl_nat hi h0]
      have e1 := hw.2.2.2.2.2.1 i.toNat (by omega)
      have e2 : ((i.toNat : Nat) : Int) = i := by omega
      rw [e2] at e1
      exact go _ _ _ _ _ _ _ _ h hl hL ⟨⟨by rw [e1]; exact q_rgI _, by rw [e1, Int32.ofInt_toInt]⟩, hr⟩ hw rfl
    · have hn := q_ar_ok har
      refine va_iald hx hb hct.2.2.1 hw.1 k 0 (q_wd_ar har (by decide)) rfl (q_vin hi h0 (by omega)) hd ?_
      rw [q_cl_nat hi h0]
      have e2 : ((i.toNat : Nat) : Int) = i := by omega
      rw [e2]
      exact go _ _ _ _ _ _ _ _ h hl hL ⟨⟨hw.2.2.2.1 k 0 n i har h0 h1, rfl⟩, hr⟩ hw rfl
  case baload =>
    obtain rfl : len = 1 := by simpa [q_lk] using hk
    obtain ⟨k, i, r, rv, rfl, hi, hr, h⟩ := q_ri_o h hs
    rcases q_al_o h with ⟨-, h9, -⟩ | ⟨n, har, h0, h1, h⟩
    · cases h9
    · have hn := q_ar_ok har
      refine va_zald hx hb hct.2.2.1 hw.1 k 1 (q_wd_ar har (by decide)) rfl (q_vin hi h0 (by omega)) hd ?_
      rw [q_cl_nat hi h0]
      have e2 : ((i.toNat : Nat) : Int) = i := by omega
      rw [e2]
      exact go _ _ _ _ _ _ _ _ h hl hL ⟨⟨q_tr_rg (hw.2.2.2.1 k 1 n i har h0 h1) (by decide) (by decide), rfl⟩, hr⟩ hw rfl
  case caload =>
    obtain rfl : len = 1 := by simpa [q_lk] using hk
    obtain ⟨k, i, r, rv, rfl, hi, hr, h⟩ := q_ri_o h hs
    rcases q_al_o h with ⟨-, h9, -⟩ | ⟨n, har, h0, h1, h⟩
    · cases h9
    · have hn := q_ar_ok har
      refine va_cald hx hb hct.2.2.1 hw.1 k 2 (q_wd_ar har (by decide)) rfl (q_vin hi h0 (by omega)) hd ?_
      rw [q_cl_nat hi h0]
      have e2 : ((i.toNat : Nat) : Int) = i := by omega
      rw [e2]
      exact go _ _ _ _ _ _ _ _ h hl hL ⟨⟨q_tr_rg (hw.2.2.2.1 k 2 n i har h0 h1) (by decide) (by decide), rfl⟩, hr⟩ hw rfl
  case laload =>
    obtain rfl : len = 1 := by simpa [q_lk] using hk
    obtain ⟨k, i, r, rv, rfl, hi, hr, h⟩ := q_ri_o h hs
    rcases q_al_o h with ⟨-, h9, -⟩ | ⟨n, har, h0, h1, h⟩
    · cases h9
    · have hn := q_ar_ok har
      refine va_lald hx hb hct.2.2.1 hw.1 k 3 (q_wd_arl har) rfl (q_vin hi h0 (by omega)) hd ?_
      rw [q_cl_nat hi h0]
      have e2 : ((i.toNat : Nat) : Int) = i := by omega
      rw [e2]
      exact go _ _ _ _ _ _ _ _ h hl hL ⟨⟨hw.2.2.2.1 k 3 n i har h0 h1, rfl⟩, hr⟩ hw rfl
  case arraylength =>
    obtain rfl : len = 1 := by simpa [q_lk] using hk
    obtain ⟨k, r, rv, rfl, hr, h⟩ := q_r1_o h hs
    rcases q_ln_o h with ⟨rfl, h⟩ | ⟨t, n, har, h⟩
    · have e1 := hw.2.2.2.2.1
      have hls := hE.2.2.2
      refine va_slen hx hb hct.2.2.2.1 hE.2.2.1 (fun ⟨k, hk1, hk2⟩ => hE.2.1 k hk1 hk2) hw.2.1 hd ?_
      refine go _ _ _ _ _ _ _ _ h hl hL ⟨⟨by rw [e1]; exact ⟨by omega, by omega⟩, ?_⟩, hr⟩ hw rfl
      rw [e1, Int32.ofInt_eq_ofNat]
    · have hn := q_ar_ok har
      have hkb := q_ar_lt har
      refine q_alen hx hb hct.2.2.1 hw.1 har hd ?_
      exact go _ _ _ _ _ _ _ _ h hl hL ⟨⟨⟨by omega, by omega⟩, rfl⟩, hr⟩ hw rfl
  case putfield x =>
    obtain rfl : len = 3 := by simpa [q_lk] using hk
    obtain ⟨v, k, r, x0, rv, ci, j, jj, ks, t, rfl, hv0, hr, hfl, hob, ht, h⟩ := q_pf_o h hs
    obtain ⟨C0, T, n0, hcl, hlt, rfl, hw1, hw2, hC1⟩ := q_fl_o hy hfl
    obtain ⟨C', T', hcl'⟩ := q_ob_ok hob
    rw [hcl] at hcl'
    cases hcl'
    have hkb := q_ob_lt hob
    have he : (q_wd E.1 E.2.2.1 S)[k]? = some (E.1 k, .inr (ci, ks.mapIdx (fun j t => q_fv E.1 S k j t))) := by rw [q_wd_at hkb]; unfold q_en; rw [hob]
    obtain ⟨a, ty, ht3, hty, hS', hkr, hfv, hna, hfit⟩ := q_pv_o hv0 h
    obtain ⟨hd1, hd2, hd3, hd4⟩ := q_put_ok hob ht hcl hlt ht3
    rw [hty] at hd2
    have hset : (q_wd E.1 E.2.2.1 S).set k (E.1 k, .inr (ci, (ks.mapIdx (fun j t => q_fv E.1 S k j t)).set j x0)) = q_wd E.1 E.2.2.1 (q_up S k (j : Int) a) := by
      rw [q_wd_set (S := S) hkb (fun b hb => q_up_ne hb), q_en_put hob ht, hfv]
    refine va_put hx hb (Ts := u_ws C0 T ks.length) (q_lay_hts hct hcl) (fun _ h => h) (q_ty0 T) hd3 hd4 hown hct.2.2.1 hw.1 (q_D hE S) hw.2.1 k he hcl j hlt (ref := C0) (hct.1 _ hw1 hw2 _) (fun z hz => by rw [hC1] at hz; exact hz) hd1 hd2 hna hfit (by simpa using hlt) hd ?_
    intro H1 locs1 p1 p2 p3
    rw [hset] at p1
    exact go _ _ _ _ _ _ _ _ hS' hl hL hr ⟨p1, p3, q_ok_up_o hw.2.2 hob ht hkr⟩ (q_up_ne (by omega))
  case iastore =>
    obtain rfl : len = 1 := by simpa [q_lk] using hk
    obtain ⟨k, i, v, r, rv, rfl, hv, hi, hr, h⟩ := q_rii_o h hs
    obtain ⟨n, har, h0, h1, h⟩ := q_at_o h
    have hn := q_ar_ok har
    refine va_iast hx hb hct.2.2.1 hw.1 (q_D hE S) hw.2.1 k 0 (q_wd_ar har (by decide)) rfl (q_vin hi h0 (by omega)) hd ?_
    intro H1 locs1 p1 p2 p3
    rw [q_cl_nat hi h0, q_ast_i har (by decide) h0] at p1
    exact go _ _ _ _ _ _ _ _ h hl hL hr ⟨p1, p3, q_ok_up_a hw.2.2 har hv⟩ (q_up_ne (by have := q_ar_lt har; omega))
  case bastore =>
    obtain rfl : len = 1 := by simpa [q_lk] using hk
    obtain ⟨k, i, v, r, rv, rfl, hv, hi, hr, h⟩ := q_rii_o h hs
    obtain ⟨n, har, h0, h1, h2, h⟩ := q_at_o h
    have hn := q_ar_ok har
    refine va_zast hx hb hct.2.2.1 hw.1 (q_D hE S) hw.2.1 k 1 (q_wd_ar har (by decide)) rfl (q_vin hi h0 (by omega)) hd ?_
    intro H1 locs1 p1 p2 p3
    rw [q_cl_nat hi h0, q_nz h2, q_ast_i har (by decide) h0] at p1
    exact go _ _ _ _ _ _ _ _ h hl hL hr ⟨p1, p3, q_ok_up_a hw.2.2 har h2⟩ (q_up_ne (by have := q_ar_lt har; omega))
  case castore =>
    obtain rfl : len = 1 := by simpa [q_lk] using hk
    obtain ⟨k, i, v, r, rv, rfl, hv, hi, hr, h⟩ := q_rii_o h hs
    obtain ⟨n, har, h0, h1, h2, h⟩ := q_at_o h
    have hn := q_ar_ok har
    refine va_cast hx hb hct.2.2.1 hw.1 (q_D hE S) hw.2.1 k 2 (q_wd_ar har (by decide)) rfl (q_vin hi h0 (by omega)) hd ?_
    intro H1 locs1 p1 p2 p3
    rw [q_cl_nat hi h0, q_nc h2, q_ast_i har (by decide) h0] at p1
    exact go _ _ _ _ _ _ _ _ h hl hL hr ⟨p1, p3, q_ok_up_a hw.2.2 har h2⟩ (q_up_ne (by have := q_ar_lt har; omega))
  case lastore =>
    obtain rfl : len = 1 := by simpa [q_lk] using hk
    obtain ⟨k, i, v, r, rv, rfl, hv, hi, hr, h⟩ := q_ril_o h hs
    obtain ⟨n, har, h0, h1, h⟩ := q_at_o h
    have hn := q_ar_ok har
    refine va_last hx hb hct.2.2.1 hw.1 (q_D hE S) hw.2.1 k 3 (q_wd_arl har) rfl (q_vin hi h0 (by omega)) hd ?_
    intro H1 locs1 p1 p2 p3
    rw [q_cl_nat hi h0, q_ast_l har h0] at p1
    exact go _ _ _ _ _ _ _ _ h hl hL hr ⟨p1, p3, q_ok_up_a hw.2.2 har hv⟩ (q_up_ne (by have := q_ar_lt har; omega))
  all_goals first | exact h.elim | cases hno
end Simple
