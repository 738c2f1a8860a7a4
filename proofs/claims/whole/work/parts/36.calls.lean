/-! calls -/
theorem q_sr_len {ad : Nat → Nat} : ∀ {a : List q_V} {x : List Value}, q_sr ad a x → a.length = x.length
  | [], [], _ => rfl
  | _ :: _, _ :: _, h => by simp [q_sr_len h.2]
theorem q_sr_take {ad : Nat → Nat} : ∀ (n : Nat) {a : List q_V} {x : List Value}, q_sr ad a x → q_sr ad (a.take n) (x.take n)
  | 0, _, _, _ => by simp [q_sr]
  | _ + 1, [], [], _ => by simp [q_sr]
  | n + 1, _ :: _, _ :: _, h => ⟨h.1, q_sr_take n h.2⟩
theorem q_sr_drop {ad : Nat → Nat} : ∀ (n : Nat) {a : List q_V} {x : List Value}, q_sr ad a x → q_sr ad (a.drop n) (x.drop n)
  | 0, _, _, h => by simpa using h
  | _ + 1, [], [], _ => by simp [q_sr]
  | n + 1, _ :: _, _ :: _, h => by simpa using q_sr_drop n h.2
theorem q_sr_app {ad : Nat → Nat} : ∀ {a b : List q_V} {x y : List Value}, q_sr ad a x → q_sr ad b y → q_sr ad (a ++ b) (x ++ y)
  | [], _, [], _, _, h => h
  | _ :: _, _, _ :: _, _, h, h' => ⟨h.1, q_sr_app h.2 h'⟩
theorem q_sr_rev {ad : Nat → Nat} : ∀ {a : List q_V} {x : List Value}, q_sr ad a x → q_sr ad a.reverse x.reverse
  | [], [], _ => by simp [q_sr]
  | _ :: _, _ :: _, h => by
    rw [List.reverse_cons, List.reverse_cons]
    exact q_sr_app (q_sr_rev h.2) ⟨h.1, trivial⟩
def q_ctg (v : q_V) : Nat := match v with | .inr _ => 2 | .inl _ => 1
theorem q_sr_cat {ad : Nat → Nat} {v : q_V} {x : Value} (h : q_rv ad v x) : x.category = q_ctg v := by
  match v, h with
  | .inl (.inl a), h => rw [h.2]; rfl
  | .inl (.inr (.inl k)), h => rw [show x = _ from h]; rfl
  | .inl (.inr (.inr _)), h => exact h
  | .inr a, h => rw [h.2]; rfl
theorem q_sr_sum {ad : Nat → Nat} : ∀ {a : List q_V} {x : List Value}, q_sr ad a x → (x.map fun v => v.category).sum ≤ 2 * a.length
  | [], [], _ => by simp
  | v :: _, y :: _, h => by
    have h1 := q_sr_sum h.2
    have h2 : y.category ≤ 2 := by rw [q_sr_cat h.1]; unfold q_ctg; split <;> omega
    simp
    omega
def q_lrl (ad : Nat → Nat) (L : List q_V) (l : List Slot) : Prop := L.length = l.length ∧ ∀ (i : Nat) (v : q_V), L[i]? = some v → q_l1r ad v l[i]?
theorem q_lrl_cons {ad : Nat → Nat} {v : q_V} {x : Slot} {L : List q_V} {l : List Slot} (h : q_l1r ad v (some x)) (ht : q_lrl ad L l) : q_lrl ad (v :: L) (x :: l) := by
  refine ⟨by simp [ht.1], ?_⟩
  intro i w hw
  cases i with
  | zero => simp at hw; subst hw; simpa using h
  | succ i => simpa using ht.2 i w (by simpa using hw)
theorem q_exp_rel {ad : Nat → Nat} : ∀ {a : List q_V} {x : List Value}, q_sr ad a x → q_lrl ad (q_exp a) (lg_sl x)
  | [], [], _ => ⟨rfl, fun i v h => by simp [q_exp] at h⟩
  | .inr a :: r, x :: y, h => by
    have e : lg_sl (x :: y) = .val x :: .second :: lg_sl y := by
      rw [h.1.2]; simp [lg_sl, Value.category]
    rw [e]
    exact q_lrl_cons (q_l1r_of h.1) (q_lrl_cons trivial (q_exp_rel h.2))
  | .inl u :: r, x :: y, h => by
    have hc : x.category = 1 := q_sr_cat h.1
    have e : lg_sl (x :: y) = .val x :: lg_sl y := by simp [lg_sl, hc]
    rw [e]
    exact q_lrl_cons (q_l1r_of h.1) (q_exp_rel h.2)
theorem q_padn_eq : ∀ (n : Nat) (l : List q_V), l.length ≤ n → q_padn n l = l ++ List.replicate (n - l.length) vU
  | 0, [], _ => rfl
  | n + 1, [], _ => by
    have := q_padn_eq n [] (by simp)
    simp only [q_padn, this]
    simp [List.replicate_succ]
  | n + 1, v :: l, h => by
    have := q_padn_eq n l (by simpa using h)
    simp only [q_padn, this]
    simp
theorem q_entry {ad : Nat → Nat} {a : List q_V} {x : List Value} {n : Nat} (h : q_sr ad a x) (hn : (q_exp a).length ≤ n) : q_lr ad (q_padn n (q_exp a)) ((lg_sl x ++ List.replicate (n - (lg_sl x).length) Slot.unset).toArray) := by
  have hr := q_exp_rel h
  have hE := lv_entry x (n := n) (by rw [← hr.1]; exact hn)
  have hlen : (q_padn n (q_exp a)).length = n := by rw [q_padn_eq n _ hn]; simp; omega
  refine ⟨by rw [hE.1, hlen], hE.2.1, ?_⟩
  intro i v hv
  rw [q_padn_eq n _ hn] at hv
  by_cases hi : i < (q_exp a).length
  · rw [List.getElem?_append_left hi] at hv
    have := hr.2 i v hv
    simp only [List.getElem?_toArray]
    rw [List.getElem?_append_left (by rw [← hr.1]; exact hi)]
    exact this
  · rw [List.getElem?_append_right (by omega)] at hv
    have hm := List.mem_of_getElem? hv
    rw [List.mem_replicate] at hm
    rw [hm.2]
    trivial
theorem q_padn_len : ∀ (n : Nat) (l : List q_V), (q_padn n l).length = n
  | 0, _ => rfl
  | n + 1, [] => by simp [q_padn, q_padn_len n []]
  | n + 1, _ :: l => by simp [q_padn, q_padn_len n l]
theorem q_Cs_warm {E : q_E} {s U : State} {n d : String} (hW : s.WarmedH U.vm) (h : q_Cs E s n d) : q_Cs E U n d := by
  refine ⟨h.1.moved hW.alike, ?_⟩
  have h2 := Cond.laysStatic_setVm (s := ({ s with heap := E.2.2.2.1 } : State)) (vm' := U.vm) hW.alike h.2
  exact h2
theorem q_Ct_warm {E : q_E} {s U : State} (hW : s.WarmedH U.vm) (h : q_Ct E s) : q_Ct E U := by
  obtain ⟨h1, h2, h3, h4, h5, h6, h7, h8, h9⟩ := h
  refine ⟨fun w hw hg a => word_at (args := #[]) hW (Or.inl hg) (h1 w hw hg _), va_Nw.warmM hW h2, h3.moved hW.alike, h4.moved hW.alike, fun a b ha hb hab => (h5 a b ha hb hab).moved hW.alike, fun a ha => va_Nw.warmC hW (h6 a ha), fun x hx => ?_, q_Cs_warm hW h8, q_Cs_warm hW h9⟩
  exact va_tabs rfl (rfl : (s.setVm U.vm).vm = U.vm) (by rw [Cond.declares_setVm hW.alike]; exact h7 x hx)
theorem q_wd_vm {E : q_E} {S : q_S} {H : Heap} {k : Nat} (hP : va_P E.2.1 q_cls (q_wd E.1 E.2.2.1 S) H) (hk : k < 63) {cell : Cell} (hc : H[E.1 k]? = some cell) : cell.vm.isStatics = false := by
  have h := hP k _ (q_wd_at hk)
  unfold va_at at h
  split at h
  · rename_i a ha
    rw [hc] at h
    cases h
    obtain ⟨c, n, f⟩ := a
    match f with
    | .inl _ => rfl
    | .inr (.inl _) => rfl
    | .inr (.inr (.inl _)) => rfl
    | .inr (.inr (.inr (.inl _))) => rfl
    | .inr (.inr (.inr (.inr _))) => rfl
  · obtain ⟨r, -, cell', h1, -, h2, -⟩ := h
    rw [hc] at h1
    cases h1
    rw [h2]
    rfl
theorem q_Wd_app {E : q_E} {S S' : q_S} {H H' : Heap} {l l' : List Loc} (h : q_Wd E S H l) (h' : q_Wd E S' H' l') : q_Wd E S' H' (l ++ l') := by
  refine ⟨h'.1, ⟨h'.2.1.1, h'.2.1.2.1, ?_⟩, h'.2.2⟩
  intro q hq
  rcases List.mem_append.mp hq with hq | hq
  · exact h.2.1.2.2 q hq
  · exact h'.2.1.2.2 q hq
/-- the words of a callee -/
theorem q_callee {y : Nat} (hy : y < 177) (hl : y ≠ q_lawm) : q_cw y ∈ lw_tbl ∧ q_gd (q_cw y) = true ∧ Cond.initialized (q_nm y).cls ∈ lw_tbl ∧ q_gd (Cond.initialized (q_nm y).cls) = true ∧ (q_nm y).cls = q_own (q_mc y) ∧ plainFor (q_nm y) = true ∧ (∀ sg, parseMethodDescriptor (q_nm y).desc = some sg → sg.parameters.length = q_np y) ∧ q_mc y < 14
    ∧ ((q_nm y).cls ≠ "java/lang/invoke/MethodHandle" ∧ (q_nm y).cls ≠ "java/lang/invoke/VarHandle")
    ∧ (q_kd y = 0 → (Cond.instanceMethod (q_nm y) ∈ lw_tbl ∧ q_gd (Cond.instanceMethod (q_nm y)) = true) ∧ (Cond.selects (q_nm y).cls (q_nm y) (q_nm y) ∈ lw_tbl ∧ q_gd (Cond.selects (q_nm y).cls (q_nm y) (q_nm y)) = true))
    ∧ (q_kd y ≠ 0 → (Cond.static (q_nm y) ∈ lw_tbl ∧ q_gd (Cond.static (q_nm y)) = true)) := by
  have h := q_ckw_all y hy
  unfold q_ckw at h
  have h0 : Nat.beq y q_lawm = false := by cases e : Nat.beq y q_lawm with | false => rfl | true => exact absurd (Nat.eq_of_beq_eq_true e) hl
  rw [h0, Bool.false_or] at h
  simp only [Bool.and_eq_true, decide_eq_true_eq] at h
  obtain ⟨⟨⟨⟨⟨⟨⟨h1, h2⟩, h3⟩, h4⟩, h5⟩, h6⟩, h7⟩, h8⟩ := h
  refine ⟨(q_w_mem h1).1, (q_w_mem h1).2, (q_w_mem h2).1, (q_w_mem h2).2, h3, h4, ?_, Nat.le_of_ble_eq_true h6, h7, ?_, ?_⟩
  · intro sg hs
    unfold q_np' at h5
    rw [hs] at h5
    exact Nat.eq_of_beq_eq_true h5
  · intro hk
    rw [hk] at h8
    simp only [Nat.beq, cond_true, Bool.and_eq_true] at h8
    exact ⟨q_w_mem h8.1, q_w_mem h8.2⟩
  · intro hk
    have : Nat.beq (q_kd y) 0 = false := by cases e : Nat.beq (q_kd y) 0 with | false => rfl | true => exact absurd (Nat.eq_of_beq_eq_true e) hk
    rw [this] at h8
    exact q_w_mem h8
theorem q_cw_spec {y : Nat} {args : Array Value} {s : State} (h : (q_cw y).before args s = true) : ∃ mk methk ck, s.methodNamed? (q_nm y) = some mk ∧ s.vm.method? mk = some methk ∧ methk.code = some ck ∧ ck.code = q_by y ∧ ck.maxLocals = q_ml y ∧ methk.sig.returnType = q_rty y ∧ methk.locks = false
    ∧ ck.exceptionTable.toList.map (fun h => (h.startPc, h.endPc, h.handlerPc, h.catchType)) = q_hr y ∧ parseMethodDescriptor (q_nm y).desc = some methk.sig := by
  unfold q_cw at h
  split at h
  · rename_i hr
    obtain ⟨mk, hn⟩ := Cond.code_named h
    obtain ⟨methk, ck, h1, h2, h3, h4, h5, h6, h7, h8⟩ := Cond.code_spec hn h
    refine ⟨mk, methk, ck, hn, h1, h2, h3, h4, h5, h6, ?_, h8⟩
    rw [hr]
    have : ck.exceptionTable = #[] := Array.isEmpty_iff.mp h7
    rw [this]
    rfl
  · obtain ⟨mk, methk, ck, h0, h1, h2, h3, h4, h5, h6, h7, h8⟩ := Cond.codeWith_spec h
    exact ⟨mk, methk, ck, h0, h1, h2, h3, h4, h6, h7, h5, h8⟩
