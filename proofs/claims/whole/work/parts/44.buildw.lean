-- checks
def b_ckr (y pc : Nat) : Bool := match b_cd y pc with
  | none => true
  | some (i, n) => decide (decode (b_by y) pc = .ok (i, n)) && q_lk pc i n && (match i with
    | .invokespecial x => (match b_iv y x with
      | some z => Nat.beq z 99 || (Nat.blt z 12 && Nat.ble (b_rf z + 1) (b_rf y) && Nat.ble (8 + (b_ml z + 11) + b_rw z) (b_rw y))
      | none => true)
    | _ => true)
theorem b_k0 : q_all 12 (fun y => q_all (b_sz y) (b_ckr y)) = true := by decide +kernel
def b_ckl (c x : Nat) : Bool := (match b_iv c x with
  | some z => (bif Nat.beq z 99 then q_w (b_pl c x) (.methodLink (q_own c) x Lib.objectInit) else bif b_nst c x then true else q_w (b_pl c x) (.methodLink (q_own c) x (b_nm z)))
  | none => true) && (match b_nw c x with
  | some z => Nat.blt z 12 && q_w (b_pn c x) (.classLink (q_own c) x (q_own z))
  | none => true) && (match b_fl c x with
  | some (k, j) => (match q_cls[k]? with
    | some (C, T, n) => Nat.blt j n && decide ((T j).1 = C) && q_w (b_pf c x) (.fieldLink (q_own c) x C (T j).2.1 (T j).2.2.1)
    | none => false)
  | none => true)
theorem b_k1 : q_all 12 (fun y => q_all 400 (b_ckl y)) = true := by decide +kernel
def b_ckc (y : Nat) : Bool := q_w (b_pc y) (.code (b_nm y) (b_by y) (b_ml y) none) && q_w (b_pi y) (.initialized (q_own y)) && q_w (b_pk y) (.instanceMethod (b_nm y)) && q_w (b_pa y) (.instantiable (q_own y) (b_df y).length)
  && decide ((b_nm y).cls = q_own y) && decide ((b_nm y).name = "<init>") && plainFor (b_nm y) && (match parseMethodDescriptor (b_nm y).desc with | some sg => Nat.beq sg.parameters.length (b_np y) | none => false)
  && decide ((b_nm y).cls ≠ "java/lang/invoke/MethodHandle" ∧ (b_nm y).cls ≠ "java/lang/invoke/VarHandle")
def b_rt (ty : FieldType) : Bool := match ty with | .object _ => true | .array _ => true | _ => false
def b_ckt (y : Nat) : Bool := match q_cls[y]? with
  | some (C, T, n) => decide (C = q_own y) && Nat.beq n (b_df y).length && q_all n (fun j => (match parseFieldDescriptor (T j).2.2.1, (b_df y)[j]? with
    | some ty, some (k, v) => decide (v = 0) && (match k with | 0 => decide (ty = .int) | 1 => decide (ty = .boolean) | 2 => decide (ty = .long) | 4 => b_rt ty | _ => false)
    | _, _ => false) && q_all n (fun i => Nat.beq i j || decide ((T i).2.1 ≠ (T j).2.1)))
  | none => false
theorem b_k2_0 : b_ckc 0 = true := by decide +kernel
theorem b_k2_1 : b_ckc 1 = true := by decide +kernel
theorem b_k2_2 : b_ckc 2 = true := by decide +kernel
theorem b_k2_3 : b_ckc 3 = true := by decide +kernel
theorem b_k2_4 : b_ckc 4 = true := by decide +kernel
theorem b_k2_5 : b_ckc 5 = true := by decide +kernel
theorem b_k2_6 : b_ckc 6 = true := by decide +kernel
theorem b_k2_7 : b_ckc 7 = true := by decide +kernel
theorem b_k2_8 : b_ckc 8 = true := by decide +kernel
theorem b_k2_9 : b_ckc 9 = true := by decide +kernel
theorem b_k2_10 : b_ckc 10 = true := by decide +kernel
theorem b_k2_11 : b_ckc 11 = true := by decide +kernel
theorem b_k2 : ∀ y, y < 12 → b_ckc y = true
  | 0, _ => b_k2_0 | 1, _ => b_k2_1 | 2, _ => b_k2_2 | 3, _ => b_k2_3 | 4, _ => b_k2_4 | 5, _ => b_k2_5 | 6, _ => b_k2_6 | 7, _ => b_k2_7 | 8, _ => b_k2_8 | 9, _ => b_k2_9 | 10, _ => b_k2_10 | 11, _ => b_k2_11
  | n + 12, h => by omega
theorem b_k3 : q_all 12 b_ckt = true := by decide +kernel
theorem b_k4 : (match b_pob with | [a, b] => q_w a (.instanceMethod Lib.objectInit) && q_w b (.code Lib.objectInit ⟨#[0xb1]⟩ 1 none) | _ => false) = true := by decide +kernel
def b_fty (t : Nat) : FieldType := match t with | 0 => .int | 1 => .boolean | 2 => .char | _ => .long
theorem b_k5 : q_all 4 (fun t => decide (lw_tbl[b_par t]? = some (.arrayClass (b_fty t)))) = true := by decide +kernel
theorem b_k6 : q_all 12 (fun y => q_all 400 (fun x => !(b_nst y x) || (Nat.beq y 0 && ((Nat.beq x 11 && decide (b_iv y x = some 1)) || (Nat.beq x 18 && decide (b_iv y x = some 2)))))) = true := by decide +kernel
-- the world as it grows
def b_ad (as : List Nat) : Nat → Nat := fun k => as.getD k 0
def b_fv (ad : Nat → Nat) (f : Nat × Int) : Value := match f.1 with
  | 0 => .int (Int32.ofInt f.2)
  | 1 => .int (Int32.ofInt f.2)
  | 2 => .long (Int64.ofInt f.2)
  | 3 => .ref (ad f.2.toNat)
  | _ => .null
def b_en (ad : Nat → Nat) (cA : Nat → ClassId) (e : q_B) : va_E := match e with
  | .inl (c, fs) => .inr (c, fs.map (b_fv ad))
  | .inr (t, n) => q_ae (cA t) t n (fun _ => 0)
def b_wd (as : List Nat) (cA : Nat → ClassId) (ws : List q_B) : va_W := ws.mapIdx (fun k e => (b_ad as k, b_en (b_ad as) cA e))
theorem b_wd_at {as : List Nat} {cA : Nat → ClassId} {ws : List q_B} {k : Nat} {e : q_B} (h : ws[k]? = some e) : (b_wd as cA ws)[k]? = some (b_ad as k, b_en (b_ad as) cA e) := by
  simp [b_wd, h]
theorem b_ad_app {as bs : List Nat} {k : Nat} (h : k < as.length) : b_ad (as ++ bs) k = b_ad as k := by
  unfold b_ad
  simp [List.getD_eq_getElem?_getD, List.getElem?_append_left h]
theorem b_ad_last {as : List Nat} {q : Nat} : b_ad (as ++ [q]) as.length = q := by
  unfold b_ad
  simp [List.getD_eq_getElem?_getD]
theorem b_blt {a b : Nat} (h : Nat.blt a b = true) : a < b := Nat.le_of_ble_eq_true h
theorem b_en_app {as bs : List Nat} {cA : Nat → ClassId} {ws : List q_B} (hl : as.length = ws.length) (hr : b_rok ws = true) {e : q_B} (he : e ∈ ws) : b_en (b_ad (as ++ bs)) cA e = b_en (b_ad as) cA e := by
  have h := List.all_eq_true.mp hr e he
  match e, h with
  | .inl (c, fs), h =>
    unfold b_en
    simp only
    congr 2
    refine List.map_congr_left fun f hf => ?_
    have h2 := List.all_eq_true.mp h f hf
    unfold b_fv
    split <;> try rfl
    rename_i h3
    rw [h3] at h2
    simp only [show Nat.beq 3 3 = true from rfl, Bool.not_true, Bool.false_or] at h2
    rw [b_ad_app (by rw [hl]; exact b_blt h2)]
  | .inr (t, n), _ => rfl
theorem b_wd_app {as : List Nat} {q : Nat} {cA : Nat → ClassId} {ws : List q_B} {e : q_B} (hl : as.length = ws.length) (hr : b_rok ws = true) : b_wd (as ++ [q]) cA (ws ++ [e]) = b_wd as cA ws ++ [(q, b_en (b_ad (as ++ [q])) cA e)] := by
  refine List.ext_getElem? fun i => ?_
  by_cases hi : i < ws.length
  · have h1 : (ws ++ [e])[i]? = some (ws[i]) := by rw [List.getElem?_append_left hi, List.getElem?_eq_getElem hi]
    rw [b_wd_at h1, List.getElem?_append_left (by simp [b_wd]; exact hi), b_wd_at (List.getElem?_eq_getElem hi), b_ad_app (by omega), b_en_app hl hr (List.getElem_mem hi)]
  · by_cases he : i = ws.length
    · subst he
      rw [b_wd_at (e := e) (by simp), List.getElem?_append_right (by simp [b_wd])]
      simp [b_wd]
      rw [← hl]
      exact b_ad_last
    · rw [List.getElem?_eq_none (by simp [b_wd]; omega), List.getElem?_eq_none (by simp [b_wd]; omega)]
def b_Wd (D : va_G) (cA : Nat → ClassId) (H0 : Heap) (as : List Nat) (ws : List q_B) (H : Heap) (locs : List Loc) : Prop := as.length = ws.length ∧ va_P D q_cls (b_wd as cA ws) H ∧ va_D (fun q => H0.size ≤ q) (b_wd as cA ws) ∧ va_S (fun q => H0.size ≤ q) H0 H locs
def b_Ct (D : va_G) (cA : Nat → ClassId) (s : State) : Prop := (∀ w ∈ lw_tbl, (q_gd w = true ∨ ∃ ty, w = .arrayClass ty) → ∀ a, w.before a s = true) ∧ va_Nw (.methodLinkNest (q_own 0) 11 (b_nm 1) (q_own 0)) s ∧ va_Nw (.methodLinkNest (q_own 0) 18 (b_nm 2) (q_own 0)) s ∧ va_K D q_cls (q_tys cA) s
theorem b_Ct_warm {D : va_G} {cA : Nat → ClassId} {s U : State} (hW : s.WarmedH U.vm) (h : b_Ct D cA s) : b_Ct D cA U := by
  obtain ⟨h1, h2, h3, h4⟩ := h
  exact ⟨fun w hw hg a => word_at (args := #[]) hW hg (h1 w hw hg _), va_Nw.warmM hW h2, va_Nw.warmM hW h3, h4.moved hW.alike⟩
def b_Cx (D : va_G) (cA : Nat → ClassId) (y : Nat) (p : Program) (R : Room) (s : State) (m : MethodId) (meth : Method) (c : Code) : Prop :=
  p.tables.exec = Jvm.exec ∧ c.code = b_by y ∧ c.maxLocals = b_ml y ∧ meth.sig.returnType = none ∧ meth.locks = false ∧ meth.name = "<init>" ∧ s.vm.findClass (q_own y) = some m.cls ∧ b_Ct D cA s ∧ b_rf y ≤ R.frames ∧ b_rw y ≤ R.locals ∧ 1 ≤ R.frames ∧ 20 ≤ R.locals
def b_bd (ws : List q_B) (R : Room) (cells slots : Nat) : Prop := cells + (100 - ws.length) ≤ R.cells ∧ slots + (20000 - b_sl ws) ≤ R.slots
def b_ok (D : va_G) (cA : Nat → ClassId) (H0 : Heap) (as : List Nat) (ws' : List q_B) (R : Room) (s : State) (below : List Frame) (Qf : State → Prop) : Prop :=
  ∀ (t : State) (bs : List Nat) (locs : List Loc) (cells slots : Nat), t.status = .running → Ended t below (.returned none) → s.WarmedH t.vm → s.sameButNew ({ t with vm := s.vm } : State) locs cells slots → b_Wd D cA H0 (as ++ bs) ws' t.heap locs → b_bd ws' R cells slots → Qf t
theorem b_l1r {as bs : List Nat} {v : q_V} {x : Option Slot} (hv : b_vok as.length v = true) (h : q_l1r (b_ad as) v x) : q_l1r (b_ad (as ++ bs)) v x := by
  match v, hv, h with
  | .inl (.inl a), _, h => exact h
  | .inr a, _, h => exact h
  | .inl (.inr (.inr _)), _, _ => trivial
  | .inl (.inr (.inl k)), hv, h =>
    show x = some (.val (.ref (b_ad (as ++ bs) k)))
    rw [b_ad_app (b_blt hv)]
    exact h
theorem b_lr {as bs : List Nat} {L : List q_V} {ls : Array Slot} (hv : L.all (b_vok as.length) = true) (h : q_lr (b_ad as) L ls) : q_lr (b_ad (as ++ bs)) L ls :=
  ⟨h.1, h.2.1, fun i v hi => b_l1r (List.all_eq_true.mp hv v (List.mem_of_getElem? hi)) (h.2.2 i v hi)⟩
theorem b_rv {as bs : List Nat} {v : q_V} {x : Value} (hv : b_vok as.length v = true) (h : q_rv (b_ad as) v x) : q_rv (b_ad (as ++ bs)) v x := by
  match v, hv, h with
  | .inl (.inl a), _, h => exact h
  | .inr a, _, h => exact h
  | .inl (.inr (.inr _)), _, h => exact h
  | .inl (.inr (.inl k)), hv, h =>
    show x = .ref (b_ad (as ++ bs) k)
    rw [b_ad_app (b_blt hv)]
    exact h
theorem b_sr {as bs : List Nat} : ∀ {st : List q_V} {sv : List Value}, st.all (b_vok as.length) = true → q_sr (b_ad as) st sv → q_sr (b_ad (as ++ bs)) st sv
  | [], [], _, _ => trivial
  | v :: r, x :: y, hv, h => by
    rw [List.all_cons, Bool.and_eq_true] at hv
    exact ⟨b_rv hv.1 h.1, b_sr hv.2 h.2⟩
