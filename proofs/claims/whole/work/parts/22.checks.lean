/-! the tables checked against the code's bytes and the Statement's words -/
def q_gd (w : Cond) : Bool := w.onTables && w.keeps
def q_w (i : Nat) (w : Cond) : Bool := decide (lw_tbl[i]? = some w) && q_gd w
theorem q_w_mem {i : Nat} {w : Cond} (h : q_w i w = true) : w ∈ lw_tbl ∧ q_gd w = true := by
  unfold q_w at h
  rw [Bool.and_eq_true, decide_eq_true_eq] at h
  exact ⟨List.mem_of_getElem? h.1, h.2⟩
def q_all (n : Nat) (f : Nat → Bool) : Bool := (List.range n).all f
theorem q_all_of {n : Nat} {f : Nat → Bool} (h : q_all n f = true) (i : Nat) (hi : i < n) : f i = true := List.all_eq_true.mp h i (List.mem_range.mpr hi)
def q_cw (m : Nat) : Cond := match q_hr m with
  | [] => .code (q_nm m) (q_by m) (q_ml m) (q_rty m)
  | hs => .codeWith (q_nm m) (q_by m) (q_ml m) (q_rty m) hs
def q_to (pc : Nat) (o : Int) : Bool := decide (0 ≤ (pc : Int) + o)
def q_lk (pc : Nat) (i : Instr) (n : Nat) : Bool := match i with
  | .iconst c => n == 1 && decide (-128 ≤ c ∧ c ≤ 127)
  | .bipush c => n == 2 && decide (-128 ≤ c ∧ c ≤ 127)
  | .sipush c => n == 3 && decide (-32768 ≤ c ∧ c ≤ 32767)
  | .ldc _ => n == 2
  | .ldc2_w _ => n == 3
  | .iload _ => n == 2
  | .lload _ => n == 2
  | .aload _ => n == 2
  | .istore _ => n == 2
  | .iinc _ c => n == 3 && decide (-128 ≤ c ∧ c ≤ 127)
  | .goto o => n == 3 && q_to pc o
  | .ifCond _ o => n == 3 && q_to pc o
  | .if_icmp _ o => n == 3 && q_to pc o
  | .tableswitch d lo hi os => q_to pc d && os.toList.all (q_to pc) && decide (lo ≤ hi ∧ (os.size : Int) = hi - lo + 1)
  | .lookupswitch d ps => q_to pc d && ps.toList.all (fun q => q_to pc q.2) && (ps.toList.zip (ps.toList.drop 1)).all (fun (a, next) => a.1 < next.1)
  | .getfield _ => n == 3
  | .putfield _ => n == 3
  | .invokevirtual _ => n == 3
  | .invokestatic _ => n == 3
  | .invokespecial _ => n == 3
  | .new _ => n == 3
  | .astore _ => n == 2
  | .newarray _ => n == 2
  | _ => n == 1
def q_ci (m : Nat) (i : Instr) : Bool := match i with
  | .invokevirtual x => (match q_iv m x with
    | some (y, c) => Nat.blt y 177 && Nat.beq (q_kd y) 0 && Nat.beq c (q_np y + 1) && Nat.ble (q_rf y + 1) (q_rf m) && Nat.ble (8 + (q_ml y + 11) + q_rw y) (q_rw m)
    | none => true)
  | .invokestatic x => (match q_iv m x with
    | some (y, c) => bif Nat.beq y 1000 then Nat.ble 1 (q_rf m) && Nat.ble 60 (q_rw m) else Nat.blt y 177 && Nat.beq (q_kd y) 1 && Nat.beq c (q_np y) && Nat.ble (q_rf y + 1) (q_rf m) && Nat.ble (8 + (q_ml y + 11) + q_rw y) (q_rw m)
    | none => true)
  | .new _ => Nat.ble 6 (q_rf m) && Nat.ble 90 (q_rw m)
  | _ => true
def q_row (m pc : Nat) : Bool := match q_cd m pc with
  | none => true
  | some (i, n) => decide (decode (q_by m) pc = .ok (i, n)) && q_lk pc i n && q_ci m i
def q_ckm (m : Nat) : Bool := q_all (q_sz m) (q_row m)
def q_np' (y : Nat) : Bool := match parseMethodDescriptor (q_nm y).desc with | some sg => Nat.beq sg.parameters.length (q_np y) | none => false
def q_ckw (y : Nat) : Bool := Nat.beq y q_lawm || (q_w (q_pc y) (q_cw y) && q_w (q_pi y) (.initialized (q_nm y).cls) && decide ((q_nm y).cls = q_own (q_mc y)) && plainFor (q_nm y) && q_np' y && Nat.blt (q_mc y) 14
  && decide ((q_nm y).cls ≠ "java/lang/invoke/MethodHandle" ∧ (q_nm y).cls ≠ "java/lang/invoke/VarHandle")
  && (bif Nat.beq (q_kd y) 0 then q_w (q_pk y) (.instanceMethod (q_nm y)) && q_w (q_ps y) (.selects (q_nm y).cls (q_nm y) (q_nm y)) else q_w (q_pk y) (.static (q_nm y))))
def q_ckl (c x : Nat) : Bool := match q_ivs c x with
  | some (y, _) => !(Nat.beq y q_lawm) && (bif Nat.blt y 177 then (bif q_nst c x then Nat.beq (q_kd y) 1 && decide (lw_tbl[q_pl c x]? = some (.methodLinkNest (q_own c) x (q_nm y) q_hst)) else q_w (q_pl c x) (.methodLink (q_own c) x (q_nm y)))
    else bif Nat.beq y 1000 then q_w (q_pl c x) (.methodLink (q_own c) x arraycopyName)
    else true)
  | none => true
def q_ckf (c x : Nat) : Bool := match q_fls c x with
  | some (k, j, jj) => (match q_cls[k]? with
    | some (C, T, n) => Nat.blt j n && decide (jj = (j : Int)) && decide ((T j).1 = C) && q_w (q_pf_ c x) (.fieldLink (q_own c) x C (T j).2.1 (T j).2.2.1)
    | none => false)
  | none => true
def q_ckc (c x : Nat) : Bool := (match q_kis c x with
  | some v => q_w (q_pki c x) (.constant (q_own c) x (Int32.ofInt v)) && decide (-2147483648 ≤ v ∧ v ≤ 2147483647)
  | none => true) && (match q_kls c x with
  | some v => q_w (q_pkl c x) (.constantLong (q_own c) x (Int64.ofInt v)) && decide (-9223372036854775808 ≤ v ∧ v ≤ 9223372036854775807)
  | none => true)
def q_cky (c : Nat) : Bool := match q_cls[c]? with
  | some (C, T, n) => q_all n (fun j => q_w (q_ply c j) (u_lay C T j)) && decide (C = q_own c)
  | none => false
theorem k_f : q_all 14 (fun c => q_all 400 (q_ckf c)) = true := by decide +kernel
theorem k_c : q_all 14 (fun c => q_all 400 (q_ckc c)) = true := by decide +kernel
theorem k_y : q_all 12 q_cky = true := by decide +kernel
theorem k_l_0 : q_all 400 (q_ckl 0) = true := by decide +kernel
theorem k_l_1 : q_all 400 (q_ckl 1) = true := by decide +kernel
theorem k_l_2 : q_all 400 (q_ckl 2) = true := by decide +kernel
theorem k_l_3 : q_all 400 (q_ckl 3) = true := by decide +kernel
theorem k_l_4 : q_all 400 (q_ckl 4) = true := by decide +kernel
theorem k_l_5 : q_all 400 (q_ckl 5) = true := by decide +kernel
theorem k_l_6 : q_all 400 (q_ckl 6) = true := by decide +kernel
theorem k_l_7 : q_all 400 (q_ckl 7) = true := by decide +kernel
theorem k_l_8 : q_all 400 (q_ckl 8) = true := by decide +kernel
theorem k_l_9 : q_all 400 (q_ckl 9) = true := by decide +kernel
theorem k_l_10 : q_all 400 (q_ckl 10) = true := by decide +kernel
theorem k_l_11 : q_all 400 (q_ckl 11) = true := by decide +kernel
theorem k_l_12 : q_all 400 (q_ckl 12) = true := by decide +kernel
theorem k_l_13 : q_all 400 (q_ckl 13) = true := by decide +kernel
