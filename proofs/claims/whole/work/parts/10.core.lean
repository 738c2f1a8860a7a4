/-! A small pure reading of bytecode. Values: an int, a long, the number of a cell, nothing known. A state: cell, place -> value. -/
abbrev q_J : Type := Int ⊕ (Nat ⊕ Unit)
abbrev q_V : Type := q_J ⊕ Int
abbrev q_S : Type := Nat → Int → Int
abbrev vJ (j : q_J) : q_V := .inl j
abbrev vI (a : Int) : q_V := .inl (.inl a)
abbrev vL (a : Int) : q_V := .inr a
abbrev vR (k : Nat) : q_V := .inl (.inr (.inl k))
abbrev vU : q_V := .inl (.inr (.inr ()))
abbrev q_K : Type := Nat → List q_V → List q_V → q_S → Prop
abbrev q_Q : Type := Int → q_S → Prop
abbrev q_Z : Type := Nat → q_S → Prop
abbrev q_G : Type := Nat → List q_V → q_S → q_Q → q_Z → Prop
def q_rg (x : Int) : Prop := -2147483648 ≤ x ∧ x ≤ 2147483647
def q_bo (x : Int) : Prop := 0 ≤ x ∧ x ≤ 1
def q_ch (x : Int) : Prop := 0 ≤ x ∧ x ≤ 65535
def q_up (S : q_S) (k : Nat) (i v : Int) : q_S := fun a => bif Nat.beq a k then (fun b => if b = i then v else S k b) else S a
def q_fil (S : q_S) (k : Nat) (v : Int) : q_S := fun a => bif Nat.beq a k then (fun _ => v) else S a
def q_cpy (S : q_S) (ks : Nat) (sp : Int) (kd : Nat) (dp n : Int) : q_S := fun a => bif Nat.beq a kd then (fun b => if dp ≤ b ∧ b < dp + n then S ks (sp + (b - dp)) else S kd b) else S a
/-- an exception more -/
def q_tk (S : q_S) : q_S := q_up S 65 0 (S 65 0 + 1)
def q_and (a b : Int) : Int := (Int32.ofInt a &&& Int32.ofInt b).toInt
def q_or (a b : Int) : Int := (Int32.ofInt a ||| Int32.ofInt b).toInt
def q_xor (a b : Int) : Int := (Int32.ofInt a ^^^ Int32.ofInt b).toInt
def q_shl (a b : Int) : Int := (Int32.ofInt a <<< (Int32.ofInt b &&& 31)).toInt
def q_shr (a b : Int) : Int := (Int32.ofInt a >>> (Int32.ofInt b &&& 31)).toInt
def q_wand (a b : Int) : Int := (Int64.ofInt a &&& Int64.ofInt b).toInt
def q_wor (a b : Int) : Int := (Int64.ofInt a ||| Int64.ofInt b).toInt
def q_wxor (a b : Int) : Int := (Int64.ofInt a ^^^ Int64.ofInt b).toInt
def q_wsub (a b : Int) : Int := (Int64.ofInt a - Int64.ofInt b).toInt
def q_wshl (a b : Int) : Int := (Int64.ofInt a <<< ((Int32.ofInt b).toInt64 &&& 63)).toInt
def q_wshr (a b : Int) : Int := (Int64.ofInt a >>> ((Int32.ofInt b).toInt64 &&& 63)).toInt
def q_wush (a b : Int) : Int := ((Int64.ofInt a).toUInt64 >>> ((Int32.ofInt b).toInt64.toUInt64 &&& Int64.toUInt64 63)).toInt64.toInt
def q_wint (a : Int) : Int := (Int64.ofInt a).toInt32.toInt
def q_wcmp (a b : Int) : Int := if a < b then -1 else if a = b then 0 else 1
-- readers of operand stack and locals
def q_gI (v : Option q_V) (f : Int → Prop) : Prop := match v with | some (.inl (.inl a)) => f a | _ => False
def q_gL (v : Option q_V) (f : Int → Prop) : Prop := match v with | some (.inr a) => f a | _ => False
def q_gR (v : Option q_V) (f : Nat → Prop) : Prop := match v with | some (.inl (.inr (.inl k))) => f k | _ => False
def q_i1 (st : List q_V) (f : Int → List q_V → Prop) : Prop := match st with | .inl (.inl a) :: r => f a r | _ => False
def q_i2 (st : List q_V) (f : Int → Int → List q_V → Prop) : Prop := match st with | .inl (.inl b) :: .inl (.inl a) :: r => f a b r | _ => False
def q_l1 (st : List q_V) (f : Int → List q_V → Prop) : Prop := match st with | .inr a :: r => f a r | _ => False
def q_l2 (st : List q_V) (f : Int → Int → List q_V → Prop) : Prop := match st with | .inr b :: .inr a :: r => f a b r | _ => False
def q_li (st : List q_V) (f : Int → Int → List q_V → Prop) : Prop := match st with | .inl (.inl b) :: .inr a :: r => f a b r | _ => False
def q_r1 (st : List q_V) (f : Nat → List q_V → Prop) : Prop := match st with | .inl (.inr (.inl k)) :: r => f k r | _ => False
def q_ri (st : List q_V) (f : Nat → Int → List q_V → Prop) : Prop := match st with | .inl (.inl i) :: .inl (.inr (.inl k)) :: r => f k i r | _ => False
def q_rii (st : List q_V) (f : Nat → Int → Int → List q_V → Prop) : Prop := match st with | .inl (.inl v) :: .inl (.inl i) :: .inl (.inr (.inl k)) :: r => f k i v r | _ => False
def q_ril (st : List q_V) (f : Nat → Int → Int → List q_V → Prop) : Prop := match st with | .inr v :: .inl (.inl i) :: .inl (.inr (.inl k)) :: r => f k i v r | _ => False
def q_cmp (c : Jvm.ClassFile.Cond) (a b : Int) : Prop := match c with | .eq => a = b | .ne => a ≠ b | .lt => a < b | .ge => a ≥ b | .gt => a > b | .le => a ≤ b
def q_tg (pc : Nat) (off : Int) : Nat := ((pc : Int) + off).toNat
def q_sw (pc : Nat) (a : Int) (k : Nat → Prop) : Int → List Int → Prop
  | _, [] => True
  | lo, o :: os => (a = lo → k (q_tg pc o)) ∧ q_sw pc a k (lo + 1) os
def q_lw (pc : Nat) (a : Int) (k : Nat → Prop) (d : Int) : List (Int × Int) → Prop
  | [] => k (q_tg pc d)
  | (v, o) :: os => (a = v → k (q_tg pc o)) ∧ (¬ a = v → q_lw pc a k d os)
-- the tables, as functions
def q_fl (m x : Nat) : Option (Nat × Nat × Int) := bif Nat.blt x 400 then q_fls (q_mc m) x else none
def q_iv (m x : Nat) : Option (Nat × Nat) := bif Nat.blt x 400 then q_ivs (q_mc m) x else none
def q_ki (m x : Nat) : Option Int := bif Nat.blt x 400 then q_kis (q_mc m) x else none
def q_kl (m x : Nat) : Option Int := bif Nat.blt x 400 then q_kls (q_mc m) x else none
def q_nw (m x : Nat) : Option Nat := bif Nat.blt x 400 then q_nws (q_mc m) x else none
/-- the instruction at pc -/
def q_cx (m pc : Nat) : Option (Instr × Nat) := bif Nat.blt pc (q_sz m) then q_cd m pc else none
/-- may a value be stored at local i: no long reaches into it -/
def q_st0 (L : List q_V) (i : Nat) : Bool := match i with
  | 0 => true
  | i + 1 => match L[i]? with | some (.inr _) => false | _ => true
/-- the four instructions of 'throw new E()' -/
def q_pat (m pc x : Nat) : Option Nat := match q_cx m (pc + 3), q_cx m (pc + 4), q_cx m (pc + 7) with
  | some (.dup, 1), some (.invokespecial y, 3), some (.athrow, 1) => (match q_iv m y, q_nw m x with | some (c, 1), some e => (bif Nat.beq c (2000 + e) then some e else none) | _, _ => none)
  | _, _, _ => none
def q_gv (S : q_S) (k : Nat) (j : Int) (f : q_V → Prop) (t : Nat) : Prop := match t with | 0 => f (vI (S k j)) | 1 => f (vI (S k j)) | 2 => f (vL (S k j)) | t + 3 => f (vR t)
def q_gf (m x k : Nat) (S : q_S) (f : q_V → Prop) : Prop := match q_fl m x, q_ob k with
  | some (ci, j, jj), some (c, fs) => (bif Nat.beq ci c then (match fs[j]? with | some t => q_gv S k jj f t | none => False) else False)
  | _, _ => False
def q_pv (S : q_S) (k : Nat) (j : Int) (v : q_V) (f : q_S → Prop) (t : Nat) : Prop := match t, v with
  | 0, .inl (.inl a) => f (q_up S k j a)
  | 1, .inl (.inl a) => q_bo a ∧ f (q_up S k j a)
  | 2, .inr a => f (q_up S k j a)
  | _, _ => False
def q_pf (m x : Nat) (st : List q_V) (S : q_S) (f : List q_V → q_S → Prop) : Prop := match st with
  | v :: .inl (.inr (.inl k)) :: r => (match q_fl m x, q_ob k with
    | some (ci, j, jj), some (c, fs) => (bif Nat.beq ci c then (match fs[j]? with | some t => q_pv S k jj v (f r) t | none => False) else False)
    | _, _ => False)
  | _ => False
/-- an array's length; the script's (cell 63) stands in cell 64 -/
def q_ln (k : Nat) (S : q_S) (f : Int → Prop) : Prop := bif Nat.beq k 63 then f (S 64 0) else (match q_ar k with | some (_, n) => f n | none => False)
def q_al (ty k : Nat) (i : Int) (S : q_S) (f : Int → Prop) : Prop :=
  bif Nat.beq k 63 then (bif Nat.beq ty 0 then 0 ≤ i ∧ i < S 64 0 ∧ f (S 63 i) else False)
  else (match q_ar k with | some (t, n) => (bif Nat.beq t ty then 0 ≤ i ∧ i < n ∧ f (S k i) else False) | none => False)
def q_at (ty k : Nat) (i : Int) (f : Prop) : Prop := match q_ar k with | some (t, n) => (bif Nat.beq t ty then 0 ≤ i ∧ i < n ∧ f else False) | none => False
def q_ia (k : Nat) : Option Int := match q_ar k with | some (0, n) => some n | _ => none
/-- System.arraycopy of int arrays -/
def q_ac (st : List q_V) (S : q_S) (f : List q_V → q_S → Prop) : Prop := match st with
  | .inl (.inl n) :: .inl (.inl dp) :: .inl (.inr (.inl kd)) :: .inl (.inl sp) :: .inl (.inr (.inl ks)) :: r => (match q_ia ks, q_ia kd with
    | some a, some b => (bif Nat.ble r.length 4 then (0 ≤ sp ∧ 0 ≤ dp ∧ 0 ≤ n ∧ sp + n ≤ a ∧ dp + n ≤ b) ∧ f r (q_cpy S ks sp kd dp n) else False)
    | _, _ => False)
  | _ => False
/-- an exception at pc: the first handler that takes it -/
def q_hn (pc e : Nat) (k : Nat → Nat → Prop) (z : Prop) : List (Nat × Nat × Nat × Nat × Nat × Nat) → Prop
  | [] => z
  | (a, b, e', _, n, i) :: r => bif Nat.ble a pc && Nat.blt pc b then (bif Nat.beq e' e then k n i else q_hn pc e k z r) else q_hn pc e k z r
/-- arguments as locals: a long takes two -/
def q_exp : List q_V → List q_V
  | [] => []
  | .inr a :: r => vL a :: vU :: q_exp r
  | .inl u :: r => .inl u :: q_exp r
def q_padn : Nat → List q_V → List q_V
  | 0, _ => []
  | n + 1, [] => vU :: q_padn n []
  | n + 1, v :: r => v :: q_padn n r
def q_pad (y : Nat) (as : List q_V) : List q_V := q_padn (q_ml y) (q_exp as)
/-- what a call wants of its arguments: they fit the callee's locals; an object of the callee's own kind comes first -/
def q_rcv (y : Nat) (as : List q_V) : Bool := match as with
  | .inl (.inr (.inl k)) :: _ => (match q_ob k with | some (ci, _) => Nat.beq ci (q_mc y) | none => false)
  | _ => false
def q_aok (virt : Bool) (y : Nat) (as : List q_V) : Bool := Nat.ble (q_exp as).length (q_ml y) && (bif virt then q_rcv y as else true)
def q_cov (pc : Nat) (rs : List (Nat × Nat × Nat × Nat × Nat × Nat)) : Bool := rs.any (fun r => Nat.ble r.1 pc && Nat.blt pc r.2.1)
def q_rs (y : Nat) (a : Int) (r : List q_V) : List q_V := match q_rt y with | 0 => r | _ => vI a :: r
def q_cl (virt : Bool) (C : q_G) (m x pc n : Nat) (L st : List q_V) (S : q_S) (K : q_K) (Z : q_Z) : Prop := match q_iv m x with
  | some (y, c) => (bif Nat.beq y 1000 then q_ac st S (fun r S' => K n L r S')
    else bif Nat.ble c st.length && (Nat.ble st.length (c + 4) && (Nat.blt y 177 && q_aok virt y (st.take c).reverse)) then C y (st.take c).reverse S (fun a S' => K n L (q_rs y a (st.drop c)) S') (fun e S' => bif q_cov pc (q_hd m) then q_hn pc e (fun h i => bif Nat.blt i L.length && q_st0 L i then K h (L.set i vU) [] S' else False) False (q_hd m) else Z e S')
    else False)
  | none => False
def q_ret (m : Nat) (st : List q_V) (S : q_S) (Q : q_Q) : Prop := match st with
  | [.inl (.inl a)] => (match q_rt m with | 1 => Q a S | 2 => q_bo a ∧ Q a S | _ => False)
  | _ => False
def q_rev (m : Nat) (st : List q_V) (S : q_S) (Q : q_Q) : Prop := match st with
  | [] => (match q_rt m with | 0 => Q 0 S | _ => False)
  | _ => False
def q_is (L : List q_V) (st : List q_V) (j : Nat) (f : List q_V → List q_V → Prop) : Prop := q_i1 st (fun a r => (bif Nat.blt j L.length && q_st0 L j then f (L.set j (vI a)) r else False))
def q_dup (st : List q_V) (f : List q_V → Prop) : Prop := match st with | .inl (.inl a) :: r => f (vI a :: vI a :: r) | .inl (.inr (.inl k)) :: r => f (vR k :: vR k :: r) | _ => False
def q_du2 (st : List q_V) (f : List q_V → Prop) : Prop := match st with | .inl (.inl a) :: .inl (.inr (.inl k)) :: r => f (vI a :: vR k :: vI a :: vR k :: r) | _ => False
def q_pop (st : List q_V) (f : List q_V → Prop) : Prop := match st with | .inl (.inl _) :: r => f r | .inl (.inr (.inl _)) :: r => f r | _ => False
def q_ex (C : q_G) (m : Nat) (i : Instr) (pc n : Nat) (L st : List q_V) (S : q_S) (K : q_K) (Q : q_Q) (Z : q_Z) : Prop :=
  match i with
  | .iconst c => K n L (vI c :: st) S
  | .bipush c => K n L (vI c :: st) S
  | .sipush c => K n L (vI c :: st) S
  | .lconst c => K n L (vL (c.val : Int) :: st) S
  | .ldc x => (match q_ki m x with | some c => K n L (vI c :: st) S | none => False)
  | .ldc2_w x => (match q_kl m x with | some c => K n L (vL c :: st) S | none => False)
  | .iload j => q_gI L[j]? (fun a => K n L (vI a :: st) S)
  | .iload_n j => q_gI L[j.val]? (fun a => K n L (vI a :: st) S)
  | .lload j => q_gL L[j]? (fun a => K n L (vL a :: st) S)
  | .lload_n j => q_gL L[j.val]? (fun a => K n L (vL a :: st) S)
  | .aload j => q_gR L[j]? (fun k => K n L (vR k :: st) S)
  | .aload_n j => q_gR L[j.val]? (fun k => K n L (vR k :: st) S)
  | .istore j => q_is L st j (fun L' r => K n L' r S)
  | .istore_n j => q_is L st j.val (fun L' r => K n L' r S)
  | .iinc j c => q_gI L[j]? (fun a => q_rg (a + c) ∧ K n (L.set j (vI (a + c))) st S)
  | .iadd => q_i2 st (fun a b r => q_rg (a + b) ∧ K n L (vI (a + b) :: r) S)
  | .isub => q_i2 st (fun a b r => q_rg (a - b) ∧ K n L (vI (a - b) :: r) S)
  | .imul => q_i2 st (fun a b r => q_rg (a * b) ∧ K n L (vI (a * b) :: r) S)
  | .idiv => q_i2 st (fun a b r => 0 ≤ a ∧ 0 < b ∧ K n L (vI (a / b) :: r) S)
  | .irem => q_i2 st (fun a b r => 0 ≤ a ∧ 0 < b ∧ K n L (vI (a % b) :: r) S)
  | .iand => q_i2 st (fun a b r => K n L (vI (q_and a b) :: r) S)
  | .ior => q_i2 st (fun a b r => K n L (vI (q_or a b) :: r) S)
  | .ixor => q_i2 st (fun a b r => K n L (vI (q_xor a b) :: r) S)
  | .ishl => q_i2 st (fun a b r => K n L (vI (q_shl a b) :: r) S)
  | .ishr => q_i2 st (fun a b r => K n L (vI (q_shr a b) :: r) S)
  | .land => q_l2 st (fun a b r => K n L (vL (q_wand a b) :: r) S)
  | .lor => q_l2 st (fun a b r => K n L (vL (q_wor a b) :: r) S)
  | .lxor => q_l2 st (fun a b r => K n L (vL (q_wxor a b) :: r) S)
  | .lsub => q_l2 st (fun a b r => K n L (vL (q_wsub a b) :: r) S)
  | .lshl => q_li st (fun a b r => K n L (vL (q_wshl a b) :: r) S)
  | .lshr => q_li st (fun a b r => K n L (vL (q_wshr a b) :: r) S)
  | .lushr => q_li st (fun a b r => K n L (vL (q_wush a b) :: r) S)
  | .lcmp => q_l2 st (fun a b r => K n L (vI (q_wcmp a b) :: r) S)
  | .i2l => q_i1 st (fun a r => K n L (vL a :: r) S)
  | .l2i => q_l1 st (fun a r => K n L (vI (q_wint a) :: r) S)
  | .i2c => q_i1 st (fun a r => K n L (vI (a % 65536) :: r) S)
  | .dup => q_dup st (fun r => K n L r S)
  | .dup2 => q_du2 st (fun r => K n L r S)
  | .pop => q_pop st (fun r => K n L r S)
  | .goto o => K (q_tg pc o) L st S
  | .ifCond c o => q_i1 st (fun a r => (q_cmp c a 0 → K (q_tg pc o) L r S) ∧ (¬ q_cmp c a 0 → K n L r S))
  | .if_icmp c o => q_i2 st (fun a b r => (q_cmp c a b → K (q_tg pc o) L r S) ∧ (¬ q_cmp c a b → K n L r S))
  | .tableswitch d lo hi os => q_i1 st (fun a r => q_sw pc a (fun t => K t L r S) lo os.toList ∧ ((a < lo ∨ hi < a) → K (q_tg pc d) L r S))
  | .lookupswitch d ps => q_i1 st (fun a r => q_lw pc a (fun t => K t L r S) d ps.toList)
  | .getfield x => q_r1 st (fun k r => q_gf m x k S (fun v => K n L (v :: r) S))
  | .putfield x => q_pf m x st S (fun r S' => K n L r S')
  | .iaload => q_ri st (fun k i r => q_al 0 k i S (fun a => K n L (vI a :: r) S))
  | .baload => q_ri st (fun k i r => q_al 1 k i S (fun a => K n L (vI a :: r) S))
  | .caload => q_ri st (fun k i r => q_al 2 k i S (fun a => K n L (vI a :: r) S))
  | .laload => q_ri st (fun k i r => q_al 3 k i S (fun a => K n L (vL a :: r) S))
  | .iastore => q_rii st (fun k i v r => q_at 0 k i (K n L r (q_up S k i v)))
  | .bastore => q_rii st (fun k i v r => q_at 1 k i (q_bo v ∧ K n L r (q_up S k i v)))
  | .castore => q_rii st (fun k i v r => q_at 2 k i (q_ch v ∧ K n L r (q_up S k i v)))
  | .lastore => q_ril st (fun k i v r => q_at 3 k i (K n L r (q_up S k i v)))
  | .arraylength => q_r1 st (fun k r => q_ln k S (fun a => K n L (vI a :: r) S))
  | .invokevirtual x => q_cl true C m x pc n L st S K Z
  | .invokestatic x => q_cl false C m x pc n L st S K Z
  | .new x => (match q_pat m pc x, st with | some e, [] => S 65 0 < 1000 ∧ Z e (q_tk S) | _, _ => False)
  | .ireturn => q_ret m st S Q
  | .return_ => q_rev m st S Q
  | _ => False
def q_st (C : q_G) (m pc : Nat) (L st : List q_V) (S : q_S) (K : q_K) (Q : q_Q) (Z : q_Z) : Prop :=
  match q_cx m pc with | some (i, len) => q_ex C m i pc (pc + len) L st S K Q Z | none => False
abbrev q_KK : Type := Nat → Nat → List q_V → List q_V → q_S → q_Q → q_Z → Prop
def q_Cof (F : q_KK) : q_G := fun y as S Q Z => F y 0 (q_pad y as) [] S Q Z
def q_closed (F : q_KK) : Prop := ∀ m pc L st S Q Z, q_st (q_Cof F) m pc L st S (fun pc L st S => F m pc L st S Q Z) Q Z → F m pc L st S Q Z
/-- the run from a place in a method comes to an end with Q (a return) or Z (a throw): the least predicate closed backwards -/
def q_r : q_KK := fun m pc L st S Q Z => ∀ F, q_closed F → F m pc L st S Q Z
def q_c : q_G := q_Cof q_r
section Mono
theorem q_gI_m {v : Option q_V} {f g : Int → Prop} (k : ∀ a, f a → g a) (h : q_gI v f) : q_gI v g := by
  unfold q_gI at *; split at h <;> first | exact k _ h | exact h.elim
theorem q_gL_m {v : Option q_V} {f g : Int → Prop} (k : ∀ a, f a → g a) (h : q_gL v f) : q_gL v g := by
  unfold q_gL at *; split at h <;> first | exact k _ h | exact h.elim
theorem q_gR_m {v : Option q_V} {f g : Nat → Prop} (k : ∀ a, f a → g a) (h : q_gR v f) : q_gR v g := by
  unfold q_gR at *; split at h <;> first | exact k _ h | exact h.elim
theorem q_i1_m {st : List q_V} {f g : Int → List q_V → Prop} (k : ∀ a r, f a r → g a r) (h : q_i1 st f) : q_i1 st g := by
  unfold q_i1 at *; split at h <;> first | exact k _ _ h | exact h.elim
theorem q_i2_m {st : List q_V} {f g : Int → Int → List q_V → Prop} (k : ∀ a b r, f a b r → g a b r) (h : q_i2 st f) : q_i2 st g := by
  unfold q_i2 at *; split at h <;> first | exact k _ _ _ h | exact h.elim
theorem q_l1_m {st : List q_V} {f g : Int → List q_V → Prop} (k : ∀ a r, f a r → g a r) (h : q_l1 st f) : q_l1 st g := by
  unfold q_l1 at *; split at h <;> first | exact k _ _ h | exact h.elim
theorem q_l2_m {st : List q_V} {f g : Int → Int → List q_V → Prop} (k : ∀ a b r, f a b r → g a b r) (h : q_l2 st f) : q_l2 st g := by
  unfold q_l2 at *; split at h <;> first | exact k _ _ _ h | exact h.elim
theorem q_li_m {st : List q_V} {f g : Int → Int → List q_V → Prop} (k : ∀ a b r, f a b r → g a b r) (h : q_li st f) : q_li st g := by
  unfold q_li at *; split at h <;> first | exact k _ _ _ h | exact h.elim
theorem q_r1_m {st : List q_V} {f g : Nat → List q_V → Prop} (k : ∀ a r, f a r → g a r) (h : q_r1 st f) : q_r1 st g := by
  unfold q_r1 at *; split at h <;> first | exact k _ _ h | exact h.elim
theorem q_ri_m {st : List q_V} {f g : Nat → Int → List q_V → Prop} (k : ∀ a b r, f a b r → g a b r) (h : q_ri st f) : q_ri st g := by
  unfold q_ri at *; split at h <;> first | exact k _ _ _ h | exact h.elim
theorem q_rii_m {st : List q_V} {f g : Nat → Int → Int → List q_V → Prop} (k : ∀ a b c r, f a b c r → g a b c r) (h : q_rii st f) : q_rii st g := by
  unfold q_rii at *; split at h <;> first | exact k _ _ _ _ h | exact h.elim
theorem q_ril_m {st : List q_V} {f g : Nat → Int → Int → List q_V → Prop} (k : ∀ a b c r, f a b c r → g a b c r) (h : q_ril st f) : q_ril st g := by
  unfold q_ril at *; split at h <;> first | exact k _ _ _ _ h | exact h.elim
theorem q_sw_m {pc : Nat} {a : Int} {f g : Nat → Prop} (k : ∀ t, f t → g t) : ∀ {lo : Int} {os : List Int}, q_sw pc a f lo os → q_sw pc a g lo os
  | _, [], _ => trivial
  | _, _ :: _, h => ⟨fun e => k _ (h.1 e), q_sw_m k h.2⟩
theorem q_lw_m {pc : Nat} {a : Int} {f g : Nat → Prop} (k : ∀ t, f t → g t) {d : Int} : ∀ {os : List (Int × Int)}, q_lw pc a f d os → q_lw pc a g d os
  | [], h => k _ h
  | _ :: _, h => ⟨fun e => k _ (h.1 e), fun e => q_lw_m k (h.2 e)⟩
theorem q_gv_m {S : q_S} {c : Nat} {j : Int} {f g : q_V → Prop} (k : ∀ v, f v → g v) {t : Nat} (h : q_gv S c j f t) : q_gv S c j g t := by
  unfold q_gv at *; split at h <;> exact k _ h
theorem q_gf_m {m x c : Nat} {S : q_S} {f g : q_V → Prop} (k : ∀ v, f v → g v) (h : q_gf m x c S f) : q_gf m x c S g := by
  unfold q_gf at *
  split at h
  · rename_i ci j jj c fs _ _
    cases hb : Nat.beq ci c <;> rw [hb] at h
    · exact h.elim
    · simp only [cond_true] at h ⊢
      split at h
      · exact q_gv_m k h
      · exact h.elim
  · exact h.elim
theorem q_pv_m {S : q_S} {c : Nat} {j : Int} {v : q_V} {f g : q_S → Prop} (k : ∀ v, f v → g v) {t : Nat} (h : q_pv S c j v f t) : q_pv S c j v g t := by
  unfold q_pv at *
  split at h
  · exact k _ h
  · exact ⟨h.1, k _ h.2⟩
  · exact k _ h
  · exact h.elim
theorem q_pf_m {m x : Nat} {st : List q_V} {S : q_S} {f g : List q_V → q_S → Prop} (k : ∀ r v, f r v → g r v) (h : q_pf m x st S f) : q_pf m x st S g := by
  unfold q_pf at *
  split at h
  · split at h
    · rename_i ci j jj c fs _ _
      cases hb : Nat.beq ci c <;> rw [hb] at h
      · exact h.elim
      · simp only [cond_true] at h ⊢
        split at h
        · exact q_pv_m (k _) h
        · exact h.elim
    · exact h.elim
  · exact h.elim
theorem q_ln_m {c : Nat} {S : q_S} {f g : Int → Prop} (k : ∀ a, f a → g a) (h : q_ln c S f) : q_ln c S g := by
  unfold q_ln at *
  cases hb : Nat.beq c 63 <;> rw [hb] at h
  · simp only [cond_false] at h ⊢
    split at h
    · exact k _ h
    · exact h.elim
  · exact k _ h
theorem q_al_m {ty c : Nat} {i : Int} {S : q_S} {f g : Int → Prop} (k : ∀ a, f a → g a) (h : q_al ty c i S f) : q_al ty c i S g := by
  unfold q_al at *
  cases hb : Nat.beq c 63 <;> rw [hb] at h
  · simp only [cond_false] at h ⊢
    split at h
    · rename_i t n _
      cases ht : Nat.beq t ty <;> rw [ht] at h
      · exact h.elim
      · exact ⟨h.1, h.2.1, k _ h.2.2⟩
    · exact h.elim
  · simp only [cond_true] at h ⊢
    cases ht : Nat.beq ty 0 <;> rw [ht] at h
    · exact h.elim
    · exact ⟨h.1, h.2.1, k _ h.2.2⟩
theorem q_at_m {ty c : Nat} {i : Int} {f g : Prop} (k : f → g) (h : q_at ty c i f) : q_at ty c i g := by
  unfold q_at at *
  split at h
  · rename_i t n _
    cases ht : Nat.beq t ty <;> rw [ht] at h
    · exact h.elim
    · exact ⟨h.1, h.2.1, k h.2.2⟩
  · exact h.elim
theorem q_ac_m {st : List q_V} {S : q_S} {f g : List q_V → q_S → Prop} (k : ∀ r v, f r v → g r v) (h : q_ac st S f) : q_ac st S g := by
  unfold q_ac at *
  split at h
  · rename_i n dp kd sp ks r
    split at h
    · cases hb : Nat.ble r.length 4 <;> rw [hb] at h
      · exact h.elim
      · exact ⟨h.1, k _ _ h.2⟩
    · exact h.elim
  · exact h.elim
theorem q_hn_m {pc e : Nat} {f g : Nat → Nat → Prop} {z z' : Prop} (k : ∀ n i, f n i → g n i) (kz : z → z') : ∀ {rs : List (Nat × Nat × Nat × Nat × Nat × Nat)}, q_hn pc e f z rs → q_hn pc e g z' rs
  | [], h => kz h
  | (a, b, e', _, n, i) :: r, h => by
    unfold q_hn at *
    cases h1 : (Nat.ble a pc && Nat.blt pc b) <;> rw [h1] at h
    · exact q_hn_m k kz h
    · simp only [cond_true] at h ⊢
      cases h2 : Nat.beq e' e <;> rw [h2] at h
      · exact q_hn_m k kz h
      · exact k _ _ h
def q_Cle (C C' : q_G) : Prop := ∀ y as S (Q Q' : q_Q) (Z Z' : q_Z), (∀ a S', Q a S' → Q' a S') → (∀ e S', Z e S' → Z' e S') → C y as S Q Z → C' y as S Q' Z'
theorem q_cl_m {virt : Bool} {C C' : q_G} {m x pc n : Nat} {L st : List q_V} {S : q_S} {K K' : q_K} {Z Z' : q_Z} (kC : q_Cle C C') (kK : ∀ pc L st S, K pc L st S → K' pc L st S) (kZ : ∀ e S, Z e S → Z' e S) (h : q_cl virt C m x pc n L st S K Z) : q_cl virt C' m x pc n L st S K' Z' := by
  unfold q_cl at *
  split at h
  · rename_i y c _
    cases h1 : Nat.beq y 1000 <;> rw [h1] at h <;> simp only [cond_true, cond_false] at h ⊢
    · cases h3 : (Nat.ble c st.length && (Nat.ble st.length (c + 4) && (Nat.blt y 177 && q_aok virt y (st.take c).reverse))) <;> rw [h3] at h <;> simp only [cond_true, cond_false] at h ⊢
      refine kC _ _ _ _ _ _ _ (fun a S' => kK _ _ _ _) (fun e S' h => ?_) h
      cases h5 : q_cov pc (q_hd m) <;> rw [h5] at h <;> simp only [cond_true, cond_false] at h ⊢
      · exact kZ _ _ h
      · refine q_hn_m (fun n i h => ?_) (fun h => h) h
        cases h4 : (Nat.blt i L.length && q_st0 L i) <;> rw [h4] at h
        · exact h.elim
        · exact kK _ _ _ _ h
    · exact q_ac_m (fun _ _ => kK _ _ _ _) h
  · exact h.elim
theorem q_ret_m {m : Nat} {st : List q_V} {S : q_S} {Q Q' : q_Q} (k : ∀ a S, Q a S → Q' a S) (h : q_ret m st S Q) : q_ret m st S Q' := by
  unfold q_ret at *
  split at h
  · split at h
    · exact k _ _ h
    · exact ⟨h.1, k _ _ h.2⟩
    · exact h.elim
  · exact h.elim
theorem q_rev_m {m : Nat} {st : List q_V} {S : q_S} {Q Q' : q_Q} (k : ∀ a S, Q a S → Q' a S) (h : q_rev m st S Q) : q_rev m st S Q' := by
  unfold q_rev at *
  split at h
  · split at h
    · exact k _ _ h
    · exact h.elim
  · exact h.elim
theorem q_is_m {L st : List q_V} {j : Nat} {f g : List q_V → List q_V → Prop} (k : ∀ l r, f l r → g l r) (h : q_is L st j f) : q_is L st j g := by
  refine q_i1_m ?_ h
  intro a r h
  cases h1 : (Nat.blt j L.length && q_st0 L j) <;> rw [h1] at h
  · exact h.elim
  · exact k _ _ h
theorem q_dup_m {st : List q_V} {f g : List q_V → Prop} (k : ∀ r, f r → g r) (h : q_dup st f) : q_dup st g := by
  unfold q_dup at *; split at h <;> first | exact k _ h | exact h.elim
theorem q_du2_m {st : List q_V} {f g : List q_V → Prop} (k : ∀ r, f r → g r) (h : q_du2 st f) : q_du2 st g := by
  unfold q_du2 at *; split at h <;> first | exact k _ h | exact h.elim
theorem q_pop_m {st : List q_V} {f g : List q_V → Prop} (k : ∀ r, f r → g r) (h : q_pop st f) : q_pop st g := by
  unfold q_pop at *; split at h <;> first | exact k _ h | exact h.elim
theorem q_ex_m {C C' : q_G} {m : Nat} {i : Instr} {pc n : Nat} {L st : List q_V} {S : q_S} {K K' : q_K} {Q Q' : q_Q} {Z Z' : q_Z} (kC : q_Cle C C') (kK : ∀ pc L st S, K pc L st S → K' pc L st S) (kQ : ∀ a S, Q a S → Q' a S) (kZ : ∀ e S, Z e S → Z' e S)
    (h : q_ex C m i pc n L st S K Q Z) : q_ex C' m i pc n L st S K' Q' Z' := by
  unfold q_ex at *
  split at h
  all_goals first
    | exact h.elim
    | exact kK _ _ _ _ h
    | exact q_gI_m (fun a => kK _ _ _ _) h
    | exact q_gL_m (fun a => kK _ _ _ _) h
    | exact q_gR_m (fun a => kK _ _ _ _) h
    | exact q_is_m (fun _ _ => kK _ _ _ _) h
    | exact q_gI_m (fun a h => ⟨h.1, kK _ _ _ _ h.2⟩) h
    | exact q_i2_m (fun a b r h => ⟨h.1, kK _ _ _ _ h.2⟩) h
    | exact q_i2_m (fun a b r h => ⟨h.1, h.2.1, kK _ _ _ _ h.2.2⟩) h
    | exact q_i2_m (fun a b r => kK _ _ _ _) h
    | exact q_l2_m (fun a b r => kK _ _ _ _) h
    | exact q_li_m (fun a b r => kK _ _ _ _) h
    | exact q_i1_m (fun a r => kK _ _ _ _) h
    | exact q_l1_m (fun a r => kK _ _ _ _) h
    | exact q_dup_m (fun r => kK _ _ _ _) h
    | exact q_du2_m (fun r => kK _ _ _ _) h
    | exact q_pop_m (fun r => kK _ _ _ _) h
    | exact q_i1_m (fun a r h => ⟨fun e => kK _ _ _ _ (h.1 e), fun e => kK _ _ _ _ (h.2 e)⟩) h
    | exact q_i2_m (fun a b r h => ⟨fun e => kK _ _ _ _ (h.1 e), fun e => kK _ _ _ _ (h.2 e)⟩) h
    | exact q_i1_m (fun a r h => ⟨q_sw_m (fun t => kK _ _ _ _) h.1, fun e => kK _ _ _ _ (h.2 e)⟩) h
    | exact q_i1_m (fun a r h => q_lw_m (fun t => kK _ _ _ _) h) h
    | exact q_r1_m (fun k r h => q_gf_m (fun v => kK _ _ _ _) h) h
    | exact q_pf_m (fun r v => kK _ _ _ _) h
    | exact q_ri_m (fun k i r h => q_al_m (fun a => kK _ _ _ _) h) h
    | exact q_rii_m (fun k i v r h => q_at_m (kK _ _ _ _) h) h
    | exact q_rii_m (fun k i v r h => q_at_m (fun h => ⟨h.1, kK _ _ _ _ h.2⟩) h) h
    | exact q_ril_m (fun k i v r h => q_at_m (kK _ _ _ _) h) h
    | exact q_r1_m (fun k r h => q_ln_m (fun a => kK _ _ _ _) h) h
    | exact q_cl_m kC kK kZ h
    | exact q_ret_m kQ h
    | exact q_rev_m kQ h
    | (split at h <;> first | exact h.elim | exact kK _ _ _ _ h | exact ⟨h.1, kZ _ _ h.2⟩)
theorem q_st_m {C C' : q_G} {m pc : Nat} {L st : List q_V} {S : q_S} {K K' : q_K} {Q Q' : q_Q} {Z Z' : q_Z} (kC : q_Cle C C') (kK : ∀ pc L st S, K pc L st S → K' pc L st S) (kQ : ∀ a S, Q a S → Q' a S) (kZ : ∀ e S, Z e S → Z' e S)
    (h : q_st C m pc L st S K Q Z) : q_st C' m pc L st S K' Q' Z' := by
  unfold q_st at *
  split at h
  · exact q_ex_m kC kK kQ kZ h
  · exact h.elim
theorem q_r_m {m pc : Nat} {L st : List q_V} {S : q_S} {Q Q' : q_Q} {Z Z' : q_Z} (kQ : ∀ a S, Q a S → Q' a S) (kZ : ∀ e S, Z e S → Z' e S) (h : q_r m pc L st S Q Z) : q_r m pc L st S Q' Z' := by
  intro F hF
  refine h (fun m pc L st S Q Z => ∀ (Q' : q_Q) (Z' : q_Z), (∀ a S, Q a S → Q' a S) → (∀ e S, Z e S → Z' e S) → F m pc L st S Q' Z') ?_ Q' Z' kQ kZ
  intro m pc L st S Q Z h Q' Z' kQ kZ
  exact hF _ _ _ _ _ _ _ (q_st_m (fun y as S Q1 Q1' Z1 Z1' hq hz h => h _ _ hq hz) (fun pc L st S h => h _ _ kQ kZ) kQ kZ h)
theorem q_c_m {y : Nat} {as : List q_V} {S : q_S} {Q Q' : q_Q} {Z Z' : q_Z} (kQ : ∀ a S, Q a S → Q' a S) (kZ : ∀ e S, Z e S → Z' e S) (h : q_c y as S Q Z) : q_c y as S Q' Z' := q_r_m kQ kZ h
theorem q_c_le : q_Cle q_c q_c := fun _ _ _ _ _ _ _ kQ kZ h => q_c_m kQ kZ h
theorem q_r_step {m pc : Nat} {L st : List q_V} {S : q_S} {Q : q_Q} {Z : q_Z} (h : q_st q_c m pc L st S (fun pc L st S => q_r m pc L st S Q Z) Q Z) : q_r m pc L st S Q Z := by
  intro F hF
  exact hF _ _ _ _ _ _ _ (q_st_m (fun y as S Q1 Q1' Z1 Z1' hq hz h => q_r_m hq hz h F hF) (fun pc L st S h => h F hF) (fun _ _ h => h) (fun _ _ h => h) h)
def q_rn : Nat → q_KK
  | 0 => q_r
  | n + 1 => fun m pc L st S Q Z => q_st q_c m pc L st S (fun pc' L' st' S' => bif q_hh m pc' then q_r m pc' L' st' S' Q Z else q_rn n m pc' L' st' S' Q Z) Q Z
theorem q_rn_r : ∀ (n : Nat) {m pc : Nat} {L st : List q_V} {S : q_S} {Q : q_Q} {Z : q_Z}, q_rn n m pc L st S Q Z → q_r m pc L st S Q Z
  | 0, _, _, _, _, _, _, _, h => h
  | n + 1, m, pc, L, st, S, Q, Z, h => by
    refine q_r_step (q_st_m q_c_le ?_ (fun _ _ h => h) (fun _ _ h => h) h)
    intro pc' L' st' S' h
    cases hb : q_hh m pc' <;> rw [hb] at h
    · exact q_rn_r n h
    · exact h
theorem q_blk (n : Nat) {m pc : Nat} {L st : List q_V} {S : q_S} {Q : q_Q} {Z : q_Z} (h : q_rn n m pc L st S Q Z) : q_r m pc L st S Q Z := q_rn_r n h
end Mono
