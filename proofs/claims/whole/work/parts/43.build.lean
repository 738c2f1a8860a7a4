/-! the making of the world: constructors run by a small program over data, and that program is sound -/
abbrev q_B : Type := (Nat × List (Nat × Int)) ⊕ (Nat × Nat)
def b_at (t : ArrayType) : Nat := match t with | .int => 0 | .boolean => 1 | .char => 2 | .long => 3 | _ => 9
def b_ref (fs : List (Nat × Int)) (n : Nat) : Bool := fs.all (fun f => !(Nat.beq f.1 3) || Nat.blt f.2.toNat n)
def b_rok (ws : List q_B) : Bool := ws.all (fun e => match e with | .inl (_, fs) => b_ref fs ws.length | .inr _ => true)
def b_n1 (e : q_B) : Nat := match e with | .inl (_, fs) => fs.length | .inr (_, n) => n
def b_sl (ws : List q_B) : Nat := (ws.map b_n1).sum
def b_vok (n : Nat) (v : q_V) : Bool := match v with | .inl (.inr (.inl k)) => Nat.blt k n | _ => true
def b_lok (n : Nat) (L st : List q_V) : Bool := L.all (b_vok n) && st.all (b_vok n)
def b_get (ws : List q_B) (k ci j : Nat) : Option Nat := match ws[k]? with
  | some (.inl (c, fs)) => (bif Nat.beq c ci then (match fs[j]? with | some (3, v) => some v.toNat | _ => none) else none)
  | _ => none
def b_val (v : q_V) (kd : Nat) : Option (Nat × Int) := match v, kd with
  | .inl (.inl a), 0 => (bif decide (-128 ≤ a ∧ a ≤ 127) then some (0, a) else none)
  | .inl (.inl a), 1 => (bif decide (0 ≤ a ∧ a ≤ 1) then some (1, a) else none)
  | .inr a, 2 => (bif decide (-128 ≤ a ∧ a ≤ 127) then some (2, a) else none)
  | .inl (.inr (.inl k)), 4 => some (3, (k : Int))
  | _, _ => none
def b_put (ws : List q_B) (k ci j : Nat) (v : q_V) : Option (List q_B) := match ws[k]?, (b_df ci)[j]? with
  | some (.inl (c, fs)), some (kd, _) => (bif Nat.beq c ci && Nat.blt j fs.length then (match b_val v kd with | some f => some (ws.set k (.inl (c, fs.set j f))) | none => none) else none)
  | _, _ => none
def b_new (ws : List q_B) (e : q_B) (n : Nat) (L st : List q_V) : Option (List q_B) := bif b_rok ws && (Nat.blt ws.length 100 && (Nat.ble (b_sl ws + n) 20000 && b_lok ws.length L st)) then some (ws ++ [e]) else none
def q_hasr (as : List q_V) : Bool := match as with | .inl (.inr (.inl _)) :: _ => true | _ => false
def b_run : Nat → Nat → Nat → List q_V → List q_V → List q_B → Option (List q_B)
  | 0, _, _, _, _, _ => none
  | f + 1, y, pc, L, st, ws => match b_cd y pc with
    | some (.aload_n j, _) => (match L[j.val]? with | some (.inl (.inr (.inl k))) => b_run f y (pc + 1) L (vR k :: st) ws | _ => none)
    | some (.aload j, _) => (match L[j]? with | some (.inl (.inr (.inl k))) => b_run f y (pc + 2) L (vR k :: st) ws | _ => none)
    | some (.iconst c, _) => b_run f y (pc + 1) L (vI c :: st) ws
    | some (.bipush c, _) => b_run f y (pc + 2) L (vI c :: st) ws
    | some (.sipush c, _) => b_run f y (pc + 3) L (vI c :: st) ws
    | some (.lconst c, _) => b_run f y (pc + 1) L (vL (c.val : Int) :: st) ws
    | some (.dup, _) => (match st with | .inl (.inr (.inl k)) :: r => b_run f y (pc + 1) L (vR k :: vR k :: r) ws | _ => none)
    | some (.new x, _) => (match b_nw y x with | some ci => (match b_new ws (.inl (ci, b_df ci)) (b_df ci).length L st with | some ws' => b_run f y (pc + 3) L (vR ws.length :: st) ws' | none => none) | none => none)
    | some (.newarray t, _) => (match st with
      | .inl (.inl n) :: r => (bif decide (0 ≤ n ∧ n ≤ 20000) && Nat.ble (b_at t) 3 then (match b_new ws (.inr (b_at t, n.toNat)) n.toNat L r with | some ws' => b_run f y (pc + 2) L (vR ws.length :: r) ws' | none => none) else none)
      | _ => none)
    | some (.getfield x, _) => (match st with
      | .inl (.inr (.inl k)) :: r => (match b_fl y x with | some (ci, j) => (match b_get ws k ci j with | some k' => b_run f y (pc + 3) L (vR k' :: r) ws | none => none) | none => none)
      | _ => none)
    | some (.putfield x, _) => (match st with
      | v :: .inl (.inr (.inl k)) :: r => (match b_fl y x with | some (ci, j) => (bif Nat.beq ci y then (match b_put ws k ci j v with | some ws' => b_run f y (pc + 3) L r ws' | none => none) else none) | none => none)
      | _ => none)
    | some (.invokespecial x, _) => (match b_iv y x with
      | some z => (bif Nat.beq z 99 then (match st with | .inl (.inr (.inl _)) :: r => (bif Nat.ble r.length 4 then b_run f y (pc + 3) L r ws else none) | _ => none)
        else (bif Nat.ble (b_np z + 1) st.length && (Nat.ble st.length (b_np z + 5) && (Nat.ble (q_exp (st.take (b_np z + 1)).reverse).length (b_ml z) && (b_lok ws.length L st && q_hasr (st.take (b_np z + 1)).reverse)))
          then (match b_run f z 0 (q_padn (b_ml z) (q_exp (st.take (b_np z + 1)).reverse)) [] ws with | some ws' => b_run f y (pc + 3) L (st.drop (b_np z + 1)) ws' | none => none) else none))
      | none => none)
    | some (.return_, _) => (match st with | [] => some ws | _ => none)
    | _ => none
def b_all : Option (List q_B) := match b_run 400 0 0 [vR 0] [] [.inl (0, b_df 0)] with
  | some ws => b_run 400 11 0 [vR ws.length] [] (ws ++ [.inl (11, b_df 11)])
  | none => none
def b_world : List q_B := match b_all with | some ws => ws ++ [.inr (3, 1)] | none => []
theorem b_world_len : b_world.length = 63 := by decide +kernel
