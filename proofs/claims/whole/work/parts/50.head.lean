def R_law : String := "LookaheadMillLaw"
def lw_P (b : Addr) (xs : List Int32) (args : Array Value) (s : State) : Prop := args = #[.ref b] ∧ s.IntsAt b xs ∧ xs.length ≤ 2048 ∧ (Jvm.Cond.and given_1 narrow_1).before args s = true
def lw_Q (_ : Array Value) (s : State) (o : Outcome) (t : State) : Prop := o = .returned (some (.int 1)) ∧ Framed s o t [] 1105 26150
def lw_Z (below : List Frame) (a : Array Value) (s : State) : State → Prop := fun t => ∃ o, t.status = .running ∧ Ended t below o ∧ lw_Q a s o t
def lw_At (p : Program) (s : State) (m : MethodId) (meth : Method) (c : Code) (b L : Nat) (xs : Nat → Int32) : Prop :=
  p.tables.exec = Jvm.exec ∧ c.code = code ∧ meth.sig.returnType = ret ∧ c.maxLocals = 7 ∧ s.vm.findClass R_law = some m.cls ∧ (∀ w ∈ lw_tbl, w.before #[Value.ref b] s = true) ∧ va_X b L xs s s.heap ∧ b < s.heap.size ∧ meth.locks = false ∧ (Jvm.Cond.and given_1 narrow_1).before #[Value.ref b] s = true ∧ c.exceptionTable.isEmpty = true
/-- what is left to show: from the head of the law's loop, with the world as made, the pure reading comes to 1 -/
def q_goal : Prop := ∀ (Ls : Nat) (xs : Nat → Int32), Ls ≤ 2048 → q_r 175 23 [vR 63, vR 0, vR 36, vR 62, vI 0, vU, vU] [] (q_S0 Ls xs) (fun a _ => a = 1) (fun _ _ => False)
section Head
variable {p : Program} {l : Launch} {e : Env} {s : State} {m : MethodId} {below : List Frame} {meth : Method} {c : Code} {b L : Nat} {xs : Nat → Int32} {D : va_G} {cA : Nat → ClassId} {H : Heap} {locs : List Loc} {cells slots : Nat} {ls : Array Slot} {as : List Nat}
set_option maxHeartbeats 2000000 in
theorem q_at23 (hg : q_goal) (hfl : l.flags = flags0) (hL : L ≤ 2048) (C0 : lw_At p s m meth c b L xs) (hK : va_K D q_cls (q_tys cA) s) (hw : b_Wd D cA s.heap as b_wl H locs) (hc : cells ≤ 63) (hsl : slots ≤ 20000)
    (hl : q_lr (fun k => if k = 63 then b else b_ad as k) [vR 63, vR 0, vR 36, vR 62, vI 0, vU, vU] ls) : W p l e room_1 s m #[Value.ref b] below meth c H locs cells slots (lw_Z below #[Value.ref b] s) (F0 m 23 ls []) := by
  obtain ⟨hx, hb, hr, hml, hown, hts, hX, hbl, hlk, hgv, hexc⟩ := C0
  refine va_forget (fun q hq => hw.2.2.2.2.2 q hq) ?_
  have hct := b_Ct_of hts hK
  have had : ∀ k, k < 63 → (fun k => if k = 63 then b else b_ad as k) k = b_ad as k := fun k hk => by
    show (if k = 63 then b else b_ad as k) = _
    rw [if_neg (by omega)]
  have hwd := b_wd_q (cA := cA) (Ls := L) (xs := xs) had
  have hP := hw.2.1
  have hD := hw.2.2.1
  rw [hwd] at hP hD
  have hin : ∀ k, k < 63 → s.heap.size ≤ b_ad as k := by
    intro k hk
    have := hD.2 k _ (q_wd_at hk)
    simp only at this
    rw [if_neg (by omega)] at this
    exact this
  have hold : ∀ q, q < s.heap.size → H[q]? = s.heap[q]? := fun q hq => hw.2.2.2.2.1 q hq (by omega)
  have hE : q_Ei ((fun k => if k = 63 then b else b_ad as k), D, cA, H, L, xs) := by
    refine ⟨fun i j hi hj hij => ?_, fun k hk => ?_, ?_, hL⟩
    · exact hD.1 i j _ _ (q_wd_at hi) (q_wd_at hj) hij
    · show (if 63 = 63 then b else b_ad as 63) ≠ (if k = 63 then b else b_ad as k)
      rw [if_pos rfl, if_neg (by omega)]
      have := hin k hk
      omega
    · show (if 63 = 63 then b else b_ad as 63) < H.size
      rw [if_pos rfl]
      have := hw.2.2.2.1
      omega
  have hAold : ∀ q, q_A (fun k => if k = 63 then b else b_ad as k) q → s.heap.size ≤ q := by
    rintro q ⟨k, hk, rfl⟩
    rw [had k hk]
    exact hin k hk
  have hstat : ∀ (n d : String), (Cond.laysStatic "java/lang/Throwable" n d) ∈ lw_tbl → (Cond.isRef (.static "java/lang/Throwable" n d)).before #[Value.ref b] s = true → (Cond.initialized "java/lang/Throwable") ∈ lw_tbl → q_Cs ((fun k => if k = 63 then b else b_ad as k), D, cA, H, L, xs) s n d := by
    intro n d h1 h2 h3
    have hz := va_Zqof (A := fun q => s.heap.size ≤ q) (hts _ h1) (hts _ h3) h2 (fun a ha => by omega)
    refine ⟨?_, ?_⟩
    · exact (hz.kept (H1 := H) (fun a ha hA => hold a ha)).narrow hAold
    · exact q_layT (A := fun q => s.heap.size ≤ q) (fun q hq _ => hold q hq) hz (hts _ h1)
  have hflat := flat_of_before _ hgv
  have hCt : q_Ct ((fun k => if k = 63 then b else b_ad as k), D, cA, H, L, xs) s := by
    refine ⟨fun w hw hg a => hct.1 w hw (Or.inl hg) a, va_Nw.of rfl (hts _ (List.mem_of_getElem? b_n3w)), hK, ?_, q_nc_of hgv, fun a ha => ?_, fun x hx => va_Nw.of rfl (hts _ hx), ?_, ?_⟩
    · show va_X (if 63 = 63 then b else b_ad as 63) L xs s H
      rw [if_pos rfl]
      exact hX.kept (hold b hbl)
    · exact va_Nw.of rfl (hts _ (List.mem_of_getElem? (of_decide_eq_true (q_all_of k_csw a ha))))
    · exact hstat _ _ (by decide +kernel) (hflat _ (by decide +kernel)) (by decide +kernel)
    · exact hstat _ _ (by decide +kernel) (hflat _ (by decide +kernel)) (by decide +kernel)
  have hsnd := q_sound (E := ((fun k => if k = 63 then b else b_ad as k), D, cA, H, L, xs)) hE (hg L xs hL)
  refine hsnd p l e room_1 s m #[Value.ref b] below meth c H [] cells slots ls [] (lw_Z below #[Value.ref b] s) ?_ hl (by decide +kernel) trivial ⟨hP, ⟨Nat.le_refl _, fun _ _ _ => rfl, fun _ h => by cases h⟩, q_S0_ok L xs⟩ ?_ ?_ ?_
  · refine ⟨hx, hfl, hb, hml, hr, hlk, ?_, hown, hCt, by decide +kernel, by decide +kernel⟩
    have : c.exceptionTable = #[] := Array.isEmpty_iff.mp hexc
    rw [this]
    rfl
  · have e1 : (q_S0 L xs 65 0).toNat = 0 := rfl
    unfold q_bd
    rw [e1]
    exact ⟨by show cells + (1000 - 0) ≤ 1105; omega, by show slots + 6 * (1000 - 0) ≤ 26150; omega⟩
  · rintro t v a S' locs' cells' slots' rfl hv hrun hend hW hsame hwd' hbd'
    have hv' : v = some (.int 1) := hv.2
    subst hv'
    refine ⟨_, hrun, hend, rfl, ⟨_, rfl⟩, hW, ?_⟩
    refine hsame.weaken (fun y hy hlt => ?_) ?_ ?_
    · exact absurd hlt (Nat.not_lt.mpr (hAold _ (hwd'.2.1.2.2 y hy)))
    · have := hbd'.1
      exact Nat.le_trans (Nat.le_add_right _ _) this
    · have := hbd'.2
      exact Nat.le_trans (Nat.le_add_right _ _) this
  · intro t x ex cell S' locs' cells' slots' hF
    exact hF.elim
end Head
