section Call
variable {E : q_E} {y pc : Nat} {L st : List q_V} {S : q_S} {Q : q_Q} {Z : q_Z} {p : Program} {l : Launch} {e : Env} {R : Room} {s : State} {m : MethodId} {args : Array Value} {below : List Frame} {meth : Method} {c : Code} {H : Heap} {locs : List Loc} {cells slots : Nat} {ls : Array Slot} {sv : List Value} {Qf : State → Prop}
def q_kr' (E : q_E) (z : Nat) (Q' : q_Q) (p : Program) (l : Launch) (e : Env) (R : Room) (s : State) (m : MethodId) (args : Array Value) (below : List Frame) (meth : Method) (c : Code) (pc : Nat) (ls : Array Slot) (rv : List Value) (Qf : State → Prop) : Prop :=
  ∀ (a : Int) (v : Option Value) (S' : q_S) (T' : State) (locs' : List Loc) (cells' slots' : Nat), Q' a S' → q_rvr z a v → Stand p l e R s m args below meth c T' locs' cells' slots' → q_Wd E S' T'.heap locs' → q_bd S' R cells' slots' → ∃ t, Steps p.tables e below (T'.setTop (F0 m (pc + 3) ls (v.toList ++ rv))) t ∧ Qf t
def q_kz' (E : q_E) (Z' : q_Z) (p : Program) (l : Launch) (e : Env) (R : Room) (s : State) (m : MethodId) (args : Array Value) (below : List Frame) (meth : Method) (c : Code) (pc : Nat) (ls : Array Slot) (rv : List Value) (Qf : State → Prop) : Prop :=
  ∀ (x ex : Nat) (cell : Cell) (S' : q_S) (T' : State) (locs' : List Loc) (cells' slots' : Nat), Z' ex S' → Stand p l e R s m args below meth c T' locs' cells' slots' → q_Wd E S' T'.heap locs' → q_bd S' R cells' slots' → T'.heap[x]? = some cell → q_exc ex s cell → ∃ t, Steps p.tables e below ((T'.setTop (F0 m pc ls rv)).pushFrame (.throwing x)) t ∧ Qf t
theorem q_bd_in {S S' : q_S} {k n : Nat} (h : q_bd S R cells slots) (h' : q_bd S' { frames := q_rf 0, cells := 1000 - (S 65 0).toNat, slots := 6 * (1000 - (S 65 0).toNat), locals := q_rw 0 } k n) : q_bd S' R (cells + k) (slots + n) := by
  obtain ⟨a1, a2⟩ := h
  obtain ⟨b1, b2⟩ := h'
  simp only at b1 b2
  exact ⟨by omega, by omega⟩
set_option maxHeartbeats 1000000 in
theorem q_enter {z : Nat} {as rest : List q_V} {av rv : List Value} {Q' : q_Q} {Z' : q_Z} {mk : MethodId} {T : State} {i : Instr}
    (hC : q_Cx E y p l R s m meth c) (hz : z < 177) (hzl : z ≠ q_lawm) (X : Stand p l e R s m args below meth c T locs cells slots) (hT : T.heap = H) (hnamed : T.methodNamed? (q_nm z) = some mk)
    (hdg : decode c.code pc = .ok (i, 3)) (has : q_sr E.1 as av) (hfit : (q_exp as).length ≤ q_ml z) (hrest : q_sr E.1 rest rv) (hr4 : rest.length ≤ 4)
    (hl : q_lr E.1 L ls) (hL : L.length = q_ml y) (hw : q_Wd E S H locs) (hbd : q_bd S R cells slots) (hrf : q_rf z + 1 ≤ q_rf y) (hrw : 8 + (q_ml z + 11) + q_rw z ≤ q_rw y)
    (hcall : q_F E z 0 (q_pad z as) [] S Q' Z') (kr : q_kr' E z Q' p l e R s m args below meth c pc ls rv Qf) (kz : q_kz' E Z' p l e R s m args below meth c pc ls rv Qf) :
    ∃ t, (∀ acts, Steps p.tables e below (doInvoke e (T.setTop (F0 m pc ls rv)) acts mk av.toArray).1 t) ∧ Qf t := by
  obtain ⟨hx, hfl, hb, hml, hret, hlk, hhr, hown, hct, hf1, hf2⟩ := hC
  have hCt : q_Ct E T := q_Ct_warm X.warmed hct
  obtain ⟨w1, w2, w3, w4, w5, w6, w7, w8, w9, -, -⟩ := q_callee hz hzl
  obtain ⟨mk', methk, ck, hn', hmk, hck, hcb, hcm, hcr, hcl, hce, hsig⟩ := q_cw_spec (hCt.1 _ w1 w2 #[])
  cases hnamed.symm.trans hn'
  have hpk : T.plainMethod mk := State.plainMethod.of_named w6 hnamed hmk
  have hsum := q_sr_sum hrest
  obtain ⟨Y, hinv⟩ := X.into (g := F0 m pc ls rv) rfl (by show ls.size = _; rw [hml, hl.1, hL]) hdg av.toArray (R' := { frames := q_rf z, cells := 1000 - (S 65 0).toNat, slots := 6 * (1000 - (S 65 0).toNat), locals := q_rw z }) hmk hck hcl hpk
    (by show q_rf z + 1 ≤ R.frames; omega) (by show 2 * 0 + (rv.map fun v => v.category).sum + (ck.maxLocals + 11) + q_rw z ≤ R.locals; rw [hcm]; omega) hbd.1 hbd.2
  have hheap : ((T.setTop (F0 m pc ls rv)).pushFrame (.java (entryFrame mk av.toArray ck.maxLocals))).heap = H := by rw [← hT]; rfl
  have hcx : q_Cx E z p l { frames := q_rf z, cells := 1000 - (S 65 0).toNat, slots := 6 * (1000 - (S 65 0).toNat), locals := q_rw z } (T.calling (F0 m pc ls rv) mk av.toArray) mk methk ck := by
    refine ⟨hx, hfl, hcb, hcm, hcr, hcl, hce, ?_, q_Ct_warm (U := T.calling (F0 m pc ls rv) mk av.toArray) (s := T) (State.WarmedH.refl T) hCt, Nat.le_refl _, Nat.le_refl _⟩
    rw [← w5]; exact findClass_of_methodNamed hnamed
  have hW := hcall p l e _ _ mk av.toArray (.java (F0 m pc ls rv) :: below) methk ck H [] 0 0 _ [] (fun t' => ∃ t, Steps p.tables e below t' t ∧ Qf t) hcx (q_entry has hfit) (q_padn_len _ _) trivial ⟨hw.1, ⟨hw.2.1.1, hw.2.1.2.1, fun _ h => by cases h⟩, hw.2.2⟩ ⟨by simp, by simp⟩ ?_ ?_
  · obtain ⟨t', hst, t, hst2, hq⟩ := hW _ hheap Y
    refine ⟨t, fun acts => ?_, hq⟩
    rw [hinv acts]
    rw [hcm, lg_entry_eq]
    rw [hcm, lg_entry_eq] at hst
    exact (Steps.weaken (mid := [.java (F0 m pc ls rv)]) hst).trans hst2
  · intro t v a S' L' k n hq hv hrun hend hWm hsame hwd hbd'
    obtain ⟨T', X', -, -, ht⟩ := X.outOf (g := F0 m pc ls rv) rfl hdg hend hWm hsame
    have hh : T'.heap = t.heap := by rw [ht]; rfl
    obtain ⟨t2, h1, h2⟩ := kr a v S' T' (locs ++ L') (cells + k) (slots + n) hq hv X' (by rw [hh]; exact q_Wd_app hw hwd) (by
      obtain ⟨a1, a2⟩ := hbd
      obtain ⟨b1, b2⟩ := hbd'
      simp only at b1 b2
      exact ⟨by omega, by omega⟩)
    exact ⟨t2, by rw [ht]; exact h1, h2⟩
  · intro t x ex cell S' L' k n hq hrun hend hWm hsame hwd hbd' hc hexc
    obtain ⟨T', X', -, -, ht⟩ := X.outOfThrown (g := F0 m pc ls rv) rfl hend hWm hsame
    have hh : T'.heap = t.heap := by rw [ht]; rfl
    obtain ⟨t2, h1, h2⟩ := kz x ex cell S' T' (locs ++ L') (cells + k) (slots + n) hq X' (by rw [hh]; exact q_Wd_app hw hwd) (by
      obtain ⟨a1, a2⟩ := hbd
      obtain ⟨b1, b2⟩ := hbd'
      simp only at b1 b2
      exact ⟨by omega, by omega⟩) (by rw [hh]; exact hc) ⟨hexc.1, by rw [← X.warmed.alike.findClass]; exact hexc.2.1, hexc.2.2⟩
    exact ⟨t2, by rw [ht]; exact h1, h2⟩
end Call
