/-! an exception is caught: the catch type may not be resolved yet -/
theorem q_go_cold {f : JFrame} {a : Addr} {x : ExceptionTableEntry} {t : List ExceptionTableEntry} {e : Env} {s : State} {c : ClassId} {vm' : Vm} {Q : Handler → Pre} {E : CtlPost} {d : Bool} {acts : List Action} (hx : covers x f.pc = true) (h0 : x.catchType ≠ 0)
    (hg : (Jvm.resolveClass f.method.cls x.catchType).Gives e.toSetting s.vm (.ok c) vm') (hr : vm'.classReady f.method.cls x.catchType c) (hsz : vm'.classes.size ≤ s.vm.classes.size)
    (hcell : ∃ cell, s.heap[a]? = some cell ∧ (∀ k, cell.vm ≠ .statics k) ∧ (∃ k, vm'.classes[cell.cls]? = some k)) (hc : ∃ k, vm'.classes[c]? = some k) :
    wp (findHandler.go f a (x :: t)) Q E e d acts s ↔ wp (findHandler.go f a (x :: t)) Q E e d acts (s.setVm vm') := by
  obtain ⟨ha, ht⟩ := hg.op (op := VmOp.resolveClass f.method.cls x.catchType) rfl
  obtain ⟨cell, h1, h2, h3⟩ := hcell
  rw [W.findHandler_go_class (s := s.setVm vm') hx h0 hr h1 h2 h3 hc]
  simp only [covers] at hx
  cases hfit : vm'.assignable cell.cls c <;> simp [findHandler.go, hx, h0, ha, ht, hsz, h1, h2, h3, hc, hfit, VmOp.dirties, VmOp.acts]
theorem q_stepCatch {e : Env} {s : State} {a : Addr} {f : JFrame} {r : List Frame} {pc : Nat} {vm' : Vm} (hfind : ∀ (Q : Handler → Pre) (E : CtlPost) (d : Bool) (acts : List Action), wp (findHandler f a) Q E e d acts s ↔ Q (.found pc) d acts (s.setVm vm')) :
    (stepThrowing e s a (.java f :: r)).Is ((s.setVm vm').setFrames (.java { f with pc := pc, stack := [.ref a] } :: r)) [] := by
  simp only [stepThrowing, searchFrame, vmDo]
  generalize hr : Sem.go _ e false [] s = res
  obtain ⟨as, rfl, ha⟩ := Sem.eq_ok_of hr (a := Handler.found pc) (s' := s.setVm vm') (acts' := []) (by simp [hfind _ _ _ _])
  exact ⟨rfl, ha⟩
theorem q_caught {tb : Tables} {e : Env} {s target : State} {g : JFrame} {c : Code} {below : List Frame} {a : Addr} {vm' : Vm} (h : At s g.method c below) {pc : Nat}
    (hfind : ∀ (Q : Handler → Pre) (E : CtlPost) (d : Bool) (acts : List Action), wp (findHandler g a) Q E e d acts ((s.setTop g).pushFrame (.throwing a)) ↔ Q (.found pc) d acts (((s.setTop g).pushFrame (.throwing a)).setVm vm'))
    (hrest : Steps tb e below ((s.setVm vm').setTop { g with pc := pc, stack := [.ref a] }) target) : Steps tb e below ((s.setTop g).pushFrame (.throwing a)) target := by
  obtain ⟨hgo, hw⟩ := h.throwing a
  refine Steps.head hgo hw ?_
  rw [stepThread_throwing (frames_entered h.top _), (q_stepCatch (s := (s.setTop g).pushFrame (.throwing a)) hfind).1]
  obtain ⟨g₀, hg⟩ := Option.isSome_iff_exists.mp h.top
  obtain ⟨r, hr⟩ := State.topJava?_eq_some.mp hg
  have hr' : (s.setVm vm').frames = .java g₀ :: r := hr
  rw [State.setTop_of_frames _ hr'] at hrest
  rw [State.pushFrame, State.setTop_of_frames _ hr, State.setFrames_setFrames, hr]
  rw [show ∀ A : List Frame, (s.setFrames A).setVm vm' = (s.setVm vm').setFrames A from fun _ => rfl, State.setFrames_setFrames]
  exact hrest
def q_ckh1 (y : Nat) (r : Nat × Nat × Nat × Nat × Nat × Nat) (w : Nat × Nat × Nat × Nat) : Bool :=
  Nat.beq r.1 w.1 && Nat.beq r.2.1 w.2.1 && Nat.beq r.2.2.2.1 w.2.2.1 && Nat.beq (q_hcl w.2.2.2).1 r.2.2.1 && Nat.blt r.2.2.1 3 && !(Nat.beq w.2.2.2 0) && q_w (q_hcl w.2.2.2).2 (.classLink (q_own (q_mc y)) w.2.2.2 (q_exn r.2.2.1))
    && ((decide (decode (q_by y) r.2.2.2.1 = .ok (.astore r.2.2.2.2.2, 2)) && Nat.beq r.2.2.2.2.1 (r.2.2.2.1 + 2)) || (decide (decode (q_by y) r.2.2.2.1 = .ok (.astore_n (Fin.ofNat 4 r.2.2.2.2.2), 1)) && Nat.blt r.2.2.2.2.2 4 && Nat.beq r.2.2.2.2.1 (r.2.2.2.1 + 1)))
def q_ckh2 (y : Nat) : List (Nat × Nat × Nat × Nat × Nat × Nat) → List (Nat × Nat × Nat × Nat) → Bool
  | [], [] => true
  | r :: rs, w :: ws => q_ckh1 y r w && q_ckh2 y rs ws
  | _, _ => false
theorem k_h : q_all 177 (fun y => q_ckh2 y (q_hd y) (q_hr y)) = true := by decide +kernel
theorem k_cs : q_all 3 (fun e => q_w (q_pin e) (.instantiable (q_exn e) 6) && q_w (q_pii e) (.initialized (q_exn e))) = true := by decide +kernel
theorem q_self {E : q_E} {s : State} {ex : Nat} {c : ClassId} (hct : q_Ct E s) (he : ex < 3) (hc : s.vm.findClass (q_exn ex) = some c) : s.vm.assignable c c = true ∧ ∃ k, s.vm.classes[c]? = some k := by
  have h := q_all_of k_cs ex he
  simp only [Bool.and_eq_true] at h
  have h2 := q_w_mem h.1
  obtain ⟨c1, t1, e1, e2, e3⟩ := Cond.castable_spec (hct.2.2.2.2.2.1 ex he)
  rw [hc] at e1 e2
  cases e1; cases e2
  obtain ⟨cC, kC, hfc, hk, -⟩ := Cond.instantiable_spec (hct.1 _ h2.1 h2.2 #[])
  rw [hc] at hfc
  cases hfc
  exact ⟨e3, kC, hk⟩
def q_tup (h : ExceptionTableEntry) : Nat × Nat × Nat × Nat := (h.startPc, h.endPc, h.handlerPc, h.catchType)
theorem q_covers {x : ExceptionTableEntry} {pc : Nat} : covers x pc = (Nat.ble x.startPc pc && Nat.blt pc x.endPc) := by
  unfold covers
  cases h1 : Nat.ble x.startPc pc
  · have : ¬ x.startPc ≤ pc := fun h => by rw [Nat.ble_eq_true_of_le h] at h1; cases h1
    simp [this]
  · have a1 : x.startPc ≤ pc := Nat.le_of_ble_eq_true h1
    cases h2 : Nat.blt pc x.endPc
    · have : ¬ pc < x.endPc := fun h => by rw [show Nat.blt pc x.endPc = true from Nat.ble_eq_true_of_le h] at h2; cases h2
      simp [this]
    · have a2 : pc < x.endPc := Nat.le_of_ble_eq_true h2
      simp [a1, a2]
set_option maxHeartbeats 1000000 in
theorem q_find {E : q_E} {y : Nat} {l : Launch} {e : Env} {s : State} {ex : Nat} {cell : Cell} {g : JFrame} {x : Addr} {k : Nat → Nat → Prop}
    (hadm : l.admits e) (hown : s.vm.findClass (q_own (q_mc y)) = some g.method.cls) (hct : q_Ct E s) (hex : q_exc ex s cell) :
    ∀ (rows : List ExceptionTableEntry) (rs : List (Nat × Nat × Nat × Nat × Nat × Nat)), q_ckh2 y rs (rows.map q_tup) = true → q_hn g.pc ex k False rs →
    ∀ U : State, s.WarmedH U.vm → U.heap[x]? = some cell → ∃ (vm' : Vm) (h n i : Nat), s.WarmedH vm' ∧ k n i ∧ ((decode (q_by y) h = .ok (.astore i, 2) ∧ n = h + 2) ∨ (∃ j : Fin 4, decode (q_by y) h = .ok (.astore_n j, 1) ∧ j.val = i ∧ n = h + 1)) ∧
      ∀ (Q : Handler → Pre) (EE : CtlPost) (d : Bool) (acts : List Action), wp (findHandler.go g x rows) Q EE e d acts U ↔ Q (.found h) d acts (U.setVm vm')
  | [], [], _, hn, _, _, _ => hn.elim
  | [], _ :: _, hck, _, _, _, _ => by cases hck
  | _ :: _, [], hck, _, _, _, _ => by cases hck
  | row :: rows, (a, b, e', hp, n, i) :: rs, hck, hn, U, hW, hcell => by
    rw [List.map_cons] at hck
    unfold q_ckh2 at hck
    rw [Bool.and_eq_true] at hck
    obtain ⟨hck1, hck2⟩ := hck
    unfold q_ckh1 q_tup at hck1
    simp only [Bool.and_eq_true, Bool.or_eq_true, decide_eq_true_eq, Bool.not_eq_true'] at hck1
    obtain ⟨⟨⟨⟨⟨⟨⟨d1, d2⟩, d3⟩, d4⟩, d5⟩, d6⟩, d7⟩, d8⟩ := hck1
    have d1 := Nat.eq_of_beq_eq_true d1
    have d2 := Nat.eq_of_beq_eq_true d2
    have d3 := Nat.eq_of_beq_eq_true d3
    have d5 : e' < 3 := Nat.le_of_ble_eq_true d5
    have d6 : row.catchType ≠ 0 := fun h => by rw [h] at d6; cases d6
    unfold q_hn at hn
    rw [d1, d2, ← q_covers] at hn
    cases hcv : covers row g.pc <;> rw [hcv] at hn <;> simp only [cond_true, cond_false] at hn
    · obtain ⟨vm', h, n', i', h1, h2, h3, h4⟩ := q_find hadm hown hct hex rows rs hck2 hn U hW hcell
      exact ⟨vm', h, n', i', h1, h2, h3, fun Q EE d acts => (W.findHandler_go_skip hcv).trans (h4 Q EE d acts)⟩
    · have hpl : e.platform.magicAccessors = ({} : Platform).magicAccessors := by rw [hadm.platform]
      have d9 := q_w_mem d7
      obtain ⟨cc, hfcc, hcl⟩ := Cond.classLink_spec hown (hct.1 _ d9.1 d9.2 #[]) e.platform hpl
      obtain ⟨hg₁, hwarm₁, hready₁⟩ := State.classEntry (e := e) hW hcl
      have hsz : (U.vm.noted g.method.cls row.catchType (.cls cc)).classes.size ≤ U.vm.classes.size := by no_record
      generalize U.vm.noted g.method.cls row.catchType (.cls cc) = vm₁ at hg₁ hwarm₁ hready₁ hsz
      obtain ⟨hs1, kx, hkx⟩ := q_self hct hex.1 hex.2.1
      obtain ⟨hs2, kc, hkc⟩ := q_self hct d5 hfcc
      obtain ⟨k2, hk2, -⟩ := hwarm₁.alike.2.2 _ _ hkx
      obtain ⟨k3, hk3, -⟩ := hwarm₁.alike.2.2 _ _ hkc
      have cold := fun (Q : Handler → Pre) (EE : CtlPost) (d : Bool) (acts : List Action) => q_go_cold (f := g) (a := x) (x := row) (t := rows) (e := e) (s := U) (Q := Q) (E := EE) (d := d) (acts := acts) hcv d6 hg₁ hready₁ hsz ⟨cell, hcell, hex.2.2, k2, hk2⟩ ⟨k3, hk3⟩
      have clas := fun (Q : Handler → Pre) (EE : CtlPost) (d : Bool) (acts : List Action) => W.findHandler_go_class (f := g) (a := x) (x := row) (t := rows) (e := e) (s := U.setVm vm₁) (Q := Q) (E := EE) (d := d) (acts := acts) hcv d6 hready₁ hcell hex.2.2 ⟨k2, hk2⟩ ⟨k3, hk3⟩
      cases hee : Nat.beq e' ex <;> rw [hee] at hn <;> simp only [cond_true, cond_false] at hn
      · have hne : ex ≠ e' := fun h => by rw [h, Nat.beq_refl] at hee; cases hee
        obtain ⟨c1, c2, f1, f2, f3⟩ := hct.2.2.2.2.1 ex e' hex.1 d5 hne
        rw [hex.2.1] at f1
        rw [hfcc] at f2
        cases f1; cases f2
        have hno : vm₁.assignable cell.cls cc = false := by rw [hwarm₁.alike.assignable]; exact f3
        obtain ⟨vm', h, n', i', h1, h2, h3, h4⟩ := q_find hadm hown hct hex rows rs hck2 hn (U.setVm vm₁) hwarm₁ hcell
        refine ⟨vm', h, n', i', h1, h2, h3, fun Q EE d acts => (cold Q EE d acts).trans ((clas Q EE d acts).trans ?_)⟩
        rw [if_neg (by show ¬ vm₁.assignable cell.cls cc = true; rw [hno]; decide)]
        exact h4 Q EE d acts
      · cases Nat.eq_of_beq_eq_true hee
        rw [hex.2.1] at hfcc
        cases hfcc
        have hyes : vm₁.assignable cell.cls cell.cls = true := by rw [hwarm₁.alike.assignable]; exact hs1
        refine ⟨vm₁, row.handlerPc, n, i, hwarm₁, hn, ?_, fun Q EE d acts => (cold Q EE d acts).trans ((clas Q EE d acts).trans ?_)⟩
        · rw [← d3]
          rcases d8 with d8 | d8
          · exact Or.inl ⟨d8.1, Nat.eq_of_beq_eq_true d8.2⟩
          · refine Or.inr ⟨_, d8.1.1, ?_, Nat.eq_of_beq_eq_true d8.2⟩
            have : i < 4 := Nat.le_of_ble_eq_true d8.1.2
            simp [Fin.ofNat]
            omega
        · rw [if_pos (by exact hyes)]
