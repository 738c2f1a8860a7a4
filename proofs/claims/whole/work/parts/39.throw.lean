/-! a throw: the walk is begun anew where it stands, so that what the frame wrote before is kept -/
section Throw
variable {E : q_E} {y pc : Nat} {L st : List q_V} {S : q_S} {Q : q_Q} {Z : q_Z} {p : Program} {l : Launch} {e : Env} {R : Room} {s : State} {m : MethodId} {args : Array Value} {below : List Frame} {meth : Method} {c : Code} {T : State} {H : Heap} {locs : List Loc} {cells slots : Nat} {ls : Array Slot} {sv : List Value} {Qf : State → Prop}
theorem q_rebase (X : Stand p l e R s m args below meth c T locs cells slots) {R' : Room} (hf : R'.frames ≤ R.frames) (hl : R'.locals ≤ R.locals) (hc : cells + R'.cells ≤ R.cells) (hs : slots + R'.slots ≤ R.slots) :
    Stand p l e R' (T.setFrames (.invoking m args :: below)) m args below meth c T [] 0 0 := by
  obtain ⟨g₀, hfr⟩ := X.frames_eq
  have hcur : T.cur < T.threads.size := State.cur_lt_of_frames hfr
  have hF : (T.setFrames (.invoking m args :: below)).frames = .invoking m args :: below := State.frames_setFrames _ hcur
  obtain ⟨t, ht, -⟩ := State.frames_cons hF
  obtain ⟨t0, ht0, -⟩ := State.frames_cons hfr
  have hmeth : (T.setFrames (.invoking m args :: below)).vm.method? m = some meth := X.method'
  have hback : (T.setFrames (.invoking m args :: below)).setFrames T.frames = T := by rw [State.setFrames_setFrames, State.setFrames_self ht0]
  have hcur2 : (T.setFrames (.invoking m args :: below)).cur < (T.setFrames (.invoking m args :: below)).threads.size := State.cur_lt_of_frames hF
  refine ⟨X.admits, X.cas, X.clock, hF, ?_, ?_, hmeth, X.code, X.here, X.tail, State.WarmedH.refl _, ?_, ?_, ?_⟩
  · have h0 := X.room
    have hb := X.book
    have h1 := X.heapSize
    have h2 := X.used
    have e1 := State.localsInUse_invoking hF hmeth X.code
    have e2 := State.localsInUse_invoking X.frames X.method X.code
    have e3 : (T.setFrames (.invoking m args :: below)).frames.length = s.frames.length := by rw [hF, X.frames]
    have e4 : e.platform.stackLimits (T.setFrames (.invoking m args :: below)).me = e.platform.stackLimits s.me := by rw [State.stackLimits_setFrames]; exact X.limits
    have e5 : (T.setFrames (.invoking m args :: below)).me.stackBytes = s.me.stackBytes := by rw [State.stackBytes_setFrames]; exact X.bytes
    simp only [State.hasRoom, Bool.and_eq_true, decide_eq_true_eq] at h0 ⊢
    rw [e1, e3, e4, e5]
    rw [e2] at h0
    obtain ⟨⟨⟨⟨a1, a2, a3, a4, a5, a6⟩, a7⟩, a8⟩, a9⟩ := h0
    refine ⟨⟨⟨⟨by omega, by omega, by omega, by omega, by omega, a6⟩, ?_⟩, ?_⟩, hb⟩
    · show T.heap.size + _ ≤ _; omega
    · show T.slotsUsed + _ ≤ _; omega
  · have h0 := X.hears
    have al := X.warmed.alike
    unfold State.hears at h0 ⊢
    split
    · rename_i g r
      simp only at h0
      rw [State.code?_eq] at h0 ⊢
      have : (T.setFrames (.invoking m args :: .java g :: r)).vm.method? g.method = s.vm.method? g.method := al.method? _
      rw [this]
      exact h0
    · rfl
    · rfl
    · rename_i h1 h2 h3
      split at h0
      · rename_i g r; exact absurd rfl (h1 g r)
      · rename_i g r; exact absurd rfl (h2 g r)
      · rename_i g r; exact absurd rfl (h3 g r)
      · have : (T.setFrames (.invoking m args :: below)).vm.method? m = s.vm.method? m := al.method? _
        rw [this]
        exact h0
  · rw [State.stackLimits_setFrames]
  · rw [State.stackBytes_setFrames]
  · have h := (State.sameButNew.refl (T.setFrames (.invoking m args :: below)) ht).setFrames T.frames hcur2
    rw [hback] at h
    exact h
theorem q_same_cell {s t : State} {k n : Nat} (h : s.sameButNew t [] k n) {a : Nat} (ha : a < s.heap.size) : t.heap[a]? = s.heap[a]? := by
  obtain ⟨c, hc⟩ : ∃ c, s.heap[a]? = some c := ⟨_, Array.getElem?_eq_getElem ha⟩
  obtain ⟨c', h1, h2, h3, h4⟩ := h.2.2.2.2.2 a c hc
  rw [h1, hc]
  have e : c'.slots = c.slots := by
    refine Array.ext_getElem? fun i => ?_
    exact h4 i (by simp)
  rw [h2, e]
theorem q_isRef {C n d : String} {A : Nat → Prop} {s : State} {H0 : Heap} (hs : ∀ q, q < H0.size → ¬ A q → s.heap[q]? = H0[q]?) (h : va_Zq C n d A s H0) (args : Array Value) : (Cond.isRef (.static C n d)).before args s = true := by
  have key : ∀ v : Value, va_Z C n d v A s H0 → (Term.static C n d).eval args s none [] s = some v := by
    intro v hv
    obtain ⟨cf, kf, fi, f, a, cell, h1, h2, h3, h4, h5, h6, h7, h8⟩ := hv
    have hcell : s.heap[a]? = some cell := by rw [hs a (Array.getElem?_eq_some_iff.mp h5).1 h8]; exact h5
    simp [Term.eval, State.fieldNamed?, h1, h2, h4, hcell, h6, h7]
  rcases h with h | ⟨t, h⟩
  · simp [Cond.before, Cond.holds, Cond.value, key _ h]
  · simp [Cond.before, Cond.holds, Cond.value, key _ h]
end Throw
