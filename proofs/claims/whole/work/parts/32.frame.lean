/-! what holds of a frame of method y, and what the pure reading means there -/
def q_tys (cA : Nat → ClassId) : List (ClassId × FieldType) := [(cA 0, .int), (cA 1, .boolean), (cA 2, .char), (cA 3, .long)]
def q_A (ad : Nat → Nat) : Nat → Prop := fun q => ∃ k, k < 63 ∧ q = ad k
abbrev q_E : Type := (Nat → Nat) × va_G × (Nat → ClassId) × Heap × Nat × (Nat → Int32)
def q_Wd (E : q_E) (S : q_S) (H : Heap) (locs : List Loc) : Prop := va_P E.2.1 q_cls (q_wd E.1 E.2.2.1 S) H ∧ va_S (q_A E.1) E.2.2.2.1 H locs ∧ q_ok E.2.2.2.2.1 E.2.2.2.2.2 S
def q_Ei (E : q_E) : Prop := (∀ i j, i < 63 → j < 63 → E.1 i = E.1 j → i = j) ∧ (∀ k, k < 63 → E.1 63 ≠ E.1 k) ∧ E.1 63 < E.2.2.2.1.size ∧ E.2.2.2.2.1 ≤ 2048
theorem q_D {E : q_E} (h : q_Ei E) (S : q_S) : va_D (q_A E.1) (q_wd E.1 E.2.2.1 S) := by
  have key : ∀ (i : Nat) (p : Nat × va_E), (q_wd E.1 E.2.2.1 S)[i]? = some p → i < 63 ∧ p.1 = E.1 i := by
    intro i p hp
    have hi : i < 63 := by
      have := (List.getElem?_eq_some_iff.mp hp).1
      simpa [q_wd] using this
    rw [q_wd_at hi] at hp
    cases hp
    exact ⟨hi, rfl⟩
  refine ⟨fun i j p q hp hq e => ?_, fun k q hk => ?_⟩
  · obtain ⟨a1, a2⟩ := key i p hp
    obtain ⟨b1, b2⟩ := key j q hq
    exact h.1 i j a1 b1 (by rw [← a2, ← b2]; exact e)
  · obtain ⟨a1, a2⟩ := key k q hk
    exact ⟨k, a1, a2⟩
/-- a static of Throwable: a reference or null, in a cell that the world does not touch -/
def q_Cs (E : q_E) (s : State) (n d : String) : Prop := va_Zq "java/lang/Throwable" n d (q_A E.1) s E.2.2.2.1 ∧ (Cond.laysStatic "java/lang/Throwable" n d).before #[] ({ s with heap := E.2.2.2.1 } : State) = true
/-- facts of the tables, that every later state keeps -/
def q_Ct (E : q_E) (s : State) : Prop := (∀ w ∈ lw_tbl, q_gd w = true → ∀ a, w.before a s = true) ∧ va_Nw (.methodLinkNest (q_own 3) 90 (q_nm 25) q_hst) s ∧ va_K E.2.1 q_cls (q_tys E.2.2.1) s ∧ va_X (E.1 63) E.2.2.2.2.1 E.2.2.2.2.2 s E.2.2.2.1
  ∧ (∀ a b, a < 3 → b < 3 → a ≠ b → va_Nc (q_exn a) (q_exn b) s) ∧ (∀ a, a < 3 → va_Nw (.castable (q_exn a) (q_exn a)) s) ∧ (∀ x, Cond.declares x ∈ lw_tbl → va_Nw (.declares x) s) ∧ q_Cs E s "UNASSIGNED_STACK" "[Ljava/lang/StackTraceElement;" ∧ q_Cs E s "SUPPRESSED_SENTINEL" "Ljava/util/List;"
def q_Cx (E : q_E) (y : Nat) (p : Program) (l : Launch) (R : Room) (s : State) (m : MethodId) (meth : Method) (c : Code) : Prop :=
  p.tables.exec = Jvm.exec ∧ l.flags = flags0 ∧ c.code = q_by y ∧ c.maxLocals = q_ml y ∧ meth.sig.returnType = q_rty y ∧ meth.locks = false
  ∧ c.exceptionTable.toList.map (fun h => (h.startPc, h.endPc, h.handlerPc, h.catchType)) = q_hr y
  ∧ s.vm.findClass (q_own (q_mc y)) = some m.cls ∧ q_Ct E s ∧ q_rf y ≤ R.frames ∧ q_rw y ≤ R.locals
def q_bd (S : q_S) (R : Room) (cells slots : Nat) : Prop := cells + (1000 - (S 65 0).toNat) ≤ R.cells ∧ slots + 6 * (1000 - (S 65 0).toNat) ≤ R.slots
def q_rvr (y : Nat) (a : Int) (v : Option Value) : Prop := match q_rt y with | 0 => v = none | _ => q_rg a ∧ v = some (.int (Int32.ofInt a))
def q_exc (e : Nat) (s : State) (cell : Cell) : Prop := e < 3 ∧ s.vm.findClass (q_exn e) = some cell.cls ∧ (∀ k, cell.vm ≠ .statics k)
def q_okr (E : q_E) (y : Nat) (Q : q_Q) (R : Room) (s : State) (below : List Frame) (Qf : State → Prop) : Prop :=
  ∀ (t : State) (v : Option Value) (a : Int) (S' : q_S) (locs : List Loc) (cells slots : Nat), Q a S' → q_rvr y a v → t.status = .running → Ended t below (.returned v) → s.WarmedH t.vm → s.sameButNew ({ t with vm := s.vm } : State) locs cells slots → q_Wd E S' t.heap locs → q_bd S' R cells slots → Qf t
def q_okz (E : q_E) (Z : q_Z) (R : Room) (s : State) (below : List Frame) (Qf : State → Prop) : Prop :=
  ∀ (t : State) (x e : Nat) (cell : Cell) (S' : q_S) (locs : List Loc) (cells slots : Nat), Z e S' → t.status = .running → Ended t below (.threw x) → s.WarmedH t.vm → s.sameButNew ({ t with vm := s.vm } : State) locs cells slots → q_Wd E S' t.heap locs → q_bd S' R cells slots → t.heap[x]? = some cell → q_exc e s cell → Qf t
def q_F (E : q_E) : q_KK := fun y pc L st S Q Z => ∀ (p : Program) (l : Launch) (e : Env) (R : Room) (s : State) (m : MethodId) (args : Array Value) (below : List Frame) (meth : Method) (c : Code) (H : Heap) (locs : List Loc) (cells slots : Nat) (ls : Array Slot) (sv : List Value) (Qf : State → Prop),
  q_Cx E y p l R s m meth c → q_lr E.1 L ls → L.length = q_ml y → q_sr E.1 st sv → q_Wd E S H locs → q_bd S R cells slots → q_okr E y Q R s below Qf → q_okz E Z R s below Qf → W p l e R s m args below meth c H locs cells slots Qf (F0 m pc ls sv)
-- readers
theorem q_gI_o {v : Option q_V} {f : Int → Prop} (h : q_gI v f) : ∃ a, v = some (vI a) ∧ f a := by
  unfold q_gI at h; split at h
  · exact ⟨_, rfl, h⟩
  · exact h.elim
theorem q_gL_o {v : Option q_V} {f : Int → Prop} (h : q_gL v f) : ∃ a, v = some (vL a) ∧ f a := by
  unfold q_gL at h; split at h
  · exact ⟨_, rfl, h⟩
  · exact h.elim
theorem q_gR_o {v : Option q_V} {f : Nat → Prop} (h : q_gR v f) : ∃ a, v = some (vR a) ∧ f a := by
  unfold q_gR at h; split at h
  · exact ⟨_, rfl, h⟩
  · exact h.elim
theorem q_i1_o {E : Nat → Nat} {st : List q_V} {sv : List Value} {f : Int → List q_V → Prop} (h : q_i1 st f) (hs : q_sr E st sv) : ∃ a r rv, sv = .int (Int32.ofInt a) :: rv ∧ q_rg a ∧ q_sr E r rv ∧ f a r ∧ st = vI a :: r := by
  unfold q_i1 at h; split at h
  · match sv, hs with
    | x :: rv, hs => exact ⟨_, _, rv, by rw [hs.1.2], hs.1.1, hs.2, h, rfl⟩
  · exact h.elim
theorem q_i2_o {E : Nat → Nat} {st : List q_V} {sv : List Value} {f : Int → Int → List q_V → Prop} (h : q_i2 st f) (hs : q_sr E st sv) : ∃ a b r rv, sv = .int (Int32.ofInt b) :: .int (Int32.ofInt a) :: rv ∧ q_rg a ∧ q_rg b ∧ q_sr E r rv ∧ f a b r := by
  unfold q_i2 at h; split at h
  · match sv, hs with
    | x :: z :: rv, hs => exact ⟨_, _, _, rv, by rw [hs.1.2, hs.2.1.2], hs.2.1.1, hs.1.1, hs.2.2, h⟩
  · exact h.elim
theorem q_l1_o {E : Nat → Nat} {st : List q_V} {sv : List Value} {f : Int → List q_V → Prop} (h : q_l1 st f) (hs : q_sr E st sv) : ∃ a r rv, sv = .long (Int64.ofInt a) :: rv ∧ q_r64 a ∧ q_sr E r rv ∧ f a r := by
  unfold q_l1 at h; split at h
  · match sv, hs with
    | x :: rv, hs => exact ⟨_, _, rv, by rw [hs.1.2], hs.1.1, hs.2, h⟩
  · exact h.elim
theorem q_l2_o {E : Nat → Nat} {st : List q_V} {sv : List Value} {f : Int → Int → List q_V → Prop} (h : q_l2 st f) (hs : q_sr E st sv) : ∃ a b r rv, sv = .long (Int64.ofInt b) :: .long (Int64.ofInt a) :: rv ∧ q_r64 a ∧ q_r64 b ∧ q_sr E r rv ∧ f a b r := by
  unfold q_l2 at h; split at h
  · match sv, hs with
    | x :: z :: rv, hs => exact ⟨_, _, _, rv, by rw [hs.1.2, hs.2.1.2], hs.2.1.1, hs.1.1, hs.2.2, h⟩
  · exact h.elim
theorem q_li_o {E : Nat → Nat} {st : List q_V} {sv : List Value} {f : Int → Int → List q_V → Prop} (h : q_li st f) (hs : q_sr E st sv) : ∃ a b r rv, sv = .int (Int32.ofInt b) :: .long (Int64.ofInt a) :: rv ∧ q_r64 a ∧ q_rg b ∧ q_sr E r rv ∧ f a b r := by
  unfold q_li at h; split at h
  · match sv, hs with
    | x :: z :: rv, hs => exact ⟨_, _, _, rv, by rw [hs.1.2, hs.2.1.2], hs.2.1.1, hs.1.1, hs.2.2, h⟩
  · exact h.elim
theorem q_r1_o {E : Nat → Nat} {st : List q_V} {sv : List Value} {f : Nat → List q_V → Prop} (h : q_r1 st f) (hs : q_sr E st sv) : ∃ k r rv, sv = .ref (E k) :: rv ∧ q_sr E r rv ∧ f k r := by
  unfold q_r1 at h; split at h
  · match sv, hs with
    | x :: rv, hs => exact ⟨_, _, rv, by rw [show x = _ from hs.1], hs.2, h⟩
  · exact h.elim
theorem q_ri_o {E : Nat → Nat} {st : List q_V} {sv : List Value} {f : Nat → Int → List q_V → Prop} (h : q_ri st f) (hs : q_sr E st sv) : ∃ k i r rv, sv = .int (Int32.ofInt i) :: .ref (E k) :: rv ∧ q_rg i ∧ q_sr E r rv ∧ f k i r := by
  unfold q_ri at h; split at h
  · match sv, hs with
    | x :: z :: rv, hs => exact ⟨_, _, _, rv, by rw [hs.1.2, show z = _ from hs.2.1], hs.1.1, hs.2.2, h⟩
  · exact h.elim
theorem q_rii_o {E : Nat → Nat} {st : List q_V} {sv : List Value} {f : Nat → Int → Int → List q_V → Prop} (h : q_rii st f) (hs : q_sr E st sv) : ∃ k i v r rv, sv = .int (Int32.ofInt v) :: .int (Int32.ofInt i) :: .ref (E k) :: rv ∧ q_rg v ∧ q_rg i ∧ q_sr E r rv ∧ f k i v r := by
  unfold q_rii at h; split at h
  · match sv, hs with
    | w :: x :: z :: rv, hs => exact ⟨_, _, _, _, rv, by rw [hs.1.2, hs.2.1.2, show z = _ from hs.2.2.1], hs.1.1, hs.2.1.1, hs.2.2.2, h⟩
  · exact h.elim
theorem q_ril_o {E : Nat → Nat} {st : List q_V} {sv : List Value} {f : Nat → Int → Int → List q_V → Prop} (h : q_ril st f) (hs : q_sr E st sv) : ∃ k i v r rv, sv = .long (Int64.ofInt v) :: .int (Int32.ofInt i) :: .ref (E k) :: rv ∧ q_r64 v ∧ q_rg i ∧ q_sr E r rv ∧ f k i v r := by
  unfold q_ril at h; split at h
  · match sv, hs with
    | w :: x :: z :: rv, hs => exact ⟨_, _, _, _, rv, by rw [hs.1.2, hs.2.1.2, show z = _ from hs.2.2.1], hs.1.1, hs.2.1.1, hs.2.2.2, h⟩
  · exact h.elim
theorem q_tgt {pc : Nat} {o : Int} (h : q_to pc o = true) : (pc : Int) + o = (q_tg pc o : Int) := by
  have : 0 ≤ (pc : Int) + o := of_decide_eq_true h
  unfold q_tg
  omega
