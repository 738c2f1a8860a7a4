def q_ens : List String := ["java/lang/RuntimeException", "java/lang/Exception"]
def q_atm (a : Cond) : Bool := match a with
  | .isRef (.static C n d) => (decide (C = "java/lang/Throwable") && ((decide (n = "UNASSIGNED_STACK") && decide (d = "[Ljava/lang/StackTraceElement;")) || (decide (n = "SUPPRESSED_SENTINEL") && decide (d = "Ljava/util/List;"))))
  | .castable A B => decide (A = B) && (decide (A = q_exn 0) || decide (A = q_exn 1) || decide (A = q_exn 2))
  | .laysStatic C n d => (decide (C = "java/lang/Throwable") && ((decide (n = "UNASSIGNED_STACK") && decide (d = "[Ljava/lang/StackTraceElement;")) || (decide (n = "SUPPRESSED_SENTINEL") && decide (d = "Ljava/util/List;"))))
  | .declares x => decide (Cond.declares x ∈ lw_tbl)
  | a => decide (a ∈ lw_tbl) && q_gd a
def q_hd0 (e : Nat) : List Cond := Bundle.throwableAtoms ++ Bundle.chain0Atoms (q_exn e) q_ens
def q_cke (e : Nat) : Bool := (q_hd0 e).all q_atm && ((Bundle.ownAtoms0 "" 0 (q_exn e) q_ens).drop ((q_hd0 e).length + 1)).all q_atm
theorem k_e0 : q_cke 0 = true := by decide +kernel
theorem k_e1 : q_cke 1 = true := by decide +kernel
theorem k_e2 : q_cke 2 = true := by decide +kernel
def q_ckn (c x : Nat) : Bool := (match q_ivs c x with
  | some (z, _) => bif Nat.blt z 2000 then true else Nat.blt (z - 2000) 3 && q_w (q_pl c x) (.methodLink (q_own c) x (Bundle.init0 (q_exn (z - 2000))))
  | none => true) && (match q_nws c x with
  | some e => Nat.blt e 3 && q_w (q_pn c x) (.classLink (q_own c) x (q_exn e))
  | none => true)
theorem k_n : q_all 14 (fun c => q_all 400 (q_ckn c)) = true := by decide +kernel
def q_ckz (y : Nat) : Bool := (q_hr y).isEmpty || q_all (q_sz y) (fun pc => match q_cd y pc with | some (.new _, _) => false | _ => true)
theorem k_z : q_all 177 q_ckz = true := by decide +kernel
theorem q_drop1 {α : Type} (l : List α) (x : α) (t : List α) : (l ++ x :: t).drop (l.length + 1) = t := by
  induction l with
  | nil => rfl
  | cons a l ih => simpa using ih
theorem q_atm_sub {own : String} {ic ex : Nat} {a : Cond} (hk : q_cke ex = true) (h : a ∈ Bundle.ownAtoms0 own ic (q_exn ex) q_ens) : a = .methodLink own ic (Bundle.init0 (q_exn ex)) ∨ q_atm a = true := by
  unfold q_cke at hk
  rw [Bool.and_eq_true] at hk
  have h2 := hk.2
  unfold Bundle.ownAtoms0 at h h2
  rw [show Bundle.throwableAtoms ++ Bundle.chain0Atoms (q_exn ex) q_ens = q_hd0 ex from rfl] at h h2
  rw [q_drop1] at h2
  rcases List.mem_append.mp h with h | h
  · exact Or.inr (List.all_eq_true.mp hk.1 a h)
  · rcases List.mem_cons.mp h with h | h
    · exact Or.inl h
    · exact Or.inr (List.all_eq_true.mp h2 a h)
theorem q_layS {E : q_E} {s : State} {n d : String} (hs : ∀ q, q < E.2.2.2.1.size → ¬ q_A E.1 q → s.heap[q]? = E.2.2.2.1[q]?) (h : q_Cs E s n d) (args : Array Value) : (Cond.laysStatic "java/lang/Throwable" n d).before args s = true := by
  have key : ∀ v : Value, va_Z "java/lang/Throwable" n d v (q_A E.1) s E.2.2.2.1 → (Cond.laysStatic "java/lang/Throwable" n d).before args s = true := by
    intro v hv
    obtain ⟨cf, kf, fi, f, a, cell, h1, h2, h3, h4, h5, h6, h7, h8⟩ := hv
    have hcell : s.heap[a]? = some cell := by rw [hs a (Array.getElem?_eq_some_iff.mp h5).1 h8]; exact h5
    have h9 := h.2
    have h1' : ({ s with heap := E.2.2.2.1 } : State).fieldFound? "java/lang/Throwable" n d = some (cf, kf, fi, f) := h1
    cases hf : s.vm.findClass "java/lang/Throwable" with
    | none => simp [Cond.before, Cond.holds, Cond.value, hf] at h9
    | some c =>
      simp only [Cond.before, Cond.holds, Cond.value, hf, h1', h4, Option.bind_some, h5, Option.map_some] at h9
      simp only [Cond.before, Cond.holds, Cond.value, hf, h1, h4, Option.bind_some, hcell, Option.map_some]
      exact h9
  rcases h.1 with h1 | ⟨t, h1⟩
  · exact key _ h1
  · exact key _ h1
theorem q_atm_ok {E : q_E} {s : State} {a : Cond} {args : Array Value} (hs : ∀ q, q < E.2.2.2.1.size → ¬ q_A E.1 q → s.heap[q]? = E.2.2.2.1[q]?) (hct : q_Ct E s) (h : q_atm a = true) : a.before args s = true := by
  unfold q_atm at h
  split at h
  · rename_i C n d
    simp only [Bool.and_eq_true, Bool.or_eq_true, decide_eq_true_eq] at h
    obtain ⟨rfl, ⟨rfl, rfl⟩ | ⟨rfl, rfl⟩⟩ := h
    · exact q_isRef hs hct.2.2.2.2.2.2.2.1.1 args
    · exact q_isRef hs hct.2.2.2.2.2.2.2.2.1 args
  · rename_i A B
    simp only [Bool.and_eq_true, Bool.or_eq_true, decide_eq_true_eq] at h
    obtain ⟨rfl, (rfl | rfl) | rfl⟩ := h
    · exact va_Nw.use rfl (hct.2.2.2.2.2.1 0 (by decide))
    · exact va_Nw.use rfl (hct.2.2.2.2.2.1 1 (by decide))
    · exact va_Nw.use rfl (hct.2.2.2.2.2.1 2 (by decide))
  · rename_i C n d
    simp only [Bool.and_eq_true, Bool.or_eq_true, decide_eq_true_eq] at h
    obtain ⟨rfl, ⟨rfl, rfl⟩ | ⟨rfl, rfl⟩⟩ := h
    · exact q_layS hs hct.2.2.2.2.2.2.2.1 args
    · exact q_layS hs hct.2.2.2.2.2.2.2.2 args
  · rename_i x
    exact va_Nw.use rfl (hct.2.2.2.2.2.2.1 x (of_decide_eq_true h))
  · rw [Bool.and_eq_true, decide_eq_true_eq] at h
    exact hct.1 _ h.1 h.2 args
theorem q_atms {E : q_E} {s : State} {own : String} {ic ex : Nat} {args : Array Value} (hs : ∀ q, q < E.2.2.2.1.size → ¬ q_A E.1 q → s.heap[q]? = E.2.2.2.1[q]?) (hct : q_Ct E s) (he : ex < 3) (hl : (Cond.methodLink own ic (Bundle.init0 (q_exn ex))).before args s = true) : ∀ a ∈ Bundle.ownAtoms0 own ic (q_exn ex) q_ens, a.before args s = true := by
  have hk : q_cke ex = true := by
    match ex, he with
    | 0, _ => exact k_e0
    | 1, _ => exact k_e1
    | 2, _ => exact k_e2
  intro a ha
  rcases q_atm_sub hk ha with rfl | h
  · exact hl
  · exact q_atm_ok hs hct h
