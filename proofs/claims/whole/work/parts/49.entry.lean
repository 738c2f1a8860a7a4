/-! the law from its entry to the head of its loop -/
theorem b_RA {s : State} {c : ClassId} : ∀ {t : Nat}, s.vm.findClass ("[" ++ (b_fty t).toString) = some c → va_RA s c (b_fty t)
  | 0, f => f | 1, f => f | 2, f => f | _ + 3, f => f
theorem b_known {s : State} {args : Array Value} (hts : ∀ w ∈ lw_tbl, w.before args s = true) : ∃ (D : va_G) (cA : Nat → ClassId), va_K D q_cls (q_tys cA) s := by
  have h1 : ∀ c : Nat, ∃ q : ClassId × (Nat → Nat), ∀ r : vw_C, q_cls[c]? = some r → u_Kn s r.1 r.2.1 r.2.2 q.1 q.2 := by
    intro c
    by_cases hc : c < 12
    · obtain ⟨T, hT, -, -⟩ := b_cls hc
      have hck := b_k2 c hc
      unfold b_ckc at hck
      simp only [Bool.and_eq_true, decide_eq_true_eq] at hck
      have v3 := q_w_mem hck.1.1.1.1.1.2
      have hlay : ∀ w ∈ u_ws (q_own c) T (b_df c).length, w.before args s = true := by
        have h := q_all_of k_y c hc
        simp only [q_cky, hT, Bool.and_eq_true] at h
        intro w hw
        obtain ⟨j, hj, rfl⟩ := List.mem_map.mp hw
        exact hts _ (q_w_mem (q_all_of h.1 j (List.mem_range.mp hj))).1
      obtain ⟨cC, iS, hk⟩ := u_known hlay (fun _ h => h) (hts _ v3.1)
      refine ⟨(cC, iS), fun r hr => ?_⟩
      rw [hT] at hr
      cases hr
      exact hk
    · refine ⟨(0, fun _ => 0), fun r hr => ?_⟩
      have : q_cls[c]? = none := List.getElem?_eq_none (by show 12 ≤ c; omega)
      rw [this] at hr
      cases hr
  have h2 : ∀ t : Nat, ∃ cA : ClassId, t < 4 → ArrOfT s cA (b_fty t) ∧ va_RA s cA (b_fty t) := by
    intro t
    by_cases ht : t < 4
    · have h := of_decide_eq_true (q_all_of b_k5 t ht)
      obtain ⟨c, k, comp, f1, f2, f3⟩ := Cond.arrayClass_spec (hts _ (List.mem_of_getElem? h))
      refine ⟨c, fun _ => ⟨fun n z => ⟨fun k h => (by cases h), k, f2, comp, f3⟩, b_RA f1⟩⟩
    · exact ⟨0, fun h => absurd h ht⟩
  refine ⟨(fun c => (Classical.choose (h1 c)).1, fun c => (Classical.choose (h1 c)).2), fun t => Classical.choose (h2 t), fun c q hq => Classical.choose_spec (h1 c) q hq, fun k q hk => ?_⟩
  have hk4 : k < 4 := (List.getElem?_eq_some_iff.mp hk).1
  match k, hk, hk4 with
  | 0, hk, _ => cases hk; exact Classical.choose_spec (h2 0) (by decide)
  | 1, hk, _ => cases hk; exact Classical.choose_spec (h2 1) (by decide)
  | 2, hk, _ => cases hk; exact Classical.choose_spec (h2 2) (by decide)
  | 3, hk, _ => cases hk; exact Classical.choose_spec (h2 3) (by decide)
theorem b_n1w : lw_tbl[b_pl 0 11]? = some (.methodLinkNest (q_own 0) 11 (b_nm 1) (q_own 0)) := by decide +kernel
theorem b_n2w : lw_tbl[b_pl 0 18]? = some (.methodLinkNest (q_own 0) 18 (b_nm 2) (q_own 0)) := by decide +kernel
theorem b_n3w : lw_tbl[q_pl 3 90]? = some (.methodLinkNest (q_own 3) 90 (q_nm 25) q_hst) := by decide +kernel
theorem b_Ct_of {D : va_G} {cA : Nat → ClassId} {s : State} {args : Array Value} (hts : ∀ w ∈ lw_tbl, w.before args s = true) (hK : va_K D q_cls (q_tys cA) s) : b_Ct D cA s :=
  ⟨fun w hw hg a => word_at (State.WarmedH.refl s) hg (hts w hw), va_Nw.of rfl (hts _ (List.mem_of_getElem? b_n1w)), va_Nw.of rfl (hts _ (List.mem_of_getElem? b_n2w)), hK⟩
theorem q_layT {C n d : String} {A : Nat → Prop} {s : State} {H1 : Heap} {args : Array Value} (hs : ∀ q, q < s.heap.size → ¬ A q → H1[q]? = s.heap[q]?) (hz : va_Zq C n d A s s.heap) (h : (Cond.laysStatic C n d).before args s = true) : (Cond.laysStatic C n d).before #[] ({ s with heap := H1 } : State) = true := by
  have key : ∀ v : Value, va_Z C n d v A s s.heap → (Cond.laysStatic C n d).before #[] ({ s with heap := H1 } : State) = true := by
    intro v hv
    obtain ⟨cf, kf, fi, f, a, cell, h1, h2, h3, h4, h5, h6, h7, h8⟩ := hv
    have hcell : H1[a]? = some cell := by rw [hs a (Array.getElem?_eq_some_iff.mp h5).1 h8]; exact h5
    have h1' : ({ s with heap := H1 } : State).fieldFound? C n d = some (cf, kf, fi, f) := h1
    cases hf : s.vm.findClass C with
    | none => simp [Cond.before, Cond.holds, Cond.value, hf] at h
    | some c =>
      simp only [Cond.before, Cond.holds, Cond.value, hf, h1, h4, Option.bind_some, h5, Option.map_some] at h
      simp only [Cond.before, Cond.holds, Cond.value, hf, h1', h4, Option.bind_some, hcell, Option.map_some]
      exact h
  rcases hz with h1 | ⟨t, h1⟩
  · exact key _ h1
  · exact key _ h1
theorem q_nc_of {s : State} {args : Array Value} (hgv : (Jvm.Cond.and given_1 narrow_1).before args s = true) : ∀ a b, a < 3 → b < 3 → a ≠ b → va_Nc (q_exn a) (q_exn b) s := by
  have h := flat_of_before _ hgv
  have k01 : va_Nc (q_exn 0) (q_exn 1) s := va_Nc.of (h _ (by decide +kernel))
  have k02 : va_Nc (q_exn 0) (q_exn 2) s := va_Nc.of (h _ (by decide +kernel))
  have k10 : va_Nc (q_exn 1) (q_exn 0) s := va_Nc.of (h _ (by decide +kernel))
  have k12 : va_Nc (q_exn 1) (q_exn 2) s := va_Nc.of (h _ (by decide +kernel))
  have k20 : va_Nc (q_exn 2) (q_exn 0) s := va_Nc.of (h _ (by decide +kernel))
  have k21 : va_Nc (q_exn 2) (q_exn 1) s := va_Nc.of (h _ (by decide +kernel))
  intro a b ha hb hab
  match a, b, ha, hb, hab with
  | 0, 0, _, _, h => exact absurd rfl h
  | 0, 1, _, _, _ => exact k01
  | 0, 2, _, _, _ => exact k02
  | 1, 0, _, _, _ => exact k10
  | 1, 1, _, _, h => exact absurd rfl h
  | 1, 2, _, _, _ => exact k12
  | 2, 0, _, _, _ => exact k20
  | 2, 1, _, _, _ => exact k21
  | 2, 2, _, _, h => exact absurd rfl h
  | a + 3, _, h, _, _ => omega
  | _, b + 3, _, h, _ => omega
def q_pcs (e : Nat) : Nat := match e with | 0 => 686 | 1 => 761 | _ => 839
theorem k_csw : q_all 3 (fun e => decide (lw_tbl[q_pcs e]? = some (.castable (q_exn e) (q_exn e)))) = true := by decide +kernel
