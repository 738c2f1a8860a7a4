/-! the step of every instruction -/
section Step
variable {E : q_E} {y pc : Nat} {L st : List q_V} {S : q_S} {Q : q_Q} {Z : q_Z} {p : Program} {l : Launch} {e : Env} {R : Room} {s : State} {m : MethodId} {args : Array Value} {below : List Frame} {meth : Method} {c : Code} {T : State} {H : Heap} {locs : List Loc} {cells slots : Nat} {ls : Array Slot} {sv : List Value} {Qf : State → Prop}
theorem q_dec {i : Instr} {n : Nat} (h : q_cx y pc = some (i, n)) : y < 177 ∧ decode (q_by y) pc = .ok (i, n) ∧ q_lk pc i n = true ∧ q_ci y i = true := by
  unfold q_cx at h
  cases hb : Nat.blt pc (q_sz y) <;> rw [hb] at h
  · cases h
  · simp only [cond_true] at h
    have hp : pc < q_sz y := Nat.le_of_ble_eq_true hb
    have hy : y < 177 := by
      by_cases e : y < 177
      · exact e
      · have : Nat.blt y 177 = false := by
          cases e2 : Nat.blt y 177 with
          | false => rfl
          | true => exact absurd (Nat.le_of_ble_eq_true e2) e
        unfold q_cd at h
        rw [this] at h
        cases h
    have h1 := q_all_of (q_ckm_all y hy) pc hp
    unfold q_row at h1
    rw [h] at h1
    simp only [Bool.and_eq_true, decide_eq_true_eq] at h1
    exact ⟨hy, h1.1.1, h1.1.2, h1.2⟩
theorem q_mc14 (hy : y < 177) : q_mc y < 14 := by
  by_cases h : y = q_lawm
  · subst h; decide +kernel
  · exact (q_callee hy h).2.2.2.2.2.2.2.1
theorem q_pat_o {x ex : Nat} (h : q_pat y pc x = some ex) : ∃ ic, q_cx y (pc + 3) = some (.dup, 1) ∧ q_cx y (pc + 4) = some (.invokespecial ic, 3) ∧ q_cx y (pc + 7) = some (.athrow, 1) ∧ q_iv y ic = some (2000 + ex, 1) ∧ q_nw y x = some ex := by
  unfold q_pat at h
  split at h
  · rename_i z h1 h2 h3
    split at h
    · rename_i c ex' h4 h5
      cases hb : Nat.beq c (2000 + ex') <;> rw [hb] at h
      · cases h
      · cases h
        cases Nat.eq_of_beq_eq_true hb
        exact ⟨z, h1, h2, h3, h4, h5⟩
    · cases h
  · cases h
theorem q_iv_o {x z k : Nat} (h : q_iv y x = some (z, k)) : x < 400 ∧ q_ivs (q_mc y) x = some (z, k) := by
  unfold q_iv at h
  cases hb4 : Nat.blt x 400 <;> rw [hb4] at h
  · cases h
  · exact ⟨Nat.le_of_ble_eq_true hb4, h⟩
theorem q_nw_o {x z : Nat} (h : q_nw y x = some z) : x < 400 ∧ q_nws (q_mc y) x = some z := by
  unfold q_nw at h
  cases hb4 : Nat.blt x 400 <;> rw [hb4] at h
  · cases h
  · exact ⟨Nat.le_of_ble_eq_true hb4, h⟩
theorem q_Wd_push {E : q_E} {S : q_S} {H U : Heap} {locs : List Loc} (hE : q_Ei E) (h : q_Wd E S H locs) (hU : ∀ a, a < H.size → U[a]? = H[a]?) (hs : H.size ≤ U.size) (S' : q_S) (hS : ∀ a, a < 63 → S' a = S a) (hok : q_ok E.2.2.2.2.1 E.2.2.2.2.2 S') : q_Wd E S' U locs := by
  obtain ⟨h1, h2, h3⟩ := h
  refine ⟨?_, ⟨by have := h2.1; omega, fun q hq hA => ?_, h2.2.2⟩, hok⟩
  · rw [q_wd_same hS]
    refine h1.kept ?_
    intro k q hk
    have hkk : k < 63 := by
      have := (List.getElem?_eq_some_iff.mp hk).1
      simpa [q_wd] using this
    rw [q_wd_at hkk] at hk
    cases hk
    refine hU _ ?_
    have := h1 k _ (q_wd_at hkk)
    unfold va_at at this
    split at this
    · exact (Array.getElem?_eq_some_iff.mp this).1
    · obtain ⟨r, -, cell, hc, -⟩ := this
      exact (Array.getElem?_eq_some_iff.mp hc).1
  · rw [hU q (by have := h2.1; omega)]
    exact h2.2.1 q hq hA
theorem q_fit0 : Bundle.fit (q_exn 0) = true := by decide +kernel
theorem q_fit1 : Bundle.fit (q_exn 1) = true := by decide +kernel
theorem q_fit2 : Bundle.fit (q_exn 2) = true := by decide +kernel
theorem q_fit : ∀ {ex : Nat}, ex < 3 → Bundle.fit (q_exn ex) = true
  | 0, _ => q_fit0 | 1, _ => q_fit1 | 2, _ => q_fit2 | n + 3, h => by omega
theorem q_fits : ∀ n ∈ q_ens, Bundle.fit n = true := by decide +kernel
set_option maxHeartbeats 2000000 in
theorem q_throw {x : Nat} (hE : q_Ei E) (hC : q_Cx E y p l R s m meth c) (hy : y < 177) (hd : q_cx y pc = some (.new x, 3))
    (hl : q_lr E.1 L ls) (hL : L.length = q_ml y) (hs : q_sr E.1 st sv) (hw : q_Wd E S H locs) (hbd : q_bd S R cells slots) (okz : q_okz E Z R s below Qf)
    (h : match (generalizing := false) q_pat y pc x, st with | some ex, [] => S 65 0 < 1000 ∧ Z ex (q_tk S) | _, _ => False) : W p l e R s m args below meth c H locs cells slots Qf (F0 m pc ls sv) := by
  obtain ⟨hx, hfl, hb, hml, hret, hlk, hhr, hown, hct, hf1, hf2⟩ := hC
  cases hp : q_pat y pc x with
  | none => rw [hp] at h; exact h.elim
  | some ex =>
    cases st with
    | cons a r => rw [hp] at h; exact h.elim
    | nil =>
    rw [hp] at h
    replace h : S 65 0 < 1000 ∧ Z ex (q_tk S) := h
    obtain ⟨ic, h3, h4, h7, hiv, hnw⟩ := q_pat_o hp
    obtain ⟨-, d0, -, c0⟩ := q_dec hd
    obtain ⟨-, d3, -, -⟩ := q_dec h3
    obtain ⟨-, d4, -, -⟩ := q_dec h4
    obtain ⟨-, d7, -, -⟩ := q_dec h7
    obtain ⟨hS, hZ⟩ := h
    have hm := q_mc14 hy
    have k1 := q_all_of (q_all_of k_n _ hm) ic (q_iv_o hiv).1
    have k2 := q_all_of (q_all_of k_n _ hm) x (q_nw_o hnw).1
    unfold q_ckn at k1 k2
    rw [(q_iv_o hiv).2] at k1
    rw [(q_nw_o hnw).2] at k2
    have hblt : Nat.blt (2000 + ex) 2000 = false := by
      cases e2 : Nat.blt (2000 + ex) 2000 with
      | false => rfl
      | true => have := Nat.le_of_ble_eq_true e2; omega
    simp only [hblt, cond_false, Bool.and_eq_true] at k1
    simp only [Bool.and_eq_true] at k2
    have hex : ex < 3 := Nat.le_of_ble_eq_true k2.2.1
    have e2000 : 2000 + ex - 2000 = ex := by omega
    rw [e2000] at k1
    have w1 := q_w_mem k1.1.2
    have w2 := q_w_mem k2.2.2
    have k3 := q_all_of k_cs ex hex
    simp only [Bool.and_eq_true] at k3
    have w3 := q_w_mem k3.1
    have w4 := q_w_mem k3.2
    have k4 : (q_hr y) = [] := by
      have k5 := q_all_of k_z y hy
      unfold q_ckz at k5
      rw [Bool.or_eq_true] at k5
      rcases k5 with k5 | k5
      · exact List.isEmpty_iff.mp k5
      · unfold q_cx at hd
        cases hb4 : Nat.blt pc (q_sz y) <;> rw [hb4] at hd
        · cases hd
        · have k6 := q_all_of k5 pc (Nat.le_of_ble_eq_true hb4)
          simp only [cond_true] at hd
          rw [hd] at k6
          cases k6
    have hout : ∀ r ∈ c.exceptionTable.toList, covers r (pc + 7) = false := by
      intro r hr
      rw [k4] at hhr
      have : c.exceptionTable.toList = [] := List.map_eq_nil_iff.mp hhr
      rw [this] at hr
      cases hr
    have c1 : 6 ≤ q_rf y ∧ 90 ≤ q_rw y := by
      unfold q_ci at c0
      rw [Bool.and_eq_true] at c0
      exact ⟨Nat.le_of_ble_eq_true c0.1, Nat.le_of_ble_eq_true c0.2⟩
    have hn0 : 0 ≤ S 65 0 := hw.2.2.2.2.2.2.1
    have hsv : sv = [] := by
      cases sv with
      | nil => rfl
      | cons a r => exact hs.elim
    subst hsv
    intro T hT X
    have hrb : q_bd S R cells slots := hbd
    have X2 := q_rebase X (R' := { frames := R.frames, cells := 1, slots := 6, locals := R.locals }) (Nat.le_refl _) (Nat.le_refl _) (by have := hbd.1; show cells + 1 ≤ R.cells; omega) (by have := hbd.2; show slots + 6 ≤ R.slots; omega)
    have hct2 : q_Ct E (T.setFrames (.invoking m args :: below)) := q_Ct_warm (s := s) (U := T.setFrames (.invoking m args :: below)) X.warmed hct
    have hown2 : (T.setFrames (.invoking m args :: below)).vm.findClass (q_own (q_mc y)) = some m.cls := by
      show T.vm.findClass _ = _
      rw [X.warmed.alike.findClass]; exact hown
    have hst2' : ∀ q, q < E.2.2.2.1.size → ¬ q_A E.1 q → (T.setFrames (.invoking m args :: below)).heap[q]? = E.2.2.2.1[q]? := by
      intro q hq hA
      show T.heap[q]? = _
      rw [hT]
      exact hw.2.1.2.1 q hq hA
    have hWW : W p l e { frames := R.frames, cells := 1, slots := 6, locals := R.locals } (T.setFrames (.invoking m args :: below)) m args below meth c T.heap [] 0 0 Qf (F0 m pc ls []) := by
      refine W.newc (C := q_exn ex) (n := 6) hx hb hown2 (hct2.1 _ w2.1 w2.2 _) (hct2.1 _ w3.1 w3.2 _) (hct2.1 _ w4.1 w4.2 _) rfl d0 (by show 0 + 1 ≤ 1; decide) (by show 0 + 6 ≤ 6; decide) ?_
      intro cC kC hfc hkc hord hsz
      refine lv_dup hx hb d3 rfl ?_
      intro T3 hT3 X3
      have hself := q_self hct2 hex hfc
      obtain ⟨U, u1, u2, u3, u4, u5, ce, u6, u7⟩ := Stand.ctorThrow0 X3 hx (Launch.traces_off hfl X3.admits) (own := q_own (q_mc y)) (cls := q_exn ex) (names := q_ens) (ic := ic) hown2
        (q_fit hex) q_fits (q_atms hst2' hct2 hex (hct2.1 _ w1.1 w1.2 _)) (fun x hx => by cases hx) (a := T.heap.size) hfc hkc (by rw [hT3]; simp) (Nat.le_refl _)
        (g := F0 m (pc + 4) ls [.ref T.heap.size, .ref T.heap.size]) rfl (by show ls.size = _; rw [hml, hl.1, hL]) rfl rfl (rest := []) rfl (by rw [hb]; exact d4) (by rw [hb]; exact d7) hout (by show 2 + 3 < R.frames; omega) (by show 2 * 0 + (1 + 0) + (13 * (2 + 1) + 41) ≤ R.locals; omega) hlk
      refine ⟨U, u1, ?_⟩
      have hcell : ∀ a, a < H.size → U.heap[a]? = H[a]? := by
        intro a ha
        rw [← hT]
        exact q_same_cell (s := T.setFrames (.invoking m args :: below)) (t := ({ U with vm := (T.setFrames (.invoking m args :: below)).vm } : State)) u5 (by rw [← hT] at ha; exact ha)
      have htk : q_tk S 65 0 = S 65 0 + 1 := by unfold q_tk; rw [q_up_eq]; simp
      refine okz U T.heap.size ex ce (q_tk S) locs (cells + 1) (slots + 6) hZ u2 u3 (State.WarmedH.trans X.warmed u4) ?_ ?_ ?_ u6 ⟨hex, ?_, ?_⟩
      · have u5' : T.sameButNew (({ U with vm := T.vm } : State)) [] 1 6 := by
          obtain ⟨v1, v2⟩ := u5
          refine ⟨?_, v2⟩
          have hh : ∀ A : List Frame, (T.setFrames (.invoking m args :: below)).setFrames A = T.setFrames A := fun A => State.setFrames_setFrames ..
          rw [hh] at v1
          exact v1
        have v := X.same.trans (u5'.setVm s.vm)
        rw [List.append_nil] at v
        exact v
      · exact q_Wd_push hE hw hcell (by rw [← hT]; exact u5.2.1) (q_tk S) (fun a ha => q_up_ne (by omega)) (q_ok_tk hw.2.2 hS)
      · obtain ⟨b1, b2⟩ := hbd
        refine ⟨?_, ?_⟩
        · rw [htk]; omega
        · rw [htk]; omega
      · rw [← X.warmed.alike.findClass]; exact u7.cls
      · intro k; rw [u7.vm]; exact fun h => by cases h
    exact hWW T rfl X2
theorem q_wmono {g : JFrame} {Q1 Q2 : State → Prop} (h : ∀ t, Q1 t → Q2 t) (k : W p l e R s m args below meth c H locs cells slots Q1 g) : W p l e R s m args below meth c H locs cells slots Q2 g := by
  intro T hT X
  obtain ⟨t, a, b⟩ := k T hT X
  exact ⟨t, a, h t b⟩
theorem q_iret {a : Int} (hC : q_Cx E y p l R s m meth c) (hd : decode (q_by y) pc = .ok (.ireturn, 1)) (ha : q_rg a) (hr : (q_rt y = 1 ∨ (q_rt y = 2 ∧ q_bo a))) (hw : q_Wd E S H locs) (hbd : q_bd S R cells slots) (hQ : Q a S) (okr : q_okr E y Q R s below Qf) :
    W p l e R s m args below meth c H locs cells slots Qf (F0 m pc ls [.int (Int32.ofInt a)]) := by
  obtain ⟨hx, hfl, hb, hml, hret, hlk, hhr, hown, hct, hf1, hf2⟩ := hC
  obtain ⟨ty, h1, h2⟩ : ∃ ty, meth.sig.returnType = some ty ∧ narrow ty (.int (Int32.ofInt a)) = .int (Int32.ofInt a) := by
    rw [hret]
    unfold q_rty
    rcases hr with hr | ⟨hr, hbo⟩
    · rw [hr]; exact ⟨.int, rfl, rfl⟩
    · rw [hr]; refine ⟨.boolean, rfl, ?_⟩
      rcases q_b01 hbo with rfl | rfl <;> rfl
  refine q_wmono ?_ (W.zret (Qc := fun _ _ o t => o = .returned (some (.int (Int32.ofInt a))) ∧ t.heap = H) (free := q_A E.1) hx hb h1 h2 (fun t ht _ => ⟨rfl, ht⟩) hw.2.1.2.2 hd hlk)
  rintro t ⟨o, b1, b2, ⟨rfl, b3⟩, L', ⟨-, b4, b5⟩, b6⟩
  refine okr t _ a S L' cells slots hQ ?_ b1 b2 b4 b5 ⟨by rw [b3]; exact hw.1, ⟨by rw [b3]; exact hw.2.1.1, by rw [b3]; exact hw.2.1.2.1, b6⟩, hw.2.2⟩ hbd
  unfold q_rvr
  rcases hr with hr | ⟨hr, -⟩ <;> rw [hr] <;> exact ⟨ha, rfl⟩
theorem q_vret (hC : q_Cx E y p l R s m meth c) (hd : decode (q_by y) pc = .ok (.return_, 1)) (hr : q_rt y = 0) (hw : q_Wd E S H locs) (hbd : q_bd S R cells slots) (hQ : Q 0 S) (okr : q_okr E y Q R s below Qf) :
    W p l e R s m args below meth c H locs cells slots Qf (F0 m pc ls []) := by
  obtain ⟨hx, hfl, hb, hml, hret, hlk, hhr, hown, hct, hf1, hf2⟩ := hC
  have h1 : meth.sig.returnType = none := by rw [hret]; unfold q_rty; rw [hr]; rfl
  refine q_wmono ?_ (W.vret (Qc := fun _ _ o t => o = .returned none ∧ t.heap = H) (free := q_A E.1) hx hb h1 (fun t ht _ => ⟨rfl, ht⟩) hw.2.1.2.2 hd hlk)
  rintro t ⟨o, b1, b2, ⟨rfl, b3⟩, L', ⟨-, b4, b5⟩, b6⟩
  refine okr t _ 0 S L' cells slots hQ ?_ b1 b2 b4 b5 ⟨by rw [b3]; exact hw.1, ⟨by rw [b3]; exact hw.2.1.1, by rw [b3]; exact hw.2.1.2.1, b6⟩, hw.2.2⟩ hbd
  unfold q_rvr
  rw [hr]
  rfl
theorem q_cl_o {virt : Bool} {C : q_G} {x n : Nat} {K : q_K} (h : q_cl virt C y x pc n L st S K Z) : ∃ z k, q_iv y x = some (z, k) ∧ ((z = 1000 ∧ q_ac st S (fun r S' => K n L r S')) ∨ (k ≤ st.length ∧ st.length ≤ k + 4 ∧ z < 177 ∧ q_aok virt z (st.take k).reverse = true ∧
    C z (st.take k).reverse S (fun a S' => K n L (q_rs z a (st.drop k)) S') (fun ex S' => bif q_cov pc (q_hd y) then q_hn pc ex (fun h i => bif Nat.blt i L.length && q_st0 L i then K h (L.set i vU) [] S' else False) False (q_hd y) else Z ex S'))) := by
  unfold q_cl at h
  split at h
  · rename_i z k hiv
    refine ⟨z, k, hiv, ?_⟩
    cases h1 : Nat.beq z 1000 <;> rw [h1] at h <;> simp only [cond_true, cond_false] at h
    · cases h3 : (Nat.ble k st.length && (Nat.ble st.length (k + 4) && (Nat.blt z 177 && q_aok virt z (st.take k).reverse))) <;> rw [h3] at h <;> simp only [cond_true, cond_false] at h
      simp only [Bool.and_eq_true] at h3
      exact Or.inr ⟨Nat.le_of_ble_eq_true h3.1, Nat.le_of_ble_eq_true h3.2.1, Nat.le_of_ble_eq_true h3.2.2.1, h3.2.2.2, h⟩
    · exact Or.inl ⟨Nat.eq_of_beq_eq_true h1, h⟩
  · exact h.elim
theorem q_kr_of {z : Nat} {rest : List q_V} {rv : List Value} (hC : q_Cx E y p l R s m meth c) (hl : q_lr E.1 L ls) (hL : L.length = q_ml y) (okr : q_okr E y Q R s below Qf) (okz : q_okz E Z R s below Qf) (hrest : q_sr E.1 rest rv) :
    q_kr' E z (fun a S' => q_F E y (pc + 3) L (q_rs z a rest) S' Q Z) p l e R s m args below meth c pc ls rv Qf := by
  intro a v S' T' locs' cells' slots' hq hv X' hwd hbd
  refine hq p l e R s m args below meth c T'.heap locs' cells' slots' ls (v.toList ++ rv) Qf hC hl hL ?_ hwd hbd okr okz T' rfl X'
  unfold q_rvr at hv
  unfold q_rs
  split at hv
  · rename_i h0
    rw [hv]
    simpa [h0] using hrest
  · rename_i h0
    rw [hv.2]
    split
    · rename_i h1; exact absurd h1 h0
    · exact ⟨⟨hv.1, rfl⟩, hrest⟩
theorem q_out : ∀ (rows : List ExceptionTableEntry) (rs : List (Nat × Nat × Nat × Nat × Nat × Nat)), q_ckh2 y rs (rows.map q_tup) = true → q_cov pc rs = false → ∀ r ∈ rows, covers r pc = false
  | [], _, _, _ => fun _ h => by cases h
  | _ :: _, [], h, _ => by cases h
  | row :: rows, r :: rs, hck, hcov => by
    rw [List.map_cons] at hck
    unfold q_ckh2 at hck
    rw [Bool.and_eq_true] at hck
    obtain ⟨hck1, hck2⟩ := hck
    unfold q_ckh1 q_tup at hck1
    simp only [Bool.and_eq_true] at hck1
    obtain ⟨⟨⟨⟨⟨⟨⟨d1, d2⟩, -⟩, -⟩, -⟩, -⟩, -⟩, -⟩ := hck1
    unfold q_cov at hcov
    rw [List.any_cons, Bool.or_eq_false_iff] at hcov
    intro z hz
    rcases List.mem_cons.mp hz with rfl | hz
    · rw [q_covers, ← Nat.eq_of_beq_eq_true d1, ← Nat.eq_of_beq_eq_true d2]
      exact hcov.1
    · exact q_out rows rs hck2 hcov.2 z hz
set_option maxHeartbeats 1000000 in
theorem q_kz_of {rv : List Value} (hC : q_Cx E y p l R s m meth c) (hy : y < 177) (hl : q_lr E.1 L ls) (hL : L.length = q_ml y) (okr : q_okr E y Q R s below Qf) (okz : q_okz E Z R s below Qf) :
    q_kz' E (fun ex S' => bif q_cov pc (q_hd y) then q_hn pc ex (fun h i => bif Nat.blt i L.length && q_st0 L i then q_F E y h (L.set i vU) [] S' Q Z else False) False (q_hd y) else Z ex S') p l e R s m args below meth c pc ls rv Qf := by
  have hC' := hC
  obtain ⟨hx, hfl, hb, hml, hret, hlk, hhr, hown, hct, hf1, hf2⟩ := hC
  intro x ex cell S' T' locs' cells' slots' hz X' hwd hbd hcell hexc
  have hck := q_all_of k_h y hy
  have hck' : q_ckh2 y (q_hd y) (c.exceptionTable.toList.map q_tup) = true := by
    have : c.exceptionTable.toList.map q_tup = q_hr y := hhr
    rw [this]; exact hck
  cases hcov : q_cov pc (q_hd y) <;> simp only [hcov, cond_true, cond_false] at hz
  · obtain ⟨u1, u2, u3, u4, u5⟩ := X'.leaveThrown x (g := F0 m pc ls rv) rfl rfl rfl (q_out _ _ hck' hcov) hlk
    exact ⟨_, u1, okz _ x ex cell S' locs' cells' slots' hz u2 u3 u4 u5 hwd hbd hcell hexc⟩
  · obtain ⟨vm', h, n, i, hW', hk, hdec, hfind⟩ := q_find (E := E) (y := y) (g := F0 m pc ls rv) (x := x) X'.admits hown hct hexc _ _ hck' hz ((T'.setTop (F0 m pc ls rv)).pushFrame (.throwing x)) (by rw [Stand.throwing_vm]; exact X'.warmed) (by rw [Stand.throwing_heap]; exact hcell)
    have X1 := X'.noted hW'
    cases hc : (Nat.blt i L.length && q_st0 L i) <;> rw [hc] at hk <;> simp only [cond_true, cond_false] at hk
    rw [Bool.and_eq_true] at hc
    have hj : i < L.length := Nat.le_of_ble_eq_true hc.1
    have hsz : L.length = ls.size := hl.1.symm
    have hW : W p l e R s m args below meth c T'.heap locs' cells' slots' Qf (F0 m h ls [.ref x]) := by
      rcases hdec with ⟨hd, rfl⟩ | ⟨j, hd, hji, rfl⟩
      · refine lv_astore hx hb hd (q_lvA_has hl.2.1) (by omega) rfl fun ls' h' => ?_
        exact hk p l e R s m args below meth c T'.heap locs' cells' slots' ls' [] Qf hC' (q_lr_set hl hc.2 trivial hj h') (by rw [List.length_set]; exact hL) trivial hwd hbd okr okz
      · refine lv_astore_n hx hb hd hji (q_lvA_has hl.2.1) (by omega) rfl fun ls' h' => ?_
        exact hk p l e R s m args below meth c T'.heap locs' cells' slots' ls' [] Qf hC' (q_lr_set hl hc.2 trivial hj h') (by rw [List.length_set]; exact hL) trivial hwd hbd okr okz
    obtain ⟨t, t1, t2⟩ := hW (T'.setVm vm') rfl X1
    refine ⟨t, q_caught (vm' := vm') (c := c) X'.here ?_ t1, t2⟩
    intro Q' E' d acts
    exact (W.findHandler_eq (show ((T'.setTop (F0 m pc ls rv)).pushFrame (.throwing x)).vm.method? m = some meth by rw [Stand.throwing_vm]; exact X'.method') X'.code).trans (hfind Q' E' d acts)
theorem q_rcv_o {z : Nat} {as : List q_V} (h : q_rcv z as = true) : ∃ k as' ks, as = vR k :: as' ∧ q_ob k = some (q_mc z, ks) := by
  unfold q_rcv at h
  split at h
  · rename_i k as'
    split at h
    · rename_i ci ks hob
      cases Nat.eq_of_beq_eq_true h
      exact ⟨k, as', ks, rfl, hob⟩
    · cases h
  · cases h
theorem k_l : ∀ c, c < 14 → q_all 400 (q_ckl c) = true
  | 0, _ => k_l_0 | 1, _ => k_l_1 | 2, _ => k_l_2 | 3, _ => k_l_3 | 4, _ => k_l_4 | 5, _ => k_l_5 | 6, _ => k_l_6 | 7, _ => k_l_7 | 8, _ => k_l_8 | 9, _ => k_l_9 | 10, _ => k_l_10 | 11, _ => k_l_11 | 12, _ => k_l_12 | 13, _ => k_l_13
  | n + 14, h => by omega
theorem q_link {x z k : Nat} (hy : y < 177) (h : q_iv y x = some (z, k)) (hz : z < 177) : z ≠ q_lawm ∧ ((q_nst (q_mc y) x = true ∧ q_mc y = 3 ∧ x = 90 ∧ q_kd z = 1 ∧ z = 25) ∨ (q_nst (q_mc y) x = false ∧ Cond.methodLink (q_own (q_mc y)) x (q_nm z) ∈ lw_tbl ∧ q_gd (Cond.methodLink (q_own (q_mc y)) x (q_nm z)) = true)) := by
  obtain ⟨h4, h5⟩ := q_iv_o h
  have h6 := q_all_of (k_l _ (q_mc14 hy)) x h4
  unfold q_ckl at h6
  rw [h5] at h6
  have hb : Nat.blt z 177 = true := Nat.ble_eq_true_of_le hz
  simp only [hb, cond_true, Bool.and_eq_true, Bool.not_eq_true'] at h6
  refine And.intro (fun e => ?_) ?_
  · rw [e, Nat.beq_refl] at h6
    exact absurd h6.1 (by decide)
  cases hn : q_nst (q_mc y) x <;> rw [hn] at h6 <;> simp only [cond_true, cond_false] at h6
  · exact Or.inr ⟨rfl, q_w_mem h6.2⟩
  · simp only [Bool.and_eq_true] at h6
    unfold q_nst at hn
    rw [Bool.and_eq_true] at hn
    have e1 := Nat.eq_of_beq_eq_true hn.1
    have e2 := Nat.eq_of_beq_eq_true hn.2
    refine Or.inl ⟨rfl, e1, e2, Nat.eq_of_beq_eq_true h6.2.1, ?_⟩
    rw [e1, e2] at h5
    have : q_ivs 3 90 = some (25, 1) := by decide +kernel
    rw [this] at h5
    cases h5
    rfl
set_option maxHeartbeats 1000000 in
theorem q_virt {x : Nat} (hC : q_Cx E y p l R s m meth c) (hd : q_cx y pc = some (.invokevirtual x, 3)) (hl : q_lr E.1 L ls) (hL : L.length = q_ml y) (hs : q_sr E.1 st sv) (hw : q_Wd E S H locs) (hbd : q_bd S R cells slots) (okr : q_okr E y Q R s below Qf) (okz : q_okz E Z R s below Qf)
    (h : q_cl true (q_Cof (q_F E)) y x pc (pc + 3) L st S (fun pc L st S => q_F E y pc L st S Q Z) Z) : W p l e R s m args below meth c H locs cells slots Qf (F0 m pc ls sv) := by
  have hC' := hC
  obtain ⟨hx, hfl, hb, hml, hret, hlk, hhr, hown, hct, hf1, hf2⟩ := hC
  obtain ⟨hy, hdc, -, hci⟩ := q_dec hd
  obtain ⟨z, k, hiv, hcase⟩ := q_cl_o h
  unfold q_ci at hci
  simp only [hiv, Bool.and_eq_true] at hci
  obtain ⟨⟨⟨⟨i1, i2⟩, i3⟩, i4⟩, i5⟩ := hci
  have i2 := Nat.eq_of_beq_eq_true i2
  have i3 := Nat.eq_of_beq_eq_true i3
  rcases hcase with ⟨rfl, -⟩ | ⟨j1, j2, j3, j4, hcall⟩
  · have := Nat.le_of_ble_eq_true i1; omega
  · obtain ⟨hzl, hlink⟩ := q_link hy hiv j3
    obtain ⟨w1, w2, w3, w4, w5, w6, w7, w8, w9, w10, -⟩ := q_callee j3 hzl
    obtain ⟨⟨v1, v2⟩, v3, v4⟩ := w10 i2
    have hlink' : (Cond.methodLink (q_own (q_mc y)) x (q_nm z)).before args s = true := by
      rcases hlink with ⟨-, -, -, hkd, -⟩ | ⟨-, g1, g2⟩
      · rw [i2] at hkd; cases hkd
      · exact hct.1 _ g1 g2 _
    have hrest := q_sr_drop k hs
    have has := q_sr_rev (q_sr_take k hs)
    unfold q_aok at j4
    rw [Bool.and_eq_true] at j4
    have hfit : (q_exp (st.take k).reverse).length ≤ q_ml z := Nat.le_of_ble_eq_true j4.1
    obtain ⟨kk, as', ks, has1, hob⟩ := q_rcv_o (show q_rcv z (st.take k).reverse = true from j4.2)
    obtain ⟨argsL, hav⟩ : ∃ argsL, (sv.take k).reverse = .ref (E.1 kk) :: argsL := by
      rw [has1] at has
      cases hv : (sv.take k).reverse with
      | nil => rw [hv] at has; exact has.elim
      | cons a r => rw [hv] at has; exact ⟨r, by rw [show a = _ from has.1]⟩
    have hstack : sv = argsL.reverse ++ .ref (E.1 kk) :: sv.drop k := by
      have e1 : sv.take k = argsL.reverse ++ [.ref (E.1 kk)] := by
        have := congrArg List.reverse hav
        simpa using this
      calc sv = sv.take k ++ sv.drop k := (List.take_append_drop k sv).symm
        _ = _ := by rw [e1]; simp
    have hlenL : argsL.length + 1 = k := by
      have e1 := congrArg List.length hav
      have e2 := q_sr_len hs
      simp at e1
      omega
    have hkb := q_ob_lt hob
    have he : (q_wd E.1 E.2.2.1 S)[kk]? = some (E.1 kk, .inr (q_mc z, ks.mapIdx (fun j t => q_fv E.1 S kk j t))) := by rw [q_wd_at hkb]; unfold q_en; rw [hob]
    obtain ⟨C0, T0, hcl0⟩ := q_ob_ok hob
    obtain ⟨cellB, hcB, hsB, hclsB⟩ := va_recv hct.2.2.1 hw.1 hcl0 he
    have hC0 : C0 = (q_nm z).cls := by
      have h12 : q_mc z < 12 := (List.getElem?_eq_some_iff.mp hcl0).1
      have h9 := q_all_of k_y _ h12
      simp only [q_cky, hcl0, Bool.and_eq_true, decide_eq_true_eq] at h9
      rw [h9.2, w5]
    rw [hC0] at hclsB
    intro T hT X
    obtain ⟨mk, methM, hnamed, hmethM, hstM, habM⟩ := Cond.instanceMethod_spec (hct.1 _ v1 v2 args)
    obtain ⟨mk', methM', cM, hn', hm', -, -, -, -, -, -, hsigM⟩ := q_cw_spec (hct.1 _ w1 w2 args)
    cases hnamed.symm.trans hn'
    cases hmethM.symm.trans hm'
    obtain ⟨c2, r2, m2, q1, q2, q3, q4, kP, hkP, hkPi⟩ := Cond.selects_spec (hct.1 _ v3 v4 args)
    cases hclsB.symm.trans q1
    cases (State.methodFound?_of_named hnamed w9).symm.trans q2
    cases hnamed.symm.trans q3
    have hselP : selectMethod e.platform s.vm cellB.cls mk = .method mk := by rw [Launch.admits_selectMethod X.admits]; exact q4
    obtain ⟨vm₁, X₁, hstep₁⟩ := X.invokevirtual hx hown hlink' hnamed hmethM hstM hkP hkPi w9 (a := E.1 kk) (cell := cellB) (by rw [hT]; exact hcB)
      (fun z h => by rw [h] at hsB; cases hsB) hselP hmethM habM hkP hkPi (g := F0 m pc ls sv) rfl (argsL := argsL) (rest := sv.drop k) (by have := w7 _ hsigM; omega) hstack (by rw [hb]; exact hdc)
    obtain ⟨t, t1, t2⟩ := q_enter (T := T.setVm vm₁) (H := H) (L := L) (S := S) hC' j3 hzl X₁ hT (X₁.named hnamed) (by rw [hb]; exact hdc) has hfit hrest (by simp; omega) hl hL hw hbd (Nat.le_of_ble_eq_true i4) (Nat.le_of_ble_eq_true i5) hcall (q_kr_of hC' hl hL okr okz hrest) (q_kz_of hC' hy hl hL okr okz)
    rw [hav] at t1
    exact ⟨t, hstep₁ t t1, t2⟩
theorem q_ac_o {f : List q_V → q_S → Prop} (h : q_ac st S f) (hs : q_sr E.1 st sv) : ∃ ks kd sp dp n a b r rv, q_ar ks = some (0, a) ∧ q_ar kd = some (0, b) ∧ sv = .int (Int32.ofInt n) :: .int (Int32.ofInt dp) :: .ref (E.1 kd) :: .int (Int32.ofInt sp) :: .ref (E.1 ks) :: rv ∧ q_rg n ∧ q_rg dp ∧ q_rg sp ∧ q_sr E.1 r rv ∧ r.length ≤ 4 ∧ (0 ≤ sp ∧ 0 ≤ dp ∧ 0 ≤ n ∧ sp + n ≤ a ∧ dp + n ≤ b) ∧ f r (q_cpy S ks sp kd dp n) := by
  unfold q_ac at h
  split at h
  · rename_i n dp kd sp ks r
    split at h
    · rename_i a b h1 h2
      cases hb : Nat.ble r.length 4 <;> rw [hb] at h
      · exact h.elim
      · have ia : ∀ {k : Nat} {a : Int}, q_ia k = some a → q_ar k = some (0, a) := by
          intro k a hk
          unfold q_ia at hk
          split at hk
          · rename_i n hn; cases hk; exact hn
          · cases hk
        match sv, hs with
        | v1 :: v2 :: v3 :: v4 :: v5 :: rv, hs =>
          exact ⟨ks, kd, sp, dp, n, a, b, r, rv, ia h1, ia h2, by rw [hs.1.2, hs.2.1.2, show v3 = _ from hs.2.2.1, hs.2.2.2.1.2, show v5 = _ from hs.2.2.2.2.1], hs.1.1, hs.2.1.1, hs.2.2.2.1.1, hs.2.2.2.2.2, Nat.le_of_ble_eq_true hb, h.1, h.2⟩
    · exact h.elim
  · exact h.elim
theorem k_ac : (match q_pac with | [a, b, d] => q_w a (.native arraycopyName) && q_w b (.static arraycopyName) && q_w d (.initialized "java/lang/System") | _ => false) = true := by decide +kernel
theorem q_cpy_f {ks kd : Nat} {sp dp n : Int} (h1 : 0 ≤ sp) (h2 : 0 ≤ dp) (h3 : 0 ≤ n) : (fun j : Nat => Int32.ofInt (q_cpy S ks sp kd dp n kd j)) = va_cpy (fun j : Nat => Int32.ofInt (S ks j)) (fun j : Nat => Int32.ofInt (S kd j)) sp.toNat dp.toNat n.toNat := by
  funext j
  rw [q_cpy_eq]
  unfold va_cpy
  by_cases e : dp ≤ (j : Int) ∧ (j : Int) < dp + n
  · have e2 : dp.toNat ≤ j ∧ j < dp.toNat + n.toNat := by omega
    rw [if_pos e2]
    have e3 : ((sp.toNat + (j - dp.toNat) : Nat) : Int) = sp + ((j : Int) - dp) := by omega
    show Int32.ofInt (if dp ≤ (j : Int) ∧ (j : Int) < dp + n then S ks (sp + ((j : Int) - dp)) else S kd j) = _
    rw [if_pos e]
    show _ = Int32.ofInt (S ks ((sp.toNat + (j - dp.toNat) : Nat) : Int))
    rw [e3]
  · have e2 : ¬ (dp.toNat ≤ j ∧ j < dp.toNat + n.toNat) := by omega
    rw [if_neg e2]
    show Int32.ofInt (if dp ≤ (j : Int) ∧ (j : Int) < dp + n then S ks (sp + ((j : Int) - dp)) else S kd j) = _
    rw [if_neg e]
set_option maxHeartbeats 1000000 in
theorem q_stat {x : Nat} (hE : q_Ei E) (hC : q_Cx E y p l R s m meth c) (hd : q_cx y pc = some (.invokestatic x, 3)) (hl : q_lr E.1 L ls) (hL : L.length = q_ml y) (hs : q_sr E.1 st sv) (hw : q_Wd E S H locs) (hbd : q_bd S R cells slots) (okr : q_okr E y Q R s below Qf) (okz : q_okz E Z R s below Qf)
    (h : q_cl false (q_Cof (q_F E)) y x pc (pc + 3) L st S (fun pc L st S => q_F E y pc L st S Q Z) Z) : W p l e R s m args below meth c H locs cells slots Qf (F0 m pc ls sv) := by
  have hC' := hC
  obtain ⟨hx, hfl, hb, hml, hret, hlk, hhr, hown, hct, hf1, hf2⟩ := hC
  obtain ⟨hy, hdc, -, hci⟩ := q_dec hd
  obtain ⟨z, k, hiv, hcase⟩ := q_cl_o h
  unfold q_ci at hci
  simp only [hiv] at hci
  rcases hcase with ⟨rfl, hac⟩ | ⟨j1, j2, j3, j4, hcall⟩
  · rw [show Nat.beq 1000 1000 = true from rfl] at hci
    simp only [cond_true, Bool.and_eq_true] at hci
    have i1 : 1 ≤ q_rf y := Nat.le_of_ble_eq_true hci.1
    have i2 : 60 ≤ q_rw y := Nat.le_of_ble_eq_true hci.2
    obtain ⟨ks, kd, sp, dp, n, a, b, r, rv, har, hbr, rfl, rn, rd, rs, hr, hr4, ⟨b1, b2, b3, b4, b5⟩, hq⟩ := q_ac_o hac hs
    obtain ⟨h4, h5⟩ := q_iv_o hiv
    have h6 := q_all_of (k_l _ (q_mc14 hy)) x h4
    unfold q_ckl at h6
    rw [h5] at h6
    simp only [show Nat.blt 1000 177 = false from rfl, show Nat.beq 1000 1000 = true from rfl, cond_true, cond_false, Bool.and_eq_true] at h6
    have w0 := q_w_mem h6.2
    have kac := k_ac
    unfold q_pac at kac
    simp only [Bool.and_eq_true] at kac
    have w1 := q_w_mem kac.1.1
    have w2 := q_w_mem kac.1.2
    have w3 := q_w_mem kac.2
    have na := q_ar_ok har
    have nb := q_ar_ok hbr
    have hsum := q_sr_sum hr
    refine va_copyi hx hb (by rw [hml, ← hL]; exact hl.1.symm) hown (hct.1 _ w0.1 w0.2 _) (hct.1 _ w1.1 w1.2 _) (hct.1 _ w2.1 w2.2 _) (hct.1 _ w3.1 w3.2 _) hct.2.2.1 hw.1 (q_D hE S) hw.2.1 ks kd 0 0 (q_wd_ar har (by decide)) (q_wd_ar hbr (by decide)) rfl rfl rfl
      (fun h => by have := (q_lt rs q_rg0).mp h; omega) (fun h => by have := (q_lt rd q_rg0).mp h; omega) (fun h => by have := (q_lt rn q_rg0).mp h; omega) (by rw [q_cl_nat rs b1, q_cl_nat rn b3]; omega) (by rw [q_cl_nat rd b2, q_cl_nat rn b3]; omega) (fun _ _ => rfl)
      (by omega) (by have : nativeFrameWords "java/lang/System" "arraycopy" 5 ≤ 40 := by decide +kernel
                     omega) hdc ?_
    intro H1 locs1 p1 p2 p3
    rw [q_cl_nat rs b1, q_cl_nat rd b2, q_cl_nat rn b3, ← q_cpy_f (S := S) (ks := ks) (kd := kd) b1 b2 b3] at p1
    have hset : (q_wd E.1 E.2.2.1 S).set kd (E.1 kd, .inl (E.2.2.1 0, b.toNat, .inl (fun j : Nat => Int32.ofInt (q_cpy S ks sp kd dp n kd j)))) = q_wd E.1 E.2.2.1 (q_cpy S ks sp kd dp n) := by
      rw [q_wd_set (S := S) (q_ar_lt hbr) (fun b hb => q_cpy_ne hb), q_en_ar hbr, q_ae_i (by decide)]
    rw [hset] at p1
    have h65 : q_cpy S ks sp kd dp n 65 = S 65 := q_cpy_ne (by have := q_ar_lt hbr; omega)
    refine hq p l e R s m args below meth c H1 locs1 cells slots ls rv Qf hC' hl hL hr ⟨p1, p3, ?_⟩ (by unfold q_bd; rw [h65]; exact hbd) okr okz
    refine q_ok_set hw.2.2 (q_ar_lt hbr) (fun b hb => q_cpy_ne hb) ?_ ?_
    · intro c' ks' j' t' hb' ht'
      rw [q_ar_ob hbr] at hb'
      cases hb'
    · intro t' n' i' hb' h0 h1
      rw [hbr] at hb'
      cases hb'
      rw [q_cpy_eq]
      by_cases e2 : dp ≤ i' ∧ i' < dp + n
      · simp only [e2, and_self, if_true]
        exact hw.2.2.2.1 ks 0 a _ har (by omega) (by omega)
      · simp only [e2, if_false]
        exact hw.2.2.2.1 kd 0 b i' hbr h0 h1
  · have hz0 : Nat.beq z 1000 = false := by cases e2 : Nat.beq z 1000 with | false => rfl | true => have := Nat.eq_of_beq_eq_true e2; omega
    rw [hz0] at hci
    simp only [cond_false, Bool.and_eq_true] at hci
    obtain ⟨⟨⟨⟨i1, i2⟩, i3⟩, i4⟩, i5⟩ := hci
    have i2 := Nat.eq_of_beq_eq_true i2
    have i3 := Nat.eq_of_beq_eq_true i3
    obtain ⟨hzl, hlink⟩ := q_link hy hiv j3
    obtain ⟨w1, w2, w3, w4, w5, w6, w7, w8, w9, -, w11⟩ := q_callee j3 hzl
    obtain ⟨v1, v2⟩ := w11 (by omega)
    have hrest := q_sr_drop k hs
    have has := q_sr_rev (q_sr_take k hs)
    unfold q_aok at j4
    rw [Bool.and_eq_true] at j4
    have hfit : (q_exp (st.take k).reverse).length ≤ q_ml z := Nat.le_of_ble_eq_true j4.1
    have hstack : sv = (sv.take k).reverse.reverse ++ sv.drop k := by rw [List.reverse_reverse, List.take_append_drop]
    have hlenL : (sv.take k).reverse.length = k := by
      have e2 := q_sr_len hs
      simp
      omega
    intro T hT X
    obtain ⟨mk, methM, cM, hnamed, hmethM, -, -, -, -, -, -, hsigM⟩ := q_cw_spec (hct.1 _ w1 w2 args)
    have hstatic : methM.isStatic = true := Cond.static_spec hnamed hmethM (hct.1 _ v1 v2 args)
    obtain ⟨kP, hkP, -⟩ := className_of_methodNamed hnamed
    have hinitP : kP.init = .initialized := Cond.initialized_spec (findClass_of_methodNamed hnamed) hkP (hct.1 _ w3 w4 args)
    obtain ⟨vm₁, X₁, hstep₁⟩ : ∃ vm', Stand p l e R s m args below meth c (T.setVm vm') locs cells slots ∧
        ∀ target, (∀ acts, Steps p.tables e below (doInvoke e ((T.setVm vm').setTop (F0 m pc ls (sv.drop k))) acts mk (sv.take k).reverse.toArray).1 target) → Steps p.tables e below (T.setTop (F0 m pc ls sv)) target := by
      rcases hlink with ⟨-, hmc, hxx, -, hz25⟩ | ⟨-, g1, g2⟩
      · have hnw := va_Nw.use (A := args) rfl hct.2.1
        rw [← hmc, ← hxx, ← hz25] at hnw
        exact X.invokestaticNest hx hown hnw hnamed hmethM hstatic hkP hinitP w9 (g := F0 m pc ls sv) rfl (argsL := (sv.take k).reverse) (rest := sv.drop k) (by have := w7 _ hsigM; omega) hstack (by rw [hb]; exact hdc)
      · exact X.invokestatic hx hown (hct.1 _ g1 g2 _) hnamed hmethM hstatic hkP hinitP w9 (g := F0 m pc ls sv) rfl (argsL := (sv.take k).reverse) (rest := sv.drop k) (by have := w7 _ hsigM; omega) hstack (by rw [hb]; exact hdc)
    obtain ⟨t, t1, t2⟩ := q_enter (T := T.setVm vm₁) (H := H) (L := L) (S := S) hC' j3 hzl X₁ hT (X₁.named hnamed) (by rw [hb]; exact hdc) has hfit hrest (by simp; omega) hl hL hw hbd (Nat.le_of_ble_eq_true i4) (Nat.le_of_ble_eq_true i5) hcall (q_kr_of hC' hl hL okr okz hrest) (q_kz_of hC' hy hl hL okr okz)
    exact ⟨t, hstep₁ t t1, t2⟩
/-- the pure reading is sound -/
theorem q_F_closed (hE : q_Ei E) : q_closed (q_F E) := by
  intro y pc L st S Q Z h p l e R s m args below meth c H locs cells slots ls sv Qf hC hl hL hs hw hbd okr okz
  unfold q_st at h
  split at h
  · rename_i i len hcd
    obtain ⟨hy, hd, hlk, hci⟩ := q_dec hcd
    cases ho : q_oth i
    · refine q_simple (Q := Q) (Z := Z) hE hC hd hlk (q_mc14 hy) ?_ hl hL hs hw ho h
      intro pc' L' st' S' H' locs' ls' sv' hk hl' hL' hs' hw' h65
      exact hk p l e R s m args below meth c H' locs' cells slots ls' sv' Qf hC hl' hL' hs' hw' (by unfold q_bd; rw [h65]; exact hbd) okr okz
    · cases i
      case invokestatic x =>
        obtain rfl : len = 3 := by simpa [q_lk] using hlk
        exact q_stat hE hC hcd hl hL hs hw hbd okr okz h
      case invokevirtual x =>
        obtain rfl : len = 3 := by simpa [q_lk] using hlk
        exact q_virt hC hcd hl hL hs hw hbd okr okz h
      case ireturn =>
        obtain rfl : len = 1 := by simpa [q_lk] using hlk
        replace h : q_ret y st S Q := h
        unfold q_ret at h
        split at h
        · match sv, hs with
          | [v], hs =>
            rw [hs.1.2]
            split at h
            · rename_i hr; exact q_iret hC hd hs.1.1 (Or.inl hr) hw hbd h okr
            · rename_i hr; exact q_iret hC hd hs.1.1 (Or.inr ⟨hr, h.1⟩) hw hbd h.2 okr
            · exact h.elim
        · exact h.elim
      case new x =>
        obtain rfl : len = 3 := by simpa [q_lk] using hlk
        exact q_throw hE hC hy hcd hl hL hs hw hbd okz h
      case return_ =>
        obtain rfl : len = 1 := by simpa [q_lk] using hlk
        replace h : q_rev y st S Q := h
        unfold q_rev at h
        split at h
        · match sv, hs with
          | [], hs =>
            split at h
            · rename_i hr; exact q_vret hC hd hr hw hbd h okr
            · exact h.elim
        · exact h.elim
      all_goals cases ho
  · exact h.elim
theorem q_sound (hE : q_Ei E) (h : q_r y pc L st S Q Z) : q_F E y pc L st S Q Z := h _ (q_F_closed hE)
end Step
