section BuildT
theorem b_k7 : q_all 12 (fun z => Nat.ble 1 (b_rf z) && Nat.ble 20 (b_rw z)) = true := by decide +kernel
variable {D : va_G} {cA : Nat → ClassId} {H0 : Heap}
set_option maxHeartbeats 2000000 in
theorem b_enter {y z pc : Nat} {as rest : List q_V} {av rv : List Value} {ws ws1 : List q_B} {p : Program} {l : Launch} {e : Env} {R : Room} {s : State} {m : MethodId} {args : Array Value} {below : List Frame} {meth : Method} {c : Code} {H : Heap} {locs : List Loc} {cells slots : Nat} {ls : Array Slot} {Qf : State → Prop} {ad : List Nat} {mk : MethodId} {T : State}
    (hx : p.tables.exec = Jvm.exec) (hct : b_Ct D cA s) (hsz : ls.size = c.maxLocals) (hz : z < 12) (X : Stand p l e R s m args below meth c T locs cells slots) (hT : T.heap = H) (hnamed : T.methodNamed? (b_nm z) = some mk)
    {i : Instr} (hdg : decode c.code pc = .ok (i, 3)) (has : q_sr (b_ad ad) as av) (hfit : (q_exp as).length ≤ b_ml z) (hrest : q_sr (b_ad ad) rest rv) (hr4 : rest.length ≤ 4) (hw : b_Wd D cA H0 ad ws H locs) (hbc : cells + (100 - ws.length) ≤ R.cells) (hbs : slots + (20000 - b_sl ws) ≤ R.slots)
    (hrf : b_rf z + 1 ≤ R.frames) (hrw : 8 + (b_ml z + 11) + b_rw z ≤ R.locals) (hmin : 2 ≤ R.frames ∧ 8 + (b_ml z + 11) + 20 ≤ R.locals)
    (hcall : b_G D cA H0 z 0 (q_padn (b_ml z) (q_exp as)) [] ws ws1)
    (kr : ∀ (bs : List Nat) (T' : State) (L' : List Loc) (k n : Nat), Stand p l e R s m args below meth c T' (locs ++ L') (cells + k) (slots + n) → b_Wd D cA H0 (ad ++ bs) ws1 T'.heap (locs ++ L') → k + (100 - ws1.length) ≤ 100 - ws.length → n + (20000 - b_sl ws1) ≤ 20000 - b_sl ws → ∃ t, Steps p.tables e below (T'.setTop (F0 m (pc + 3) ls rv)) t ∧ Qf t) :
    ∃ t, (∀ acts, Steps p.tables e below (doInvoke e (T.setTop (F0 m pc ls rv)) acts mk av.toArray).1 t) ∧ Qf t := by
  have hCt : b_Ct D cA T := b_Ct_warm X.warmed hct
  have hck := b_k2 z hz
  unfold b_ckc at hck
  simp only [Bool.and_eq_true, decide_eq_true_eq] at hck
  obtain ⟨⟨⟨⟨⟨⟨⟨⟨k1, k2⟩, k3⟩, k4⟩, k5⟩, k6⟩, k7⟩, k8⟩, k9⟩ := hck
  have w1 := q_w_mem k1
  obtain ⟨methk, ck, hmk, hck1, hcb, hcm, hcr, hcl, -, hsig⟩ := Cond.code_spec hnamed (hCt.1 _ w1.1 (Or.inl w1.2) #[])
  have hpk : T.plainMethod mk := State.plainMethod.of_named k7 hnamed hmk
  have hsum := q_sr_sum hrest
  obtain ⟨Y, hinv⟩ := X.into (g := F0 m pc ls rv) rfl hsz hdg av.toArray (R' := { frames := R.frames - 1, cells := 100 - ws.length, slots := 20000 - b_sl ws, locals := R.locals - (8 + (b_ml z + 11)) }) hmk hck1 hcl hpk
    (by show R.frames - 1 + 1 ≤ R.frames; omega) (by show 2 * 0 + (rv.map fun v => v.category).sum + (ck.maxLocals + 11) + (R.locals - (8 + (b_ml z + 11))) ≤ R.locals; rw [hcm]; omega) hbc hbs
  have hheap : ((T.setTop (F0 m pc ls rv)).pushFrame (.java (entryFrame mk av.toArray ck.maxLocals))).heap = H := by rw [← hT]; rfl
  have hcx : b_Cx D cA z p { frames := R.frames - 1, cells := 100 - ws.length, slots := 20000 - b_sl ws, locals := R.locals - (8 + (b_ml z + 11)) } (T.calling (F0 m pc ls rv) mk av.toArray) mk methk ck := by
    refine ⟨hx, hcb, hcm, hcr, hcl, ?_, ?_, b_Ct_warm (U := T.calling (F0 m pc ls rv) mk av.toArray) (s := T) (State.WarmedH.refl T) hCt, ?_, ?_, ?_, ?_⟩
    · rw [← k6]; exact (name_of_methodNamed hnamed hmk).1
    · rw [← k5]; exact findClass_of_methodNamed hnamed
    · show b_rf z ≤ R.frames - 1; omega
    · show b_rw z ≤ R.locals - (8 + (b_ml z + 11)); omega
    · show 1 ≤ R.frames - 1; omega
    · show 20 ≤ R.locals - (8 + (b_ml z + 11)); omega
  have hW := hcall p l e _ _ mk av.toArray (.java (F0 m pc ls rv) :: below) methk ck H [] 0 0 _ [] ad (fun t' => ∃ t, Steps p.tables e below t' t ∧ Qf t) hcx (q_entry has hfit) (q_padn_len _ _) trivial ⟨hw.1, hw.2.1, hw.2.2.1, ⟨hw.2.2.2.1, hw.2.2.2.2.1, fun _ h => by cases h⟩⟩ ⟨by simp, by simp⟩ ?_
  · obtain ⟨t', hst, t, hst2, hq⟩ := hW _ hheap Y
    refine ⟨t, fun acts => ?_, hq⟩
    rw [hinv acts]
    rw [hcm, lg_entry_eq]
    rw [hcm, lg_entry_eq] at hst
    exact (Steps.weaken (mid := [.java (F0 m pc ls rv)]) hst).trans hst2
  · intro t bs L' k n hrun hend hWm hsame hwd hbd'
    obtain ⟨T', X', -, -, ht⟩ := X.outOf (g := F0 m pc ls rv) rfl hdg hend hWm hsame
    have hh : T'.heap = t.heap := by rw [ht]; rfl
    obtain ⟨t2, h1, h2⟩ := kr bs T' L' k n X' (by
      rw [hh]
      refine ⟨hwd.1, hwd.2.1, hwd.2.2.1, hwd.2.2.2.1, hwd.2.2.2.2.1, ?_⟩
      intro q hq
      rcases List.mem_append.mp hq with hq | hq
      · exact hw.2.2.2.2.2 q hq
      · exact hwd.2.2.2.2.2 q hq) hbd'.1 hbd'.2
    exact ⟨t2, by rw [ht]; exact h1, h2⟩
set_option maxHeartbeats 4000000 in
theorem b_sound : ∀ (f : Nat) {y pc : Nat} {L st : List q_V} {ws ws' : List q_B}, y < 12 → b_run f y pc L st ws = some ws' → b_G D cA H0 y pc L st ws ws' := by
  intro f
  induction f with
  | zero => intro y pc L st ws ws' _ h; cases h
  | succ f ih =>
    intro y pc L st ws ws' hy h p l e R s m args below meth c H locs cells slots ls sv as Qf hC hl hL hs hw hbd ok
    have hC' := hC
    obtain ⟨hx, hb, hml, hret, hlk, hnm, hown, hct, hf1, hf2, hf3, hf4⟩ := hC
    unfold b_run at h
    cases hcd : b_cd y pc with
    | none => rw [hcd] at h; cases h
    | some q =>
      obtain ⟨i, n⟩ := q
      rw [hcd] at h
      obtain ⟨hd, hk, hck⟩ := b_dec hy hcd
      cases i
      case aload_n j =>
        obtain rfl : n = 1 := by simpa [q_lk] using hk
        replace h : (match L[j.val]? with | some (.inl (.inr (.inl k))) => b_run f y (pc + 1) L (vR k :: st) ws | _ => none) = some ws' := h
        split at h
        · rename_i k hk'
          exact lv_aload_n hx hb hd rfl (hl.2.2 _ _ hk') (ih hy h p l e R s m args below meth c H locs cells slots ls _ as Qf hC' hl hL ⟨rfl, hs⟩ hw hbd ok)
        · cases h
      case aload j =>
        obtain rfl : n = 2 := by simpa [q_lk] using hk
        replace h : (match L[j]? with | some (.inl (.inr (.inl k))) => b_run f y (pc + 2) L (vR k :: st) ws | _ => none) = some ws' := h
        split at h
        · rename_i k hk'
          exact lv_aload hx hb hd (hl.2.2 _ _ hk') (ih hy h p l e R s m args below meth c H locs cells slots ls _ as Qf hC' hl hL ⟨rfl, hs⟩ hw hbd ok)
        · cases h
      case iconst a =>
        obtain ⟨rfl, hr⟩ : n = 1 ∧ (-128 ≤ a ∧ a ≤ 127) := by simpa [q_lk] using hk
        exact lv_iconst hx hb hd rfl (ih hy h p l e R s m args below meth c H locs cells slots ls _ as Qf hC' hl hL ⟨⟨⟨by omega, by omega⟩, rfl⟩, hs⟩ hw hbd ok)
      case bipush a =>
        obtain ⟨rfl, hr⟩ : n = 2 ∧ (-128 ≤ a ∧ a ≤ 127) := by simpa [q_lk] using hk
        exact lv_bipush hx hb hd (Int8.toInt32_ofInt (by exact hr.1) (by exact hr.2)) (ih hy h p l e R s m args below meth c H locs cells slots ls _ as Qf hC' hl hL ⟨⟨⟨by omega, by omega⟩, rfl⟩, hs⟩ hw hbd ok)
      case sipush a =>
        obtain ⟨rfl, hr⟩ : n = 3 ∧ (-32768 ≤ a ∧ a ≤ 32767) := by simpa [q_lk] using hk
        exact lv_sipush hx hb hd (Int16.toInt32_ofInt (by exact hr.1) (by exact hr.2)) (ih hy h p l e R s m args below meth c H locs cells slots ls _ as Qf hC' hl hL ⟨⟨⟨by omega, by omega⟩, rfl⟩, hs⟩ hw hbd ok)
      case lconst a =>
        obtain rfl : n = 1 := by simpa [q_lk] using hk
        have hn := a.isLt
        exact lv_lconst hx hb hd (Int64.ofInt_eq_ofNat).symm (ih hy h p l e R s m args below meth c H locs cells slots ls _ as Qf hC' hl hL ⟨⟨⟨by omega, by omega⟩, rfl⟩, hs⟩ hw hbd ok)
      case dup =>
        obtain rfl : n = 1 := by simpa [q_lk] using hk
        replace h : (match (generalizing := false) st with | .inl (.inr (.inl k)) :: r => b_run f y (pc + 1) L (vR k :: vR k :: r) ws | _ => none) = some ws' := h
        split at h
        · match sv, hs with
          | x :: rv, hs => exact lv_dup hx hb hd (by rw [show x = _ from hs.1]; rfl) (ih hy h p l e R s m args below meth c H locs cells slots ls _ as Qf hC' hl hL ⟨hs.1, hs⟩ hw hbd ok)
        · cases h
      case new x =>
        obtain rfl : n = 3 := by simpa [q_lk] using hk
        replace h : (match b_nw y x with | some ci => (match b_new ws (.inl (ci, b_df ci)) (b_df ci).length L st with | some ws' => b_run f y (pc + 3) L (vR ws.length :: st) ws' | none => none) | none => none) = some ws' := h
        split at h
        · rename_i ci hnw
          split at h
          · rename_i ws1 hnew
            obtain ⟨rfl, g1, g2, g3, g4, g5⟩ := b_new_o hnew
            have h1 := q_all_of (q_all_of b_k1 y hy) x (b_n400 hnw)
            unfold b_ckl at h1
            simp only [hnw, Bool.and_eq_true] at h1
            have hci : ci < 12 := b_blt h1.1.2.1
            have v1 := q_w_mem h1.1.2.2
            obtain ⟨T, hT, -, -⟩ := b_cls hci
            obtain ⟨hp1, hp2⟩ := b_dfv hci hT
            have hck2 := b_k2 ci hci
            unfold b_ckc at hck2
            simp only [Bool.and_eq_true, decide_eq_true_eq] at hck2
            have v2 := q_w_mem hck2.1.1.1.1.1.1.1.2
            have v3 := q_w_mem hck2.1.1.1.1.1.2
            obtain ⟨b1, b2⟩ := hbd
            refine va_new hx hb (Ts := u_ws (q_own ci) T (b_df ci).length) (b_lay hct hT) (fun _ h => h) (q_ty0 T) hp1 hown (hct.1 _ v1.1 (Or.inl v1.2) _) (hct.1 _ v3.1 (Or.inl v3.2) _) (hct.1 _ v2.1 (Or.inl v2.2) _) hct.2.2.2 hw.2.1 hw.2.2.1 hw.2.2.2 (fun q h => h) hT hp2 (by omega) (by omega) hd ?_
            intro q H1 p1 p2 p3
            have e1 : b_wd (as ++ [q]) cA (ws ++ [.inl (ci, b_df ci)]) = b_wd as cA ws ++ [(q, .inr (ci, (b_df ci).map (b_fv (fun _ => 0))))] := by
              rw [b_wd_app hw.1 g1]
              simp only [b_en]
              rw [b_fv_df hci]
            rw [← e1] at p1 p2
            have e2 : b_sl (ws ++ [.inl (ci, b_df ci)]) = b_sl ws + (b_df ci).length := b_sl_app rfl
            rw [← hw.1] at g4 g5
            refine ih hy h p l e R s m args below meth c H1 locs (cells + 1) (slots + (b_df ci).length) ls _ (as ++ [q]) Qf hC' (b_lr g4 hl) hL ⟨?_, b_sr g5 hs⟩ ⟨by simp [hw.1], p1, p2, p3⟩ ⟨by simp; omega, by rw [e2]; omega⟩ (b_ok_ext ok)
            show _ = Value.ref (b_ad (as ++ [q]) ws.length)
            rw [← hw.1, b_ad_last]
          · cases h
        · cases h
      case newarray t =>
        obtain rfl : n = 2 := by simpa [q_lk] using hk
        replace h : (match (generalizing := false) st with
          | .inl (.inl n) :: r => (bif decide (0 ≤ n ∧ n ≤ 20000) && Nat.ble (b_at t) 3 then (match b_new ws (.inr (b_at t, n.toNat)) n.toNat L r with | some ws' => b_run f y (pc + 2) L (vR ws.length :: r) ws' | none => none) else none)
          | _ => none) = some ws' := h
        split at h
        · rename_i k r
          cases hc0 : (decide (0 ≤ k ∧ k ≤ 20000) && Nat.ble (b_at t) 3) <;> rw [hc0] at h <;> simp only [cond_true, cond_false] at h
          · cases h
          · rw [Bool.and_eq_true] at hc0
            have hk0 := of_decide_eq_true hc0.1
            have ht3 : b_at t ≤ 3 := Nat.le_of_ble_eq_true hc0.2
            split at h
            · rename_i ws1 hnew
              obtain ⟨rfl, g1, g2, g3, g4, g5⟩ := b_new_o hnew
              obtain ⟨a1, a2, a3, a4⟩ := b_arr (args := args) hct ht3
              match sv, hs with
              | x0 :: rv, hs =>
                rw [hs.1.2]
                obtain ⟨b1, b2⟩ := hbd
                have hrk : q_rg k := hs.1.1
                have hcln := q_cl_nat hrk hk0.1
                have e2 : b_sl (ws ++ [.inr (b_at t, k.toNat)]) = b_sl ws + k.toNat := b_sl_app rfl
                have hneg : ¬ Int32.ofInt k < 0 := fun h9 => by have := (q_lt hrk q_rg0).mp h9; omega
                have hby : k.toNat * componentBytes (newarray.typeOf t) ≤ 536870912 := by
                  have : k.toNat * componentBytes (newarray.typeOf t) ≤ 20000 * 8 := Nat.mul_le_mul (by omega) a4
                  omega
                have fin : ∀ (q : Nat) (cA' : ClassId) (H1 : Heap), va_K D q_cls (q_tys cA ++ [(cA', newarray.typeOf t)]) s → cA' = cA (b_at t) := by
                  intro q cA' H1 hK1
                  have r1 := (hK1.2 4 (cA', newarray.typeOf t) rfl).2
                  have r2 := (hct.2.2.2.2 (b_at t) _ a3).2
                  rw [a1] at r1 r2
                  have hsm : ∀ k, va_RA s cA' (b_fty k) → va_RA s (cA (b_at t)) (b_fty k) → cA' = cA (b_at t) := by
                    intro k z1 z2
                    match k, z1, z2 with
                    | 0, z1, z2 => exact Option.some.inj (z1.symm.trans z2)
                    | 1, z1, z2 => exact Option.some.inj (z1.symm.trans z2)
                    | 2, z1, z2 => exact Option.some.inj (z1.symm.trans z2)
                    | k + 3, z1, z2 => exact Option.some.inj (z1.symm.trans z2)
                  exact hsm _ r1 r2
                have done : ∀ (q : Nat) (H1 : Heap), va_P D q_cls (b_wd as cA ws ++ [(q, b_en (b_ad (as ++ [q])) cA (.inr (b_at t, k.toNat)))]) H1 → va_D (fun q => H0.size ≤ q) (b_wd as cA ws ++ [(q, b_en (b_ad (as ++ [q])) cA (.inr (b_at t, k.toNat)))]) → va_S (fun q => H0.size ≤ q) H0 H1 locs →
                    W p l e R s m args below meth c H1 locs (cells + 1) (slots + k.toNat) Qf (F0 m (pc + 2) ls (.ref q :: rv)) := by
                  intro q H1 p1 p2 p3
                  rw [← b_wd_app hw.1 g1] at p1 p2
                  rw [← hw.1] at g4 g5
                  refine ih hy h p l e R s m args below meth c H1 locs (cells + 1) (slots + k.toNat) ls _ (as ++ [q]) Qf hC' (b_lr g4 hl) hL ⟨?_, b_sr g5 hs.2⟩ ⟨by simp [hw.1], p1, p2, p3⟩ ⟨by simp; omega, by rw [e2]; omega⟩ (b_ok_ext ok)
                  show _ = Value.ref (b_ad (as ++ [q]) ws.length)
                  rw [← hw.1, b_ad_last]
                by_cases hlong : b_at t = 3
                · have htl : newarray.typeOf t = .long := by rw [a1, hlong]; rfl
                  refine va_newa hx hb a2 rfl hct.2.2.2 hw.2.1 hw.2.2.1 hw.2.2.2 (fun q h => h) (a0 := (k.toNat, .inr (.inl (fun _ => 0)))) (fun cA' => by rw [htl]; rfl) hneg hcln hby (by omega) (by omega) hd ?_
                  intro q cA' H1 hK1 p1 p2 p3
                  have e3 := fin q cA' H1 hK1
                  have e4 : b_en (b_ad (as ++ [q])) cA (.inr (b_at t, k.toNat)) = .inl (cA', k.toNat, .inr (.inl (fun _ => 0))) := by
                    unfold b_en; simp only; rw [hlong, q_ae_l, e3, hlong]; rfl
                  rw [← e4] at p1 p2
                  exact done q H1 p1 p2 p3
                · have hdv : defaultValue (newarray.typeOf t) = .int 0 := by
                    rw [a1]
                    match b_at t, ht3, hlong with
                    | 0, _, _ => rfl
                    | 1, _, _ => rfl
                    | 2, _, _ => rfl
                    | 3, _, h9 => exact absurd rfl h9
                    | n + 4, h9, _ => omega
                  refine va_newa hx hb a2 rfl hct.2.2.2 hw.2.1 hw.2.2.1 hw.2.2.2 (fun q h => h) (a0 := (k.toNat, .inl (fun _ => 0))) (fun cA' => by rw [hdv]; rfl) hneg hcln hby (by omega) (by omega) hd ?_
                  intro q cA' H1 hK1 p1 p2 p3
                  have e3 := fin q cA' H1 hK1
                  have e4 : b_en (b_ad (as ++ [q])) cA (.inr (b_at t, k.toNat)) = .inl (cA', k.toNat, .inl (fun _ => 0)) := by
                    unfold b_en; simp only; rw [q_ae_i hlong, e3]; rfl
                  rw [← e4] at p1 p2
                  exact done q H1 p1 p2 p3
            · cases h
        · cases h
      case getfield x =>
        obtain rfl : n = 3 := by simpa [q_lk] using hk
        replace h : (match (generalizing := false) st with
          | .inl (.inr (.inl k)) :: r => (match b_fl y x with | some (ci, j) => (match b_get ws k ci j with | some k' => b_run f y (pc + 3) L (vR k' :: r) ws | none => none) | none => none)
          | _ => none) = some ws' := h
        split at h
        · rename_i k r
          split at h
          · rename_i ci j hfl
            split at h
            · rename_i k' hget
              obtain ⟨C0, T, n0, hcl, hlt, hC1, hw1, hw2⟩ := b_fl_o hy hfl
              unfold b_get at hget
              split at hget
              · rename_i c0 fs hwk
                cases hbq : Nat.beq c0 ci <;> rw [hbq] at hget <;> simp only [cond_true, cond_false] at hget
                · cases hget
                · cases Nat.eq_of_beq_eq_true hbq
                  split at hget
                  · rename_i v hfj
                    cases hget
                    match sv, hs with
                    | x0 :: rv, hs =>
                      rw [show x0 = _ from hs.1]
                      have he := b_wd_at (as := as) (cA := cA) hwk
                      have hv : (fs.map (b_fv (b_ad as)))[j]? = some (.ref (b_ad as v.toNat)) := by rw [List.getElem?_map, hfj]; rfl
                      exact va_get hx hb (Ts := u_ws C0 T n0) (b_lay hct hcl) (fun _ h => h) hown hct.2.2.2 hw.2.1 k he hcl j hlt (ref := C0) (hct.1 _ hw1 (Or.inl hw2) _) (fun z hz => by rw [hC1] at hz; exact hz) hv hd (ih hy h p l e R s m args below meth c H locs cells slots ls _ as Qf hC' hl hL ⟨rfl, hs.2⟩ hw hbd ok)
                  · cases hget
              · cases hget
            · cases h
          · cases h
        · cases h
      case putfield x =>
        obtain rfl : n = 3 := by simpa [q_lk] using hk
        replace h : (match (generalizing := false) st with
          | v :: .inl (.inr (.inl k)) :: r => (match b_fl y x with | some (ci, j) => (bif Nat.beq ci y then (match b_put ws k ci j v with | some ws' => b_run f y (pc + 3) L r ws' | none => none) else none) | none => none)
          | _ => none) = some ws' := h
        split at h
        · rename_i v k r
          split at h
          · rename_i ci j hfl
            cases hciy : Nat.beq ci y <;> rw [hciy] at h <;> simp only [cond_true, cond_false] at h
            · cases h
            · cases Nat.eq_of_beq_eq_true hciy
              split at h
              · rename_i ws1 hput
                obtain ⟨C0, T, n0, hcl, hlt, hC1, hw1, hw2⟩ := b_fl_o hy hfl
                obtain ⟨T', hcl', hd2, hd4⟩ := b_cls hy
                rw [hcl] at hcl'
                cases hcl'
                unfold b_put at hput
                split at hput
                · rename_i c0 fs kd v0 hwk hdf
                  cases hbq : (Nat.beq c0 y && Nat.blt j fs.length) <;> rw [hbq] at hput <;> simp only [cond_true, cond_false] at hput
                  · cases hput
                  · rw [Bool.and_eq_true] at hbq
                    cases Nat.eq_of_beq_eq_true hbq.1
                    split at hput
                    · rename_i f0 hval
                      cases hput
                      match sv, hs with
                      | x0 :: z0 :: rv, hs =>
                        rw [show z0 = _ from hs.2.1]
                        have he := b_wd_at (as := as) (cA := cA) hwk
                        obtain ⟨ty, k0, e1, e2, e3⟩ := hd2 j hlt
                        rw [hdf] at e2
                        cases e2
                        obtain ⟨q1, q2, q3⟩ := b_val_o hval hs.1 e3
                        have hlen : j < fs.length := b_blt hbq.2
                        have hset : (b_wd as cA ws).set k (b_ad as k, .inr (y, (fs.map (b_fv (b_ad as))).set j x0)) = b_wd as cA (ws.set k (.inl (y, fs.set j f0))) := by
                          rw [b_wd_set]
                          simp only [b_en]
                          rw [List.map_set, q1]
                        have e4 : b_sl (ws.set k (.inl (y, fs.set j f0))) = b_sl ws := b_sl_set hwk (by simp)
                        have fin : ∀ (H1 : Heap) (locs1 : List Loc), va_P D q_cls ((b_wd as cA ws).set k (b_ad as k, .inr (y, (fs.map (b_fv (b_ad as))).set j x0))) H1 → va_D (fun q => H0.size ≤ q) ((b_wd as cA ws).set k (b_ad as k, .inr (y, (fs.map (b_fv (b_ad as))).set j x0))) → va_S (fun q => H0.size ≤ q) H0 H1 locs1 → W p l e R s m args below meth c H1 locs1 cells slots Qf (F0 m (pc + 3) ls rv) := by
                          intro H1 locs1 p1 p2 p3
                          rw [hset] at p1 p2
                          exact ih hy h p l e R s m args below meth c H1 locs1 cells slots ls rv as Qf hC' hl hL hs.2.2 ⟨by simp [hw.1], p1, p2, p3⟩ ⟨by simp; exact hbd.1, by rw [e4]; exact hbd.2⟩ ok
                        cases hfin : (T j).2.2.2
                        · exact va_put hx hb (Ts := u_ws (q_own y) T (b_df y).length) (b_lay hct hcl) (fun _ h => h) (q_ty0 T) (b_dfv hy hcl).1 hd4 hown hct.2.2.2 hw.2.1 hw.2.2.1 hw.2.2.2 k he hcl j hlt (ref := q_own y) (hct.1 _ hw1 (Or.inl hw2) _) (fun z hz => by rw [hC1] at hz; exact hz) hfin e1 q2 q3 (by simpa using hlen) hd fin
                        · exact va_putF hx hb (Ts := u_ws (q_own y) T (b_df y).length) (b_lay hct hcl) (fun _ h => h) (q_ty0 T) (b_dfv hy hcl).1 hd4 hown hct.2.2.2 hw.2.1 hw.2.2.1 hw.2.2.2 k he hcl j hlt (ref := q_own y) (hct.1 _ hw1 (Or.inl hw2) _) (fun z hz => by rw [hC1] at hz; exact hz) hfin hnm hC1 e1 q2 q3 (by simpa using hlen) hd fin
                    · cases hput
                · cases hput
              · cases h
          · cases h
        · cases h
      case invokespecial x =>
        obtain rfl : n = 3 := by simpa [q_lk] using hk
        replace h : (match b_iv y x with
          | some z => (bif Nat.beq z 99 then (match (generalizing := false) st with | .inl (.inr (.inl _)) :: r => (bif Nat.ble r.length 4 then b_run f y (pc + 3) L r ws else none) | _ => none)
            else (bif Nat.ble (b_np z + 1) st.length && (Nat.ble st.length (b_np z + 5) && (Nat.ble (q_exp (st.take (b_np z + 1)).reverse).length (b_ml z) && (b_lok ws.length L st && q_hasr (st.take (b_np z + 1)).reverse)))
              then (match b_run f z 0 (q_padn (b_ml z) (q_exp (st.take (b_np z + 1)).reverse)) [] ws with | some ws' => b_run f y (pc + 3) L (st.drop (b_np z + 1)) ws' | none => none) else none))
          | none => none) = some ws' := h
        split at h
        · rename_i z hiv
          have h1 := q_all_of (q_all_of b_k1 y hy) x (b_x400 hiv)
          unfold b_ckl at h1
          simp only [hiv, Bool.and_eq_true] at h1
          have h1 := h1.1.1
          cases hz : Nat.beq z 99 <;> rw [hz] at h h1 <;> simp only [cond_true, cond_false] at h h1
          · cases hcnd : (Nat.ble (b_np z + 1) st.length && (Nat.ble st.length (b_np z + 5) && (Nat.ble (q_exp (st.take (b_np z + 1)).reverse).length (b_ml z) && (b_lok ws.length L st && q_hasr (st.take (b_np z + 1)).reverse)))) <;> rw [hcnd] at h <;> simp only [cond_true, cond_false] at h
            · cases h
            · simp only [Bool.and_eq_true] at hcnd
              obtain ⟨c1, c2, c3, c4, c5⟩ := hcnd
              have c1 := Nat.le_of_ble_eq_true c1
              have c2 := Nat.le_of_ble_eq_true c2
              have c3 := Nat.le_of_ble_eq_true c3
              unfold b_lok at c4
              rw [Bool.and_eq_true] at c4
              split at h
              · rename_i ws1 hrun
                have hck' := hck
                unfold b_ckr at hck'
                rw [hcd] at hck'
                simp only [hiv, hz, Bool.false_or, Bool.and_eq_true] at hck'
                obtain ⟨-, ⟨z1, z2⟩, z3⟩ := hck'
                have z1 : z < 12 := b_blt z1
                have z2 := Nat.le_of_ble_eq_true z2
                have z3 := Nat.le_of_ble_eq_true z3
                have hckz := b_k2 z z1
                unfold b_ckc at hckz
                simp only [Bool.and_eq_true, decide_eq_true_eq] at hckz
                obtain ⟨⟨⟨⟨⟨⟨⟨⟨k1, k2⟩, k3⟩, k4⟩, k5⟩, k6⟩, k7⟩, k8⟩, k9⟩ := hckz
                have w1 := q_w_mem k1
                have w3 := q_w_mem k3
                have hnp : ∀ sg, parseMethodDescriptor (b_nm z).desc = some sg → sg.parameters.length = b_np z := by
                  intro sg hsg
                  rw [hsg] at k8
                  exact Nat.eq_of_beq_eq_true k8
                have hrest := q_sr_drop (b_np z + 1) hs
                have has := q_sr_rev (q_sr_take (b_np z + 1) hs)
                obtain ⟨kk, argsL, hav⟩ : ∃ kk argsL, (sv.take (b_np z + 1)).reverse = .ref (b_ad as kk) :: argsL := by
                  unfold q_hasr at c5
                  split at c5
                  · rename_i kk r0 he
                    rw [he] at has
                    cases hv : (sv.take (b_np z + 1)).reverse with
                    | nil => rw [hv] at has; exact has.elim
                    | cons a r => rw [hv] at has; exact ⟨kk, r, by rw [show a = _ from has.1]⟩
                  · cases c5
                have hstack : sv = argsL.reverse ++ .ref (b_ad as kk) :: sv.drop (b_np z + 1) := by
                  have e1 : sv.take (b_np z + 1) = argsL.reverse ++ [.ref (b_ad as kk)] := by
                    have := congrArg List.reverse hav
                    simpa using this
                  calc sv = sv.take (b_np z + 1) ++ sv.drop (b_np z + 1) := (List.take_append_drop _ sv).symm
                    _ = _ := by rw [e1]; simp
                have hlenL : argsL.length = b_np z := by
                  have e1 := congrArg List.length hav
                  have e2 := q_sr_len hs
                  simp at e1
                  omega
                intro T hT X
                have hpl : e.platform.magicAccessors = ({} : Platform).magicAccessors := by rw [X.admits.platform]
                obtain ⟨mk, vm₁, hnamed, hW₁, hstep₁⟩ : ∃ (mk : MethodId) (vm' : Vm), s.methodNamed? (b_nm z) = some mk ∧ s.WarmedH vm' ∧
                    ∀ target, (∀ acts, Steps p.tables e below (doInvoke e ((T.setVm vm').setTop (F0 m pc ls (sv.drop (b_np z + 1)))) acts mk (.ref (b_ad as kk) :: argsL).toArray).1 target) → Steps p.tables e below (T.setTop (F0 m pc ls sv)) target := by
                  cases hn : b_nst y x
                  · rw [hn] at h1
                    have w0 := q_w_mem h1
                    obtain ⟨mk, methM, cM, kP, vm₁, hnamed, -, -, -, -, -, -, -, hW₁, hstep₁⟩ := Steps.initColdArgs (e := e) X.here hx X.warmed hpl hown k6 k9 (hct.1 _ w0.1 (Or.inl w0.2) args) (hct.1 _ w3.1 (Or.inl w3.2) args) (hct.1 _ w1.1 (Or.inl w1.2) args) (f := F0 m pc ls sv) rfl (fun sig h => hlenL.trans (hnp sig h).symm) hstack (by rw [hb]; exact hd)
                    exact ⟨mk, vm₁, hnamed, hW₁, hstep₁⟩
                  · have h6 := q_all_of (q_all_of b_k6 y hy) x (b_x400 hiv)
                    simp only [hn, Bool.not_true, Bool.false_or, Bool.and_eq_true, Bool.or_eq_true, decide_eq_true_eq] at h6
                    have hy0 := Nat.eq_of_beq_eq_true h6.1
                    have hnest : (Cond.methodLinkNest (q_own y) x (b_nm z) (q_own 0)).before args s = true := by
                      rcases h6.2 with ⟨hx1, hv1⟩ | ⟨hx1, hv1⟩
                      · have hx1 := Nat.eq_of_beq_eq_true hx1
                        rw [hiv] at hv1
                        cases hv1
                        rw [hy0, hx1]
                        exact va_Nw.use rfl hct.2.1
                      · have hx1 := Nat.eq_of_beq_eq_true hx1
                        rw [hiv] at hv1
                        cases hv1
                        rw [hy0, hx1]
                        exact va_Nw.use rfl hct.2.2.1
                    obtain ⟨mk, methM, cM, kP, vm₁, hnamed, -, -, -, -, -, -, -, hW₁, hstep₁⟩ := Steps.initColdArgsNest (e := e) X.here hx X.warmed hpl hown k6 k9 hnest (hct.1 _ w3.1 (Or.inl w3.2) args) (hct.1 _ w1.1 (Or.inl w1.2) args) (f := F0 m pc ls sv) rfl (fun sig h => hlenL.trans (hnp sig h).symm) hstack (by rw [hb]; exact hd)
                    exact ⟨mk, vm₁, hnamed, hW₁, hstep₁⟩
                have X₁ := X.noted hW₁
                have hmin : 2 ≤ R.frames ∧ 8 + (b_ml z + 11) + 20 ≤ R.locals := by
                  have : 1 ≤ b_rf z ∧ 20 ≤ b_rw z := by
                    have q := q_all_of b_k7 z z1
                    rw [Bool.and_eq_true] at q
                    exact ⟨Nat.le_of_ble_eq_true q.1, Nat.le_of_ble_eq_true q.2⟩
                  omega
                rw [← hw.1] at c4
                obtain ⟨t, t1, t2⟩ := b_enter (y := y) (T := T.setVm vm₁) (Qf := Qf) hx hct (by rw [hml, ← hL]; exact hl.1) z1 X₁ hT (X₁.named hnamed) (by rw [hb]; exact hd) has c3 hrest (by simp; omega) hw hbd.1 hbd.2 (by omega) (by omega) hmin (ih z1 hrun) (by
                  intro bs T' L' k n X' hwd q1 q2
                  refine ih hy h p l e R s m args below meth c T'.heap (locs ++ L') (cells + k) (slots + n) ls _ (as ++ bs) Qf hC' (b_lr c4.1 hl) hL ?_ hwd ⟨by have := hbd.1; omega, by have := hbd.2; omega⟩ (b_ok_ext ok) T' rfl X'
                  have := q_sr_drop (b_np z + 1) (b_sr (bs := bs) c4.2 hs)
                  exact this)
                rw [hav] at t1
                exact ⟨t, hstep₁ t t1, t2⟩
              · cases h
          · split at h
            · rename_i k r
              cases hr4 : Nat.ble r.length 4 <;> rw [hr4] at h <;> simp only [cond_true, cond_false] at h
              · cases h
              · have hr4 := Nat.le_of_ble_eq_true hr4
                match sv, hs with
                | x0 :: rv, hs =>
                  have hsum := q_sr_sum hs.2
                  have w0 := q_w_mem h1
                  have k4 := b_k4
                  unfold b_pob at k4
                  simp only [Bool.and_eq_true] at k4
                  have w1 := q_w_mem k4.1
                  have w2 := q_w_mem k4.2
                  exact W.objInit hx hb hown (hct.1 _ w0.1 (Or.inl w0.2) _) (hct.1 _ w1.1 (Or.inl w1.2) _) (hct.1 _ w2.1 (Or.inl w2.2) _) (g := F0 m pc ls (x0 :: rv)) rfl (by show ls.size = _; rw [hml, ← hL]; exact hl.1) (by rw [show x0 = _ from hs.1]) hd hf3 (by show 2 * 0 + (rv.map fun v => v.category).sum + 12 ≤ R.locals; omega) (ih hy h p l e R s m args below meth c H locs cells slots ls rv as Qf hC' hl hL hs.2 hw hbd ok)
            · cases h
        · cases h
      case return_ =>
        obtain rfl : n = 1 := by simpa [q_lk] using hk
        replace h : (match (generalizing := false) st with | [] => some ws | _ => none) = some ws' := h
        split at h
        · cases h
          match sv, hs with
          | [], _ =>
            refine q_wmono ?_ (W.vret (Qc := fun _ _ o t => o = .returned none ∧ t.heap = H) (free := fun q => H0.size ≤ q) hx hb hret (fun t ht _ => ⟨rfl, ht⟩) hw.2.2.2.2.2 hd hlk)
            rintro t ⟨o, b1, b2, ⟨rfl, b3⟩, L', ⟨-, b4, b5⟩, b6⟩
            refine ok t [] L' cells slots b1 b2 b4 b5 ?_ hbd
            rw [List.append_nil, b3]
            exact ⟨hw.1, hw.2.1, hw.2.2.1, hw.2.2.2.1, hw.2.2.2.2.1, b6⟩
        · cases h
      all_goals cases h
end BuildT
