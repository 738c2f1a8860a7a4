theorem w_ad0 (q : Nat) (bs : List Nat) : b_ad (q :: bs) 0 = q := rfl
section Whole
variable {p : Program} {l : Launch} {e : Env} {s : State} {m : MethodId} {below : List Frame} {meth : Method} {c : Code} {b L : Nat} {xs : Nat → Int32}
set_option maxHeartbeats 2000000 in
theorem whole_start (hg : q_goal) (hfl : l.flags = flags0) (hL : L ≤ 2048) (C0 : lw_At p s m meth c b L xs) : W p l e room_1 s m #[Value.ref b] below meth c s.heap [] 0 0 (lw_Z below #[Value.ref b] s) (entryFrame m ([Value.ref b] : List Value).toArray 7) := by
  have C1 := C0
  obtain ⟨hx, hb, hr, hml, hown, hts, hX, hbl, hlk, hgv, hexc⟩ := C0
  obtain ⟨D, cA, hK⟩ := b_known hts
  have hct := b_Ct_of hts hK
  have hk := w_k
  simp only [Bool.and_eq_true, decide_eq_true_eq] at hk
  obtain ⟨⟨⟨k1, k2⟩, k3⟩, k4⟩ := hk
  have c1 := hts _ (List.mem_of_getElem? k1)
  have c2 := hts _ (List.mem_of_getElem? k2)
  have c3 := hts _ (List.mem_of_getElem? k3)
  have c4 := hts _ (List.mem_of_getElem? k4)
  have harr : (Cond.arrayClass (newarray.typeOf .long)).before #[Value.ref b] s = true := (b_arr (t := .long) hct (by decide)).2.1
  have hl0 := lv_entry [Value.ref b] (n := 7) (by show 1 ≤ 7; decide)
  rw [lg_entry_eq]
  generalize (lg_sl [Value.ref b] ++ List.replicate (7 - (lg_sl [Value.ref b]).length) Slot.unset).toArray = ls0 at hl0
  replace hl0 : lv_has ls0 7 [(0, .ref b)] := hl0
  have hw0 : b_Wd D cA s.heap [] [] s.heap [] := ⟨rfl, fun k q h => by simp [b_wd] at h, ⟨fun i j p q h => by simp [b_wd] at h, fun k q h => by simp [b_wd] at h⟩, va_S.rf⟩
  have d0 : (b_df 0).length = 10 := by decide +kernel
  have d11 : (b_df 11).length = 45 ∨ True := Or.inr trivial
  have l1 := w_l1
  have l2 := w_l2
  have s1 := w_s1
  have s2 := w_s2
  have s12 := w_s12
  have s0 := w_s0
  have e12 : b_sl (w_c1 ++ [.inl (11, b_df 11)]) = b_sl w_c1 + (b_df 11).length := b_sl_app rfl
  have e23 : b_sl (w_c2 ++ [.inr (3, 1)]) = b_sl w_c2 + 1 := b_sl_app rfl
  refine w_new (ci := 0) (as := []) (ws := []) hx hb hown hct (by decide) c1 w_d0 hw0 rfl (by decide) (by omega) ?_
  intro q0 H1 hw1
  refine lv_dup hx hb w_d3 rfl ?_
  refine w_init (ci := 0) (k := 0) (as := [] ++ [q0]) (rest := [vR 0]) hx hb hml hl0.1 hown hct (by decide) (by decide +kernel) (by decide +kernel) (by decide +kernel) (by decide +kernel) c3 w_d4 hw1 w_r1 ⟨rfl, trivial⟩ (by decide) (by show 0 + 1 + (100 - 1) ≤ 1105; decide) (by simp only [List.nil_append]; omega) ?_
  intro bs1 H2 L1 kc1 n1 hw2 t1 t2
  refine lv_astore_n (i := 1) hx hb w_d7 rfl hl0 (by decide) rfl fun ls1 hl1 => ?_
  replace hl1 : lv_has ls1 7 [(1, .ref q0), (0, .ref b)] := hl1
  simp only [List.nil_append, List.length_cons, List.length_nil] at hw2 t1 t2
  refine w_new (ci := 11) (as := [q0] ++ bs1) (ws := w_c1) hx hb hown hct (by decide) c2 w_d8 hw2 w_o1 (by omega) (by omega) ?_
  intro q1 H3 hw3
  refine lv_dup hx hb w_d11 rfl ?_
  have ha36 : b_ad ([q0] ++ bs1 ++ [q1]) 36 = q1 := by
    have : ([q0] ++ bs1).length = 36 := by rw [hw2.1, l1]
    have h := b_ad_last (as := [q0] ++ bs1) (q := q1)
    rw [this] at h
    exact h
  have hwi := w_init (Qf := lw_Z below #[Value.ref b] s) (p := p) (l := l) (e := e) (below := below) (meth := meth) (ci := 11) (k := 36) (as := [q0] ++ bs1 ++ [q1]) (rest := [vR 36]) (rv := [.ref q1]) (locs := L1) (cells := 0 + 1 + kc1 + 1) (slots := 0 + (b_df 0).length + n1 + (b_df 11).length) (ls := ls1) hx hb hml hl1.1 hown hct (by decide) (by decide +kernel) (by decide +kernel) (by decide +kernel) (by decide +kernel) c4 w_d12 hw3 w_r2 ⟨by show _ = Value.ref (b_ad _ 36); rw [ha36], trivial⟩ (by decide) (by simp; omega) (by omega)
  rw [ha36] at hwi
  refine hwi ?_
  intro bs2 H4 L2 kc2 n2 hw4 t3 t4
  refine lv_astore_n (i := 2) hx hb w_d15 rfl hl1 (by decide) rfl fun ls2 hl2 => ?_
  replace hl2 : lv_has ls2 7 [(2, .ref q1), (1, .ref q0), (0, .ref b)] := hl2
  refine lv_iconst hx hb w_d16 rfl ?_
  simp only [List.length_append, List.length_cons, List.length_nil] at t3
  refine va_newa (ty := .long) hx hb harr rfl hct.2.2.2 hw4.2.1 hw4.2.2.1 hw4.2.2.2 (fun q h => h) (n := Int32.ofInt 1) (N' := 1) (a0 := (1, .inr (.inl (fun _ => 0)))) (fun cA' => rfl) (by decide) (by decide) (by decide) (by show _ + 1 ≤ 1105; omega) (by show _ + 1 ≤ 26150; omega) w_d17 ?_
  intro q2 cA' H5 hK5 p1 p2 p3
  have ecA : cA' = cA 3 := by
    have r1 := (hK5.2 4 (cA', .long) rfl).2
    have r2 := (hK.2 3 (cA 3, .long) rfl).2
    exact Option.some.inj (r1.symm.trans r2)
  have e4 : b_en (b_ad (([q0] ++ bs1 ++ [q1] ++ bs2) ++ [q2])) cA (.inr (3, 1)) = .inl (cA', 1, .inr (.inl (fun _ => 0))) := by
    unfold b_en; simp only; rw [q_ae_l, ecA]; rfl
  rw [← e4, ← b_wd_app hw4.1 w_o2, w_e] at p1 p2
  refine lv_astore_n (i := 3) hx hb w_d19 rfl hl2 (by decide) rfl fun ls3 hl3 => ?_
  replace hl3 : lv_has ls3 7 [(3, .ref q2), (2, .ref q1), (1, .ref q0), (0, .ref b)] := hl3
  refine lv_iconst hx hb w_d20 rfl ?_
  refine lv_istore hx hb w_d21 hl3 (by decide) rfl fun ls4 hl4 => ?_
  replace hl4 : lv_has ls4 7 [(4, .int (Int32.ofInt 0)), (3, .ref q2), (2, .ref q1), (1, .ref q0), (0, .ref b)] := hl4
  have hlen : (([q0] ++ bs1 ++ [q1] ++ bs2) ++ [q2]).length = b_wl.length := by
    have := hw4.1
    rw [b_wl_len]
    simp only [List.length_append, List.length_cons, List.length_nil] at this ⊢
    omega
  have hlen62 : ([q0] ++ bs1 ++ [q1] ++ bs2).length = 62 := by rw [hw4.1, l2]
  have hlen37 : ([q0] ++ bs1 ++ [q1]).length = 37 := by
    have := hw3.1
    simp only [List.length_append, List.length_cons, List.length_nil] at this ⊢
    omega
  have a0 : b_ad (([q0] ++ bs1 ++ [q1] ++ bs2) ++ [q2]) 0 = q0 := rfl
  have a36 : b_ad (([q0] ++ bs1 ++ [q1] ++ bs2) ++ [q2]) 36 = q1 := by
    rw [b_ad_app (by omega), b_ad_app (by omega)]
    exact ha36
  have a62 : b_ad (([q0] ++ bs1 ++ [q1] ++ bs2) ++ [q2]) 62 = q2 := by
    have h := b_ad_last (as := [q0] ++ bs1 ++ [q1] ++ bs2) (q := q2)
    rw [hlen62] at h
    exact h
  refine q_at23 (as := ([q0] ++ bs1 ++ [q1] ++ bs2) ++ [q2]) hg hfl hL C1 hK ⟨hlen, p1, p2, p3⟩ (by omega) (by omega) ?_
  refine ⟨hl4.1, hl4.2.1, ?_⟩
  intro i v hi
  match i, hi with
  | 0, hi => cases hi; exact hl4.2.2 (0, .ref b) (by simp)
  | 1, hi => cases hi; show _ = some (Slot.val (.ref (b_ad _ 0))); rw [a0]; exact hl4.2.2 (1, .ref q0) (by simp)
  | 2, hi => cases hi; show _ = some (Slot.val (.ref (b_ad _ 36))); rw [a36]; exact hl4.2.2 (2, .ref q1) (by simp)
  | 3, hi => cases hi; show _ = some (Slot.val (.ref (b_ad _ 62))); rw [a62]; exact hl4.2.2 (3, .ref q2) (by simp)
  | 4, hi => cases hi; exact ⟨q_rg0, hl4.2.2 (4, .int (Int32.ofInt 0)) (by simp)⟩
  | 5, hi => cases hi; trivial
  | 6, hi => cases hi; trivial
  | n + 7, hi => simp at hi
end Whole
