theorem w_d0 : decode code 0 = .ok (.new 8, 3) := by decide +kernel
theorem w_d3 : decode code 3 = .ok (.dup, 1) := by decide +kernel
theorem w_d4 : decode code 4 = .ok (.invokespecial 69, 3) := by decide +kernel
theorem w_d7 : decode code 7 = .ok (.astore_n 1, 1) := by decide +kernel
theorem w_d8 : decode code 8 = .ok (.new 70, 3) := by decide +kernel
theorem w_d11 : decode code 11 = .ok (.dup, 1) := by decide +kernel
theorem w_d12 : decode code 12 = .ok (.invokespecial 72, 3) := by decide +kernel
theorem w_d15 : decode code 15 = .ok (.astore_n 2, 1) := by decide +kernel
theorem w_d16 : decode code 16 = .ok (.iconst 1, 1) := by decide +kernel
theorem w_d17 : decode code 17 = .ok (.newarray .long, 2) := by decide +kernel
theorem w_d19 : decode code 19 = .ok (.astore_n 3, 1) := by decide +kernel
theorem w_d20 : decode code 20 = .ok (.iconst 0, 1) := by decide +kernel
theorem w_d21 : decode code 21 = .ok (.istore 4, 2) := by decide +kernel
def w_c1 : List q_B := (b_run 400 0 0 [vR 0] [] [.inl (0, b_df 0)]).getD []
def w_c2 : List q_B := (b_run 400 11 0 [vR 36] [] (w_c1 ++ [.inl (11, b_df 11)])).getD []
theorem w_r1 : b_run 400 0 0 [vR 0] [] [.inl (0, b_df 0)] = some w_c1 := by decide +kernel
theorem w_r2 : b_run 400 11 0 [vR 36] [] (w_c1 ++ [.inl (11, b_df 11)]) = some w_c2 := by decide +kernel
theorem w_l1 : w_c1.length = 36 := by decide +kernel
theorem w_l2 : w_c2.length = 62 := by decide +kernel
theorem w_o1 : b_rok w_c1 = true := by decide +kernel
theorem w_o2 : b_rok w_c2 = true := by decide +kernel
theorem w_e : w_c2 ++ [.inr (3, 1)] = b_wl := by decide +kernel
theorem w_s1 : b_sl w_c1 ≤ 6000 := by decide +kernel
theorem w_s2 : b_sl w_c2 ≤ 19000 := by decide +kernel
theorem w_s12 : b_sl (w_c1 ++ [.inl (11, b_df 11)]) ≤ 7000 := by decide +kernel
theorem w_s0 : b_sl [.inl (0, b_df 0)] = (b_df 0).length := by decide +kernel
theorem w_k : (decide (lw_tbl[96]? = some (.classLink R_law 8 (q_own 0))) && decide (lw_tbl[1031]? = some (.classLink R_law 70 (q_own 11))) && decide (lw_tbl[98]? = some (.methodLink R_law 69 (b_nm 0))) && decide (lw_tbl[1033]? = some (.methodLink R_law 72 (b_nm 11)))) = true := by decide +kernel
section Start
variable {p : Program} {l : Launch} {e : Env} {s : State} {m : MethodId} {below : List Frame} {meth : Method} {c : Code} {b L : Nat} {xs : Nat → Int32} {D : va_G} {cA : Nat → ClassId} {H : Heap} {locs : List Loc} {cells slots : Nat} {ls : Array Slot} {as : List Nat} {Qf : State → Prop} {args : Array Value}
/-- the law makes an object -/
theorem w_new {ci pc idx : Nat} {ws : List q_B} {rest : List Value} (hx : p.tables.exec = Jvm.exec) (hb : c.code = code) (hown : s.vm.findClass R_law = some m.cls) (hct : b_Ct D cA s) (hci : ci < 12) (hcl : (Cond.classLink R_law idx (q_own ci)).before args s = true) (hd : decode code pc = .ok (.new idx, 3))
    (hw : b_Wd D cA s.heap as ws H locs) (hr : b_rok ws = true) (h1 : cells + 1 ≤ 1105) (h2 : slots + (b_df ci).length ≤ 26150)
    (kk : ∀ (q : Nat) (H1 : Heap), b_Wd D cA s.heap (as ++ [q]) (ws ++ [.inl (ci, b_df ci)]) H1 locs → W p l e room_1 s m args below meth c H1 locs (cells + 1) (slots + (b_df ci).length) Qf (F0 m (pc + 3) ls (.ref q :: rest))) : W p l e room_1 s m args below meth c H locs cells slots Qf (F0 m pc ls rest) := by
  obtain ⟨T, hT, -, -⟩ := b_cls hci
  obtain ⟨hp1, hp2⟩ := b_dfv hci hT
  have hck2 := b_k2 ci hci
  unfold b_ckc at hck2
  simp only [Bool.and_eq_true, decide_eq_true_eq] at hck2
  have v2 := q_w_mem hck2.1.1.1.1.1.1.1.2
  have v3 := q_w_mem hck2.1.1.1.1.1.2
  refine va_new hx hb (Ts := u_ws (q_own ci) T (b_df ci).length) (b_lay hct hT) (fun _ h => h) (q_ty0 T) hp1 hown hcl (hct.1 _ v3.1 (Or.inl v3.2) _) (hct.1 _ v2.1 (Or.inl v2.2) _) hct.2.2.2 hw.2.1 hw.2.2.1 hw.2.2.2 (fun q h => h) hT hp2 h1 h2 hd ?_
  intro q H1 p1 p2 p3
  have e1 : b_wd (as ++ [q]) cA (ws ++ [.inl (ci, b_df ci)]) = b_wd as cA ws ++ [(q, .inr (ci, (b_df ci).map (b_fv (fun _ => 0))))] := by
    rw [b_wd_app hw.1 hr]
    simp only [b_en]
    rw [b_fv_df hci]
  rw [← e1] at p1 p2
  exact kk q H1 ⟨by simp [hw.1], p1, p2, p3⟩
/-- the law calls a constructor without arguments -/
theorem w_init {ci pc idx k : Nat} {ws ws1 : List q_B} {rest : List q_V} {rv : List Value} (hx : p.tables.exec = Jvm.exec) (hb : c.code = code) (hml : c.maxLocals = 7) (hsz : ls.size = 7) (hown : s.vm.findClass R_law = some m.cls) (hct : b_Ct D cA s) (hci : ci < 12) (hnp : b_np ci = 0) (hmlc : b_ml ci = 1) (hrf : b_rf ci ≤ 3) (hrw : b_rw ci ≤ 64)
    (hlink : (Cond.methodLink R_law idx (b_nm ci)).before args s = true) (hd : decode code pc = .ok (.invokespecial idx, 3)) (hw : b_Wd D cA s.heap as ws H locs) (hrun : b_run 400 ci 0 [vR k] [] ws = some ws1) (hrest : q_sr (b_ad as) rest rv) (hr4 : rest.length ≤ 4)
    (h1 : cells + (100 - ws.length) ≤ 1105) (h2 : slots + (20000 - b_sl ws) ≤ 26150)
    (kk : ∀ (bs : List Nat) (H1 : Heap) (L' : List Loc) (kc n : Nat), b_Wd D cA s.heap (as ++ bs) ws1 H1 (locs ++ L') → kc + (100 - ws1.length) ≤ 100 - ws.length → n + (20000 - b_sl ws1) ≤ 20000 - b_sl ws → W p l e room_1 s m args below meth c H1 (locs ++ L') (cells + kc) (slots + n) Qf (F0 m (pc + 3) ls rv)) :
    W p l e room_1 s m args below meth c H locs cells slots Qf (F0 m pc ls (.ref (b_ad as k) :: rv)) := by
  have hckz := b_k2 ci hci
  unfold b_ckc at hckz
  simp only [Bool.and_eq_true, decide_eq_true_eq] at hckz
  obtain ⟨⟨⟨⟨⟨⟨⟨⟨k1, k2⟩, k3⟩, k4⟩, k5⟩, k6⟩, k7⟩, k8⟩, k9⟩ := hckz
  have w1 := q_w_mem k1
  have w3 := q_w_mem k3
  intro T hT X
  have hpl : e.platform.magicAccessors = ({} : Platform).magicAccessors := by rw [X.admits.platform]
  obtain ⟨mk, methM, cM, kP, vm₁, hnamed, -, -, -, -, -, -, -, hW₁, hstep₁⟩ := Steps.initColdArgs (e := e) X.here hx X.warmed hpl hown k6 k9 hlink (hct.1 _ w3.1 (Or.inl w3.2) args) (hct.1 _ w1.1 (Or.inl w1.2) args) (f := F0 m pc ls (.ref (b_ad as k) :: rv)) rfl (argsL := []) (rest := rv) (fun sig h => by
    rw [h] at k8
    have := Nat.eq_of_beq_eq_true k8
    rw [hnp] at this
    exact this.symm) rfl (by rw [hb]; exact hd)
  have X₁ := X.noted hW₁
  obtain ⟨t, t1, t2⟩ := b_enter (y := ci) (T := T.setVm vm₁) (Qf := Qf) (as := [vR k]) (av := [.ref (b_ad as k)]) (rest := rest) hx hct (by rw [hml]; exact hsz) hci X₁ hT (X₁.named hnamed) (by rw [hb]; exact hd) ⟨rfl, trivial⟩ (by rw [hmlc]; exact Nat.le_refl 1) hrest hr4 hw h1 h2 (by show b_rf ci + 1 ≤ 11; omega) (by show 8 + (b_ml ci + 11) + b_rw ci ≤ 380; omega) ⟨by decide, by rw [hmlc]; decide⟩ (by rw [hmlc]; exact b_sound 400 hci hrun) (by
    intro bs T' L' kc n X' hwd q1 q2
    exact kk bs T'.heap L' kc n hwd q1 q2 T' rfl X')
  exact ⟨t, hstep₁ t t1, t2⟩
end Start
