section BuildS
variable {D : va_G} {cA : Nat → ClassId} {H0 : Heap}
def b_G (D : va_G) (cA : Nat → ClassId) (H0 : Heap) (y pc : Nat) (L st : List q_V) (ws ws' : List q_B) : Prop := ∀ (p : Program) (l : Launch) (e : Env) (R : Room) (s : State) (m : MethodId) (args : Array Value) (below : List Frame) (meth : Method) (c : Code) (H : Heap) (locs : List Loc) (cells slots : Nat) (ls : Array Slot) (sv : List Value) (as : List Nat) (Qf : State → Prop),
  b_Cx D cA y p R s m meth c → q_lr (b_ad as) L ls → L.length = b_ml y → q_sr (b_ad as) st sv → b_Wd D cA H0 as ws H locs → b_bd ws R cells slots → b_ok D cA H0 as ws' R s below Qf → W p l e R s m args below meth c H locs cells slots Qf (F0 m pc ls sv)
theorem b_ok_ext {as cs : List Nat} {ws' : List q_B} {R : Room} {s : State} {below : List Frame} {Qf : State → Prop} (h : b_ok D cA H0 as ws' R s below Qf) : b_ok D cA H0 (as ++ cs) ws' R s below Qf := by
  intro t bs locs cells slots h1 h2 h3 h4 h5 h6
  rw [List.append_assoc] at h5
  exact h t (cs ++ bs) locs cells slots h1 h2 h3 h4 h5 h6
theorem b_sl_app {ws : List q_B} {e : q_B} {n : Nat} (h : b_n1 e = n) : b_sl (ws ++ [e]) = b_sl ws + n := by
  unfold b_sl
  rw [List.map_append, List.sum_append]
  simp only [List.map_cons, List.map_nil, List.sum_cons, List.sum_nil]
  rw [h]
  omega
theorem b_new_o {ws ws1 : List q_B} {e : q_B} {n : Nat} {L st : List q_V} (h : b_new ws e n L st = some ws1) : ws1 = ws ++ [e] ∧ b_rok ws = true ∧ ws.length < 100 ∧ b_sl ws + n ≤ 20000 ∧ L.all (b_vok ws.length) = true ∧ st.all (b_vok ws.length) = true := by
  unfold b_new at h
  cases hb : (b_rok ws && (Nat.blt ws.length 100 && (Nat.ble (b_sl ws + n) 20000 && b_lok ws.length L st))) <;> rw [hb] at h
  · cases h
  · simp only [cond_true, Option.some.injEq] at h
    simp only [Bool.and_eq_true, b_lok] at hb
    exact ⟨h.symm, hb.1, b_blt hb.2.1, Nat.le_of_ble_eq_true hb.2.2.1, hb.2.2.2.1, hb.2.2.2.2⟩
theorem b_fv_df {ci : Nat} (h : ci < 12) (ad : Nat → Nat) : (b_df ci).map (b_fv ad) = (b_df ci).map (b_fv (fun _ => 0)) := by
  obtain ⟨T, -, h2, -⟩ := b_cls h
  refine List.map_congr_left fun f hf => ?_
  obtain ⟨j, hj⟩ := List.getElem?_of_mem hf
  obtain ⟨ty, k, -, h3, h4⟩ := h2 j (List.getElem?_eq_some_iff.mp hj).1
  rw [hj] at h3
  cases h3
  rcases h4 with ⟨rfl, -⟩ | ⟨rfl, -⟩ | ⟨rfl, -⟩ | ⟨rfl, -⟩ <;> rfl
theorem b_dfv {ci : Nat} (h : ci < 12) {T : u_T} (hT : q_cls[ci]? = some (q_own ci, T, (b_df ci).length)) : (∀ j, j < (b_df ci).length → parseFieldDescriptor (T j).2.2.1 = some (q_ty0 T j)) ∧ ∀ j, j < (b_df ci).length → defaultValue (q_ty0 T j) = vp_V ((b_df ci).map (b_fv (fun _ => 0))) j := by
  obtain ⟨T', h1, h2, -⟩ := b_cls h
  rw [hT] at h1
  cases h1
  have key : ∀ j, j < (b_df ci).length → parseFieldDescriptor (T j).2.2.1 = some (q_ty0 T j) := by
    intro j hj
    obtain ⟨ty, k, h3, -, -⟩ := h2 j hj
    unfold q_ty0
    rw [h3]; rfl
  refine ⟨key, fun j hj => ?_⟩
  obtain ⟨ty, k, h3, h4, h5⟩ := h2 j hj
  have e1 : q_ty0 T j = ty := by unfold q_ty0; rw [h3]; rfl
  have e2 : vp_V ((b_df ci).map (b_fv (fun _ => 0))) j = b_fv (fun _ => 0) (k, 0) := by
    unfold vp_V
    rw [List.getD_eq_getElem?_getD, List.getElem?_map, h4]
    rfl
  rw [e1, e2]
  rcases h5 with ⟨rfl, rfl⟩ | ⟨rfl, rfl⟩ | ⟨rfl, rfl⟩ | ⟨rfl, h6⟩
  · rfl
  · rfl
  · rfl
  · unfold b_rt at h6
    split at h6
    · rfl
    · rfl
    · cases h6
theorem b_arr {s : State} {t : ArrayType} {args : Array Value} (hct : b_Ct D cA s) (ht : b_at t ≤ 3) : newarray.typeOf t = b_fty (b_at t) ∧ (Cond.arrayClass (newarray.typeOf t)).before args s = true ∧ (q_tys cA)[b_at t]? = some (cA (b_at t), newarray.typeOf t) ∧ componentBytes (newarray.typeOf t) ≤ 8 := by
  have key : ∀ k, k < 4 → (Cond.arrayClass (b_fty k)).before args s = true := by
    intro k hk
    have h := of_decide_eq_true (q_all_of b_k5 k hk)
    exact hct.1 _ (List.mem_of_getElem? h) (Or.inr ⟨_, rfl⟩) _
  cases t
  case int => exact ⟨rfl, key 0 (by decide), rfl, by decide⟩
  case boolean => exact ⟨rfl, key 1 (by decide), rfl, by decide⟩
  case char => exact ⟨rfl, key 2 (by decide), rfl, by decide⟩
  case long => exact ⟨rfl, key 3 (by decide), rfl, by decide⟩
  all_goals exact absurd ht (by decide)
theorem b_val_o {as : List Nat} {v : q_V} {kd : Nat} {f : Nat × Int} {x0 : Value} {ty : FieldType} (h : b_val v kd = some f) (hv : q_rv (b_ad as) v x0) (ht : (kd = 0 ∧ ty = .int) ∨ (kd = 1 ∧ ty = .boolean) ∨ (kd = 2 ∧ ty = .long) ∨ (kd = 4 ∧ b_rt ty = true)) : b_fv (b_ad as) f = x0 ∧ narrow ty x0 = x0 ∧ fits ty x0 = true := by
  unfold b_val at h
  split at h
  · rename_i a
    cases hb : decide (-128 ≤ a ∧ a ≤ 127) <;> rw [hb] at h
    · cases h
    · cases h
      obtain ⟨-, rfl⟩ | ⟨h9, -⟩ | ⟨h9, -⟩ | ⟨h9, -⟩ := ht
      · rw [hv.2]; exact ⟨rfl, rfl, rfl⟩
      all_goals cases h9
  · rename_i a
    cases hb : decide (0 ≤ a ∧ a ≤ 1) <;> rw [hb] at h
    · cases h
    · cases h
      have hb2 := of_decide_eq_true hb
      obtain ⟨h9, -⟩ | ⟨-, rfl⟩ | ⟨h9, -⟩ | ⟨h9, -⟩ := ht
      · cases h9
      · rw [hv.2]
        refine ⟨rfl, ?_, ?_⟩
        · rcases q_b01 hb2 with rfl | rfl <;> rfl
        · rcases q_b01 hb2 with rfl | rfl <;> rfl
      · cases h9
      · cases h9
  · rename_i a
    cases hb : decide (-128 ≤ a ∧ a ≤ 127) <;> rw [hb] at h
    · cases h
    · cases h
      obtain ⟨h9, -⟩ | ⟨h9, -⟩ | ⟨-, rfl⟩ | ⟨h9, -⟩ := ht
      · cases h9
      · cases h9
      · rw [hv.2]; exact ⟨rfl, rfl, rfl⟩
      · cases h9
  · rename_i k
    cases h
    obtain ⟨h9, -⟩ | ⟨h9, -⟩ | ⟨h9, -⟩ | ⟨-, h6⟩ := ht
    · cases h9
    · cases h9
    · cases h9
    · rw [show x0 = .ref (b_ad as k) from hv]
      refine ⟨rfl, ?_⟩
      unfold b_rt at h6
      split at h6
      · exact ⟨rfl, rfl⟩
      · exact ⟨rfl, rfl⟩
      · cases h6
  · cases h
theorem b_wd_set {as : List Nat} {ws : List q_B} {k : Nat} {e : q_B} : b_wd as cA (ws.set k e) = (b_wd as cA ws).set k (b_ad as k, b_en (b_ad as) cA e) := by
  refine List.ext_getElem? fun i => ?_
  by_cases hi : i < ws.length
  · by_cases e2 : k = i
    · subst e2
      rw [b_wd_at (e := e) (by simp [hi]), List.getElem?_set_self (by simp [b_wd, hi])]
    · rw [List.getElem?_set_ne e2]
      have h1 : (ws.set k e)[i]? = some (ws[i]) := by rw [List.getElem?_set_ne e2, List.getElem?_eq_getElem hi]
      rw [b_wd_at h1, b_wd_at (List.getElem?_eq_getElem hi)]
  · rw [List.getElem?_eq_none (by simp [b_wd]; omega), List.getElem?_eq_none (by simp [b_wd]; omega)]
theorem b_sl_set {ws : List q_B} {k c : Nat} {fs fs' : List (Nat × Int)} (h : ws[k]? = some (.inl (c, fs))) (hl : fs'.length = fs.length) : b_sl (ws.set k (.inl (c, fs'))) = b_sl ws := by
  unfold b_sl
  congr 1
  refine List.ext_getElem? fun i => ?_
  rw [List.getElem?_map, List.getElem?_map]
  by_cases e2 : k = i
  · subst e2
    rw [List.getElem?_set_self (List.getElem?_eq_some_iff.mp h).1, h]
    simp [b_n1, hl]
  · rw [List.getElem?_set_ne e2]
end BuildS
