set_option maxHeartbeats 4000000 in
set_option maxRecDepth 100000 in
theorem c_X6_worth (l : Launch) {D : va_G} {cA : Nat → ClassId} {ad : Nat → Nat} {A : Nat → Prop} (hAd : AdOk ad A) {a0 : Nat} {a1 : Nat} {M0 : Mem} {q : (Int32 × Mem)} (hf0 : f_X6_worth a0 a1 M0 = some q) : Met l yX6_worth (wd yX6_worth cX6_worth 2 (some .int)) (rmD 0) (PcW D cA ad [.ref (ad a0), .ref (ad a1)] M0) (QI D cA ad A q.1 q.2) 0 0 A := by
  refine mk_met (own := RX6) (by decide +kernel) rfl (Nat.le_of_ble_eq_true rfl) ?_
  intro p e s m args below meth c hC hr hlk hK H locs ls hW hl
  have hx := hC.1
  have hb := hC.2.1
  have hl : lv_has ls 2 [(0, .ref (ad a0)), (1, .ref (ad a1))] := hl
  have hf := hf0
  unfold f_X6_worth at hf
  refine lv_aload_n hx hb dX6_worth_0 rfl (lv_at hl 1 rfl) ?_
  refine lv_dup hx hb dX6_worth_1 rfl ?_
  obtain ⟨v4, hv4, hf⟩ := ob hf
  refine r_gL hC hK hW cfX0 (by decide) wF_X6_7 rfl hv4 dX6_worth_2 ?_
  refine lv_lconst (v := 1) hx hb dX6_worth_5 (by decide) ?_
  refine lv_ladd hx hb dX6_worth_6 ?_
  obtain ⟨M5, hM5, hf⟩ := ob hf
  refine r_pL hC hK hAd hW cfX0 (by decide) wF_X6_7 rfl rfl rfl hM5 dX6_worth_7 (fun H locs hW => ?_)
  refine lv_aload_n hx hb dX6_worth_10 rfl (lv_at hl 1 rfl) ?_
  obtain ⟨v6, hv6, hf⟩ := ob hf
  refine r_gI hC hK hW cfX0 (by decide) wF_X6_13 rfl hv6 dX6_worth_11 ?_
  exact r_iret hC hr hlk hW hf dX6_worth_14
set_option maxHeartbeats 4000000 in
set_option maxRecDepth 100000 in
theorem c_X10_worth (l : Launch) {D : va_G} {cA : Nat → ClassId} {ad : Nat → Nat} {A : Nat → Prop} (hAd : AdOk ad A) {a0 : Nat} {a1 : Nat} {M0 : Mem} {q : (Int32 × Mem)} (hf0 : f_X10_worth a0 a1 M0 = some q) : Met l yX10_worth (wd yX10_worth cX10_worth 2 (some .int)) (rmD 1) (PcW D cA ad [.ref (ad a0), .ref (ad a1)] M0) (QI D cA ad A q.1 q.2) 0 0 A := by
  refine mk_met (own := RX10) (by decide +kernel) rfl (Nat.le_of_ble_eq_true rfl) ?_
  intro p e s m args below meth c hC hr hlk hK H locs ls hW hl
  have hx := hC.1
  have hb := hC.2.1
  have hl : lv_has ls 2 [(0, .ref (ad a0)), (1, .ref (ad a1))] := hl
  have hf := hf0
  unfold f_X10_worth at hf
  refine lv_aload_n hx hb dX10_worth_0 rfl (lv_at hl 1 rfl) ?_
  refine lv_dup hx hb dX10_worth_1 rfl ?_
  obtain ⟨v5, hv5, hf⟩ := ob hf
  refine r_gL hC hK hW cfX0 (by decide) wF_X10_7 rfl hv5 dX10_worth_2 ?_
  refine lv_ldc2 hx hb hC.2.2.2.1 (hC.2.2.2.2 _ wL_X10_13) dX10_worth_5 ?_
  refine lv_ladd hx hb dX10_worth_8 ?_
  obtain ⟨M6, hM6, hf⟩ := ob hf
  refine r_pL hC hK hAd hW cfX0 (by decide) wF_X10_7 rfl rfl rfl hM6 dX10_worth_9 (fun H locs hW => ?_)
  refine lv_aload_n hx hb dX10_worth_12 rfl (lv_at hl 0 rfl) ?_
  refine lv_aload_n hx hb dX10_worth_13 rfl (lv_at hl 1 rfl) ?_
  obtain ⟨q7, hq7, hf⟩ := ob hf
  refine k_uK hC hK hW (c_X6_worth l hAd (cvk_s hq7).2) (cvk_s hq7).1 my_X6_worth (by decide) wI_X6_worth wE_X6 wP_X10 wM_X10_15 ⟨Nat.le_of_ble_eq_true rfl, Nat.le_of_ble_eq_true rfl⟩ rfl hl.1 rfl (Nat.le_of_ble_eq_true rfl) ⟨Nat.zero_le _, Nat.zero_le _⟩ dX10_worth_14 (fun H locs hW => ?_)
  refine lv_aload_n hx hb dX10_worth_17 rfl (lv_at hl 1 rfl) ?_
  obtain ⟨v8, hv8, hf⟩ := ob hf
  refine r_gI hC hK hW cfX0 (by decide) wF_X10_19 rfl hv8 dX10_worth_18 ?_
  refine lv_iadd hx hb dX10_worth_21 ?_
  exact r_iret hC hr hlk hW hf dX10_worth_22
set_option maxHeartbeats 4000000 in
set_option maxRecDepth 100000 in
theorem c_X1_worth (l : Launch) {D : va_G} {cA : Nat → ClassId} {ad : Nat → Nat} {A : Nat → Prop} (hAd : AdOk ad A) {a0 : Nat} {a1 : Nat} {M0 : Mem} {q : (Int32 × Mem)} (hf0 : f_X1_worth a0 a1 M0 = some q) : Met l yX1_worth (wd yX1_worth cX1_worth 2 (some .int)) (rmD 1) (PcW D cA ad [.ref (ad a0), .ref (ad a1)] M0) (QI D cA ad A q.1 q.2) 0 0 A := by
  refine mk_met (own := RX1) (by decide +kernel) rfl (Nat.le_of_ble_eq_true rfl) ?_
  intro p e s m args below meth c hC hr hlk hK H locs ls hW hl
  have hx := hC.1
  have hb := hC.2.1
  have hl : lv_has ls 2 [(0, .ref (ad a0)), (1, .ref (ad a1))] := hl
  have hf := hf0
  unfold f_X1_worth at hf
  refine lv_aload_n hx hb dX1_worth_0 rfl (lv_at hl 1 rfl) ?_
  refine lv_dup hx hb dX1_worth_1 rfl ?_
  obtain ⟨v5, hv5, hf⟩ := ob hf
  refine r_gL hC hK hW cfX0 (by decide) wF_X1_7 rfl hv5 dX1_worth_2 ?_
  refine lv_ldc2 hx hb hC.2.2.2.1 (hC.2.2.2.2 _ wL_X1_13) dX1_worth_5 ?_
  refine lv_ladd hx hb dX1_worth_8 ?_
  obtain ⟨M6, hM6, hf⟩ := ob hf
  refine r_pL hC hK hAd hW cfX0 (by decide) wF_X1_7 rfl rfl rfl hM6 dX1_worth_9 (fun H locs hW => ?_)
  refine lv_aload_n hx hb dX1_worth_12 rfl (lv_at hl 0 rfl) ?_
  refine lv_aload_n hx hb dX1_worth_13 rfl (lv_at hl 1 rfl) ?_
  obtain ⟨q7, hq7, hf⟩ := ob hf
  refine k_uK hC hK hW (c_X6_worth l hAd (cvk_s hq7).2) (cvk_s hq7).1 my_X6_worth (by decide) wI_X6_worth wE_X6 wP_X1 wM_X1_15 ⟨Nat.le_of_ble_eq_true rfl, Nat.le_of_ble_eq_true rfl⟩ rfl hl.1 rfl (Nat.le_of_ble_eq_true rfl) ⟨Nat.zero_le _, Nat.zero_le _⟩ dX1_worth_14 (fun H locs hW => ?_)
  refine lv_aload_n hx hb dX1_worth_17 rfl (lv_at hl 1 rfl) ?_
  obtain ⟨v8, hv8, hf⟩ := ob hf
  refine r_gI hC hK hW cfX0 (by decide) wF_X1_19 rfl hv8 dX1_worth_18 ?_
  refine lv_isub hx hb dX1_worth_21 ?_
  exact r_iret hC hr hlk hW hf dX1_worth_22
set_option maxHeartbeats 4000000 in
set_option maxRecDepth 100000 in
theorem c_X2_worth (l : Launch) {D : va_G} {cA : Nat → ClassId} {ad : Nat → Nat} {A : Nat → Prop} (hAd : AdOk ad A) {a0 : Nat} {a1 : Nat} {M0 : Mem} {q : (Int32 × Mem)} (hf0 : f_X2_worth a0 a1 M0 = some q) : Met l yX2_worth (wd yX2_worth cX2_worth 2 (some .int)) (rmD 2) (PcW D cA ad [.ref (ad a0), .ref (ad a1)] M0) (QI D cA ad A q.1 q.2) 0 0 A := by
  refine mk_met (own := RX2) (by decide +kernel) rfl (Nat.le_of_ble_eq_true rfl) ?_
  intro p e s m args below meth c hC hr hlk hK H locs ls hW hl
  have hx := hC.1
  have hb := hC.2.1
  have hl : lv_has ls 2 [(0, .ref (ad a0)), (1, .ref (ad a1))] := hl
  have hf := hf0
  unfold f_X2_worth at hf
  refine lv_aload_n hx hb dX2_worth_0 rfl (lv_at hl 1 rfl) ?_
  refine lv_dup hx hb dX2_worth_1 rfl ?_
  obtain ⟨v4, hv4, hf⟩ := ob hf
  refine r_gL hC hK hW cfX0 (by decide) wF_X2_7 rfl hv4 dX2_worth_2 ?_
  refine lv_ldc2 hx hb hC.2.2.2.1 (hC.2.2.2.2 _ wL_X2_13) dX2_worth_5 ?_
  refine lv_ladd hx hb dX2_worth_8 ?_
  obtain ⟨M5, hM5, hf⟩ := ob hf
  refine r_pL hC hK hAd hW cfX0 (by decide) wF_X2_7 rfl rfl rfl hM5 dX2_worth_9 (fun H locs hW => ?_)
  refine lv_iconst (v := (2 : Int32)) hx hb dX2_worth_12 (by decide) ?_
  refine lv_aload_n hx hb dX2_worth_13 rfl (lv_at hl 0 rfl) ?_
  refine lv_aload_n hx hb dX2_worth_14 rfl (lv_at hl 1 rfl) ?_
  obtain ⟨q6, hq6, hf⟩ := ob hf
  refine k_uK hC hK hW (c_X10_worth l hAd (cvk_s hq6).2) (cvk_s hq6).1 my_X10_worth (by decide) wI_X10_worth wE_X10 wP_X2 wM_X2_15 ⟨Nat.le_of_ble_eq_true rfl, Nat.le_of_ble_eq_true rfl⟩ rfl hl.1 rfl (Nat.le_of_ble_eq_true rfl) ⟨Nat.zero_le _, Nat.zero_le _⟩ dX2_worth_15 (fun H locs hW => ?_)
  refine lv_imul hx hb dX2_worth_18 ?_
  exact r_iret hC hr hlk hW hf dX2_worth_19
set_option maxHeartbeats 4000000 in
set_option maxRecDepth 100000 in
theorem c_X4_worth (l : Launch) {D : va_G} {cA : Nat → ClassId} {ad : Nat → Nat} {A : Nat → Prop} (hAd : AdOk ad A) {a0 : Nat} {a1 : Nat} {M0 : Mem} {q : (Int32 × Mem)} (hf0 : f_X4_worth a0 a1 M0 = some q) : Met l yX4_worth (wd yX4_worth cX4_worth 2 (some .int)) (rmD 2) (PcW D cA ad [.ref (ad a0), .ref (ad a1)] M0) (QI D cA ad A q.1 q.2) 0 0 A := by
  refine mk_met (own := RX4) (by decide +kernel) rfl (Nat.le_of_ble_eq_true rfl) ?_
  intro p e s m args below meth c hC hr hlk hK H locs ls hW hl
  have hx := hC.1
  have hb := hC.2.1
  have hl : lv_has ls 2 [(0, .ref (ad a0)), (1, .ref (ad a1))] := hl
  have hf := hf0
  unfold f_X4_worth at hf
  refine lv_aload_n hx hb dX4_worth_0 rfl (lv_at hl 1 rfl) ?_
  refine lv_dup hx hb dX4_worth_1 rfl ?_
  obtain ⟨v5, hv5, hf⟩ := ob hf
  refine r_gL hC hK hW cfX0 (by decide) wF_X4_7 rfl hv5 dX4_worth_2 ?_
  refine lv_ldc2 hx hb hC.2.2.2.1 (hC.2.2.2.2 _ wL_X4_13) dX4_worth_5 ?_
  refine lv_ladd hx hb dX4_worth_8 ?_
  obtain ⟨M6, hM6, hf⟩ := ob hf
  refine r_pL hC hK hAd hW cfX0 (by decide) wF_X4_7 rfl rfl rfl hM6 dX4_worth_9 (fun H locs hW => ?_)
  refine lv_aload_n hx hb dX4_worth_12 rfl (lv_at hl 0 rfl) ?_
  refine lv_aload_n hx hb dX4_worth_13 rfl (lv_at hl 1 rfl) ?_
  obtain ⟨q7, hq7, hf⟩ := ob hf
  refine k_uK hC hK hW (c_X1_worth l hAd (cvk_s hq7).2) (cvk_s hq7).1 my_X1_worth (by decide) wI_X1_worth wE_X1 wP_X4 wM_X4_15 ⟨Nat.le_of_ble_eq_true rfl, Nat.le_of_ble_eq_true rfl⟩ rfl hl.1 rfl (Nat.le_of_ble_eq_true rfl) ⟨Nat.zero_le _, Nat.zero_le _⟩ dX4_worth_14 (fun H locs hW => ?_)
  refine lv_aload_n hx hb dX4_worth_17 rfl (lv_at hl 1 rfl) ?_
  obtain ⟨v8, hv8, hf⟩ := ob hf
  refine r_gI hC hK hW cfX0 (by decide) wF_X4_19 rfl hv8 dX4_worth_18 ?_
  refine lv_iadd hx hb dX4_worth_21 ?_
  exact r_iret hC hr hlk hW hf dX4_worth_22
set_option maxHeartbeats 4000000 in
set_option maxRecDepth 100000 in
theorem c_X3_worth (l : Launch) {D : va_G} {cA : Nat → ClassId} {ad : Nat → Nat} {A : Nat → Prop} (hAd : AdOk ad A) {a0 : Nat} {a1 : Nat} {M0 : Mem} {q : (Int32 × Mem)} (hf0 : f_X3_worth a0 a1 M0 = some q) : Met l yX3_worth (wd yX3_worth cX3_worth 2 (some .int)) (rmD 1) (PcW D cA ad [.ref (ad a0), .ref (ad a1)] M0) (QI D cA ad A q.1 q.2) 0 0 A := by
  refine mk_met (own := RX3) (by decide +kernel) rfl (Nat.le_of_ble_eq_true rfl) ?_
  intro p e s m args below meth c hC hr hlk hK H locs ls hW hl
  have hx := hC.1
  have hb := hC.2.1
  have hl : lv_has ls 2 [(0, .ref (ad a0)), (1, .ref (ad a1))] := hl
  have hf := hf0
  unfold f_X3_worth at hf
  refine lv_aload_n hx hb dX3_worth_0 rfl (lv_at hl 1 rfl) ?_
  refine lv_dup hx hb dX3_worth_1 rfl ?_
  obtain ⟨v5, hv5, hf⟩ := ob hf
  refine r_gL hC hK hW cfX0 (by decide) wF_X3_7 rfl hv5 dX3_worth_2 ?_
  refine lv_ldc2 hx hb hC.2.2.2.1 (hC.2.2.2.2 _ wL_X3_13) dX3_worth_5 ?_
  refine lv_ladd hx hb dX3_worth_8 ?_
  obtain ⟨M6, hM6, hf⟩ := ob hf
  refine r_pL hC hK hAd hW cfX0 (by decide) wF_X3_7 rfl rfl rfl hM6 dX3_worth_9 (fun H locs hW => ?_)
  refine lv_aload_n hx hb dX3_worth_12 rfl (lv_at hl 0 rfl) ?_
  refine lv_aload_n hx hb dX3_worth_13 rfl (lv_at hl 1 rfl) ?_
  obtain ⟨q7, hq7, hf⟩ := ob hf
  refine k_uK hC hK hW (c_X6_worth l hAd (cvk_s hq7).2) (cvk_s hq7).1 my_X6_worth (by decide) wI_X6_worth wE_X6 wP_X3 wM_X3_15 ⟨Nat.le_of_ble_eq_true rfl, Nat.le_of_ble_eq_true rfl⟩ rfl hl.1 rfl (Nat.le_of_ble_eq_true rfl) ⟨Nat.zero_le _, Nat.zero_le _⟩ dX3_worth_14 (fun H locs hW => ?_)
  refine lv_aload_n hx hb dX3_worth_17 rfl (lv_at hl 1 rfl) ?_
  obtain ⟨v8, hv8, hf⟩ := ob hf
  refine r_gI hC hK hW cfX0 (by decide) wF_X3_19 rfl hv8 dX3_worth_18 ?_
  refine lv_iadd hx hb dX3_worth_21 ?_
  exact r_iret hC hr hlk hW hf dX3_worth_22
/-- the virtual call of rate(): by the receiver's kind -/
theorem k_worth {p : Program} {l : Launch} {e : Env} {R : Room} {s : State} {m : MethodId} {args : Array Value} {below : List Frame} {meth : Method} {c : Code} {H : Heap} {locs : List Loc} {cells slots : Nat} {Q : State → Prop} {cc : ByteArray} {pc nL : Nat} {ls : Array Slot} {rest st : List Value} {D : va_G} {cA : Nat → ClassId} {ad : Nat → Nat} {A : Nat → Prop} {own : String} {M : Mem} {index k a : Nat} {q : Int32 × Mem}
    (hC : CallFix p m c cc nL s args tblG own) (hK : va_K D vwCl (tysOf cA) s) (hAd : AdOk ad A) (hW : Wd D cA ad A s M H locs) (hf : f_vworth k a M = some q) (hl : Cond.methodLink own index yX6_worth ∈ tblG) (hR : (rmD 2).frames + 1 ≤ R.frames ∧ 8 + (2 + 11) + (rmD 2).locals ≤ R.locals) (hn : ([.ref (ad a)] : List Value).length = 1) (hsize : ls.size = nL) (hst : st = ([.ref (ad a)] : List Value).reverse ++ .ref (ad k) :: rest) (hroom : (rest.map fun v => v.category).sum ≤ 8) (hc : cells + 0 ≤ R.cells ∧ slots + 0 ≤ R.slots) (hdg : decode cc pc = .ok (.invokevirtual index, 3))
    (kk : ∀ (H1 : Heap) (locs1 : List Loc), Wd D cA ad A s q.2 H1 locs1 → W p l e R s m args below meth c H1 locs1 cells slots Q (F0 m (pc + 3) ls (.int q.1 :: rest))) : W p l e R s m args below meth c H locs cells slots Q (F0 m pc ls st) := by
  obtain ⟨h1, hf⟩ := so hf
  have hR0 : (rmD 0).frames + 1 ≤ R.frames ∧ 8 + (2 + 11) + (rmD 0).locals ≤ R.locals := ⟨Nat.le_trans (by decide) hR.1, Nat.le_trans (by decide) hR.2⟩
  have hR1 : (rmD 1).frames + 1 ≤ R.frames ∧ 8 + (2 + 11) + (rmD 1).locals ≤ R.locals := ⟨Nat.le_trans (by decide) hR.1, Nat.le_trans (by decide) hR.2⟩
  have hd : (RX6 : String) ≠ "java/lang/invoke/MethodHandle" ∧ RX6 ≠ "java/lang/invoke/VarHandle" ∧ (parseMethodDescriptor yX6_worth.desc).map (fun d => d.parameters.length) = some 1 := by decide +kernel
  by_cases c6 : (lay k).1 = 6
  · rw [if_pos c6] at hf
    exact k_vI hC hK hW cfX6 (c_X6_worth l hAd hf) ⟨h1, c6⟩ my_X6_worth wI_X6_worth wQ_X6_worth hl hR0 rfl hsize hst hroom hc hdg kk
  rw [if_neg c6] at hf
  by_cases c10 : (lay k).1 = 10
  · rw [if_pos c10] at hf
    exact k_oI (x := yX6_worth) (owner := RX6) hC hK hW cfX10 (c_X10_worth l hAd hf) ⟨h1, c10⟩ my_X10_worth wI_X10_worth wE_X6 wI_X6_worth wQ_X10_X6_worth wC_X6_worth hd hl hR1 rfl hsize hst hroom hc hdg kk
  rw [if_neg c10] at hf
  by_cases c1 : (lay k).1 = 1
  · rw [if_pos c1] at hf
    exact k_oI (x := yX6_worth) (owner := RX6) hC hK hW cfX1 (c_X1_worth l hAd hf) ⟨h1, c1⟩ my_X1_worth wI_X1_worth wE_X6 wI_X6_worth wQ_X1_X6_worth wC_X6_worth hd hl hR1 rfl hsize hst hroom hc hdg kk
  rw [if_neg c1] at hf
  by_cases c2 : (lay k).1 = 2
  · rw [if_pos c2] at hf
    exact k_oI (x := yX6_worth) (owner := RX6) hC hK hW cfX2 (c_X2_worth l hAd hf) ⟨h1, c2⟩ my_X2_worth wI_X2_worth wE_X6 wI_X6_worth wQ_X2_X6_worth wC_X6_worth hd hl hR rfl hsize hst hroom hc hdg kk
  rw [if_neg c2] at hf
  by_cases c4 : (lay k).1 = 4
  · rw [if_pos c4] at hf
    exact k_oI (x := yX6_worth) (owner := RX6) hC hK hW cfX4 (c_X4_worth l hAd hf) ⟨h1, c4⟩ my_X4_worth wI_X4_worth wE_X6 wI_X6_worth wQ_X4_X6_worth wC_X6_worth hd hl hR rfl hsize hst hroom hc hdg kk
  rw [if_neg c4] at hf
  obtain ⟨c3, hf⟩ := so hf
  exact k_oI (x := yX6_worth) (owner := RX6) hC hK hW cfX3 (c_X3_worth l hAd hf) ⟨h1, c3⟩ my_X3_worth wI_X3_worth wE_X6 wI_X6_worth wQ_X3_X6_worth wC_X6_worth hd hl hR1 rfl hsize hst hroom hc hdg kk

