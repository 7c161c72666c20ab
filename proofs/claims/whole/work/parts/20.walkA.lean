set_option maxHeartbeats 4000000 in
set_option maxRecDepth 100000 in
theorem c_X7_become (l : Launch) {D : va_G} {cA : Nat → ClassId} {ad : Nat → Nat} {A : Nat → Prop} (hAd : AdOk ad A) {a0 : Nat} {a1 : Nat} {M0 : Mem} {q : Mem} (hf0 : f_X7_become a0 a1 M0 = some q) : Met l yX7_become (wd yX7_become cX7_become 2 none) (rmD 1) (PcW D cA ad [.ref (ad a0), .ref (ad a1)] M0) (QV D cA ad A q) 0 0 A := by
  refine mk_met (own := RX7) (by decide +kernel) rfl (Nat.le_of_ble_eq_true rfl) ?_
  intro p e s m args below meth c hC hr hlk hK H locs ls hW hl
  have hx := hC.1
  have hb := hC.2.1
  have hl : lv_has ls 2 [(0, .ref (ad a0)), (1, .ref (ad a1))] := hl
  have hf := hf0
  unfold f_X7_become at hf
  refine lv_aload_n hx hb dX7_become_0 rfl (lv_at hl 0 rfl) ?_
  refine lv_aload_n hx hb dX7_become_1 rfl (lv_at hl 1 rfl) ?_
  obtain ⟨v15, hv15, hf⟩ := ob hf
  refine r_gI hC hK hW cfX7 (by decide) wF_X7_24 rfl hv15 dX7_become_2 ?_
  obtain ⟨M16, hM16, hf⟩ := ob hf
  refine r_pI hC hK hAd hW cfX7 (by decide) wF_X7_24 rfl rfl rfl hM16 dX7_become_5 (fun H locs hW => ?_)
  refine lv_aload_n hx hb dX7_become_8 rfl (lv_at hl 1 rfl) ?_
  obtain ⟨r17, hr17, hf⟩ := ob hf
  refine r_gR hC hK hW cfX7 (by decide) wF_X7_9 rfl hr17 dX7_become_9 ?_
  refine lv_iconst (v := (0 : Int32)) hx hb dX7_become_12 (by decide) ?_
  refine lv_aload_n hx hb dX7_become_13 rfl (lv_at hl 0 rfl) ?_
  obtain ⟨r18, hr18, hf⟩ := ob hf
  refine r_gR hC hK hW cfX7 (by decide) wF_X7_9 rfl hr18 dX7_become_14 ?_
  refine lv_iconst (v := (0 : Int32)) hx hb dX7_become_17 (by decide) ?_
  refine lv_bipush (v := (6 : Int32)) hx hb dX7_become_18 (by decide) ?_
  obtain ⟨M19, hM19, hf⟩ := ob hf
  refine r_cp hC hK hAd hW wM_X7_28 hl.1 hM19 dX7_become_20 (fun H locs hW => ?_)
  refine lv_aload_n hx hb dX7_become_23 rfl (lv_at hl 1 rfl) ?_
  obtain ⟨r20, hr20, hf⟩ := ob hf
  refine r_gR hC hK hW cfX7 (by decide) wF_X7_15 rfl hr20 dX7_become_24 ?_
  refine lv_iconst (v := (0 : Int32)) hx hb dX7_become_27 (by decide) ?_
  refine lv_aload_n hx hb dX7_become_28 rfl (lv_at hl 0 rfl) ?_
  obtain ⟨r21, hr21, hf⟩ := ob hf
  refine r_gR hC hK hW cfX7 (by decide) wF_X7_15 rfl hr21 dX7_become_29 ?_
  refine lv_iconst (v := (0 : Int32)) hx hb dX7_become_32 (by decide) ?_
  refine lv_bipush (v := (6 : Int32)) hx hb dX7_become_33 (by decide) ?_
  obtain ⟨M22, hM22, hf⟩ := ob hf
  refine r_cp hC hK hAd hW wM_X7_28 hl.1 hM22 dX7_become_35 (fun H locs hW => ?_)
  refine lv_aload_n hx hb dX7_become_38 rfl (lv_at hl 1 rfl) ?_
  obtain ⟨r23, hr23, hf⟩ := ob hf
  refine r_gR hC hK hW cfX7 (by decide) wF_X7_18 rfl hr23 dX7_become_39 ?_
  refine lv_iconst (v := (0 : Int32)) hx hb dX7_become_42 (by decide) ?_
  refine lv_aload_n hx hb dX7_become_43 rfl (lv_at hl 0 rfl) ?_
  obtain ⟨r24, hr24, hf⟩ := ob hf
  refine r_gR hC hK hW cfX7 (by decide) wF_X7_18 rfl hr24 dX7_become_44 ?_
  refine lv_iconst (v := (0 : Int32)) hx hb dX7_become_47 (by decide) ?_
  refine lv_bipush (v := (6 : Int32)) hx hb dX7_become_48 (by decide) ?_
  obtain ⟨M25, hM25, hf⟩ := ob hf
  refine r_cp hC hK hAd hW wM_X7_28 hl.1 hM25 dX7_become_50 (fun H locs hW => ?_)
  refine lv_aload_n hx hb dX7_become_53 rfl (lv_at hl 1 rfl) ?_
  obtain ⟨r26, hr26, hf⟩ := ob hf
  refine r_gR hC hK hW cfX7 (by decide) wF_X7_21 rfl hr26 dX7_become_54 ?_
  refine lv_iconst (v := (0 : Int32)) hx hb dX7_become_57 (by decide) ?_
  refine lv_aload_n hx hb dX7_become_58 rfl (lv_at hl 0 rfl) ?_
  obtain ⟨r27, hr27, hf⟩ := ob hf
  refine r_gR hC hK hW cfX7 (by decide) wF_X7_21 rfl hr27 dX7_become_59 ?_
  refine lv_iconst (v := (0 : Int32)) hx hb dX7_become_62 (by decide) ?_
  refine lv_bipush (v := (6 : Int32)) hx hb dX7_become_63 (by decide) ?_
  obtain ⟨M28, hM28, hf⟩ := ob hf
  refine r_cp hC hK hAd hW wM_X7_28 hl.1 hM28 dX7_become_65 (fun H locs hW => ?_)
  exact r_vret hC hr hlk hW hf dX7_become_68
set_option maxHeartbeats 4000000 in
set_option maxRecDepth 100000 in
theorem c_X7_changeSeats (l : Launch) {D : va_G} {cA : Nat → ClassId} {ad : Nat → Nat} {A : Nat → Prop} (hAd : AdOk ad A) {a0 : Nat} {a1 : Int32} {a2 : Int32} {M0 : Mem} {q : Mem} (hf0 : f_X7_changeSeats a0 a1 a2 M0 = some q) : Met l yX7_changeSeats (wd yX7_changeSeats cX7_changeSeats 4 none) (rmD 0) (PcW D cA ad [.ref (ad a0), .int a1, .int a2] M0) (QV D cA ad A q) 0 0 A := by
  refine mk_met (own := RX7) (by decide +kernel) rfl (Nat.le_of_ble_eq_true rfl) ?_
  intro p e s m args below meth c hC hr hlk hK H locs ls hW hl
  have hx := hC.1
  have hb := hC.2.1
  have hl : lv_has ls 4 [(0, .ref (ad a0)), (1, .int a1), (2, .int a2)] := hl
  have hf := hf0
  unfold f_X7_changeSeats at hf
  refine lv_aload_n hx hb dX7_changeSeats_0 rfl (lv_at hl 0 rfl) ?_
  obtain ⟨r9, hr9, hf⟩ := ob hf
  refine r_gR hC hK hW cfX7 (by decide) wF_X7_18 rfl hr9 dX7_changeSeats_1 ?_
  refine lv_iload_n hx hb dX7_changeSeats_4 rfl (lv_at hl 1 rfl) ?_
  obtain ⟨v10, hv10, hf⟩ := ob hf
  refine r_aI hC hK hW hv10 dX7_changeSeats_5 ?_
  refine lv_istore_n (lv' := [(3, .int v10), (0, .ref (ad a0)), (1, .int a1), (2, .int a2)]) hx hb dX7_changeSeats_6 rfl hl (by decide) rfl (fun ls hl => ?_)
  refine lv_aload_n hx hb dX7_changeSeats_7 rfl (lv_at hl 1 rfl) ?_
  obtain ⟨r11, hr11, hf⟩ := ob hf
  refine r_gR hC hK hW cfX7 (by decide) wF_X7_18 rfl hr11 dX7_changeSeats_8 ?_
  refine lv_iload_n hx hb dX7_changeSeats_11 rfl (lv_at hl 2 rfl) ?_
  refine lv_aload_n hx hb dX7_changeSeats_12 rfl (lv_at hl 1 rfl) ?_
  obtain ⟨r12, hr12, hf⟩ := ob hf
  refine r_gR hC hK hW cfX7 (by decide) wF_X7_18 rfl hr12 dX7_changeSeats_13 ?_
  refine lv_iload_n hx hb dX7_changeSeats_16 rfl (lv_at hl 3 rfl) ?_
  obtain ⟨v13, hv13, hf⟩ := ob hf
  refine r_aI hC hK hW hv13 dX7_changeSeats_17 ?_
  obtain ⟨M14, hM14, hf⟩ := ob hf
  refine r_sI hC hK hAd hW hM14 dX7_changeSeats_18 (fun H locs hW => ?_)
  refine lv_aload_n hx hb dX7_changeSeats_19 rfl (lv_at hl 1 rfl) ?_
  obtain ⟨r15, hr15, hf⟩ := ob hf
  refine r_gR hC hK hW cfX7 (by decide) wF_X7_18 rfl hr15 dX7_changeSeats_20 ?_
  refine lv_iload_n hx hb dX7_changeSeats_23 rfl (lv_at hl 3 rfl) ?_
  refine lv_iload_n hx hb dX7_changeSeats_24 rfl (lv_at hl 0 rfl) ?_
  obtain ⟨M16, hM16, hf⟩ := ob hf
  refine r_sI hC hK hAd hW hM16 dX7_changeSeats_25 (fun H locs hW => ?_)
  exact r_vret hC hr hlk hW hf dX7_changeSeats_26
set_option maxHeartbeats 4000000 in
set_option maxRecDepth 100000 in
theorem c_J9_floorMod_7cf53 (l : Launch) {D : va_G} {cA : Nat → ClassId} {ad : Nat → Nat} {A : Nat → Prop} (hAd : AdOk ad A) {a0 : Int32} {a1 : Int32} {M0 : Mem} {q : Int32} (hf0 : f_J9_floorMod_7cf53 a0 a1 M0 = some q) : Met l yJ9_floorMod_7cf53 (wd yJ9_floorMod_7cf53 cJ9_floorMod_7cf53 3 (some .int)) (rmD 0) (PcW D cA ad [.int a0, .int a1] M0) (QI D cA ad A q M0) 0 0 A := by
  refine mk_met (own := RJ9) (by decide +kernel) rfl (Nat.le_of_ble_eq_true rfl) ?_
  intro p e s m args below meth c hC hr hlk hK H locs ls hW hl
  have hx := hC.1
  have hb := hC.2.1
  have hl : lv_has ls 3 [(0, .int a0), (1, .int a1)] := hl
  have hf := hf0
  unfold f_J9_floorMod_7cf53 at hf
  refine lv_iload_n hx hb dJ9_floorMod_7cf53_0 rfl (lv_at hl 0 rfl) ?_
  refine lv_iload_n hx hb dJ9_floorMod_7cf53_1 rfl (lv_at hl 1 rfl) ?_
  obtain ⟨v2, hv2, hf⟩ := ob hf
  refine r_rem hC hv2 dJ9_floorMod_7cf53_2 ?_
  refine lv_istore_n (lv' := [(2, .int v2), (0, .int a0), (1, .int a1)]) hx hb dJ9_floorMod_7cf53_3 rfl hl (by decide) rfl (fun ls hl => ?_)
  refine lv_iload_n hx hb dJ9_floorMod_7cf53_4 rfl (lv_at hl 1 rfl) ?_
  refine lv_iload_n hx hb dJ9_floorMod_7cf53_5 rfl (lv_at hl 2 rfl) ?_
  refine lv_ixor hx hb dJ9_floorMod_7cf53_6 ?_
  refine lv_if_ge (tgt := 18) hx hb dJ9_floorMod_7cf53_7 (by decide) (fun c7 => ?_) (fun c7 => ?_)
  · have hf := it c7 hf
    refine lv_iload_n hx hb dJ9_floorMod_7cf53_18 rfl (lv_at hl 0 rfl) ?_
    exact r_iretP hC hr hlk hW hf dJ9_floorMod_7cf53_19
  · have hf := ie c7 hf
    refine lv_iload_n hx hb dJ9_floorMod_7cf53_10 rfl (lv_at hl 0 rfl) ?_
    refine lv_if_eq (tgt := 18) hx hb dJ9_floorMod_7cf53_11 (by decide) (fun c11 => ?_) (fun c11 => ?_)
    · have hf := it c11 hf
      refine lv_iload_n hx hb dJ9_floorMod_7cf53_18 rfl (lv_at hl 0 rfl) ?_
      exact r_iretP hC hr hlk hW hf dJ9_floorMod_7cf53_19
    · have hf := ie c11 hf
      refine lv_iload_n hx hb dJ9_floorMod_7cf53_14 rfl (lv_at hl 0 rfl) ?_
      refine lv_iload_n hx hb dJ9_floorMod_7cf53_15 rfl (lv_at hl 2 rfl) ?_
      refine lv_iadd hx hb dJ9_floorMod_7cf53_16 ?_
      exact r_iretP hC hr hlk hW hf dJ9_floorMod_7cf53_17
set_option maxHeartbeats 4000000 in
set_option maxRecDepth 100000 in
theorem c_X8_around (l : Launch) {D : va_G} {cA : Nat → ClassId} {ad : Nat → Nat} {A : Nat → Prop} (hAd : AdOk ad A) {a0 : Nat} {a1 : Int32} {M0 : Mem} {q : Int32} (hf0 : f_X8_around a0 a1 M0 = some q) : Met l yX8_around (wd yX8_around cX8_around 2 (some .int)) (rmD 1) (PcW D cA ad [.ref (ad a0), .int a1] M0) (QI D cA ad A q M0) 0 0 A := by
  refine mk_met (own := RX8) (by decide +kernel) rfl (Nat.le_of_ble_eq_true rfl) ?_
  intro p e s m args below meth c hC hr hlk hK H locs ls hW hl
  have hx := hC.1
  have hb := hC.2.1
  have hl : lv_has ls 2 [(0, .ref (ad a0)), (1, .int a1)] := hl
  have hf := hf0
  unfold f_X8_around at hf
  refine lv_aload_n hx hb dX8_around_0 rfl (lv_at hl 0 rfl) ?_
  obtain ⟨v4, hv4, hf⟩ := ob hf
  refine r_gI hC hK hW cfX8 (by decide) wF_X8_9 rfl hv4 dX8_around_1 ?_
  refine lv_if_le (tgt := 18) hx hb dX8_around_4 (by decide) (fun c4 => ?_) (fun c4 => ?_)
  · have hf := it c4 hf
    refine lv_iconst (v := (0 : Int32)) hx hb dX8_around_18 (by decide) ?_
    exact r_iretP hC hr hlk hW hf dX8_around_19
  · have hf := ie c4 hf
    refine lv_iload_n hx hb dX8_around_7 rfl (lv_at hl 1 rfl) ?_
    refine lv_aload_n hx hb dX8_around_8 rfl (lv_at hl 0 rfl) ?_
    obtain ⟨v5, hv5, hf⟩ := ob hf
    refine r_gI hC hK hW cfX8 (by decide) wF_X8_9 rfl hv5 dX8_around_9 ?_
    obtain ⟨q6, hq6, hf⟩ := ob hf
    refine k_sI hC hK hW (c_J9_floorMod_7cf53 l hAd hq6) my_J9_floorMod_7cf53 wS_J9_floorMod_7cf53 wM_X8_41 ⟨Nat.le_of_ble_eq_true rfl, Nat.le_of_ble_eq_true rfl⟩ rfl hl.1 rfl (Nat.le_of_ble_eq_true rfl) ⟨Nat.zero_le _, Nat.zero_le _⟩ dX8_around_12 (fun H locs hW => ?_)
    refine lv_goto (tgt := 19) hx hb dX8_around_15 (by decide) ?_
    exact r_iretP hC hr hlk hW hf dX8_around_19
set_option maxHeartbeats 4000000 in
set_option maxRecDepth 100000 in
theorem c_X8_seatBefore (l : Launch) {D : va_G} {cA : Nat → ClassId} {ad : Nat → Nat} {A : Nat → Prop} (hAd : AdOk ad A) {a0 : Nat} {a1 : Nat} {a2 : Int32} {M0 : Mem} {q : Int32} (hf0 : f_X8_seatBefore a0 a1 a2 M0 = some q) : Met l yX8_seatBefore (wd yX8_seatBefore cX8_seatBefore 3 (some .int)) (rmD 2) (PcW D cA ad [.ref (ad a0), .ref (ad a1), .int a2] M0) (QI D cA ad A q M0) 0 0 A := by
  refine mk_met (own := RX8) (by decide +kernel) rfl (Nat.le_of_ble_eq_true rfl) ?_
  intro p e s m args below meth c hC hr hlk hK H locs ls hW hl
  have hx := hC.1
  have hb := hC.2.1
  have hl : lv_has ls 3 [(0, .ref (ad a0)), (1, .ref (ad a1)), (2, .int a2)] := hl
  have hf := hf0
  unfold f_X8_seatBefore at hf
  refine lv_aload_n hx hb dX8_seatBefore_0 rfl (lv_at hl 0 rfl) ?_
  refine lv_aload_n hx hb dX8_seatBefore_1 rfl (lv_at hl 1 rfl) ?_
  obtain ⟨r5, hr5, hf⟩ := ob hf
  refine r_gR hC hK hW cfX7 (by decide) wF_X8_47 rfl hr5 dX8_seatBefore_2 ?_
  refine lv_iload_n hx hb dX8_seatBefore_5 rfl (lv_at hl 2 rfl) ?_
  obtain ⟨v6, hv6, hf⟩ := ob hf
  refine r_aI hC hK hW hv6 dX8_seatBefore_6 ?_
  refine lv_aload_n hx hb dX8_seatBefore_7 rfl (lv_at hl 1 rfl) ?_
  obtain ⟨v7, hv7, hf⟩ := ob hf
  refine r_gI hC hK hW cfX7 (by decide) wF_X8_50 rfl hv7 dX8_seatBefore_8 ?_
  refine lv_iadd hx hb dX8_seatBefore_11 ?_
  obtain ⟨q8, hq8, hf⟩ := ob hf
  refine k_vI hC hK hW cfX8 (c_X8_around l hAd (cv_s hq8).2) (cv_s hq8).1 my_X8_around wI_X8_around wQ_X8_around wM_X8_53 ⟨Nat.le_of_ble_eq_true rfl, Nat.le_of_ble_eq_true rfl⟩ rfl hl.1 rfl (Nat.le_of_ble_eq_true rfl) ⟨Nat.zero_le _, Nat.zero_le _⟩ dX8_seatBefore_12 (fun H locs hW => ?_)
  exact r_iretP hC hr hlk hW hf dX8_seatBefore_15
set_option maxHeartbeats 4000000 in
set_option maxRecDepth 100000 in
theorem c_X8_gap (l : Launch) {D : va_G} {cA : Nat → ClassId} {ad : Nat → Nat} {A : Nat → Prop} (hAd : AdOk ad A) {a0 : Nat} {a1 : Nat} {a2 : Int32} {a3 : Int32} {a4 : Int32} {M0 : Mem} {q : Int32} (hf0 : f_X8_gap a0 a1 a2 a3 a4 M0 = some q) : Met l yX8_gap (wd yX8_gap cX8_gap 5 (some .int)) (rmD 2) (PcW D cA ad [.ref (ad a0), .ref (ad a1), .int a2, .int a3, .int a4] M0) (QI D cA ad A q M0) 0 0 A := by
  refine mk_met (own := RX8) (by decide +kernel) rfl (Nat.le_of_ble_eq_true rfl) ?_
  intro p e s m args below meth c hC hr hlk hK H locs ls hW hl
  have hx := hC.1
  have hb := hC.2.1
  have hl : lv_has ls 5 [(0, .ref (ad a0)), (1, .ref (ad a1)), (2, .int a2), (3, .int a3), (4, .int a4)] := hl
  have hf := hf0
  unfold f_X8_gap at hf
  refine lv_aload_n hx hb dX8_gap_0 rfl (lv_at hl 0 rfl) ?_
  refine lv_aload_n hx hb dX8_gap_1 rfl (lv_at hl 1 rfl) ?_
  obtain ⟨r6, hr6, hf⟩ := ob hf
  refine r_gR hC hK hW cfX7 (by decide) wF_X8_57 rfl hr6 dX8_gap_2 ?_
  refine lv_iload_n hx hb dX8_gap_5 rfl (lv_at hl 2 rfl) ?_
  obtain ⟨v7, hv7, hf⟩ := ob hf
  refine r_aI hC hK hW hv7 dX8_gap_6 ?_
  refine lv_aload_n hx hb dX8_gap_7 rfl (lv_at hl 1 rfl) ?_
  obtain ⟨r8, hr8, hf⟩ := ob hf
  refine r_gR hC hK hW cfX7 (by decide) wF_X8_47 rfl hr8 dX8_gap_8 ?_
  refine lv_iload_n hx hb dX8_gap_11 rfl (lv_at hl 3 rfl) ?_
  obtain ⟨v9, hv9, hf⟩ := ob hf
  refine r_aI hC hK hW hv9 dX8_gap_12 ?_
  refine lv_isub hx hb dX8_gap_13 ?_
  refine lv_iload hx hb dX8_gap_14 (lv_at hl 4 rfl) ?_
  refine lv_isub hx hb dX8_gap_16 ?_
  obtain ⟨q10, hq10, hf⟩ := ob hf
  refine k_vI hC hK hW cfX8 (c_X8_around l hAd (cv_s hq10).2) (cv_s hq10).1 my_X8_around wI_X8_around wQ_X8_around wM_X8_53 ⟨Nat.le_of_ble_eq_true rfl, Nat.le_of_ble_eq_true rfl⟩ rfl hl.1 rfl (Nat.le_of_ble_eq_true rfl) ⟨Nat.zero_le _, Nat.zero_le _⟩ dX8_gap_17 (fun H locs hW => ?_)
  exact r_iretP hC hr hlk hW hf dX8_gap_20
set_option maxHeartbeats 4000000 in
set_option maxRecDepth 100000 in
theorem c_X8_reaches (l : Launch) {D : va_G} {cA : Nat → ClassId} {ad : Nat → Nat} {A : Nat → Prop} (hAd : AdOk ad A) {a0 : Nat} {a1 : Nat} {a2 : Int32} {a3 : Int32} {a4 : Int32} {M0 : Mem} {q : Int32} (hf0 : f_X8_reaches a0 a1 a2 a3 a4 M0 = some q) : Met l yX8_reaches (wd yX8_reaches cX8_reaches 6 (some .boolean)) (rmD 3) (PcW D cA ad [.ref (ad a0), .ref (ad a1), .int a2, .int a3, .int a4] M0) (QI D cA ad A q M0) 0 0 A := by
  refine mk_met (own := RX8) (by decide +kernel) rfl (Nat.le_of_ble_eq_true rfl) ?_
  intro p e s m args below meth c hC hr hlk hK H locs ls hW hl
  have hx := hC.1
  have hb := hC.2.1
  have hl : lv_has ls 6 [(0, .ref (ad a0)), (1, .ref (ad a1)), (2, .int a2), (3, .int a3), (4, .int a4)] := hl
  have J38 : ∀    (H : Heap) (locs : List Loc) (ls : Array Slot) (hW : Wd D cA ad A s M0 H locs) (hl : lv_has ls 6 []) (hf : f_X8_reaches_38    M0 = some q), W p l e (rmD 3) s m args below meth c H locs 0 0 (MQ below (QI D cA ad A q M0) args s 0 0 A) (F0 m 38 ls []) := by
    intro    H locs ls hW hl hf
    unfold f_X8_reaches_38 at hf
    refine lv_iconst (v := (1 : Int32)) hx hb dX8_reaches_38 (by decide) ?_
    refine lv_goto (tgt := 43) hx hb dX8_reaches_39 (by decide) ?_
    exact r_zretP hC hr hlk hW hf dX8_reaches_43
  have hf := hf0
  unfold f_X8_reaches at hf
  refine lv_aload_n hx hb dX8_reaches_0 rfl (lv_at hl 0 rfl) ?_
  refine lv_aload_n hx hb dX8_reaches_1 rfl (lv_at hl 1 rfl) ?_
  refine lv_iload_n hx hb dX8_reaches_2 rfl (lv_at hl 2 rfl) ?_
  refine lv_iload_n hx hb dX8_reaches_3 rfl (lv_at hl 3 rfl) ?_
  refine lv_iload hx hb dX8_reaches_4 (lv_at hl 4 rfl) ?_
  obtain ⟨q7, hq7, hf⟩ := ob hf
  refine k_vI hC hK hW cfX8 (c_X8_gap l hAd (cv_s hq7).2) (cv_s hq7).1 my_X8_gap wI_X8_gap wQ_X8_gap wM_X8_60 ⟨Nat.le_of_ble_eq_true rfl, Nat.le_of_ble_eq_true rfl⟩ rfl hl.1 rfl (Nat.le_of_ble_eq_true rfl) ⟨Nat.zero_le _, Nat.zero_le _⟩ dX8_reaches_6 (fun H locs hW => ?_)
  refine lv_istore (lv' := [(5, .int q7), (0, .ref (ad a0)), (1, .ref (ad a1)), (2, .int a2), (3, .int a3), (4, .int a4)]) hx hb dX8_reaches_9 hl (by decide) rfl (fun ls hl => ?_)
  refine lv_iload hx hb dX8_reaches_11 (lv_at hl 0 rfl) ?_
  refine lv_aload_n hx hb dX8_reaches_13 rfl (lv_at hl 1 rfl) ?_
  obtain ⟨r8, hr8, hf⟩ := ob hf
  refine r_gR hC hK hW cfX8 (by decide) wF_X8_15 rfl hr8 dX8_reaches_14 ?_
  refine lv_iload_n hx hb dX8_reaches_17 rfl (lv_at hl 3 rfl) ?_
  obtain ⟨v9, hv9, hf⟩ := ob hf
  refine r_aI hC hK hW hv9 dX8_reaches_18 ?_
  refine lv_icmp_le (tgt := 38) hx hb dX8_reaches_19 (by decide) (fun c19 => ?_) (fun c19 => ?_)
  · have hf := it c19 hf
    exact J38  _ _ _ hW (lv_sub hl [] rfl) hf
  · have hf := ie c19 hf
    refine lv_aload_n hx hb dX8_reaches_22 rfl (lv_at hl 1 rfl) ?_
    obtain ⟨v10, hv10, hf⟩ := ob hf
    refine r_gI hC hK hW cfX8 (by decide) wF_X8_9 rfl hv10 dX8_reaches_23 ?_
    refine lv_iload hx hb dX8_reaches_26 (lv_at hl 0 rfl) ?_
    refine lv_isub hx hb dX8_reaches_28 ?_
    refine lv_aload_n hx hb dX8_reaches_29 rfl (lv_at hl 1 rfl) ?_
    obtain ⟨r11, hr11, hf⟩ := ob hf
    refine r_gR hC hK hW cfX8 (by decide) wF_X8_15 rfl hr11 dX8_reaches_30 ?_
    refine lv_iload_n hx hb dX8_reaches_33 rfl (lv_at hl 3 rfl) ?_
    obtain ⟨v12, hv12, hf⟩ := ob hf
    refine r_aI hC hK hW hv12 dX8_reaches_34 ?_
    refine lv_icmp_gt (tgt := 42) hx hb dX8_reaches_35 (by decide) (fun c35 => ?_) (fun c35 => ?_)
    · have hf := it c35 hf
      refine lv_iconst (v := (0 : Int32)) hx hb dX8_reaches_42 (by decide) ?_
      exact r_zretP hC hr hlk hW hf dX8_reaches_43
    · have hf := ie c35 hf
      exact J38  _ _ _ hW (lv_sub hl [] rfl) hf
set_option maxHeartbeats 4000000 in
set_option maxRecDepth 100000 in
theorem c_X8_whoReach (l : Launch) {D : va_G} {cA : Nat → ClassId} {ad : Nat → Nat} {A : Nat → Prop} (hAd : AdOk ad A) {a0 : Nat} {a1 : Nat} {a2 : Int32} {a3 : Int32} {M0 : Mem} {q : Int32} (hf0 : f_X8_whoReach a0 a1 a2 a3 M0 = some q) : Met l yX8_whoReach (wd yX8_whoReach cX8_whoReach 6 (some .int)) (rmD 4) (PcW D cA ad [.ref (ad a0), .ref (ad a1), .int a2, .int a3] M0) (QI D cA ad A q M0) 0 0 A := by
  refine mk_met (own := RX8) (by decide +kernel) rfl (Nat.le_of_ble_eq_true rfl) ?_
  intro p e s m args below meth c hC hr hlk hK H locs ls hW hl
  have hx := hC.1
  have hb := hC.2.1
  have hl : lv_has ls 6 [(0, .ref (ad a0)), (1, .ref (ad a1)), (2, .int a2), (3, .int a3)] := hl
  have B6 : ∀ (x0 : Nat) (x1 : Nat) (x2 : Int32) (x3 : Int32) (x4 : Int32) (x5 : Int32)  (ag6 : Int32 × Int32 → Option Int32) (hg6 : ∀ (x4 : Int32) (x5 : Int32) (H : Heap) (locs : List Loc) (ls : Array Slot) (_ : Wd D cA ad A s M0 H locs) (_ : lv_has ls 6 [(0, .ref (ad x0)), (1, .ref (ad x1)), (2, .int x2), (3, .int x3), (4, .int x4), (5, .int x5)]) (_ : ag6 (x4, x5) = some q), W p l e (rmD 4) s m args below meth c H locs 0 0 (MQ below (QI D cA ad A q M0) args s 0 0 A) (F0 m 6 ls [])) (H : Heap) (locs : List Loc) (ls : Array Slot) (hW : Wd D cA ad A s M0 H locs) (hl : lv_has ls 6 [(0, .ref (ad x0)), (1, .ref (ad x1)), (2, .int x2), (3, .int x3), (4, .int x4), (5, .int x5)]) (hf : f_X8_whoReach_6b  x0 x1 x2 x3 M0 ag6 x4 x5 = some q), W p l e (rmD 4) s m args below meth c H locs 0 0 (MQ below (QI D cA ad A q M0) args s 0 0 A) (F0 m 6 ls []) := by
    intro x0 x1 x2 x3 x4 x5  ag6 hg6 H locs ls hW hl hf
    unfold f_X8_whoReach_6b at hf
    refine lv_iload hx hb dX8_whoReach_6 (lv_at hl 5 rfl) ?_
    refine lv_aload_n hx hb dX8_whoReach_8 rfl (lv_at hl 0 rfl) ?_
    obtain ⟨v3, hv3, hf⟩ := ob hf
    refine r_gI hC hK hW cfX8 (by decide) wF_X8_35 rfl hv3 dX8_whoReach_9 ?_
    refine lv_icmp_ge (tgt := 42) hx hb dX8_whoReach_12 (by decide) (fun c12 => ?_) (fun c12 => ?_)
    · have hf := it c12 hf
      refine lv_iload hx hb dX8_whoReach_42 (lv_at hl 4 rfl) ?_
      exact r_iretP hC hr hlk hW hf dX8_whoReach_44
    · have hf := ie c12 hf
      refine lv_aload_n hx hb dX8_whoReach_15 rfl (lv_at hl 0 rfl) ?_
      refine lv_aload_n hx hb dX8_whoReach_16 rfl (lv_at hl 1 rfl) ?_
      refine lv_iload hx hb dX8_whoReach_17 (lv_at hl 5 rfl) ?_
      refine lv_iload_n hx hb dX8_whoReach_19 rfl (lv_at hl 2 rfl) ?_
      refine lv_iload_n hx hb dX8_whoReach_20 rfl (lv_at hl 3 rfl) ?_
      obtain ⟨q4, hq4, hf⟩ := ob hf
      refine k_vI hC hK hW cfX8 (c_X8_reaches l hAd (cv_s hq4).2) (cv_s hq4).1 my_X8_reaches wI_X8_reaches wQ_X8_reaches wM_X8_64 ⟨Nat.le_of_ble_eq_true rfl, Nat.le_of_ble_eq_true rfl⟩ rfl hl.1 rfl (Nat.le_of_ble_eq_true rfl) ⟨Nat.zero_le _, Nat.zero_le _⟩ dX8_whoReach_21 (fun H locs hW => ?_)
      refine lv_if_eq (tgt := 36) hx hb dX8_whoReach_24 (by decide) (fun c24 => ?_) (fun c24 => ?_)
      · have hf := it c24 hf
        refine lv_iinc (v := (x5 + (1 : Int32))) (lv' := [(5, .int (x5 + (1 : Int32))), (0, .ref (ad x0)), (1, .ref (ad x1)), (2, .int x2), (3, .int x3), (4, .int x4)]) hx hb dX8_whoReach_36 hl (k := 5) rfl rfl (by decide) rfl (fun ls hl => ?_)
        refine lv_goto (tgt := 6) hx hb dX8_whoReach_39 (by decide) ?_
        exact hg6 x4 (x5 + (1 : Int32)) _ _ _ hW (lv_sub hl [1, 2, 3, 4, 5, 0] rfl) hf
      · have hf := ie c24 hf
        refine lv_iload hx hb dX8_whoReach_27 (lv_at hl 4 rfl) ?_
        refine lv_iconst (v := (1 : Int32)) hx hb dX8_whoReach_29 (by decide) ?_
        refine lv_iload hx hb dX8_whoReach_30 (lv_at hl 5 rfl) ?_
        refine lv_ishl hx hb dX8_whoReach_32 ?_
        refine lv_ior hx hb dX8_whoReach_33 ?_
        refine lv_istore (lv' := [(4, .int (x4 ||| ((1 : Int32) <<< (x5 &&& 31)))), (0, .ref (ad x0)), (1, .ref (ad x1)), (2, .int x2), (3, .int x3), (5, .int x5)]) hx hb dX8_whoReach_34 hl (by decide) rfl (fun ls hl => ?_)
        refine lv_iinc (v := (x5 + (1 : Int32))) (lv' := [(5, .int (x5 + (1 : Int32))), (4, .int (x4 ||| ((1 : Int32) <<< (x5 &&& 31)))), (0, .ref (ad x0)), (1, .ref (ad x1)), (2, .int x2), (3, .int x3)]) hx hb dX8_whoReach_36 hl (k := 5) rfl rfl (by decide) rfl (fun ls hl => ?_)
        refine lv_goto (tgt := 6) hx hb dX8_whoReach_39 (by decide) ?_
        exact hg6 (x4 ||| ((1 : Int32) <<< (x5 &&& 31))) (x5 + (1 : Int32)) _ _ _ hW (lv_sub hl [2, 3, 4, 5, 1, 0] rfl) hf
  have J6 : ∀ (x0 : Nat) (x1 : Nat) (x2 : Int32) (x3 : Int32) (x4 : Int32) (x5 : Int32)  (H : Heap) (locs : List Loc) (ls : Array Slot) (hW : Wd D cA ad A s M0 H locs) (hl : lv_has ls 6 [(0, .ref (ad x0)), (1, .ref (ad x1)), (2, .int x2), (3, .int x3), (4, .int x4), (5, .int x5)]) (hf : f_X8_whoReach_6  x0 x1 x2 x3 M0 x4 x5 = some q), W p l e (rmD 4) s m args below meth c H locs 0 0 (MQ below (QI D cA ad A q M0) args s 0 0 A) (F0 m 6 ls []) := by
    intro x0 x1 x2 x3 x4 x5  H locs ls hW hl hf
    unfold f_X8_whoReach_6 at hf
    have key : ∀ (n : Nat) (x4 : Int32) (x5 : Int32) (H : Heap) (locs : List Loc) (ls : Array Slot) (hW : Wd D cA ad A s M0 H locs) (hl : lv_has ls 6 [(0, .ref (ad x0)), (1, .ref (ad x1)), (2, .int x2), (3, .int x3), (4, .int x4), (5, .int x5)]) (hf : loopF (fun ag s => f_X8_whoReach_6b  x0 x1 x2 x3 M0 ag s.1 s.2) n (x4, x5) = some q), W p l e (rmD 4) s m args below meth c H locs 0 0 (MQ below (QI D cA ad A q M0) args s 0 0 A) (F0 m 6 ls []) := by
      intro n
      induction n with
      | zero => intro x4 x5 H locs ls hW hl hf; exact nomatch (show (none : Option _) = some _ from hf)
      | succ n ih => intro x4 x5 H locs ls hW hl hf; exact B6 x0 x1 x2 x3 x4 x5  _ ih H locs ls hW hl hf
    exact key FU x4 x5 H locs ls hW hl hf
  have hf := hf0
  unfold f_X8_whoReach at hf
  refine lv_iconst (v := (0 : Int32)) hx hb dX8_whoReach_0 (by decide) ?_
  refine lv_istore (lv' := [(4, .int (0 : Int32)), (0, .ref (ad a0)), (1, .ref (ad a1)), (2, .int a2), (3, .int a3)]) hx hb dX8_whoReach_1 hl (by decide) rfl (fun ls hl => ?_)
  refine lv_iconst (v := (0 : Int32)) hx hb dX8_whoReach_3 (by decide) ?_
  refine lv_istore (lv' := [(5, .int (0 : Int32)), (4, .int (0 : Int32)), (0, .ref (ad a0)), (1, .ref (ad a1)), (2, .int a2), (3, .int a3)]) hx hb dX8_whoReach_4 hl (by decide) rfl (fun ls hl => ?_)
  exact J6 a0 a1 a2 a3 (0 : Int32) (0 : Int32) _ _ _ hW (lv_sub hl [2, 3, 4, 5, 1, 0] rfl) hf
set_option maxHeartbeats 4000000 in
set_option maxRecDepth 100000 in
theorem c_X8_needs (l : Launch) {D : va_G} {cA : Nat → ClassId} {ad : Nat → Nat} {A : Nat → Prop} (hAd : AdOk ad A) {a0 : Nat} {a1 : Nat} {a2 : Int32} {M0 : Mem} {q : Int32} (hf0 : f_X8_needs a0 a1 a2 M0 = some q) : Met l yX8_needs (wd yX8_needs cX8_needs 4 (some .int)) (rmD 0) (PcW D cA ad [.ref (ad a0), .ref (ad a1), .int a2] M0) (QI D cA ad A q M0) 0 0 A := by
  refine mk_met (own := RX8) (by decide +kernel) rfl (Nat.le_of_ble_eq_true rfl) ?_
  intro p e s m args below meth c hC hr hlk hK H locs ls hW hl
  have hx := hC.1
  have hb := hC.2.1
  have hl : lv_has ls 4 [(0, .ref (ad a0)), (1, .ref (ad a1)), (2, .int a2)] := hl
  have hf := hf0
  unfold f_X8_needs at hf
  refine lv_iconst (v := (1 : Int32)) hx hb dX8_needs_0 (by decide) ?_
  refine lv_aload_n hx hb dX8_needs_1 rfl (lv_at hl 0 rfl) ?_
  obtain ⟨v6, hv6, hf⟩ := ob hf
  refine r_gI hC hK hW cfX8 (by decide) wF_X8_38 rfl hv6 dX8_needs_2 ?_
  refine lv_ishl hx hb dX8_needs_5 ?_
  refine lv_iconst (v := (1 : Int32)) hx hb dX8_needs_6 (by decide) ?_
  refine lv_isub hx hb dX8_needs_7 ?_
  refine lv_istore_n (lv' := [(3, .int (((1 : Int32) <<< (v6 &&& 31)) - (1 : Int32))), (0, .ref (ad a0)), (1, .ref (ad a1)), (2, .int a2)]) hx hb dX8_needs_8 rfl hl (by decide) rfl (fun ls hl => ?_)
  refine lv_aload_n hx hb dX8_needs_9 rfl (lv_at hl 1 rfl) ?_
  obtain ⟨r7, hr7, hf⟩ := ob hf
  refine r_gR hC hK hW cfX8 (by decide) wF_X8_19 rfl hr7 dX8_needs_10 ?_
  refine lv_iload_n hx hb dX8_needs_13 rfl (lv_at hl 3 rfl) ?_
  obtain ⟨v8, hv8, hf⟩ := ob hf
  refine r_aI hC hK hW hv8 dX8_needs_14 ?_
  refine lv_iload_n hx hb dX8_needs_15 rfl (lv_at hl 0 rfl) ?_
  refine lv_iand hx hb dX8_needs_16 ?_
  refine lv_aload_n hx hb dX8_needs_17 rfl (lv_at hl 2 rfl) ?_
  obtain ⟨r9, hr9, hf⟩ := ob hf
  refine r_gR hC hK hW cfX7 (by decide) wF_X8_68 rfl hr9 dX8_needs_18 ?_
  refine lv_iload_n hx hb dX8_needs_21 rfl (lv_at hl 3 rfl) ?_
  obtain ⟨v10, hv10, hf⟩ := ob hf
  refine r_aI hC hK hW hv10 dX8_needs_22 ?_
  refine lv_iconst (v := (-1 : Int32)) hx hb dX8_needs_23 (by decide) ?_
  refine lv_ixor hx hb dX8_needs_24 ?_
  refine lv_iand hx hb dX8_needs_25 ?_
  exact r_iretP hC hr hlk hW hf dX8_needs_26
set_option maxHeartbeats 4000000 in
set_option maxRecDepth 100000 in
theorem c_X5_most (l : Launch) {D : va_G} {cA : Nat → ClassId} {ad : Nat → Nat} {A : Nat → Prop} (hAd : AdOk ad A) {a0 : Nat} {a1 : Int32} {M0 : Mem} {q : Int32} (hf0 : f_X5_most a0 a1 M0 = some q) : Met l yX5_most (wd yX5_most cX5_most 6 (some .int)) (rmD 1) (PcW D cA ad [.ref (ad a0), .int a1] M0) (QI D cA ad A q M0) 0 0 A := by
  refine mk_met (own := RX5) (by decide +kernel) rfl (Nat.le_of_ble_eq_true rfl) ?_
  intro p e s m args below meth c hC hr hlk hK H locs ls hW hl
  have hx := hC.1
  have hb := hC.2.1
  have hl : lv_has ls 6 [(0, .ref (ad a0)), (1, .int a1)] := hl
  have B60 : ∀ (x0 : Nat) (x1 : Int32) (x2 : Int32) (x3 : Int32) (x4 : Int32) (x5 : Int32) (ag7 : Int32 × Int32 → Option Int32) (hg7 : ∀ (x2 : Int32) (x3 : Int32) (H : Heap) (locs : List Loc) (ls : Array Slot) (_ : Wd D cA ad A s M0 H locs) (_ : lv_has ls 6 [(0, .ref (ad x0)), (1, .int x1), (2, .int x2), (3, .int x3)]) (_ : ag7 (x2, x3) = some q), W p l e (rmD 1) s m args below meth c H locs 0 0 (MQ below (QI D cA ad A q M0) args s 0 0 A) (F0 m 7 ls [])) (ag60 : Int32 × Int32 → Option Int32) (hg60 : ∀ (x4 : Int32) (x5 : Int32) (H : Heap) (locs : List Loc) (ls : Array Slot) (_ : Wd D cA ad A s M0 H locs) (_ : lv_has ls 6 [(0, .ref (ad x0)), (1, .int x1), (2, .int x2), (3, .int x3), (4, .int x4), (5, .int x5)]) (_ : ag60 (x4, x5) = some q), W p l e (rmD 1) s m args below meth c H locs 0 0 (MQ below (QI D cA ad A q M0) args s 0 0 A) (F0 m 60 ls [])) (H : Heap) (locs : List Loc) (ls : Array Slot) (hW : Wd D cA ad A s M0 H locs) (hl : lv_has ls 6 [(0, .ref (ad x0)), (1, .int x1), (2, .int x2), (3, .int x3), (4, .int x4), (5, .int x5)]) (hf : f_X5_most_60b ag7 x0 x1 x2 x3 M0 ag60 x4 x5 = some q), W p l e (rmD 1) s m args below meth c H locs 0 0 (MQ below (QI D cA ad A q M0) args s 0 0 A) (F0 m 60 ls []) := by
    intro x0 x1 x2 x3 x4 x5 ag7 hg7 ag60 hg60 H locs ls hW hl hf
    unfold f_X5_most_60b at hf
    refine lv_iload hx hb dX5_most_60 (lv_at hl 5 rfl) ?_
    refine lv_aload_n hx hb dX5_most_62 rfl (lv_at hl 0 rfl) ?_
    obtain ⟨v4, hv4, hf⟩ := ob hf
    refine r_gI hC hK hW cfX5 (by decide) wF_X5_27 rfl hv4 dX5_most_63 ?_
    refine lv_icmp_ge (tgt := 99) hx hb dX5_most_66 (by decide) (fun c66 => ?_) (fun c66 => ?_)
    · have hf := it c66 hf
      refine lv_iload_n hx hb dX5_most_99 rfl (lv_at hl 2 rfl) ?_
      refine lv_iload hx hb dX5_most_100 (lv_at hl 4 rfl) ?_
      refine r_min hC wM_X5_54 hl.1 (Nat.le_of_ble_eq_true rfl) rfl rfl dX5_most_102 ?_
      refine lv_istore_n (lv' := [(2, .int (if x4 < x2 then x4 else x2)), (0, .ref (ad x0)), (1, .int x1), (3, .int x3), (4, .int x4), (5, .int x5)]) hx hb dX5_most_105 rfl hl (by decide) rfl (fun ls hl => ?_)
      refine lv_iinc (v := (x3 + (1 : Int32))) (lv' := [(3, .int (x3 + (1 : Int32))), (2, .int (if x4 < x2 then x4 else x2)), (0, .ref (ad x0)), (1, .int x1), (4, .int x4), (5, .int x5)]) hx hb dX5_most_106 hl (k := 3) rfl rfl (by decide) rfl (fun ls hl => ?_)
      refine lv_goto (tgt := 7) hx hb dX5_most_109 (by decide) ?_
      exact hg7 (if x4 < x2 then x4 else x2) (x3 + (1 : Int32)) _ _ _ hW (lv_sub hl [2, 3, 1, 0] rfl) hf
    · have hf := ie c66 hf
      refine lv_iload hx hb dX5_most_69 (lv_at hl 4 rfl) ?_
      refine lv_aload_n hx hb dX5_most_71 rfl (lv_at hl 0 rfl) ?_
      obtain ⟨r5, hr5, hf⟩ := ob hf
      refine r_gR hC hK hW cfX5 (by decide) wF_X5_15 rfl hr5 dX5_most_72 ?_
      refine lv_iload hx hb dX5_most_75 (lv_at hl 5 rfl) ?_
      obtain ⟨v6, hv6, hf⟩ := ob hf
      refine r_aI hC hK hW hv6 dX5_most_77 ?_
      refine lv_iload_n hx hb dX5_most_78 rfl (lv_at hl 3 rfl) ?_
      refine lv_iconst (v := (-1 : Int32)) hx hb dX5_most_79 (by decide) ?_
      refine lv_ixor hx hb dX5_most_80 ?_
      refine lv_iand hx hb dX5_most_81 ?_
      refine lv_if_eq (tgt := 89) hx hb dX5_most_82 (by decide) (fun c82 => ?_) (fun c82 => ?_)
      · have hf := it c82 hf
        refine lv_iconst (v := (0 : Int32)) hx hb dX5_most_89 (by decide) ?_
        refine lv_iadd hx hb dX5_most_90 ?_
        refine lv_istore (lv' := [(4, .int (x4 + (0 : Int32))), (0, .ref (ad x0)), (1, .int x1), (2, .int x2), (3, .int x3), (5, .int x5)]) hx hb dX5_most_91 hl (by decide) rfl (fun ls hl => ?_)
        refine lv_iinc (v := (x5 + (1 : Int32))) (lv' := [(5, .int (x5 + (1 : Int32))), (4, .int (x4 + (0 : Int32))), (0, .ref (ad x0)), (1, .int x1), (2, .int x2), (3, .int x3)]) hx hb dX5_most_93 hl (k := 5) rfl rfl (by decide) rfl (fun ls hl => ?_)
        refine lv_goto (tgt := 60) hx hb dX5_most_96 (by decide) ?_
        exact hg60 (x4 + (0 : Int32)) (x5 + (1 : Int32)) _ _ _ hW (lv_sub hl [2, 3, 4, 5, 1, 0] rfl) hf
      · have hf := ie c82 hf
        refine lv_iconst (v := (1 : Int32)) hx hb dX5_most_85 (by decide) ?_
        refine lv_goto (tgt := 90) hx hb dX5_most_86 (by decide) ?_
        refine lv_iadd hx hb dX5_most_90 ?_
        refine lv_istore (lv' := [(4, .int (x4 + (1 : Int32))), (0, .ref (ad x0)), (1, .int x1), (2, .int x2), (3, .int x3), (5, .int x5)]) hx hb dX5_most_91 hl (by decide) rfl (fun ls hl => ?_)
        refine lv_iinc (v := (x5 + (1 : Int32))) (lv' := [(5, .int (x5 + (1 : Int32))), (4, .int (x4 + (1 : Int32))), (0, .ref (ad x0)), (1, .int x1), (2, .int x2), (3, .int x3)]) hx hb dX5_most_93 hl (k := 5) rfl rfl (by decide) rfl (fun ls hl => ?_)
        refine lv_goto (tgt := 60) hx hb dX5_most_96 (by decide) ?_
        exact hg60 (x4 + (1 : Int32)) (x5 + (1 : Int32)) _ _ _ hW (lv_sub hl [2, 3, 4, 5, 1, 0] rfl) hf
  have J60 : ∀ (x0 : Nat) (x1 : Int32) (x2 : Int32) (x3 : Int32) (x4 : Int32) (x5 : Int32) (ag7 : Int32 × Int32 → Option Int32) (hg7 : ∀ (x2 : Int32) (x3 : Int32) (H : Heap) (locs : List Loc) (ls : Array Slot) (_ : Wd D cA ad A s M0 H locs) (_ : lv_has ls 6 [(0, .ref (ad x0)), (1, .int x1), (2, .int x2), (3, .int x3)]) (_ : ag7 (x2, x3) = some q), W p l e (rmD 1) s m args below meth c H locs 0 0 (MQ below (QI D cA ad A q M0) args s 0 0 A) (F0 m 7 ls [])) (H : Heap) (locs : List Loc) (ls : Array Slot) (hW : Wd D cA ad A s M0 H locs) (hl : lv_has ls 6 [(0, .ref (ad x0)), (1, .int x1), (2, .int x2), (3, .int x3), (4, .int x4), (5, .int x5)]) (hf : f_X5_most_60 ag7 x0 x1 x2 x3 M0 x4 x5 = some q), W p l e (rmD 1) s m args below meth c H locs 0 0 (MQ below (QI D cA ad A q M0) args s 0 0 A) (F0 m 60 ls []) := by
    intro x0 x1 x2 x3 x4 x5 ag7 hg7 H locs ls hW hl hf
    unfold f_X5_most_60 at hf
    have key : ∀ (n : Nat) (x4 : Int32) (x5 : Int32) (H : Heap) (locs : List Loc) (ls : Array Slot) (hW : Wd D cA ad A s M0 H locs) (hl : lv_has ls 6 [(0, .ref (ad x0)), (1, .int x1), (2, .int x2), (3, .int x3), (4, .int x4), (5, .int x5)]) (hf : loopF (fun ag s => f_X5_most_60b ag7 x0 x1 x2 x3 M0 ag s.1 s.2) n (x4, x5) = some q), W p l e (rmD 1) s m args below meth c H locs 0 0 (MQ below (QI D cA ad A q M0) args s 0 0 A) (F0 m 60 ls []) := by
      intro n
      induction n with
      | zero => intro x4 x5 H locs ls hW hl hf; exact nomatch (show (none : Option _) = some _ from hf)
      | succ n ih => intro x4 x5 H locs ls hW hl hf; exact B60 x0 x1 x2 x3 x4 x5 ag7 hg7 _ ih H locs ls hW hl hf
    exact key FU x4 x5 H locs ls hW hl hf
  have B23 : ∀ (x0 : Nat) (x1 : Int32) (x2 : Int32) (x3 : Int32) (x4 : Int32) (x5 : Int32) (ag7 : Int32 × Int32 → Option Int32) (hg7 : ∀ (x2 : Int32) (x3 : Int32) (H : Heap) (locs : List Loc) (ls : Array Slot) (_ : Wd D cA ad A s M0 H locs) (_ : lv_has ls 6 [(0, .ref (ad x0)), (1, .int x1), (2, .int x2), (3, .int x3)]) (_ : ag7 (x2, x3) = some q), W p l e (rmD 1) s m args below meth c H locs 0 0 (MQ below (QI D cA ad A q M0) args s 0 0 A) (F0 m 7 ls [])) (ag23 : Int32 × Int32 → Option Int32) (hg23 : ∀ (x4 : Int32) (x5 : Int32) (H : Heap) (locs : List Loc) (ls : Array Slot) (_ : Wd D cA ad A s M0 H locs) (_ : lv_has ls 6 [(0, .ref (ad x0)), (1, .int x1), (2, .int x2), (3, .int x3), (4, .int x4), (5, .int x5)]) (_ : ag23 (x4, x5) = some q), W p l e (rmD 1) s m args below meth c H locs 0 0 (MQ below (QI D cA ad A q M0) args s 0 0 A) (F0 m 23 ls [])) (H : Heap) (locs : List Loc) (ls : Array Slot) (hW : Wd D cA ad A s M0 H locs) (hl : lv_has ls 6 [(0, .ref (ad x0)), (1, .int x1), (2, .int x2), (3, .int x3), (4, .int x4), (5, .int x5)]) (hf : f_X5_most_23b ag7 x0 x1 x2 x3 M0 ag23 x4 x5 = some q), W p l e (rmD 1) s m args below meth c H locs 0 0 (MQ below (QI D cA ad A q M0) args s 0 0 A) (F0 m 23 ls []) := by
    intro x0 x1 x2 x3 x4 x5 ag7 hg7 ag23 hg23 H locs ls hW hl hf
    unfold f_X5_most_23b at hf
    refine lv_iload hx hb dX5_most_23 (lv_at hl 5 rfl) ?_
    refine lv_aload_n hx hb dX5_most_25 rfl (lv_at hl 0 rfl) ?_
    obtain ⟨v10, hv10, hf⟩ := ob hf
    refine r_gI hC hK hW cfX5 (by decide) wF_X5_31 rfl hv10 dX5_most_26 ?_
    refine lv_icmp_ge (tgt := 57) hx hb dX5_most_29 (by decide) (fun c29 => ?_) (fun c29 => ?_)
    · have hf := it c29 hf
      refine lv_iload_n hx hb dX5_most_57 rfl (lv_at hl 1 rfl) ?_
      refine lv_istore (lv' := [(5, .int x1), (0, .ref (ad x0)), (1, .int x1), (2, .int x2), (3, .int x3), (4, .int x4)]) hx hb dX5_most_58 hl (by decide) rfl (fun ls hl => ?_)
      exact J60 x0 x1 x2 x3 x4 x1 ag7 hg7 _ _ _ hW (lv_sub hl [1, 2, 3, 4, 5, 0] rfl) hf
    · have hf := ie c29 hf
      refine lv_iload hx hb dX5_most_32 (lv_at hl 4 rfl) ?_
      refine lv_iload_n hx hb dX5_most_34 rfl (lv_at hl 3 rfl) ?_
      refine lv_iload hx hb dX5_most_35 (lv_at hl 5 rfl) ?_
      refine lv_ishr hx hb dX5_most_37 ?_
      refine lv_iconst (v := (1 : Int32)) hx hb dX5_most_38 (by decide) ?_
      refine lv_iand hx hb dX5_most_39 ?_
      refine lv_aload_n hx hb dX5_most_40 rfl (lv_at hl 0 rfl) ?_
      obtain ⟨r11, hr11, hf⟩ := ob hf
      refine r_gR hC hK hW cfX5 (by decide) wF_X5_18 rfl hr11 dX5_most_41 ?_
      refine lv_iload hx hb dX5_most_44 (lv_at hl 5 rfl) ?_
      obtain ⟨v12, hv12, hf⟩ := ob hf
      refine r_aI hC hK hW hv12 dX5_most_46 ?_
      refine lv_imul hx hb dX5_most_47 ?_
      refine lv_iadd hx hb dX5_most_48 ?_
      refine lv_istore (lv' := [(4, .int (x4 + (((x3 >>> (x5 &&& 31)) &&& (1 : Int32)) * v12))), (0, .ref (ad x0)), (1, .int x1), (2, .int x2), (3, .int x3), (5, .int x5)]) hx hb dX5_most_49 hl (by decide) rfl (fun ls hl => ?_)
      refine lv_iinc (v := (x5 + (1 : Int32))) (lv' := [(5, .int (x5 + (1 : Int32))), (4, .int (x4 + (((x3 >>> (x5 &&& 31)) &&& (1 : Int32)) * v12))), (0, .ref (ad x0)), (1, .int x1), (2, .int x2), (3, .int x3)]) hx hb dX5_most_51 hl (k := 5) rfl rfl (by decide) rfl (fun ls hl => ?_)
      refine lv_goto (tgt := 23) hx hb dX5_most_54 (by decide) ?_
      exact hg23 (x4 + (((x3 >>> (x5 &&& 31)) &&& (1 : Int32)) * v12)) (x5 + (1 : Int32)) _ _ _ hW (lv_sub hl [2, 3, 4, 5, 1, 0] rfl) hf
  have J23 : ∀ (x0 : Nat) (x1 : Int32) (x2 : Int32) (x3 : Int32) (x4 : Int32) (x5 : Int32) (ag7 : Int32 × Int32 → Option Int32) (hg7 : ∀ (x2 : Int32) (x3 : Int32) (H : Heap) (locs : List Loc) (ls : Array Slot) (_ : Wd D cA ad A s M0 H locs) (_ : lv_has ls 6 [(0, .ref (ad x0)), (1, .int x1), (2, .int x2), (3, .int x3)]) (_ : ag7 (x2, x3) = some q), W p l e (rmD 1) s m args below meth c H locs 0 0 (MQ below (QI D cA ad A q M0) args s 0 0 A) (F0 m 7 ls [])) (H : Heap) (locs : List Loc) (ls : Array Slot) (hW : Wd D cA ad A s M0 H locs) (hl : lv_has ls 6 [(0, .ref (ad x0)), (1, .int x1), (2, .int x2), (3, .int x3), (4, .int x4), (5, .int x5)]) (hf : f_X5_most_23 ag7 x0 x1 x2 x3 M0 x4 x5 = some q), W p l e (rmD 1) s m args below meth c H locs 0 0 (MQ below (QI D cA ad A q M0) args s 0 0 A) (F0 m 23 ls []) := by
    intro x0 x1 x2 x3 x4 x5 ag7 hg7 H locs ls hW hl hf
    unfold f_X5_most_23 at hf
    have key : ∀ (n : Nat) (x4 : Int32) (x5 : Int32) (H : Heap) (locs : List Loc) (ls : Array Slot) (hW : Wd D cA ad A s M0 H locs) (hl : lv_has ls 6 [(0, .ref (ad x0)), (1, .int x1), (2, .int x2), (3, .int x3), (4, .int x4), (5, .int x5)]) (hf : loopF (fun ag s => f_X5_most_23b ag7 x0 x1 x2 x3 M0 ag s.1 s.2) n (x4, x5) = some q), W p l e (rmD 1) s m args below meth c H locs 0 0 (MQ below (QI D cA ad A q M0) args s 0 0 A) (F0 m 23 ls []) := by
      intro n
      induction n with
      | zero => intro x4 x5 H locs ls hW hl hf; exact nomatch (show (none : Option _) = some _ from hf)
      | succ n ih => intro x4 x5 H locs ls hW hl hf; exact B23 x0 x1 x2 x3 x4 x5 ag7 hg7 _ ih H locs ls hW hl hf
    exact key FU x4 x5 H locs ls hW hl hf
  have B7 : ∀ (x0 : Nat) (x1 : Int32) (x2 : Int32) (x3 : Int32)  (ag7 : Int32 × Int32 → Option Int32) (hg7 : ∀ (x2 : Int32) (x3 : Int32) (H : Heap) (locs : List Loc) (ls : Array Slot) (_ : Wd D cA ad A s M0 H locs) (_ : lv_has ls 6 [(0, .ref (ad x0)), (1, .int x1), (2, .int x2), (3, .int x3)]) (_ : ag7 (x2, x3) = some q), W p l e (rmD 1) s m args below meth c H locs 0 0 (MQ below (QI D cA ad A q M0) args s 0 0 A) (F0 m 7 ls [])) (H : Heap) (locs : List Loc) (ls : Array Slot) (hW : Wd D cA ad A s M0 H locs) (hl : lv_has ls 6 [(0, .ref (ad x0)), (1, .int x1), (2, .int x2), (3, .int x3)]) (hf : f_X5_most_7b  x0 x1 M0 ag7 x2 x3 = some q), W p l e (rmD 1) s m args below meth c H locs 0 0 (MQ below (QI D cA ad A q M0) args s 0 0 A) (F0 m 7 ls []) := by
    intro x0 x1 x2 x3  ag7 hg7 H locs ls hW hl hf
    unfold f_X5_most_7b at hf
    refine lv_iload_n hx hb dX5_most_7 rfl (lv_at hl 3 rfl) ?_
    refine lv_iconst (v := (1 : Int32)) hx hb dX5_most_8 (by decide) ?_
    refine lv_aload_n hx hb dX5_most_9 rfl (lv_at hl 0 rfl) ?_
    obtain ⟨v14, hv14, hf⟩ := ob hf
    refine r_gI hC hK hW cfX5 (by decide) wF_X5_31 rfl hv14 dX5_most_10 ?_
    refine lv_ishl hx hb dX5_most_13 ?_
    refine lv_icmp_ge (tgt := 112) hx hb dX5_most_14 (by decide) (fun c14 => ?_) (fun c14 => ?_)
    · have hf := it c14 hf
      refine lv_iload_n hx hb dX5_most_112 rfl (lv_at hl 2 rfl) ?_
      exact r_iretP hC hr hlk hW hf dX5_most_113
    · have hf := ie c14 hf
      refine lv_iconst (v := (0 : Int32)) hx hb dX5_most_17 (by decide) ?_
      refine lv_istore (lv' := [(4, .int (0 : Int32)), (0, .ref (ad x0)), (1, .int x1), (2, .int x2), (3, .int x3)]) hx hb dX5_most_18 hl (by decide) rfl (fun ls hl => ?_)
      refine lv_iconst (v := (0 : Int32)) hx hb dX5_most_20 (by decide) ?_
      refine lv_istore (lv' := [(5, .int (0 : Int32)), (4, .int (0 : Int32)), (0, .ref (ad x0)), (1, .int x1), (2, .int x2), (3, .int x3)]) hx hb dX5_most_21 hl (by decide) rfl (fun ls hl => ?_)
      exact J23 x0 x1 x2 x3 (0 : Int32) (0 : Int32) ag7 hg7 _ _ _ hW (lv_sub hl [2, 3, 4, 5, 1, 0] rfl) hf
  have J7 : ∀ (x0 : Nat) (x1 : Int32) (x2 : Int32) (x3 : Int32)  (H : Heap) (locs : List Loc) (ls : Array Slot) (hW : Wd D cA ad A s M0 H locs) (hl : lv_has ls 6 [(0, .ref (ad x0)), (1, .int x1), (2, .int x2), (3, .int x3)]) (hf : f_X5_most_7  x0 x1 M0 x2 x3 = some q), W p l e (rmD 1) s m args below meth c H locs 0 0 (MQ below (QI D cA ad A q M0) args s 0 0 A) (F0 m 7 ls []) := by
    intro x0 x1 x2 x3  H locs ls hW hl hf
    unfold f_X5_most_7 at hf
    have key : ∀ (n : Nat) (x2 : Int32) (x3 : Int32) (H : Heap) (locs : List Loc) (ls : Array Slot) (hW : Wd D cA ad A s M0 H locs) (hl : lv_has ls 6 [(0, .ref (ad x0)), (1, .int x1), (2, .int x2), (3, .int x3)]) (hf : loopF (fun ag s => f_X5_most_7b  x0 x1 M0 ag s.1 s.2) n (x2, x3) = some q), W p l e (rmD 1) s m args below meth c H locs 0 0 (MQ below (QI D cA ad A q M0) args s 0 0 A) (F0 m 7 ls []) := by
      intro n
      induction n with
      | zero => intro x2 x3 H locs ls hW hl hf; exact nomatch (show (none : Option _) = some _ from hf)
      | succ n ih => intro x2 x3 H locs ls hW hl hf; exact B7 x0 x1 x2 x3  _ ih H locs ls hW hl hf
    exact key FU x2 x3 H locs ls hW hl hf
  have hf := hf0
  unfold f_X5_most at hf
  refine lv_aload_n hx hb dX5_most_0 rfl (lv_at hl 0 rfl) ?_
  obtain ⟨v16, hv16, hf⟩ := ob hf
  refine r_gI hC hK hW cfX5 (by decide) wF_X5_27 rfl hv16 dX5_most_1 ?_
  refine lv_istore_n (lv' := [(2, .int v16), (0, .ref (ad a0)), (1, .int a1)]) hx hb dX5_most_4 rfl hl (by decide) rfl (fun ls hl => ?_)
  refine lv_iconst (v := (0 : Int32)) hx hb dX5_most_5 (by decide) ?_
  refine lv_istore_n (lv' := [(3, .int (0 : Int32)), (2, .int v16), (0, .ref (ad a0)), (1, .int a1)]) hx hb dX5_most_6 rfl hl (by decide) rfl (fun ls hl => ?_)
  exact J7 a0 a1 v16 (0 : Int32) _ _ _ hW (lv_sub hl [2, 3, 1, 0] rfl) hf
set_option maxHeartbeats 4000000 in
set_option maxRecDepth 100000 in
theorem c_X5_firstFor (l : Launch) {D : va_G} {cA : Nat → ClassId} {ad : Nat → Nat} {A : Nat → Prop} (hAd : AdOk ad A) {a0 : Nat} {a1 : Int32} {a2 : Int32} {M0 : Mem} {q : (Int32 × Mem)} (hf0 : f_X5_firstFor a0 a1 a2 M0 = some q) : Met l yX5_firstFor (wd yX5_firstFor cX5_firstFor 4 (some .int)) (rmD 2) (PcW D cA ad [.ref (ad a0), .int a1, .int a2] M0) (QI D cA ad A q.1 q.2) 0 0 A := by
  refine mk_met (own := RX5) (by decide +kernel) rfl (Nat.le_of_ble_eq_true rfl) ?_
  intro p e s m args below meth c hC hr hlk hK H locs ls hW hl
  have hx := hC.1
  have hb := hC.2.1
  have hl : lv_has ls 4 [(0, .ref (ad a0)), (1, .int a1), (2, .int a2)] := hl
  have B2 : ∀ (x0 : Nat) (x1 : Int32) (x2 : Int32) (x3 : Int32) (M : Mem)  (ag2 : Int32 × Mem → Option (Int32 × Mem)) (hg2 : ∀ (x3 : Int32) (M : Mem) (H : Heap) (locs : List Loc) (ls : Array Slot) (_ : Wd D cA ad A s M H locs) (_ : lv_has ls 4 [(0, .ref (ad x0)), (1, .int x1), (2, .int x2), (3, .int x3)]) (_ : ag2 (x3, M) = some q), W p l e (rmD 2) s m args below meth c H locs 0 0 (MQ below (QI D cA ad A q.1 q.2) args s 0 0 A) (F0 m 2 ls [])) (H : Heap) (locs : List Loc) (ls : Array Slot) (hW : Wd D cA ad A s M H locs) (hl : lv_has ls 4 [(0, .ref (ad x0)), (1, .int x1), (2, .int x2), (3, .int x3)]) (hf : f_X5_firstFor_2b  x0 x1 x2 ag2 x3 M = some q), W p l e (rmD 2) s m args below meth c H locs 0 0 (MQ below (QI D cA ad A q.1 q.2) args s 0 0 A) (F0 m 2 ls []) := by
    intro x0 x1 x2 x3 M  ag2 hg2 H locs ls hW hl hf
    unfold f_X5_firstFor_2b at hf
    refine lv_iload_n hx hb dX5_firstFor_2 rfl (lv_at hl 3 rfl) ?_
    refine lv_aload_n hx hb dX5_firstFor_3 rfl (lv_at hl 0 rfl) ?_
    obtain ⟨v13, hv13, hf⟩ := ob hf
    refine r_gI hC hK hW cfX5 (by decide) wF_X5_31 rfl hv13 dX5_firstFor_4 ?_
    refine lv_icmp_ge (tgt := 74) hx hb dX5_firstFor_7 (by decide) (fun c7 => ?_) (fun c7 => ?_)
    · have hf := it c7 hf
      refine lv_bipush (v := (-9 : Int32)) hx hb dX5_firstFor_74 (by decide) ?_
      exact r_iret hC hr hlk hW hf dX5_firstFor_76
    · have hf := ie c7 hf
      refine lv_aload_n hx hb dX5_firstFor_10 rfl (lv_at hl 0 rfl) ?_
      obtain ⟨r14, hr14, hf⟩ := ob hf
      refine r_gR hC hK hW cfX5 (by decide) wF_X5_15 rfl hr14 dX5_firstFor_11 ?_
      refine lv_iload_n hx hb dX5_firstFor_14 rfl (lv_at hl 1 rfl) ?_
      obtain ⟨v15, hv15, hf⟩ := ob hf
      refine r_aI hC hK hW hv15 dX5_firstFor_15 ?_
      refine lv_iload_n hx hb dX5_firstFor_16 rfl (lv_at hl 3 rfl) ?_
      refine lv_ishr hx hb dX5_firstFor_17 ?_
      refine lv_iconst (v := (1 : Int32)) hx hb dX5_firstFor_18 (by decide) ?_
      refine lv_iand hx hb dX5_firstFor_19 ?_
      refine lv_iconst (v := (1 : Int32)) hx hb dX5_firstFor_20 (by decide) ?_
      refine lv_icmp_ne (tgt := 68) hx hb dX5_firstFor_21 (by decide) (fun c21 => ?_) (fun c21 => ?_)
      · have hf := ie c21 hf
        refine lv_iinc (v := (x3 + (1 : Int32))) (lv' := [(3, .int (x3 + (1 : Int32))), (0, .ref (ad x0)), (1, .int x1), (2, .int x2)]) hx hb dX5_firstFor_68 hl (k := 3) rfl rfl (by decide) rfl (fun ls hl => ?_)
        refine lv_goto (tgt := 2) hx hb dX5_firstFor_71 (by decide) ?_
        exact hg2 (x3 + (1 : Int32)) M _ _ _ hW (lv_sub hl [1, 2, 3, 0] rfl) hf
      · have hf := it c21 hf
        refine lv_aload_n hx hb dX5_firstFor_24 rfl (lv_at hl 0 rfl) ?_
        obtain ⟨r16, hr16, hf⟩ := ob hf
        refine r_gR hC hK hW cfX5 (by decide) wF_X5_18 rfl hr16 dX5_firstFor_25 ?_
        refine lv_iload_n hx hb dX5_firstFor_28 rfl (lv_at hl 3 rfl) ?_
        obtain ⟨v17, hv17, hf⟩ := ob hf
        refine r_aI hC hK hW hv17 dX5_firstFor_29 ?_
        refine lv_if_le (tgt := 68) hx hb dX5_firstFor_30 (by decide) (fun c30 => ?_) (fun c30 => ?_)
        · have hf := it c30 hf
          refine lv_iinc (v := (x3 + (1 : Int32))) (lv' := [(3, .int (x3 + (1 : Int32))), (0, .ref (ad x0)), (1, .int x1), (2, .int x2)]) hx hb dX5_firstFor_68 hl (k := 3) rfl rfl (by decide) rfl (fun ls hl => ?_)
          refine lv_goto (tgt := 2) hx hb dX5_firstFor_71 (by decide) ?_
          exact hg2 (x3 + (1 : Int32)) M _ _ _ hW (lv_sub hl [1, 2, 3, 0] rfl) hf
        · have hf := ie c30 hf
          refine lv_aload_n hx hb dX5_firstFor_33 rfl (lv_at hl 0 rfl) ?_
          obtain ⟨r18, hr18, hf⟩ := ob hf
          refine r_gR hC hK hW cfX5 (by decide) wF_X5_18 rfl hr18 dX5_firstFor_34 ?_
          refine lv_iload_n hx hb dX5_firstFor_37 rfl (lv_at hl 3 rfl) ?_
          refine lv_dup2_11 hx hb dX5_firstFor_38 rfl rfl ?_
          obtain ⟨v19, hv19, hf⟩ := ob hf
          refine r_aI hC hK hW hv19 dX5_firstFor_39 ?_
          refine lv_iconst (v := (1 : Int32)) hx hb dX5_firstFor_40 (by decide) ?_
          refine lv_isub hx hb dX5_firstFor_41 ?_
          obtain ⟨M20, hM20, hf⟩ := ob hf
          refine r_sI hC hK hAd hW hM20 dX5_firstFor_42 (fun H locs hW => ?_)
          refine lv_iconst (v := (1 : Int32)) hx hb dX5_firstFor_43 (by decide) ?_
          refine lv_aload_n hx hb dX5_firstFor_44 rfl (lv_at hl 0 rfl) ?_
          refine lv_iload_n hx hb dX5_firstFor_45 rfl (lv_at hl 1 rfl) ?_
          refine lv_iconst (v := (1 : Int32)) hx hb dX5_firstFor_46 (by decide) ?_
          refine lv_iadd hx hb dX5_firstFor_47 ?_
          obtain ⟨q21, hq21, hf⟩ := ob hf
          refine k_vI hC hK hW cfX5 (c_X5_most l hAd (cv_s hq21).2) (cv_s hq21).1 my_X5_most wI_X5_most wQ_X5_most wM_X5_46 ⟨Nat.le_of_ble_eq_true rfl, Nat.le_of_ble_eq_true rfl⟩ rfl hl.1 rfl (Nat.le_of_ble_eq_true rfl) ⟨Nat.zero_le _, Nat.zero_le _⟩ dX5_firstFor_48 (fun H locs hW => ?_)
          refine lv_iadd hx hb dX5_firstFor_51 ?_
          refine lv_iload_n hx hb dX5_firstFor_52 rfl (lv_at hl 2 rfl) ?_
          refine lv_icmp_ne (tgt := 58) hx hb dX5_firstFor_53 (by decide) (fun c53 => ?_) (fun c53 => ?_)
          · have hf := ie c53 hf
            refine lv_aload_n hx hb dX5_firstFor_58 rfl (lv_at hl 0 rfl) ?_
            obtain ⟨r22, hr22, hf⟩ := ob hf
            refine r_gR hC hK hW cfX5 (by decide) wF_X5_18 rfl hr22 dX5_firstFor_59 ?_
            refine lv_iload_n hx hb dX5_firstFor_62 rfl (lv_at hl 3 rfl) ?_
            refine lv_dup2_11 hx hb dX5_firstFor_63 rfl rfl ?_
            obtain ⟨v23, hv23, hf⟩ := ob hf
            refine r_aI hC hK hW hv23 dX5_firstFor_64 ?_
            refine lv_iconst (v := (1 : Int32)) hx hb dX5_firstFor_65 (by decide) ?_
            refine lv_iadd hx hb dX5_firstFor_66 ?_
            obtain ⟨M24, hM24, hf⟩ := ob hf
            refine r_sI hC hK hAd hW hM24 dX5_firstFor_67 (fun H locs hW => ?_)
            refine lv_iinc (v := (x3 + (1 : Int32))) (lv' := [(3, .int (x3 + (1 : Int32))), (0, .ref (ad x0)), (1, .int x1), (2, .int x2)]) hx hb dX5_firstFor_68 hl (k := 3) rfl rfl (by decide) rfl (fun ls hl => ?_)
            refine lv_goto (tgt := 2) hx hb dX5_firstFor_71 (by decide) ?_
            exact hg2 (x3 + (1 : Int32)) M24 _ _ _ hW (lv_sub hl [1, 2, 3, 0] rfl) hf
          · have hf := it c53 hf
            refine lv_iload_n hx hb dX5_firstFor_56 rfl (lv_at hl 3 rfl) ?_
            exact r_iret hC hr hlk hW hf dX5_firstFor_57
  have J2 : ∀ (x0 : Nat) (x1 : Int32) (x2 : Int32) (x3 : Int32) (M : Mem)  (H : Heap) (locs : List Loc) (ls : Array Slot) (hW : Wd D cA ad A s M H locs) (hl : lv_has ls 4 [(0, .ref (ad x0)), (1, .int x1), (2, .int x2), (3, .int x3)]) (hf : f_X5_firstFor_2  x0 x1 x2 x3 M = some q), W p l e (rmD 2) s m args below meth c H locs 0 0 (MQ below (QI D cA ad A q.1 q.2) args s 0 0 A) (F0 m 2 ls []) := by
    intro x0 x1 x2 x3 M  H locs ls hW hl hf
    unfold f_X5_firstFor_2 at hf
    have key : ∀ (n : Nat) (x3 : Int32) (M : Mem) (H : Heap) (locs : List Loc) (ls : Array Slot) (hW : Wd D cA ad A s M H locs) (hl : lv_has ls 4 [(0, .ref (ad x0)), (1, .int x1), (2, .int x2), (3, .int x3)]) (hf : loopF (fun ag s => f_X5_firstFor_2b  x0 x1 x2 ag s.1 s.2) n (x3, M) = some q), W p l e (rmD 2) s m args below meth c H locs 0 0 (MQ below (QI D cA ad A q.1 q.2) args s 0 0 A) (F0 m 2 ls []) := by
      intro n
      induction n with
      | zero => intro x3 M H locs ls hW hl hf; exact nomatch (show (none : Option _) = some _ from hf)
      | succ n ih => intro x3 M H locs ls hW hl hf; exact B2 x0 x1 x2 x3 M  _ ih H locs ls hW hl hf
    exact key FU x3 M H locs ls hW hl hf
  have hf := hf0
  unfold f_X5_firstFor at hf
  refine lv_iconst (v := (0 : Int32)) hx hb dX5_firstFor_0 (by decide) ?_
  refine lv_istore_n (lv' := [(3, .int (0 : Int32)), (0, .ref (ad a0)), (1, .int a1), (2, .int a2)]) hx hb dX5_firstFor_1 rfl hl (by decide) rfl (fun ls hl => ?_)
  exact J2 a0 a1 a2 (0 : Int32) M0 _ _ _ hW (lv_sub hl [1, 2, 3, 0] rfl) hf
set_option maxHeartbeats 4000000 in
set_option maxRecDepth 100000 in
theorem c_X5_share (l : Launch) {D : va_G} {cA : Nat → ClassId} {ad : Nat → Nat} {A : Nat → Prop} (hAd : AdOk ad A) {a0 : Nat} {a1 : Nat} {a2 : Nat} {M0 : Mem} {q : (Int32 × Mem)} (hf0 : f_X5_share a0 a1 a2 M0 = some q) : Met l yX5_share (wd yX5_share cX5_share 6 (some .int)) (rmD 3) (PcW D cA ad [.ref (ad a0), .ref (ad a1), .ref (ad a2)] M0) (QI D cA ad A q.1 q.2) 0 0 A := by
  refine mk_met (own := RX5) (by decide +kernel) rfl (Nat.le_of_ble_eq_true rfl) ?_
  intro p e s m args below meth c hC hr hlk hK H locs ls hW hl
  have hx := hC.1
  have hb := hC.2.1
  have hl : lv_has ls 6 [(0, .ref (ad a0)), (1, .ref (ad a1)), (2, .ref (ad a2))] := hl
  have B71 : ∀ (x0 : Nat) (x3 : Int32) (x4 : Int32) (x5 : Int32) (M : Mem)  (ag71 : Int32 × Int32 × Mem → Option (Int32 × Mem)) (hg71 : ∀ (x4 : Int32) (x5 : Int32) (M : Mem) (H : Heap) (locs : List Loc) (ls : Array Slot) (_ : Wd D cA ad A s M H locs) (_ : lv_has ls 6 [(0, .ref (ad x0)), (3, .int x3), (4, .int x4), (5, .int x5)]) (_ : ag71 (x4, x5, M) = some q), W p l e (rmD 3) s m args below meth c H locs 0 0 (MQ below (QI D cA ad A q.1 q.2) args s 0 0 A) (F0 m 71 ls [])) (H : Heap) (locs : List Loc) (ls : Array Slot) (hW : Wd D cA ad A s M H locs) (hl : lv_has ls 6 [(0, .ref (ad x0)), (3, .int x3), (4, .int x4), (5, .int x5)]) (hf : f_X5_share_71b  x0 x3 ag71 x4 x5 M = some q), W p l e (rmD 3) s m args below meth c H locs 0 0 (MQ below (QI D cA ad A q.1 q.2) args s 0 0 A) (F0 m 71 ls []) := by
    intro x0 x3 x4 x5 M  ag71 hg71 H locs ls hW hl hf
    unfold f_X5_share_71b at hf
    refine lv_iload hx hb dX5_share_71 (lv_at hl 3 rfl) ?_
    refine lv_aload_n hx hb dX5_share_73 rfl (lv_at hl 0 rfl) ?_
    obtain ⟨v7, hv7, hf⟩ := ob hf
    refine r_gI hC hK hW cfX5 (by decide) wF_X5_27 rfl hv7 dX5_share_74 ?_
    refine lv_icmp_ge (tgt := 116) hx hb dX5_share_77 (by decide) (fun c77 => ?_) (fun c77 => ?_)
    · have hf := it c77 hf
      refine lv_iload_n hx hb dX5_share_116 rfl (lv_at hl 1 rfl) ?_
      exact r_iret hC hr hlk hW hf dX5_share_117
    · have hf := ie c77 hf
      refine lv_aload_n hx hb dX5_share_80 rfl (lv_at hl 0 rfl) ?_
      obtain ⟨r8, hr8, hf⟩ := ob hf
      refine r_gR hC hK hW cfX5 (by decide) wF_X5_9 rfl hr8 dX5_share_81 ?_
      refine lv_iload hx hb dX5_share_84 (lv_at hl 3 rfl) ?_
      refine lv_aload_n hx hb dX5_share_86 rfl (lv_at hl 0 rfl) ?_
      refine lv_iload hx hb dX5_share_87 (lv_at hl 3 rfl) ?_
      refine lv_iload hx hb dX5_share_89 (lv_at hl 2 rfl) ?_
      obtain ⟨q9, hq9, hf⟩ := ob hf
      refine k_vI hC hK hW cfX5 (c_X5_firstFor l hAd (cv_s hq9).2) (cv_s hq9).1 my_X5_firstFor wI_X5_firstFor wQ_X5_firstFor wM_X5_50 ⟨Nat.le_of_ble_eq_true rfl, Nat.le_of_ble_eq_true rfl⟩ rfl hl.1 rfl (Nat.le_of_ble_eq_true rfl) ⟨Nat.zero_le _, Nat.zero_le _⟩ dX5_share_91 (fun H locs hW => ?_)
      obtain ⟨M10, hM10, hf⟩ := ob hf
      refine r_sI hC hK hAd hW hM10 dX5_share_94 (fun H locs hW => ?_)
      refine lv_aload_n hx hb dX5_share_95 rfl (lv_at hl 0 rfl) ?_
      obtain ⟨r11, hr11, hf⟩ := ob hf
      refine r_gR hC hK hW cfX5 (by decide) wF_X5_9 rfl hr11 dX5_share_96 ?_
      refine lv_iload hx hb dX5_share_99 (lv_at hl 3 rfl) ?_
      obtain ⟨v12, hv12, hf⟩ := ob hf
      refine r_aI hC hK hW hv12 dX5_share_101 ?_
      refine lv_bipush (v := (-9 : Int32)) hx hb dX5_share_102 (by decide) ?_
      refine lv_icmp_eq (tgt := 110) hx hb dX5_share_104 (by decide) (fun c104 => ?_) (fun c104 => ?_)
      · have hf := it c104 hf
        refine lv_iinc (v := (x5 + (1 : Int32))) (lv' := [(5, .int (x5 + (1 : Int32))), (0, .ref (ad x0)), (3, .int x3), (4, .int x4)]) hx hb dX5_share_110 hl (k := 3) rfl rfl (by decide) rfl (fun ls hl => ?_)
        refine lv_goto (tgt := 71) hx hb dX5_share_113 (by decide) ?_
        exact hg71 x4 (x5 + (1 : Int32)) M10 _ _ _ hW (lv_sub hl [1, 2, 3, 0] rfl) hf
      · have hf := ie c104 hf
        refine lv_iinc (v := (x4 + (-1 : Int32))) (lv' := [(4, .int (x4 + (-1 : Int32))), (0, .ref (ad x0)), (3, .int x3), (5, .int x5)]) hx hb dX5_share_107 hl (k := 2) rfl rfl (by decide) rfl (fun ls hl => ?_)
        refine lv_iinc (v := (x5 + (1 : Int32))) (lv' := [(5, .int (x5 + (1 : Int32))), (4, .int (x4 + (-1 : Int32))), (0, .ref (ad x0)), (3, .int x3)]) hx hb dX5_share_110 hl (k := 3) rfl rfl (by decide) rfl (fun ls hl => ?_)
        refine lv_goto (tgt := 71) hx hb dX5_share_113 (by decide) ?_
        exact hg71 (x4 + (-1 : Int32)) (x5 + (1 : Int32)) M10 _ _ _ hW (lv_sub hl [2, 3, 1, 0] rfl) hf
  have J71 : ∀ (x0 : Nat) (x3 : Int32) (x4 : Int32) (x5 : Int32) (M : Mem)  (H : Heap) (locs : List Loc) (ls : Array Slot) (hW : Wd D cA ad A s M H locs) (hl : lv_has ls 6 [(0, .ref (ad x0)), (3, .int x3), (4, .int x4), (5, .int x5)]) (hf : f_X5_share_71  x0 x3 x4 x5 M = some q), W p l e (rmD 3) s m args below meth c H locs 0 0 (MQ below (QI D cA ad A q.1 q.2) args s 0 0 A) (F0 m 71 ls []) := by
    intro x0 x3 x4 x5 M  H locs ls hW hl hf
    unfold f_X5_share_71 at hf
    have key : ∀ (n : Nat) (x4 : Int32) (x5 : Int32) (M : Mem) (H : Heap) (locs : List Loc) (ls : Array Slot) (hW : Wd D cA ad A s M H locs) (hl : lv_has ls 6 [(0, .ref (ad x0)), (3, .int x3), (4, .int x4), (5, .int x5)]) (hf : loopF (fun ag s => f_X5_share_71b  x0 x3 ag s.1 s.2.1 s.2.2) n (x4, x5, M) = some q), W p l e (rmD 3) s m args below meth c H locs 0 0 (MQ below (QI D cA ad A q.1 q.2) args s 0 0 A) (F0 m 71 ls []) := by
      intro n
      induction n with
      | zero => intro x4 x5 M H locs ls hW hl hf; exact nomatch (show (none : Option _) = some _ from hf)
      | succ n ih => intro x4 x5 M H locs ls hW hl hf; exact B71 x0 x3 x4 x5 M  _ ih H locs ls hW hl hf
    exact key FU x4 x5 M H locs ls hW hl hf
  have B33 : ∀ (x0 : Nat) (x1 : Nat) (x2 : Nat) (x3 : Int32) (M : Mem)  (ag33 : Int32 × Mem → Option (Int32 × Mem)) (hg33 : ∀ (x3 : Int32) (M : Mem) (H : Heap) (locs : List Loc) (ls : Array Slot) (_ : Wd D cA ad A s M H locs) (_ : lv_has ls 6 [(0, .ref (ad x0)), (1, .ref (ad x1)), (2, .ref (ad x2)), (3, .int x3)]) (_ : ag33 (x3, M) = some q), W p l e (rmD 3) s m args below meth c H locs 0 0 (MQ below (QI D cA ad A q.1 q.2) args s 0 0 A) (F0 m 33 ls [])) (H : Heap) (locs : List Loc) (ls : Array Slot) (hW : Wd D cA ad A s M H locs) (hl : lv_has ls 6 [(0, .ref (ad x0)), (1, .ref (ad x1)), (2, .ref (ad x2)), (3, .int x3)]) (hf : f_X5_share_33b  x0 x1 x2 ag33 x3 M = some q), W p l e (rmD 3) s m args below meth c H locs 0 0 (MQ below (QI D cA ad A q.1 q.2) args s 0 0 A) (F0 m 33 ls []) := by
    intro x0 x1 x2 x3 M  ag33 hg33 H locs ls hW hl hf
    unfold f_X5_share_33b at hf
    refine lv_iload_n hx hb dX5_share_33 rfl (lv_at hl 3 rfl) ?_
    refine lv_aload_n hx hb dX5_share_34 rfl (lv_at hl 0 rfl) ?_
    obtain ⟨v18, hv18, hf⟩ := ob hf
    refine r_gI hC hK hW cfX5 (by decide) wF_X5_27 rfl hv18 dX5_share_35 ?_
    refine lv_icmp_ge (tgt := 59) hx hb dX5_share_38 (by decide) (fun c38 => ?_) (fun c38 => ?_)
    · have hf := it c38 hf
      refine lv_aload_n hx hb dX5_share_59 rfl (lv_at hl 0 rfl) ?_
      refine lv_iconst (v := (0 : Int32)) hx hb dX5_share_60 (by decide) ?_
      obtain ⟨q19, hq19, hf⟩ := ob hf
      refine k_vI hC hK hW cfX5 (c_X5_most l hAd (cv_s hq19).2) (cv_s hq19).1 my_X5_most wI_X5_most wQ_X5_most wM_X5_46 ⟨Nat.le_of_ble_eq_true rfl, Nat.le_of_ble_eq_true rfl⟩ rfl hl.1 rfl (Nat.le_of_ble_eq_true rfl) ⟨Nat.zero_le _, Nat.zero_le _⟩ dX5_share_61 (fun H locs hW => ?_)
      refine lv_istore_n (lv' := [(3, .int q19), (0, .ref (ad x0)), (1, .ref (ad x1)), (2, .ref (ad x2))]) hx hb dX5_share_64 rfl hl (by decide) rfl (fun ls hl => ?_)
      refine lv_iload_n hx hb dX5_share_65 rfl (lv_at hl 0 rfl) ?_
      refine lv_istore (lv' := [(4, .int q19), (3, .int q19), (0, .ref (ad x0)), (1, .ref (ad x1)), (2, .ref (ad x2))]) hx hb dX5_share_66 hl (by decide) rfl (fun ls hl => ?_)
      refine lv_iconst (v := (0 : Int32)) hx hb dX5_share_68 (by decide) ?_
      refine lv_istore (lv' := [(5, .int (0 : Int32)), (4, .int q19), (3, .int q19), (0, .ref (ad x0)), (1, .ref (ad x1)), (2, .ref (ad x2))]) hx hb dX5_share_69 hl (by decide) rfl (fun ls hl => ?_)
      exact J71 x0 q19 q19 (0 : Int32) M _ _ _ hW (lv_sub hl [3, 2, 1, 0] rfl) hf
    · have hf := ie c38 hf
      refine lv_aload_n hx hb dX5_share_41 rfl (lv_at hl 0 rfl) ?_
      obtain ⟨r20, hr20, hf⟩ := ob hf
      refine r_gR hC hK hW cfX5 (by decide) wF_X5_15 rfl hr20 dX5_share_42 ?_
      refine lv_iload_n hx hb dX5_share_45 rfl (lv_at hl 3 rfl) ?_
      refine lv_aload_n hx hb dX5_share_46 rfl (lv_at hl 1 rfl) ?_
      refine lv_aload_n hx hb dX5_share_47 rfl (lv_at hl 2 rfl) ?_
      refine lv_iload_n hx hb dX5_share_48 rfl (lv_at hl 3 rfl) ?_
      obtain ⟨q21, hq21, hf⟩ := ob hf
      refine k_vI hC hK hW cfX8 (c_X8_needs l hAd (cv_s hq21).2) (cv_s hq21).1 my_X8_needs wI_X8_needs wQ_X8_needs wM_X5_43 ⟨Nat.le_of_ble_eq_true rfl, Nat.le_of_ble_eq_true rfl⟩ rfl hl.1 rfl (Nat.le_of_ble_eq_true rfl) ⟨Nat.zero_le _, Nat.zero_le _⟩ dX5_share_49 (fun H locs hW => ?_)
      obtain ⟨M22, hM22, hf⟩ := ob hf
      refine r_sI hC hK hAd hW hM22 dX5_share_52 (fun H locs hW => ?_)
      refine lv_iinc (v := (x3 + (1 : Int32))) (lv' := [(3, .int (x3 + (1 : Int32))), (0, .ref (ad x0)), (1, .ref (ad x1)), (2, .ref (ad x2))]) hx hb dX5_share_53 hl (k := 3) rfl rfl (by decide) rfl (fun ls hl => ?_)
      refine lv_goto (tgt := 33) hx hb dX5_share_56 (by decide) ?_
      exact hg33 (x3 + (1 : Int32)) M22 _ _ _ hW (lv_sub hl [1, 2, 3, 0] rfl) hf
  have J33 : ∀ (x0 : Nat) (x1 : Nat) (x2 : Nat) (x3 : Int32) (M : Mem)  (H : Heap) (locs : List Loc) (ls : Array Slot) (hW : Wd D cA ad A s M H locs) (hl : lv_has ls 6 [(0, .ref (ad x0)), (1, .ref (ad x1)), (2, .ref (ad x2)), (3, .int x3)]) (hf : f_X5_share_33  x0 x1 x2 x3 M = some q), W p l e (rmD 3) s m args below meth c H locs 0 0 (MQ below (QI D cA ad A q.1 q.2) args s 0 0 A) (F0 m 33 ls []) := by
    intro x0 x1 x2 x3 M  H locs ls hW hl hf
    unfold f_X5_share_33 at hf
    have key : ∀ (n : Nat) (x3 : Int32) (M : Mem) (H : Heap) (locs : List Loc) (ls : Array Slot) (hW : Wd D cA ad A s M H locs) (hl : lv_has ls 6 [(0, .ref (ad x0)), (1, .ref (ad x1)), (2, .ref (ad x2)), (3, .int x3)]) (hf : loopF (fun ag s => f_X5_share_33b  x0 x1 x2 ag s.1 s.2) n (x3, M) = some q), W p l e (rmD 3) s m args below meth c H locs 0 0 (MQ below (QI D cA ad A q.1 q.2) args s 0 0 A) (F0 m 33 ls []) := by
      intro n
      induction n with
      | zero => intro x3 M H locs ls hW hl hf; exact nomatch (show (none : Option _) = some _ from hf)
      | succ n ih => intro x3 M H locs ls hW hl hf; exact B33 x0 x1 x2 x3 M  _ ih H locs ls hW hl hf
    exact key FU x3 M H locs ls hW hl hf
  have hf := hf0
  unfold f_X5_share at hf
  refine lv_aload_n hx hb dX5_share_0 rfl (lv_at hl 0 rfl) ?_
  refine lv_aload_n hx hb dX5_share_1 rfl (lv_at hl 1 rfl) ?_
  obtain ⟨v30, hv30, hf⟩ := ob hf
  refine r_gI hC hK hW cfX8 (by decide) wF_X5_21 rfl hv30 dX5_share_2 ?_
  obtain ⟨M31, hM31, hf⟩ := ob hf
  refine r_pI hC hK hAd hW cfX5 (by decide) wF_X5_27 rfl rfl rfl hM31 dX5_share_5 (fun H locs hW => ?_)
  refine lv_aload_n hx hb dX5_share_8 rfl (lv_at hl 0 rfl) ?_
  refine lv_aload_n hx hb dX5_share_9 rfl (lv_at hl 1 rfl) ?_
  obtain ⟨v32, hv32, hf⟩ := ob hf
  refine r_gI hC hK hW cfX8 (by decide) wF_X5_28 rfl hv32 dX5_share_10 ?_
  obtain ⟨M33, hM33, hf⟩ := ob hf
  refine r_pI hC hK hAd hW cfX5 (by decide) wF_X5_31 rfl rfl rfl hM33 dX5_share_13 (fun H locs hW => ?_)
  refine lv_aload_n hx hb dX5_share_16 rfl (lv_at hl 2 rfl) ?_
  obtain ⟨r34, hr34, hf⟩ := ob hf
  refine r_gR hC hK hW cfX7 (by decide) wF_X5_32 rfl hr34 dX5_share_17 ?_
  refine lv_iconst (v := (0 : Int32)) hx hb dX5_share_20 (by decide) ?_
  refine lv_aload_n hx hb dX5_share_21 rfl (lv_at hl 0 rfl) ?_
  obtain ⟨r35, hr35, hf⟩ := ob hf
  refine r_gR hC hK hW cfX5 (by decide) wF_X5_18 rfl hr35 dX5_share_22 ?_
  refine lv_iconst (v := (0 : Int32)) hx hb dX5_share_25 (by decide) ?_
  refine lv_bipush (v := (6 : Int32)) hx hb dX5_share_26 (by decide) ?_
  obtain ⟨M36, hM36, hf⟩ := ob hf
  refine r_cp hC hK hAd hW wM_X5_37 hl.1 hM36 dX5_share_28 (fun H locs hW => ?_)
  refine lv_iconst (v := (0 : Int32)) hx hb dX5_share_31 (by decide) ?_
  refine lv_istore_n (lv' := [(3, .int (0 : Int32)), (0, .ref (ad a0)), (1, .ref (ad a1)), (2, .ref (ad a2))]) hx hb dX5_share_32 rfl hl (by decide) rfl (fun ls hl => ?_)
  exact J33 a0 a1 a2 (0 : Int32) M36 _ _ _ hW (lv_sub hl [1, 2, 3, 0] rfl) hf
set_option maxHeartbeats 4000000 in
set_option maxRecDepth 100000 in
theorem c_X8_reachedBy (l : Launch) {D : va_G} {cA : Nat → ClassId} {ad : Nat → Nat} {A : Nat → Prop} (hAd : AdOk ad A) {a0 : Nat} {a1 : Nat} {a2 : Int32} {M0 : Mem} {q : Int32} (hf0 : f_X8_reachedBy a0 a1 a2 M0 = some q) : Met l yX8_reachedBy (wd yX8_reachedBy cX8_reachedBy 5 (some .int)) (rmD 4) (PcW D cA ad [.ref (ad a0), .ref (ad a1), .int a2] M0) (QI D cA ad A q M0) 0 0 A := by
  refine mk_met (own := RX8) (by decide +kernel) rfl (Nat.le_of_ble_eq_true rfl) ?_
  intro p e s m args below meth c hC hr hlk hK H locs ls hW hl
  have hx := hC.1
  have hb := hC.2.1
  have hl : lv_has ls 5 [(0, .ref (ad a0)), (1, .ref (ad a1)), (2, .int a2)] := hl
  have B5 : ∀ (x0 : Nat) (x1 : Nat) (x2 : Int32) (x3 : Int32) (x4 : Int32)  (ag5 : Int32 × Int32 → Option Int32) (hg5 : ∀ (x3 : Int32) (x4 : Int32) (H : Heap) (locs : List Loc) (ls : Array Slot) (_ : Wd D cA ad A s M0 H locs) (_ : lv_has ls 5 [(0, .ref (ad x0)), (1, .ref (ad x1)), (2, .int x2), (3, .int x3), (4, .int x4)]) (_ : ag5 (x3, x4) = some q), W p l e (rmD 4) s m args below meth c H locs 0 0 (MQ below (QI D cA ad A q M0) args s 0 0 A) (F0 m 5 ls [])) (H : Heap) (locs : List Loc) (ls : Array Slot) (hW : Wd D cA ad A s M0 H locs) (hl : lv_has ls 5 [(0, .ref (ad x0)), (1, .ref (ad x1)), (2, .int x2), (3, .int x3), (4, .int x4)]) (hf : f_X8_reachedBy_5b  x0 x1 x2 M0 ag5 x3 x4 = some q), W p l e (rmD 4) s m args below meth c H locs 0 0 (MQ below (QI D cA ad A q M0) args s 0 0 A) (F0 m 5 ls []) := by
    intro x0 x1 x2 x3 x4  ag5 hg5 H locs ls hW hl hf
    unfold f_X8_reachedBy_5b at hf
    refine lv_iload hx hb dX8_reachedBy_5 (lv_at hl 4 rfl) ?_
    refine lv_aload_n hx hb dX8_reachedBy_7 rfl (lv_at hl 0 rfl) ?_
    obtain ⟨v4, hv4, hf⟩ := ob hf
    refine r_gI hC hK hW cfX8 (by decide) wF_X8_38 rfl hv4 dX8_reachedBy_8 ?_
    refine lv_icmp_ge (tgt := 42) hx hb dX8_reachedBy_11 (by decide) (fun c11 => ?_) (fun c11 => ?_)
    · have hf := it c11 hf
      refine lv_iload_n hx hb dX8_reachedBy_42 rfl (lv_at hl 3 rfl) ?_
      exact r_iretP hC hr hlk hW hf dX8_reachedBy_43
    · have hf := ie c11 hf
      refine lv_aload_n hx hb dX8_reachedBy_14 rfl (lv_at hl 0 rfl) ?_
      refine lv_aload_n hx hb dX8_reachedBy_15 rfl (lv_at hl 1 rfl) ?_
      refine lv_iload_n hx hb dX8_reachedBy_16 rfl (lv_at hl 2 rfl) ?_
      refine lv_iload hx hb dX8_reachedBy_17 (lv_at hl 4 rfl) ?_
      refine lv_aload_n hx hb dX8_reachedBy_19 rfl (lv_at hl 1 rfl) ?_
      obtain ⟨v5, hv5, hf⟩ := ob hf
      refine r_gI hC hK hW cfX7 (by decide) wF_X8_50 rfl hv5 dX8_reachedBy_20 ?_
      obtain ⟨q6, hq6, hf⟩ := ob hf
      refine k_vI hC hK hW cfX8 (c_X8_reaches l hAd (cv_s hq6).2) (cv_s hq6).1 my_X8_reaches wI_X8_reaches wQ_X8_reaches wM_X8_64 ⟨Nat.le_of_ble_eq_true rfl, Nat.le_of_ble_eq_true rfl⟩ rfl hl.1 rfl (Nat.le_of_ble_eq_true rfl) ⟨Nat.zero_le _, Nat.zero_le _⟩ dX8_reachedBy_23 (fun H locs hW => ?_)
      refine lv_if_eq (tgt := 36) hx hb dX8_reachedBy_26 (by decide) (fun c26 => ?_) (fun c26 => ?_)
      · have hf := it c26 hf
        refine lv_iinc (v := (x4 + (1 : Int32))) (lv' := [(4, .int (x4 + (1 : Int32))), (0, .ref (ad x0)), (1, .ref (ad x1)), (2, .int x2), (3, .int x3)]) hx hb dX8_reachedBy_36 hl (k := 4) rfl rfl (by decide) rfl (fun ls hl => ?_)
        refine lv_goto (tgt := 5) hx hb dX8_reachedBy_39 (by decide) ?_
        exact hg5 x3 (x4 + (1 : Int32)) _ _ _ hW (lv_sub hl [1, 2, 3, 4, 0] rfl) hf
      · have hf := ie c26 hf
        refine lv_iload_n hx hb dX8_reachedBy_29 rfl (lv_at hl 3 rfl) ?_
        refine lv_iconst (v := (1 : Int32)) hx hb dX8_reachedBy_30 (by decide) ?_
        refine lv_iload hx hb dX8_reachedBy_31 (lv_at hl 4 rfl) ?_
        refine lv_ishl hx hb dX8_reachedBy_33 ?_
        refine lv_ior hx hb dX8_reachedBy_34 ?_
        refine lv_istore_n (lv' := [(3, .int (x3 ||| ((1 : Int32) <<< (x4 &&& 31)))), (0, .ref (ad x0)), (1, .ref (ad x1)), (2, .int x2), (4, .int x4)]) hx hb dX8_reachedBy_35 rfl hl (by decide) rfl (fun ls hl => ?_)
        refine lv_iinc (v := (x4 + (1 : Int32))) (lv' := [(4, .int (x4 + (1 : Int32))), (3, .int (x3 ||| ((1 : Int32) <<< (x4 &&& 31)))), (0, .ref (ad x0)), (1, .ref (ad x1)), (2, .int x2)]) hx hb dX8_reachedBy_36 hl (k := 4) rfl rfl (by decide) rfl (fun ls hl => ?_)
        refine lv_goto (tgt := 5) hx hb dX8_reachedBy_39 (by decide) ?_
        exact hg5 (x3 ||| ((1 : Int32) <<< (x4 &&& 31))) (x4 + (1 : Int32)) _ _ _ hW (lv_sub hl [2, 3, 4, 1, 0] rfl) hf
  have J5 : ∀ (x0 : Nat) (x1 : Nat) (x2 : Int32) (x3 : Int32) (x4 : Int32)  (H : Heap) (locs : List Loc) (ls : Array Slot) (hW : Wd D cA ad A s M0 H locs) (hl : lv_has ls 5 [(0, .ref (ad x0)), (1, .ref (ad x1)), (2, .int x2), (3, .int x3), (4, .int x4)]) (hf : f_X8_reachedBy_5  x0 x1 x2 M0 x3 x4 = some q), W p l e (rmD 4) s m args below meth c H locs 0 0 (MQ below (QI D cA ad A q M0) args s 0 0 A) (F0 m 5 ls []) := by
    intro x0 x1 x2 x3 x4  H locs ls hW hl hf
    unfold f_X8_reachedBy_5 at hf
    have key : ∀ (n : Nat) (x3 : Int32) (x4 : Int32) (H : Heap) (locs : List Loc) (ls : Array Slot) (hW : Wd D cA ad A s M0 H locs) (hl : lv_has ls 5 [(0, .ref (ad x0)), (1, .ref (ad x1)), (2, .int x2), (3, .int x3), (4, .int x4)]) (hf : loopF (fun ag s => f_X8_reachedBy_5b  x0 x1 x2 M0 ag s.1 s.2) n (x3, x4) = some q), W p l e (rmD 4) s m args below meth c H locs 0 0 (MQ below (QI D cA ad A q M0) args s 0 0 A) (F0 m 5 ls []) := by
      intro n
      induction n with
      | zero => intro x3 x4 H locs ls hW hl hf; exact nomatch (show (none : Option _) = some _ from hf)
      | succ n ih => intro x3 x4 H locs ls hW hl hf; exact B5 x0 x1 x2 x3 x4  _ ih H locs ls hW hl hf
    exact key FU x3 x4 H locs ls hW hl hf
  have hf := hf0
  unfold f_X8_reachedBy at hf
  refine lv_iconst (v := (0 : Int32)) hx hb dX8_reachedBy_0 (by decide) ?_
  refine lv_istore_n (lv' := [(3, .int (0 : Int32)), (0, .ref (ad a0)), (1, .ref (ad a1)), (2, .int a2)]) hx hb dX8_reachedBy_1 rfl hl (by decide) rfl (fun ls hl => ?_)
  refine lv_iconst (v := (0 : Int32)) hx hb dX8_reachedBy_2 (by decide) ?_
  refine lv_istore (lv' := [(4, .int (0 : Int32)), (3, .int (0 : Int32)), (0, .ref (ad a0)), (1, .ref (ad a1)), (2, .int a2)]) hx hb dX8_reachedBy_3 hl (by decide) rfl (fun ls hl => ?_)
  exact J5 a0 a1 a2 (0 : Int32) (0 : Int32) _ _ _ hW (lv_sub hl [2, 3, 4, 1, 0] rfl) hf
set_option maxHeartbeats 4000000 in
set_option maxRecDepth 100000 in
theorem c_J6_bitCount_0f7a4 (l : Launch) {D : va_G} {cA : Nat → ClassId} {ad : Nat → Nat} {A : Nat → Prop} (hAd : AdOk ad A) {a0 : Int32} {M0 : Mem} {q : Int32} (hf0 : f_J6_bitCount_0f7a4 a0 M0 = some q) : Met l yJ6_bitCount_0f7a4 (wd yJ6_bitCount_0f7a4 cJ6_bitCount_0f7a4 1 (some .int)) (rmD 0) (PcW D cA ad [.int a0] M0) (QI D cA ad A q M0) 0 0 A := by
  refine mk_met (own := RJ6) (by decide +kernel) rfl (Nat.le_of_ble_eq_true rfl) ?_
  intro p e s m args below meth c hC hr hlk hK H locs ls hW hl
  have hx := hC.1
  have hb := hC.2.1
  have hl : lv_has ls 1 [(0, .int a0)] := hl
  have hf := hf0
  unfold f_J6_bitCount_0f7a4 at hf
  refine lv_iload_n hx hb dJ6_bitCount_0f7a4_0 rfl (lv_at hl 0 rfl) ?_
  refine lv_iload_n hx hb dJ6_bitCount_0f7a4_1 rfl (lv_at hl 0 rfl) ?_
  refine lv_iconst (v := (1 : Int32)) hx hb dJ6_bitCount_0f7a4_2 (by decide) ?_
  refine lv_iushr (v := ((a0).toUInt32 >>> (((1 : Int32) : Int32).toUInt32 &&& Int32.toUInt32 31)).toInt32) hx hb dJ6_bitCount_0f7a4_3 rfl ?_
  refine lv_ldcw hx hb hC.2.2.2.1 (hC.2.2.2.2 _ wA_J6_265) dJ6_bitCount_0f7a4_4 ?_
  refine lv_iand hx hb dJ6_bitCount_0f7a4_7 ?_
  refine lv_isub hx hb dJ6_bitCount_0f7a4_8 ?_
  refine lv_istore_n (lv' := [(0, .int (a0 - (((a0).toUInt32 >>> (((1 : Int32) : Int32).toUInt32 &&& Int32.toUInt32 31)).toInt32 &&& (1431655765 : Int32))))]) hx hb dJ6_bitCount_0f7a4_9 rfl hl (by decide) rfl (fun ls hl => ?_)
  refine lv_iload_n hx hb dJ6_bitCount_0f7a4_10 rfl (lv_at hl 0 rfl) ?_
  refine lv_ldcw hx hb hC.2.2.2.1 (hC.2.2.2.2 _ wA_J6_266) dJ6_bitCount_0f7a4_11 ?_
  refine lv_iand hx hb dJ6_bitCount_0f7a4_14 ?_
  refine lv_iload_n hx hb dJ6_bitCount_0f7a4_15 rfl (lv_at hl 0 rfl) ?_
  refine lv_iconst (v := (2 : Int32)) hx hb dJ6_bitCount_0f7a4_16 (by decide) ?_
  refine lv_iushr (v := (((a0 - (((a0).toUInt32 >>> (((1 : Int32) : Int32).toUInt32 &&& Int32.toUInt32 31)).toInt32 &&& (1431655765 : Int32)))).toUInt32 >>> (((2 : Int32) : Int32).toUInt32 &&& Int32.toUInt32 31)).toInt32) hx hb dJ6_bitCount_0f7a4_17 rfl ?_
  refine lv_ldcw hx hb hC.2.2.2.1 (hC.2.2.2.2 _ wA_J6_266) dJ6_bitCount_0f7a4_18 ?_
  refine lv_iand hx hb dJ6_bitCount_0f7a4_21 ?_
  refine lv_iadd hx hb dJ6_bitCount_0f7a4_22 ?_
  refine lv_istore_n (lv' := [(0, .int (((a0 - (((a0).toUInt32 >>> (((1 : Int32) : Int32).toUInt32 &&& Int32.toUInt32 31)).toInt32 &&& (1431655765 : Int32))) &&& (858993459 : Int32)) + ((((a0 - (((a0).toUInt32 >>> (((1 : Int32) : Int32).toUInt32 &&& Int32.toUInt32 31)).toInt32 &&& (1431655765 : Int32)))).toUInt32 >>> (((2 : Int32) : Int32).toUInt32 &&& Int32.toUInt32 31)).toInt32 &&& (858993459 : Int32))))]) hx hb dJ6_bitCount_0f7a4_23 rfl hl (by decide) rfl (fun ls hl => ?_)
  refine lv_iload_n hx hb dJ6_bitCount_0f7a4_24 rfl (lv_at hl 0 rfl) ?_
  refine lv_iload_n hx hb dJ6_bitCount_0f7a4_25 rfl (lv_at hl 0 rfl) ?_
  refine lv_iconst (v := (4 : Int32)) hx hb dJ6_bitCount_0f7a4_26 (by decide) ?_
  refine lv_iushr (v := (((((a0 - (((a0).toUInt32 >>> (((1 : Int32) : Int32).toUInt32 &&& Int32.toUInt32 31)).toInt32 &&& (1431655765 : Int32))) &&& (858993459 : Int32)) + ((((a0 - (((a0).toUInt32 >>> (((1 : Int32) : Int32).toUInt32 &&& Int32.toUInt32 31)).toInt32 &&& (1431655765 : Int32)))).toUInt32 >>> (((2 : Int32) : Int32).toUInt32 &&& Int32.toUInt32 31)).toInt32 &&& (858993459 : Int32)))).toUInt32 >>> (((4 : Int32) : Int32).toUInt32 &&& Int32.toUInt32 31)).toInt32) hx hb dJ6_bitCount_0f7a4_27 rfl ?_
  refine lv_iadd hx hb dJ6_bitCount_0f7a4_28 ?_
  refine lv_ldcw hx hb hC.2.2.2.1 (hC.2.2.2.2 _ wA_J6_267) dJ6_bitCount_0f7a4_29 ?_
  refine lv_iand hx hb dJ6_bitCount_0f7a4_32 ?_
  refine lv_istore_n (lv' := [(0, .int (((((a0 - (((a0).toUInt32 >>> (((1 : Int32) : Int32).toUInt32 &&& Int32.toUInt32 31)).toInt32 &&& (1431655765 : Int32))) &&& (858993459 : Int32)) + ((((a0 - (((a0).toUInt32 >>> (((1 : Int32) : Int32).toUInt32 &&& Int32.toUInt32 31)).toInt32 &&& (1431655765 : Int32)))).toUInt32 >>> (((2 : Int32) : Int32).toUInt32 &&& Int32.toUInt32 31)).toInt32 &&& (858993459 : Int32))) + (((((a0 - (((a0).toUInt32 >>> (((1 : Int32) : Int32).toUInt32 &&& Int32.toUInt32 31)).toInt32 &&& (1431655765 : Int32))) &&& (858993459 : Int32)) + ((((a0 - (((a0).toUInt32 >>> (((1 : Int32) : Int32).toUInt32 &&& Int32.toUInt32 31)).toInt32 &&& (1431655765 : Int32)))).toUInt32 >>> (((2 : Int32) : Int32).toUInt32 &&& Int32.toUInt32 31)).toInt32 &&& (858993459 : Int32)))).toUInt32 >>> (((4 : Int32) : Int32).toUInt32 &&& Int32.toUInt32 31)).toInt32) &&& (252645135 : Int32)))]) hx hb dJ6_bitCount_0f7a4_33 rfl hl (by decide) rfl (fun ls hl => ?_)
  refine lv_iload_n hx hb dJ6_bitCount_0f7a4_34 rfl (lv_at hl 0 rfl) ?_
  refine lv_iload_n hx hb dJ6_bitCount_0f7a4_35 rfl (lv_at hl 0 rfl) ?_
  refine lv_bipush (v := (8 : Int32)) hx hb dJ6_bitCount_0f7a4_36 (by decide) ?_
  refine lv_iushr (v := (((((((a0 - (((a0).toUInt32 >>> (((1 : Int32) : Int32).toUInt32 &&& Int32.toUInt32 31)).toInt32 &&& (1431655765 : Int32))) &&& (858993459 : Int32)) + ((((a0 - (((a0).toUInt32 >>> (((1 : Int32) : Int32).toUInt32 &&& Int32.toUInt32 31)).toInt32 &&& (1431655765 : Int32)))).toUInt32 >>> (((2 : Int32) : Int32).toUInt32 &&& Int32.toUInt32 31)).toInt32 &&& (858993459 : Int32))) + (((((a0 - (((a0).toUInt32 >>> (((1 : Int32) : Int32).toUInt32 &&& Int32.toUInt32 31)).toInt32 &&& (1431655765 : Int32))) &&& (858993459 : Int32)) + ((((a0 - (((a0).toUInt32 >>> (((1 : Int32) : Int32).toUInt32 &&& Int32.toUInt32 31)).toInt32 &&& (1431655765 : Int32)))).toUInt32 >>> (((2 : Int32) : Int32).toUInt32 &&& Int32.toUInt32 31)).toInt32 &&& (858993459 : Int32)))).toUInt32 >>> (((4 : Int32) : Int32).toUInt32 &&& Int32.toUInt32 31)).toInt32) &&& (252645135 : Int32))).toUInt32 >>> (((8 : Int32) : Int32).toUInt32 &&& Int32.toUInt32 31)).toInt32) hx hb dJ6_bitCount_0f7a4_38 rfl ?_
  refine lv_iadd hx hb dJ6_bitCount_0f7a4_39 ?_
  refine lv_istore_n (lv' := [(0, .int ((((((a0 - (((a0).toUInt32 >>> (((1 : Int32) : Int32).toUInt32 &&& Int32.toUInt32 31)).toInt32 &&& (1431655765 : Int32))) &&& (858993459 : Int32)) + ((((a0 - (((a0).toUInt32 >>> (((1 : Int32) : Int32).toUInt32 &&& Int32.toUInt32 31)).toInt32 &&& (1431655765 : Int32)))).toUInt32 >>> (((2 : Int32) : Int32).toUInt32 &&& Int32.toUInt32 31)).toInt32 &&& (858993459 : Int32))) + (((((a0 - (((a0).toUInt32 >>> (((1 : Int32) : Int32).toUInt32 &&& Int32.toUInt32 31)).toInt32 &&& (1431655765 : Int32))) &&& (858993459 : Int32)) + ((((a0 - (((a0).toUInt32 >>> (((1 : Int32) : Int32).toUInt32 &&& Int32.toUInt32 31)).toInt32 &&& (1431655765 : Int32)))).toUInt32 >>> (((2 : Int32) : Int32).toUInt32 &&& Int32.toUInt32 31)).toInt32 &&& (858993459 : Int32)))).toUInt32 >>> (((4 : Int32) : Int32).toUInt32 &&& Int32.toUInt32 31)).toInt32) &&& (252645135 : Int32)) + (((((((a0 - (((a0).toUInt32 >>> (((1 : Int32) : Int32).toUInt32 &&& Int32.toUInt32 31)).toInt32 &&& (1431655765 : Int32))) &&& (858993459 : Int32)) + ((((a0 - (((a0).toUInt32 >>> (((1 : Int32) : Int32).toUInt32 &&& Int32.toUInt32 31)).toInt32 &&& (1431655765 : Int32)))).toUInt32 >>> (((2 : Int32) : Int32).toUInt32 &&& Int32.toUInt32 31)).toInt32 &&& (858993459 : Int32))) + (((((a0 - (((a0).toUInt32 >>> (((1 : Int32) : Int32).toUInt32 &&& Int32.toUInt32 31)).toInt32 &&& (1431655765 : Int32))) &&& (858993459 : Int32)) + ((((a0 - (((a0).toUInt32 >>> (((1 : Int32) : Int32).toUInt32 &&& Int32.toUInt32 31)).toInt32 &&& (1431655765 : Int32)))).toUInt32 >>> (((2 : Int32) : Int32).toUInt32 &&& Int32.toUInt32 31)).toInt32 &&& (858993459 : Int32)))).toUInt32 >>> (((4 : Int32) : Int32).toUInt32 &&& Int32.toUInt32 31)).toInt32) &&& (252645135 : Int32))).toUInt32 >>> (((8 : Int32) : Int32).toUInt32 &&& Int32.toUInt32 31)).toInt32))]) hx hb dJ6_bitCount_0f7a4_40 rfl hl (by decide) rfl (fun ls hl => ?_)
  refine lv_iload_n hx hb dJ6_bitCount_0f7a4_41 rfl (lv_at hl 0 rfl) ?_
  refine lv_iload_n hx hb dJ6_bitCount_0f7a4_42 rfl (lv_at hl 0 rfl) ?_
  refine lv_bipush (v := (16 : Int32)) hx hb dJ6_bitCount_0f7a4_43 (by decide) ?_
  refine lv_iushr (v := ((((((((a0 - (((a0).toUInt32 >>> (((1 : Int32) : Int32).toUInt32 &&& Int32.toUInt32 31)).toInt32 &&& (1431655765 : Int32))) &&& (858993459 : Int32)) + ((((a0 - (((a0).toUInt32 >>> (((1 : Int32) : Int32).toUInt32 &&& Int32.toUInt32 31)).toInt32 &&& (1431655765 : Int32)))).toUInt32 >>> (((2 : Int32) : Int32).toUInt32 &&& Int32.toUInt32 31)).toInt32 &&& (858993459 : Int32))) + (((((a0 - (((a0).toUInt32 >>> (((1 : Int32) : Int32).toUInt32 &&& Int32.toUInt32 31)).toInt32 &&& (1431655765 : Int32))) &&& (858993459 : Int32)) + ((((a0 - (((a0).toUInt32 >>> (((1 : Int32) : Int32).toUInt32 &&& Int32.toUInt32 31)).toInt32 &&& (1431655765 : Int32)))).toUInt32 >>> (((2 : Int32) : Int32).toUInt32 &&& Int32.toUInt32 31)).toInt32 &&& (858993459 : Int32)))).toUInt32 >>> (((4 : Int32) : Int32).toUInt32 &&& Int32.toUInt32 31)).toInt32) &&& (252645135 : Int32)) + (((((((a0 - (((a0).toUInt32 >>> (((1 : Int32) : Int32).toUInt32 &&& Int32.toUInt32 31)).toInt32 &&& (1431655765 : Int32))) &&& (858993459 : Int32)) + ((((a0 - (((a0).toUInt32 >>> (((1 : Int32) : Int32).toUInt32 &&& Int32.toUInt32 31)).toInt32 &&& (1431655765 : Int32)))).toUInt32 >>> (((2 : Int32) : Int32).toUInt32 &&& Int32.toUInt32 31)).toInt32 &&& (858993459 : Int32))) + (((((a0 - (((a0).toUInt32 >>> (((1 : Int32) : Int32).toUInt32 &&& Int32.toUInt32 31)).toInt32 &&& (1431655765 : Int32))) &&& (858993459 : Int32)) + ((((a0 - (((a0).toUInt32 >>> (((1 : Int32) : Int32).toUInt32 &&& Int32.toUInt32 31)).toInt32 &&& (1431655765 : Int32)))).toUInt32 >>> (((2 : Int32) : Int32).toUInt32 &&& Int32.toUInt32 31)).toInt32 &&& (858993459 : Int32)))).toUInt32 >>> (((4 : Int32) : Int32).toUInt32 &&& Int32.toUInt32 31)).toInt32) &&& (252645135 : Int32))).toUInt32 >>> (((8 : Int32) : Int32).toUInt32 &&& Int32.toUInt32 31)).toInt32)).toUInt32 >>> (((16 : Int32) : Int32).toUInt32 &&& Int32.toUInt32 31)).toInt32) hx hb dJ6_bitCount_0f7a4_45 rfl ?_
  refine lv_iadd hx hb dJ6_bitCount_0f7a4_46 ?_
  refine lv_istore_n (lv' := [(0, .int (((((((a0 - (((a0).toUInt32 >>> (((1 : Int32) : Int32).toUInt32 &&& Int32.toUInt32 31)).toInt32 &&& (1431655765 : Int32))) &&& (858993459 : Int32)) + ((((a0 - (((a0).toUInt32 >>> (((1 : Int32) : Int32).toUInt32 &&& Int32.toUInt32 31)).toInt32 &&& (1431655765 : Int32)))).toUInt32 >>> (((2 : Int32) : Int32).toUInt32 &&& Int32.toUInt32 31)).toInt32 &&& (858993459 : Int32))) + (((((a0 - (((a0).toUInt32 >>> (((1 : Int32) : Int32).toUInt32 &&& Int32.toUInt32 31)).toInt32 &&& (1431655765 : Int32))) &&& (858993459 : Int32)) + ((((a0 - (((a0).toUInt32 >>> (((1 : Int32) : Int32).toUInt32 &&& Int32.toUInt32 31)).toInt32 &&& (1431655765 : Int32)))).toUInt32 >>> (((2 : Int32) : Int32).toUInt32 &&& Int32.toUInt32 31)).toInt32 &&& (858993459 : Int32)))).toUInt32 >>> (((4 : Int32) : Int32).toUInt32 &&& Int32.toUInt32 31)).toInt32) &&& (252645135 : Int32)) + (((((((a0 - (((a0).toUInt32 >>> (((1 : Int32) : Int32).toUInt32 &&& Int32.toUInt32 31)).toInt32 &&& (1431655765 : Int32))) &&& (858993459 : Int32)) + ((((a0 - (((a0).toUInt32 >>> (((1 : Int32) : Int32).toUInt32 &&& Int32.toUInt32 31)).toInt32 &&& (1431655765 : Int32)))).toUInt32 >>> (((2 : Int32) : Int32).toUInt32 &&& Int32.toUInt32 31)).toInt32 &&& (858993459 : Int32))) + (((((a0 - (((a0).toUInt32 >>> (((1 : Int32) : Int32).toUInt32 &&& Int32.toUInt32 31)).toInt32 &&& (1431655765 : Int32))) &&& (858993459 : Int32)) + ((((a0 - (((a0).toUInt32 >>> (((1 : Int32) : Int32).toUInt32 &&& Int32.toUInt32 31)).toInt32 &&& (1431655765 : Int32)))).toUInt32 >>> (((2 : Int32) : Int32).toUInt32 &&& Int32.toUInt32 31)).toInt32 &&& (858993459 : Int32)))).toUInt32 >>> (((4 : Int32) : Int32).toUInt32 &&& Int32.toUInt32 31)).toInt32) &&& (252645135 : Int32))).toUInt32 >>> (((8 : Int32) : Int32).toUInt32 &&& Int32.toUInt32 31)).toInt32) + ((((((((a0 - (((a0).toUInt32 >>> (((1 : Int32) : Int32).toUInt32 &&& Int32.toUInt32 31)).toInt32 &&& (1431655765 : Int32))) &&& (858993459 : Int32)) + ((((a0 - (((a0).toUInt32 >>> (((1 : Int32) : Int32).toUInt32 &&& Int32.toUInt32 31)).toInt32 &&& (1431655765 : Int32)))).toUInt32 >>> (((2 : Int32) : Int32).toUInt32 &&& Int32.toUInt32 31)).toInt32 &&& (858993459 : Int32))) + (((((a0 - (((a0).toUInt32 >>> (((1 : Int32) : Int32).toUInt32 &&& Int32.toUInt32 31)).toInt32 &&& (1431655765 : Int32))) &&& (858993459 : Int32)) + ((((a0 - (((a0).toUInt32 >>> (((1 : Int32) : Int32).toUInt32 &&& Int32.toUInt32 31)).toInt32 &&& (1431655765 : Int32)))).toUInt32 >>> (((2 : Int32) : Int32).toUInt32 &&& Int32.toUInt32 31)).toInt32 &&& (858993459 : Int32)))).toUInt32 >>> (((4 : Int32) : Int32).toUInt32 &&& Int32.toUInt32 31)).toInt32) &&& (252645135 : Int32)) + (((((((a0 - (((a0).toUInt32 >>> (((1 : Int32) : Int32).toUInt32 &&& Int32.toUInt32 31)).toInt32 &&& (1431655765 : Int32))) &&& (858993459 : Int32)) + ((((a0 - (((a0).toUInt32 >>> (((1 : Int32) : Int32).toUInt32 &&& Int32.toUInt32 31)).toInt32 &&& (1431655765 : Int32)))).toUInt32 >>> (((2 : Int32) : Int32).toUInt32 &&& Int32.toUInt32 31)).toInt32 &&& (858993459 : Int32))) + (((((a0 - (((a0).toUInt32 >>> (((1 : Int32) : Int32).toUInt32 &&& Int32.toUInt32 31)).toInt32 &&& (1431655765 : Int32))) &&& (858993459 : Int32)) + ((((a0 - (((a0).toUInt32 >>> (((1 : Int32) : Int32).toUInt32 &&& Int32.toUInt32 31)).toInt32 &&& (1431655765 : Int32)))).toUInt32 >>> (((2 : Int32) : Int32).toUInt32 &&& Int32.toUInt32 31)).toInt32 &&& (858993459 : Int32)))).toUInt32 >>> (((4 : Int32) : Int32).toUInt32 &&& Int32.toUInt32 31)).toInt32) &&& (252645135 : Int32))).toUInt32 >>> (((8 : Int32) : Int32).toUInt32 &&& Int32.toUInt32 31)).toInt32)).toUInt32 >>> (((16 : Int32) : Int32).toUInt32 &&& Int32.toUInt32 31)).toInt32))]) hx hb dJ6_bitCount_0f7a4_47 rfl hl (by decide) rfl (fun ls hl => ?_)
  refine lv_iload_n hx hb dJ6_bitCount_0f7a4_48 rfl (lv_at hl 0 rfl) ?_
  refine lv_bipush (v := (63 : Int32)) hx hb dJ6_bitCount_0f7a4_49 (by decide) ?_
  refine lv_iand hx hb dJ6_bitCount_0f7a4_51 ?_
  exact r_iretP hC hr hlk hW hf dJ6_bitCount_0f7a4_52
set_option maxHeartbeats 4000000 in
set_option maxRecDepth 100000 in
theorem c_X8_hasEnough (l : Launch) {D : va_G} {cA : Nat → ClassId} {ad : Nat → Nat} {A : Nat → Prop} (hAd : AdOk ad A) {a0 : Nat} {a1 : Nat} {a2 : Int32} {M0 : Mem} {q : Int32} (hf0 : f_X8_hasEnough a0 a1 a2 M0 = some q) : Met l yX8_hasEnough (wd yX8_hasEnough cX8_hasEnough 5 (some .boolean)) (rmD 1) (PcW D cA ad [.ref (ad a0), .ref (ad a1), .int a2] M0) (QI D cA ad A q M0) 0 0 A := by
  refine mk_met (own := RX8) (by decide +kernel) rfl (Nat.le_of_ble_eq_true rfl) ?_
  intro p e s m args below meth c hC hr hlk hK H locs ls hW hl
  have hx := hC.1
  have hb := hC.2.1
  have hl : lv_has ls 5 [(0, .ref (ad a0)), (1, .ref (ad a1)), (2, .int a2)] := hl
  have B5 : ∀ (x0 : Nat) (x1 : Nat) (x2 : Int32) (x3 : Int32) (x4 : Int32)  (ag5 : Int32 × Int32 → Option Int32) (hg5 : ∀ (x3 : Int32) (x4 : Int32) (H : Heap) (locs : List Loc) (ls : Array Slot) (_ : Wd D cA ad A s M0 H locs) (_ : lv_has ls 5 [(0, .ref (ad x0)), (1, .ref (ad x1)), (2, .int x2), (3, .int x3), (4, .int x4)]) (_ : ag5 (x3, x4) = some q), W p l e (rmD 1) s m args below meth c H locs 0 0 (MQ below (QI D cA ad A q M0) args s 0 0 A) (F0 m 5 ls [])) (H : Heap) (locs : List Loc) (ls : Array Slot) (hW : Wd D cA ad A s M0 H locs) (hl : lv_has ls 5 [(0, .ref (ad x0)), (1, .ref (ad x1)), (2, .int x2), (3, .int x3), (4, .int x4)]) (hf : f_X8_hasEnough_5b  x0 x1 x2 M0 ag5 x3 x4 = some q), W p l e (rmD 1) s m args below meth c H locs 0 0 (MQ below (QI D cA ad A q M0) args s 0 0 A) (F0 m 5 ls []) := by
    intro x0 x1 x2 x3 x4  ag5 hg5 H locs ls hW hl hf
    unfold f_X8_hasEnough_5b at hf
    refine lv_iload hx hb dX8_hasEnough_5 (lv_at hl 4 rfl) ?_
    refine lv_aload_n hx hb dX8_hasEnough_7 rfl (lv_at hl 0 rfl) ?_
    obtain ⟨v5, hv5, hf⟩ := ob hf
    refine r_gI hC hK hW cfX8 (by decide) wF_X8_35 rfl hv5 dX8_hasEnough_8 ?_
    refine lv_icmp_ge (tgt := 34) hx hb dX8_hasEnough_11 (by decide) (fun c11 => ?_) (fun c11 => ?_)
    · have hf := it c11 hf
      refine lv_iload_n hx hb dX8_hasEnough_34 rfl (lv_at hl 3 rfl) ?_
      refine lv_aload_n hx hb dX8_hasEnough_35 rfl (lv_at hl 1 rfl) ?_
      obtain ⟨r6, hr6, hf⟩ := ob hf
      refine r_gR hC hK hW cfX7 (by decide) wF_X8_75 rfl hr6 dX8_hasEnough_36 ?_
      refine lv_iload_n hx hb dX8_hasEnough_39 rfl (lv_at hl 2 rfl) ?_
      obtain ⟨v7, hv7, hf⟩ := ob hf
      refine r_aI hC hK hW hv7 dX8_hasEnough_40 ?_
      refine lv_icmp_gt (tgt := 48) hx hb dX8_hasEnough_41 (by decide) (fun c41 => ?_) (fun c41 => ?_)
      · have hf := it c41 hf
        refine lv_iconst (v := (0 : Int32)) hx hb dX8_hasEnough_48 (by decide) ?_
        exact r_zretP hC hr hlk hW hf dX8_hasEnough_49
      · have hf := ie c41 hf
        refine lv_iconst (v := (1 : Int32)) hx hb dX8_hasEnough_44 (by decide) ?_
        refine lv_goto (tgt := 49) hx hb dX8_hasEnough_45 (by decide) ?_
        exact r_zretP hC hr hlk hW hf dX8_hasEnough_49
    · have hf := ie c11 hf
      refine lv_iload_n hx hb dX8_hasEnough_14 rfl (lv_at hl 3 rfl) ?_
      refine lv_aload_n hx hb dX8_hasEnough_15 rfl (lv_at hl 0 rfl) ?_
      refine lv_aload_n hx hb dX8_hasEnough_16 rfl (lv_at hl 1 rfl) ?_
      refine lv_iload hx hb dX8_hasEnough_17 (lv_at hl 4 rfl) ?_
      obtain ⟨q8, hq8, hf⟩ := ob hf
      refine k_vI hC hK hW cfX8 (c_X8_needs l hAd (cv_s hq8).2) (cv_s hq8).1 my_X8_needs wI_X8_needs wQ_X8_needs wM_X8_71 ⟨Nat.le_of_ble_eq_true rfl, Nat.le_of_ble_eq_true rfl⟩ rfl hl.1 rfl (Nat.le_of_ble_eq_true rfl) ⟨Nat.zero_le _, Nat.zero_le _⟩ dX8_hasEnough_19 (fun H locs hW => ?_)
      refine lv_iload_n hx hb dX8_hasEnough_22 rfl (lv_at hl 2 rfl) ?_
      refine lv_ishr hx hb dX8_hasEnough_23 ?_
      refine lv_iconst (v := (1 : Int32)) hx hb dX8_hasEnough_24 (by decide) ?_
      refine lv_iand hx hb dX8_hasEnough_25 ?_
      refine lv_iadd hx hb dX8_hasEnough_26 ?_
      refine lv_istore_n (lv' := [(3, .int (x3 + ((q8 >>> (x2 &&& 31)) &&& (1 : Int32)))), (0, .ref (ad x0)), (1, .ref (ad x1)), (2, .int x2), (4, .int x4)]) hx hb dX8_hasEnough_27 rfl hl (by decide) rfl (fun ls hl => ?_)
      refine lv_iinc (v := (x4 + (1 : Int32))) (lv' := [(4, .int (x4 + (1 : Int32))), (3, .int (x3 + ((q8 >>> (x2 &&& 31)) &&& (1 : Int32)))), (0, .ref (ad x0)), (1, .ref (ad x1)), (2, .int x2)]) hx hb dX8_hasEnough_28 hl (k := 4) rfl rfl (by decide) rfl (fun ls hl => ?_)
      refine lv_goto (tgt := 5) hx hb dX8_hasEnough_31 (by decide) ?_
      exact hg5 (x3 + ((q8 >>> (x2 &&& 31)) &&& (1 : Int32))) (x4 + (1 : Int32)) _ _ _ hW (lv_sub hl [2, 3, 4, 1, 0] rfl) hf
  have J5 : ∀ (x0 : Nat) (x1 : Nat) (x2 : Int32) (x3 : Int32) (x4 : Int32)  (H : Heap) (locs : List Loc) (ls : Array Slot) (hW : Wd D cA ad A s M0 H locs) (hl : lv_has ls 5 [(0, .ref (ad x0)), (1, .ref (ad x1)), (2, .int x2), (3, .int x3), (4, .int x4)]) (hf : f_X8_hasEnough_5  x0 x1 x2 M0 x3 x4 = some q), W p l e (rmD 1) s m args below meth c H locs 0 0 (MQ below (QI D cA ad A q M0) args s 0 0 A) (F0 m 5 ls []) := by
    intro x0 x1 x2 x3 x4  H locs ls hW hl hf
    unfold f_X8_hasEnough_5 at hf
    have key : ∀ (n : Nat) (x3 : Int32) (x4 : Int32) (H : Heap) (locs : List Loc) (ls : Array Slot) (hW : Wd D cA ad A s M0 H locs) (hl : lv_has ls 5 [(0, .ref (ad x0)), (1, .ref (ad x1)), (2, .int x2), (3, .int x3), (4, .int x4)]) (hf : loopF (fun ag s => f_X8_hasEnough_5b  x0 x1 x2 M0 ag s.1 s.2) n (x3, x4) = some q), W p l e (rmD 1) s m args below meth c H locs 0 0 (MQ below (QI D cA ad A q M0) args s 0 0 A) (F0 m 5 ls []) := by
      intro n
      induction n with
      | zero => intro x3 x4 H locs ls hW hl hf; exact nomatch (show (none : Option _) = some _ from hf)
      | succ n ih => intro x3 x4 H locs ls hW hl hf; exact B5 x0 x1 x2 x3 x4  _ ih H locs ls hW hl hf
    exact key FU x3 x4 H locs ls hW hl hf
  have hf := hf0
  unfold f_X8_hasEnough at hf
  refine lv_iconst (v := (0 : Int32)) hx hb dX8_hasEnough_0 (by decide) ?_
  refine lv_istore_n (lv' := [(3, .int (0 : Int32)), (0, .ref (ad a0)), (1, .ref (ad a1)), (2, .int a2)]) hx hb dX8_hasEnough_1 rfl hl (by decide) rfl (fun ls hl => ?_)
  refine lv_iconst (v := (0 : Int32)) hx hb dX8_hasEnough_2 (by decide) ?_
  refine lv_istore (lv' := [(4, .int (0 : Int32)), (3, .int (0 : Int32)), (0, .ref (ad a0)), (1, .ref (ad a1)), (2, .int a2)]) hx hb dX8_hasEnough_3 hl (by decide) rfl (fun ls hl => ?_)
  exact J5 a0 a1 a2 (0 : Int32) (0 : Int32) _ _ _ hW (lv_sub hl [2, 3, 4, 1, 0] rfl) hf
set_option maxHeartbeats 4000000 in
set_option maxRecDepth 100000 in
theorem c_J7_fill_53178 (l : Launch) {D : va_G} {cA : Nat → ClassId} {ad : Nat → Nat} {A : Nat → Prop} (hAd : AdOk ad A) {a0 : Nat} {a1 : Int32} {M0 : Mem} {q : Mem} (hf0 : f_J7_fill_53178 a0 a1 M0 = some q) : Met l yJ7_fill_53178 (wd yJ7_fill_53178 cJ7_fill_53178 4 none) (rmD 0) (PcW D cA ad [.ref (ad a0), .int a1] M0) (QV D cA ad A q) 0 0 A := by
  refine mk_met (own := RJ7) (by decide +kernel) rfl (Nat.le_of_ble_eq_true rfl) ?_
  intro p e s m args below meth c hC hr hlk hK H locs ls hW hl
  have hx := hC.1
  have hb := hC.2.1
  have hl : lv_has ls 4 [(0, .ref (ad a0)), (1, .int a1)] := hl
  have B5 : ∀ (x0 : Nat) (x1 : Int32) (x3 : Int32) (x2 : Int32) (M : Mem)  (ag5 : Int32 × Mem → Option Mem) (hg5 : ∀ (x2 : Int32) (M : Mem) (H : Heap) (locs : List Loc) (ls : Array Slot) (_ : Wd D cA ad A s M H locs) (_ : lv_has ls 4 [(0, .ref (ad x0)), (1, .int x1), (2, .int x2), (3, .int x3)]) (_ : ag5 (x2, M) = some q), W p l e (rmD 0) s m args below meth c H locs 0 0 (MQ below (QV D cA ad A q) args s 0 0 A) (F0 m 5 ls [])) (H : Heap) (locs : List Loc) (ls : Array Slot) (hW : Wd D cA ad A s M H locs) (hl : lv_has ls 4 [(0, .ref (ad x0)), (1, .int x1), (2, .int x2), (3, .int x3)]) (hf : f_J7_fill_53178_5b  x0 x1 x3 ag5 x2 M = some q), W p l e (rmD 0) s m args below meth c H locs 0 0 (MQ below (QV D cA ad A q) args s 0 0 A) (F0 m 5 ls []) := by
    intro x0 x1 x3 x2 M  ag5 hg5 H locs ls hW hl hf
    unfold f_J7_fill_53178_5b at hf
    refine lv_iload_n hx hb dJ7_fill_53178_5 rfl (lv_at hl 2 rfl) ?_
    refine lv_iload_n hx hb dJ7_fill_53178_6 rfl (lv_at hl 3 rfl) ?_
    refine lv_icmp_ge (tgt := 20) hx hb dJ7_fill_53178_7 (by decide) (fun c7 => ?_) (fun c7 => ?_)
    · have hf := it c7 hf
      exact r_vret hC hr hlk hW hf dJ7_fill_53178_20
    · have hf := ie c7 hf
      refine lv_aload_n hx hb dJ7_fill_53178_10 rfl (lv_at hl 0 rfl) ?_
      refine lv_iload_n hx hb dJ7_fill_53178_11 rfl (lv_at hl 2 rfl) ?_
      refine lv_iload_n hx hb dJ7_fill_53178_12 rfl (lv_at hl 1 rfl) ?_
      obtain ⟨M2, hM2, hf⟩ := ob hf
      refine r_sI hC hK hAd hW hM2 dJ7_fill_53178_13 (fun H locs hW => ?_)
      refine lv_iinc (v := (x2 + (1 : Int32))) (lv' := [(2, .int (x2 + (1 : Int32))), (0, .ref (ad x0)), (1, .int x1), (3, .int x3)]) hx hb dJ7_fill_53178_14 hl (k := 2) rfl rfl (by decide) rfl (fun ls hl => ?_)
      refine lv_goto (tgt := 5) hx hb dJ7_fill_53178_17 (by decide) ?_
      exact hg5 (x2 + (1 : Int32)) M2 _ _ _ hW (lv_sub hl [1, 2, 0, 3] rfl) hf
  have J5 : ∀ (x0 : Nat) (x1 : Int32) (x3 : Int32) (x2 : Int32) (M : Mem)  (H : Heap) (locs : List Loc) (ls : Array Slot) (hW : Wd D cA ad A s M H locs) (hl : lv_has ls 4 [(0, .ref (ad x0)), (1, .int x1), (2, .int x2), (3, .int x3)]) (hf : f_J7_fill_53178_5  x0 x1 x3 x2 M = some q), W p l e (rmD 0) s m args below meth c H locs 0 0 (MQ below (QV D cA ad A q) args s 0 0 A) (F0 m 5 ls []) := by
    intro x0 x1 x3 x2 M  H locs ls hW hl hf
    unfold f_J7_fill_53178_5 at hf
    have key : ∀ (n : Nat) (x2 : Int32) (M : Mem) (H : Heap) (locs : List Loc) (ls : Array Slot) (hW : Wd D cA ad A s M H locs) (hl : lv_has ls 4 [(0, .ref (ad x0)), (1, .int x1), (2, .int x2), (3, .int x3)]) (hf : loopF (fun ag s => f_J7_fill_53178_5b  x0 x1 x3 ag s.1 s.2) n (x2, M) = some q), W p l e (rmD 0) s m args below meth c H locs 0 0 (MQ below (QV D cA ad A q) args s 0 0 A) (F0 m 5 ls []) := by
      intro n
      induction n with
      | zero => intro x2 M H locs ls hW hl hf; exact nomatch (show (none : Option _) = some _ from hf)
      | succ n ih => intro x2 M H locs ls hW hl hf; exact B5 x0 x1 x3 x2 M  _ ih H locs ls hW hl hf
    exact key FU x2 M H locs ls hW hl hf
  have hf := hf0
  unfold f_J7_fill_53178 at hf
  refine lv_iconst (v := (0 : Int32)) hx hb dJ7_fill_53178_0 (by decide) ?_
  refine lv_istore_n (lv' := [(2, .int (0 : Int32)), (0, .ref (ad a0)), (1, .int a1)]) hx hb dJ7_fill_53178_1 rfl hl (by decide) rfl (fun ls hl => ?_)
  refine lv_aload_n hx hb dJ7_fill_53178_2 rfl (lv_at hl 1 rfl) ?_
  obtain ⟨v4, hv4, hf⟩ := ob hf
  refine r_aL hC hK hW hv4 dJ7_fill_53178_3 ?_
  refine lv_istore_n (lv' := [(3, .int v4), (2, .int (0 : Int32)), (0, .ref (ad a0)), (1, .int a1)]) hx hb dJ7_fill_53178_4 rfl hl (by decide) rfl (fun ls hl => ?_)
  exact J5 a0 a1 v4 (0 : Int32) M0 _ _ _ hW (lv_sub hl [2, 3, 1, 0] rfl) hf
set_option maxHeartbeats 4000000 in
set_option maxRecDepth 100000 in
theorem c_X8_stepsBy (l : Launch) {D : va_G} {cA : Nat → ClassId} {ad : Nat → Nat} {A : Nat → Prop} (hAd : AdOk ad A) {a0 : Nat} {a1 : Nat} {a2 : Int32} {a3 : Int32} {a4 : Int32} {M0 : Mem} {q : Int32} (hf0 : f_X8_stepsBy a0 a1 a2 a3 a4 M0 = some q) : Met l yX8_stepsBy (wd yX8_stepsBy cX8_stepsBy 8 (some .int)) (rmD 3) (PcW D cA ad [.ref (ad a0), .ref (ad a1), .int a2, .int a3, .int a4] M0) (QI D cA ad A q M0) 0 0 A := by
  refine mk_met (own := RX8) (by decide +kernel) rfl (Nat.le_of_ble_eq_true rfl) ?_
  intro p e s m args below meth c hC hr hlk hK H locs ls hW hl
  have hx := hC.1
  have hb := hC.2.1
  have hl : lv_has ls 8 [(0, .ref (ad a0)), (1, .ref (ad a1)), (2, .int a2), (3, .int a3), (4, .int a4)] := hl
  have hf := hf0
  unfold f_X8_stepsBy at hf
  refine lv_aload_n hx hb dX8_stepsBy_0 rfl (lv_at hl 0 rfl) ?_
  refine lv_aload_n hx hb dX8_stepsBy_1 rfl (lv_at hl 1 rfl) ?_
  refine lv_iload_n hx hb dX8_stepsBy_2 rfl (lv_at hl 2 rfl) ?_
  refine lv_iload_n hx hb dX8_stepsBy_3 rfl (lv_at hl 3 rfl) ?_
  refine lv_aload_n hx hb dX8_stepsBy_4 rfl (lv_at hl 1 rfl) ?_
  obtain ⟨v8, hv8, hf⟩ := ob hf
  refine r_gI hC hK hW cfX7 (by decide) wF_X8_50 rfl hv8 dX8_stepsBy_5 ?_
  obtain ⟨q9, hq9, hf⟩ := ob hf
  refine k_vI hC hK hW cfX8 (c_X8_gap l hAd (cv_s hq9).2) (cv_s hq9).1 my_X8_gap wI_X8_gap wQ_X8_gap wM_X8_60 ⟨Nat.le_of_ble_eq_true rfl, Nat.le_of_ble_eq_true rfl⟩ rfl hl.1 rfl (Nat.le_of_ble_eq_true rfl) ⟨Nat.zero_le _, Nat.zero_le _⟩ dX8_stepsBy_8 (fun H locs hW => ?_)
  refine lv_istore (lv' := [(5, .int q9), (0, .ref (ad a0)), (1, .ref (ad a1)), (2, .int a2), (3, .int a3), (4, .int a4)]) hx hb dX8_stepsBy_11 hl (by decide) rfl (fun ls hl => ?_)
  refine lv_iload hx hb dX8_stepsBy_13 (lv_at hl 0 rfl) ?_
  refine lv_aload_n hx hb dX8_stepsBy_15 rfl (lv_at hl 1 rfl) ?_
  obtain ⟨r10, hr10, hf⟩ := ob hf
  refine r_gR hC hK hW cfX8 (by decide) wF_X8_15 rfl hr10 dX8_stepsBy_16 ?_
  refine lv_iload_n hx hb dX8_stepsBy_19 rfl (lv_at hl 3 rfl) ?_
  obtain ⟨v11, hv11, hf⟩ := ob hf
  refine r_aI hC hK hW hv11 dX8_stepsBy_20 ?_
  refine lv_isub hx hb dX8_stepsBy_21 ?_
  refine lv_istore (lv' := [(6, .int (q9 - v11)), (5, .int q9), (0, .ref (ad a0)), (1, .ref (ad a1)), (2, .int a2), (3, .int a3), (4, .int a4)]) hx hb dX8_stepsBy_22 hl (by decide) rfl (fun ls hl => ?_)
  refine lv_aload_n hx hb dX8_stepsBy_24 rfl (lv_at hl 2 rfl) ?_
  obtain ⟨v12, hv12, hf⟩ := ob hf
  refine r_gI hC hK hW cfX8 (by decide) wF_X8_9 rfl hv12 dX8_stepsBy_25 ?_
  refine lv_iload hx hb dX8_stepsBy_28 (lv_at hl 1 rfl) ?_
  refine lv_isub hx hb dX8_stepsBy_30 ?_
  refine lv_aload_n hx hb dX8_stepsBy_31 rfl (lv_at hl 2 rfl) ?_
  obtain ⟨r13, hr13, hf⟩ := ob hf
  refine r_gR hC hK hW cfX8 (by decide) wF_X8_15 rfl hr13 dX8_stepsBy_32 ?_
  refine lv_iload_n hx hb dX8_stepsBy_35 rfl (lv_at hl 4 rfl) ?_
  obtain ⟨v14, hv14, hf⟩ := ob hf
  refine r_aI hC hK hW hv14 dX8_stepsBy_36 ?_
  refine lv_isub hx hb dX8_stepsBy_37 ?_
  refine lv_istore (lv' := [(7, .int ((v12 - q9) - v14)), (6, .int (q9 - v11)), (5, .int q9), (0, .ref (ad a0)), (1, .ref (ad a1)), (2, .int a2), (3, .int a3), (4, .int a4)]) hx hb dX8_stepsBy_38 hl (by decide) rfl (fun ls hl => ?_)
  refine lv_iload hx hb dX8_stepsBy_40 (lv_at hl 1 rfl) ?_
  refine lv_if_le (tgt := 50) hx hb dX8_stepsBy_42 (by decide) (fun c42 => ?_) (fun c42 => ?_)
  · have hf := it c42 hf
    refine lv_iconst (v := (0 : Int32)) hx hb dX8_stepsBy_50 (by decide) ?_
    exact r_iretP hC hr hlk hW hf dX8_stepsBy_51
  · have hf := ie c42 hf
    refine lv_iload hx hb dX8_stepsBy_45 (lv_at hl 0 rfl) ?_
    refine lv_if_gt (tgt := 52) hx hb dX8_stepsBy_47 (by decide) (fun c47 => ?_) (fun c47 => ?_)
    · have hf := it c47 hf
      refine lv_iload hx hb dX8_stepsBy_52 (lv_at hl 7 rfl) ?_
      refine lv_if_ne (tgt := 62) hx hb dX8_stepsBy_54 (by decide) (fun c54 => ?_) (fun c54 => ?_)
      · have hf := ie c54 hf
        refine lv_iload hx hb dX8_stepsBy_62 (lv_at hl 0 rfl) ?_
        exact r_iretP hC hr hlk hW hf dX8_stepsBy_64
      · have hf := it c54 hf
        refine lv_iload hx hb dX8_stepsBy_57 (lv_at hl 1 rfl) ?_
        refine lv_goto (tgt := 64) hx hb dX8_stepsBy_59 (by decide) ?_
        exact r_iretP hC hr hlk hW hf dX8_stepsBy_64
    · have hf := ie c47 hf
      refine lv_iconst (v := (0 : Int32)) hx hb dX8_stepsBy_50 (by decide) ?_
      exact r_iretP hC hr hlk hW hf dX8_stepsBy_51
set_option maxHeartbeats 4000000 in
set_option maxRecDepth 100000 in
theorem c_X8_fillFurthest (l : Launch) {D : va_G} {cA : Nat → ClassId} {ad : Nat → Nat} {A : Nat → Prop} (hAd : AdOk ad A) {a0 : Nat} {a1 : Nat} {M0 : Mem} {q : Mem} (hf0 : f_X8_fillFurthest a0 a1 M0 = some q) : Met l yX8_fillFurthest (wd yX8_fillFurthest cX8_fillFurthest 6 none) (rmD 4) (PcW D cA ad [.ref (ad a0), .ref (ad a1)] M0) (QV D cA ad A q) 0 0 A := by
  refine mk_met (own := RX8) (by decide +kernel) rfl (Nat.le_of_ble_eq_true rfl) ?_
  intro p e s m args below meth c hC hr hlk hK H locs ls hW hl
  have hx := hC.1
  have hb := hC.2.1
  have hl : lv_has ls 6 [(0, .ref (ad a0)), (1, .ref (ad a1))] := hl
  have B28 : ∀ (x0 : Nat) (x1 : Nat) (x2 : Int32) (x3 : Int32) (x4 : Int32) (M : Mem) (ag10 : Int32 × Mem → Option Mem) (hg10 : ∀ (x2 : Int32) (M : Mem) (H : Heap) (locs : List Loc) (ls : Array Slot) (_ : Wd D cA ad A s M H locs) (_ : lv_has ls 6 [(0, .ref (ad x0)), (1, .ref (ad x1)), (2, .int x2)]) (_ : ag10 (x2, M) = some q), W p l e (rmD 4) s m args below meth c H locs 0 0 (MQ below (QV D cA ad A q) args s 0 0 A) (F0 m 10 ls [])) (ag28 : Int32 × Mem → Option Mem) (hg28 : ∀ (x4 : Int32) (M : Mem) (H : Heap) (locs : List Loc) (ls : Array Slot) (_ : Wd D cA ad A s M H locs) (_ : lv_has ls 6 [(0, .ref (ad x0)), (1, .ref (ad x1)), (2, .int x2), (3, .int x3), (4, .int x4)]) (_ : ag28 (x4, M) = some q), W p l e (rmD 4) s m args below meth c H locs 0 0 (MQ below (QV D cA ad A q) args s 0 0 A) (F0 m 28 ls [])) (H : Heap) (locs : List Loc) (ls : Array Slot) (hW : Wd D cA ad A s M H locs) (hl : lv_has ls 6 [(0, .ref (ad x0)), (1, .ref (ad x1)), (2, .int x2), (3, .int x3), (4, .int x4)]) (hf : f_X8_fillFurthest_28b ag10 x0 x1 x2 x3 ag28 x4 M = some q), W p l e (rmD 4) s m args below meth c H locs 0 0 (MQ below (QV D cA ad A q) args s 0 0 A) (F0 m 28 ls []) := by
    intro x0 x1 x2 x3 x4 M ag10 hg10 ag28 hg28 H locs ls hW hl hf
    unfold f_X8_fillFurthest_28b at hf
    refine lv_iload hx hb dX8_fillFurthest_28 (lv_at hl 4 rfl) ?_
    refine lv_aload_n hx hb dX8_fillFurthest_30 rfl (lv_at hl 0 rfl) ?_
    obtain ⟨v8, hv8, hf⟩ := ob hf
    refine r_gI hC hK hW cfX8 (by decide) wF_X8_38 rfl hv8 dX8_fillFurthest_31 ?_
    refine lv_icmp_ge (tgt := 90) hx hb dX8_fillFurthest_34 (by decide) (fun c34 => ?_) (fun c34 => ?_)
    · have hf := it c34 hf
      refine lv_iinc (v := (x2 + (1 : Int32))) (lv' := [(2, .int (x2 + (1 : Int32))), (0, .ref (ad x0)), (1, .ref (ad x1)), (3, .int x3), (4, .int x4)]) hx hb dX8_fillFurthest_90 hl (k := 2) rfl rfl (by decide) rfl (fun ls hl => ?_)
      refine lv_goto (tgt := 10) hx hb dX8_fillFurthest_93 (by decide) ?_
      exact hg10 (x2 + (1 : Int32)) M _ _ _ hW (lv_sub hl [1, 2, 0] rfl) hf
    · have hf := ie c34 hf
      refine lv_iload_n hx hb dX8_fillFurthest_37 rfl (lv_at hl 3 rfl) ?_
      refine lv_iload hx hb dX8_fillFurthest_38 (lv_at hl 4 rfl) ?_
      refine lv_ishr hx hb dX8_fillFurthest_40 ?_
      refine lv_iconst (v := (1 : Int32)) hx hb dX8_fillFurthest_41 (by decide) ?_
      refine lv_iand hx hb dX8_fillFurthest_42 ?_
      refine lv_iconst (v := (1 : Int32)) hx hb dX8_fillFurthest_43 (by decide) ?_
      refine lv_icmp_ne (tgt := 84) hx hb dX8_fillFurthest_44 (by decide) (fun c44 => ?_) (fun c44 => ?_)
      · have hf := ie c44 hf
        refine lv_iinc (v := (x4 + (1 : Int32))) (lv' := [(4, .int (x4 + (1 : Int32))), (0, .ref (ad x0)), (1, .ref (ad x1)), (2, .int x2), (3, .int x3)]) hx hb dX8_fillFurthest_84 hl (k := 4) rfl rfl (by decide) rfl (fun ls hl => ?_)
        refine lv_goto (tgt := 28) hx hb dX8_fillFurthest_87 (by decide) ?_
        exact hg28 (x4 + (1 : Int32)) M _ _ _ hW (lv_sub hl [1, 2, 3, 4, 0] rfl) hf
      · have hf := it c44 hf
        refine lv_aload_n hx hb dX8_fillFurthest_47 rfl (lv_at hl 0 rfl) ?_
        refine lv_aload_n hx hb dX8_fillFurthest_48 rfl (lv_at hl 1 rfl) ?_
        refine lv_iload_n hx hb dX8_fillFurthest_49 rfl (lv_at hl 2 rfl) ?_
        refine lv_iload hx hb dX8_fillFurthest_50 (lv_at hl 4 rfl) ?_
        refine lv_iconst (v := (1 : Int32)) hx hb dX8_fillFurthest_52 (by decide) ?_
        obtain ⟨q9, hq9, hf⟩ := ob hf
        refine k_vI hC hK hW cfX8 (c_X8_stepsBy l hAd (cv_s hq9).2) (cv_s hq9).1 my_X8_stepsBy wI_X8_stepsBy wQ_X8_stepsBy wM_X8_98 ⟨Nat.le_of_ble_eq_true rfl, Nat.le_of_ble_eq_true rfl⟩ rfl hl.1 rfl (Nat.le_of_ble_eq_true rfl) ⟨Nat.zero_le _, Nat.zero_le _⟩ dX8_fillFurthest_53 (fun H locs hW => ?_)
        refine lv_istore (lv' := [(5, .int q9), (0, .ref (ad x0)), (1, .ref (ad x1)), (2, .int x2), (3, .int x3), (4, .int x4)]) hx hb dX8_fillFurthest_56 hl (by decide) rfl (fun ls hl => ?_)
        refine lv_aload_n hx hb dX8_fillFurthest_58 rfl (lv_at hl 1 rfl) ?_
        obtain ⟨r10, hr10, hf⟩ := ob hf
        refine r_gR hC hK hW cfX8 (by decide) wF_X8_32 rfl hr10 dX8_fillFurthest_59 ?_
        refine lv_iload hx hb dX8_fillFurthest_62 (lv_at hl 0 rfl) ?_
        refine lv_aload_n hx hb dX8_fillFurthest_64 rfl (lv_at hl 1 rfl) ?_
        obtain ⟨r11, hr11, hf⟩ := ob hf
        refine r_gR hC hK hW cfX8 (by decide) wF_X8_32 rfl hr11 dX8_fillFurthest_65 ?_
        refine lv_iload hx hb dX8_fillFurthest_68 (lv_at hl 0 rfl) ?_
        obtain ⟨v12, hv12, hf⟩ := ob hf
        refine r_aI hC hK hW hv12 dX8_fillFurthest_70 ?_
        refine lv_aload_n hx hb dX8_fillFurthest_71 rfl (lv_at hl 1 rfl) ?_
        refine lv_aload_n hx hb dX8_fillFurthest_72 rfl (lv_at hl 2 rfl) ?_
        refine lv_iload_n hx hb dX8_fillFurthest_73 rfl (lv_at hl 3 rfl) ?_
        refine lv_iload hx hb dX8_fillFurthest_74 (lv_at hl 5 rfl) ?_
        refine lv_iconst (v := (0 : Int32)) hx hb dX8_fillFurthest_76 (by decide) ?_
        obtain ⟨q13, hq13, hf⟩ := ob hf
        refine k_vI hC hK hW cfX8 (c_X8_stepsBy l hAd (cv_s hq13).2) (cv_s hq13).1 my_X8_stepsBy wI_X8_stepsBy wQ_X8_stepsBy wM_X8_98 ⟨Nat.le_of_ble_eq_true rfl, Nat.le_of_ble_eq_true rfl⟩ rfl hl.1 rfl (Nat.le_of_ble_eq_true rfl) ⟨Nat.zero_le _, Nat.zero_le _⟩ dX8_fillFurthest_77 (fun H locs hW => ?_)
        refine r_max hC wM_X8_89 hl.1 (Nat.le_of_ble_eq_true rfl) rfl rfl dX8_fillFurthest_80 ?_
        obtain ⟨M14, hM14, hf⟩ := ob hf
        refine r_sI hC hK hAd hW hM14 dX8_fillFurthest_83 (fun H locs hW => ?_)
        refine lv_iinc (v := (x4 + (1 : Int32))) (lv' := [(4, .int (x4 + (1 : Int32))), (5, .int q9), (0, .ref (ad x0)), (1, .ref (ad x1)), (2, .int x2), (3, .int x3)]) hx hb dX8_fillFurthest_84 hl (k := 5) rfl rfl (by decide) rfl (fun ls hl => ?_)
        refine lv_goto (tgt := 28) hx hb dX8_fillFurthest_87 (by decide) ?_
        exact hg28 (x4 + (1 : Int32)) M14 _ _ _ hW (lv_sub hl [2, 3, 4, 5, 0] rfl) hf
  have J28 : ∀ (x0 : Nat) (x1 : Nat) (x2 : Int32) (x3 : Int32) (x4 : Int32) (M : Mem) (ag10 : Int32 × Mem → Option Mem) (hg10 : ∀ (x2 : Int32) (M : Mem) (H : Heap) (locs : List Loc) (ls : Array Slot) (_ : Wd D cA ad A s M H locs) (_ : lv_has ls 6 [(0, .ref (ad x0)), (1, .ref (ad x1)), (2, .int x2)]) (_ : ag10 (x2, M) = some q), W p l e (rmD 4) s m args below meth c H locs 0 0 (MQ below (QV D cA ad A q) args s 0 0 A) (F0 m 10 ls [])) (H : Heap) (locs : List Loc) (ls : Array Slot) (hW : Wd D cA ad A s M H locs) (hl : lv_has ls 6 [(0, .ref (ad x0)), (1, .ref (ad x1)), (2, .int x2), (3, .int x3), (4, .int x4)]) (hf : f_X8_fillFurthest_28 ag10 x0 x1 x2 x3 x4 M = some q), W p l e (rmD 4) s m args below meth c H locs 0 0 (MQ below (QV D cA ad A q) args s 0 0 A) (F0 m 28 ls []) := by
    intro x0 x1 x2 x3 x4 M ag10 hg10 H locs ls hW hl hf
    unfold f_X8_fillFurthest_28 at hf
    have key : ∀ (n : Nat) (x4 : Int32) (M : Mem) (H : Heap) (locs : List Loc) (ls : Array Slot) (hW : Wd D cA ad A s M H locs) (hl : lv_has ls 6 [(0, .ref (ad x0)), (1, .ref (ad x1)), (2, .int x2), (3, .int x3), (4, .int x4)]) (hf : loopF (fun ag s => f_X8_fillFurthest_28b ag10 x0 x1 x2 x3 ag s.1 s.2) n (x4, M) = some q), W p l e (rmD 4) s m args below meth c H locs 0 0 (MQ below (QV D cA ad A q) args s 0 0 A) (F0 m 28 ls []) := by
      intro n
      induction n with
      | zero => intro x4 M H locs ls hW hl hf; exact nomatch (show (none : Option _) = some _ from hf)
      | succ n ih => intro x4 M H locs ls hW hl hf; exact B28 x0 x1 x2 x3 x4 M ag10 hg10 _ ih H locs ls hW hl hf
    exact key FU x4 M H locs ls hW hl hf
  have B10 : ∀ (x0 : Nat) (x1 : Nat) (x2 : Int32) (M : Mem)  (ag10 : Int32 × Mem → Option Mem) (hg10 : ∀ (x2 : Int32) (M : Mem) (H : Heap) (locs : List Loc) (ls : Array Slot) (_ : Wd D cA ad A s M H locs) (_ : lv_has ls 6 [(0, .ref (ad x0)), (1, .ref (ad x1)), (2, .int x2)]) (_ : ag10 (x2, M) = some q), W p l e (rmD 4) s m args below meth c H locs 0 0 (MQ below (QV D cA ad A q) args s 0 0 A) (F0 m 10 ls [])) (H : Heap) (locs : List Loc) (ls : Array Slot) (hW : Wd D cA ad A s M H locs) (hl : lv_has ls 6 [(0, .ref (ad x0)), (1, .ref (ad x1)), (2, .int x2)]) (hf : f_X8_fillFurthest_10b  x0 x1 ag10 x2 M = some q), W p l e (rmD 4) s m args below meth c H locs 0 0 (MQ below (QV D cA ad A q) args s 0 0 A) (F0 m 10 ls []) := by
    intro x0 x1 x2 M  ag10 hg10 H locs ls hW hl hf
    unfold f_X8_fillFurthest_10b at hf
    refine lv_iload_n hx hb dX8_fillFurthest_10 rfl (lv_at hl 2 rfl) ?_
    refine lv_aload_n hx hb dX8_fillFurthest_11 rfl (lv_at hl 0 rfl) ?_
    obtain ⟨v17, hv17, hf⟩ := ob hf
    refine r_gI hC hK hW cfX8 (by decide) wF_X8_35 rfl hv17 dX8_fillFurthest_12 ?_
    refine lv_icmp_ge (tgt := 96) hx hb dX8_fillFurthest_15 (by decide) (fun c15 => ?_) (fun c15 => ?_)
    · have hf := it c15 hf
      exact r_vret hC hr hlk hW hf dX8_fillFurthest_96
    · have hf := ie c15 hf
      refine lv_aload_n hx hb dX8_fillFurthest_18 rfl (lv_at hl 0 rfl) ?_
      refine lv_aload_n hx hb dX8_fillFurthest_19 rfl (lv_at hl 1 rfl) ?_
      refine lv_iload_n hx hb dX8_fillFurthest_20 rfl (lv_at hl 2 rfl) ?_
      obtain ⟨q18, hq18, hf⟩ := ob hf
      refine k_vI hC hK hW cfX8 (c_X8_needs l hAd (cv_s hq18).2) (cv_s hq18).1 my_X8_needs wI_X8_needs wQ_X8_needs wM_X8_71 ⟨Nat.le_of_ble_eq_true rfl, Nat.le_of_ble_eq_true rfl⟩ rfl hl.1 rfl (Nat.le_of_ble_eq_true rfl) ⟨Nat.zero_le _, Nat.zero_le _⟩ dX8_fillFurthest_21 (fun H locs hW => ?_)
      refine lv_istore_n (lv' := [(3, .int q18), (0, .ref (ad x0)), (1, .ref (ad x1)), (2, .int x2)]) hx hb dX8_fillFurthest_24 rfl hl (by decide) rfl (fun ls hl => ?_)
      refine lv_iconst (v := (0 : Int32)) hx hb dX8_fillFurthest_25 (by decide) ?_
      refine lv_istore (lv' := [(4, .int (0 : Int32)), (3, .int q18), (0, .ref (ad x0)), (1, .ref (ad x1)), (2, .int x2)]) hx hb dX8_fillFurthest_26 hl (by decide) rfl (fun ls hl => ?_)
      exact J28 x0 x1 x2 q18 (0 : Int32) M ag10 hg10 _ _ _ hW (lv_sub hl [2, 3, 4, 1, 0] rfl) hf
  have J10 : ∀ (x0 : Nat) (x1 : Nat) (x2 : Int32) (M : Mem)  (H : Heap) (locs : List Loc) (ls : Array Slot) (hW : Wd D cA ad A s M H locs) (hl : lv_has ls 6 [(0, .ref (ad x0)), (1, .ref (ad x1)), (2, .int x2)]) (hf : f_X8_fillFurthest_10  x0 x1 x2 M = some q), W p l e (rmD 4) s m args below meth c H locs 0 0 (MQ below (QV D cA ad A q) args s 0 0 A) (F0 m 10 ls []) := by
    intro x0 x1 x2 M  H locs ls hW hl hf
    unfold f_X8_fillFurthest_10 at hf
    have key : ∀ (n : Nat) (x2 : Int32) (M : Mem) (H : Heap) (locs : List Loc) (ls : Array Slot) (hW : Wd D cA ad A s M H locs) (hl : lv_has ls 6 [(0, .ref (ad x0)), (1, .ref (ad x1)), (2, .int x2)]) (hf : loopF (fun ag s => f_X8_fillFurthest_10b  x0 x1 ag s.1 s.2) n (x2, M) = some q), W p l e (rmD 4) s m args below meth c H locs 0 0 (MQ below (QV D cA ad A q) args s 0 0 A) (F0 m 10 ls []) := by
      intro n
      induction n with
      | zero => intro x2 M H locs ls hW hl hf; exact nomatch (show (none : Option _) = some _ from hf)
      | succ n ih => intro x2 M H locs ls hW hl hf; exact B10 x0 x1 x2 M  _ ih H locs ls hW hl hf
    exact key FU x2 M H locs ls hW hl hf
  have hf := hf0
  unfold f_X8_fillFurthest at hf
  refine lv_aload_n hx hb dX8_fillFurthest_0 rfl (lv_at hl 0 rfl) ?_
  obtain ⟨r21, hr21, hf⟩ := ob hf
  refine r_gR hC hK hW cfX8 (by decide) wF_X8_32 rfl hr21 dX8_fillFurthest_1 ?_
  refine lv_iconst (v := (0 : Int32)) hx hb dX8_fillFurthest_4 (by decide) ?_
  obtain ⟨q22, hq22, hf⟩ := ob hf
  refine k_sV hC hK hW (c_J7_fill_53178 l hAd hq22) my_J7_fill_53178 wS_J7_fill_53178 wM_X8_92 ⟨Nat.le_of_ble_eq_true rfl, Nat.le_of_ble_eq_true rfl⟩ rfl hl.1 rfl (Nat.le_of_ble_eq_true rfl) ⟨Nat.zero_le _, Nat.zero_le _⟩ dX8_fillFurthest_5 (fun H locs hW => ?_)
  refine lv_iconst (v := (0 : Int32)) hx hb dX8_fillFurthest_8 (by decide) ?_
  refine lv_istore_n (lv' := [(2, .int (0 : Int32)), (0, .ref (ad a0)), (1, .ref (ad a1))]) hx hb dX8_fillFurthest_9 rfl hl (by decide) rfl (fun ls hl => ?_)
  exact J10 a0 a1 (0 : Int32) q22 _ _ _ hW (lv_sub hl [1, 2, 0] rfl) hf
set_option maxHeartbeats 4000000 in
set_option maxRecDepth 100000 in
theorem c_X8_tour (l : Launch) {D : va_G} {cA : Nat → ClassId} {ad : Nat → Nat} {A : Nat → Prop} (hAd : AdOk ad A) {a0 : Nat} {a1 : Nat} {M0 : Mem} {q : (Int32 × Mem)} (hf0 : f_X8_tour a0 a1 M0 = some q) : Met l yX8_tour (wd yX8_tour cX8_tour 5 (some .int)) (rmD 5) (PcW D cA ad [.ref (ad a0), .ref (ad a1)] M0) (QI D cA ad A q.1 q.2) 0 0 A := by
  refine mk_met (own := RX8) (by decide +kernel) rfl (Nat.le_of_ble_eq_true rfl) ?_
  intro p e s m args below meth c hC hr hlk hK H locs ls hW hl
  have hx := hC.1
  have hb := hC.2.1
  have hl : lv_has ls 5 [(0, .ref (ad a0)), (1, .ref (ad a1))] := hl
  have B50 : ∀ (x0 : Nat) (M : Mem) (x2 : Int32) (x3 : Int32) (x4 : Int32)  (ag50 : Int32 × Int32 × Int32 → Option (Int32 × Mem)) (hg50 : ∀ (x2 : Int32) (x3 : Int32) (x4 : Int32) (H : Heap) (locs : List Loc) (ls : Array Slot) (_ : Wd D cA ad A s M H locs) (_ : lv_has ls 5 [(0, .ref (ad x0)), (2, .int x2), (3, .int x3), (4, .int x4)]) (_ : ag50 (x2, x3, x4) = some q), W p l e (rmD 5) s m args below meth c H locs 0 0 (MQ below (QI D cA ad A q.1 q.2) args s 0 0 A) (F0 m 50 ls [])) (H : Heap) (locs : List Loc) (ls : Array Slot) (hW : Wd D cA ad A s M H locs) (hl : lv_has ls 5 [(0, .ref (ad x0)), (2, .int x2), (3, .int x3), (4, .int x4)]) (hf : f_X8_tour_50b  x0 M ag50 x2 x3 x4 = some q), W p l e (rmD 5) s m args below meth c H locs 0 0 (MQ below (QI D cA ad A q.1 q.2) args s 0 0 A) (F0 m 50 ls []) := by
    intro x0 M x2 x3 x4  ag50 hg50 H locs ls hW hl hf
    unfold f_X8_tour_50b at hf
    refine lv_iload hx hb dX8_tour_50 (lv_at hl 3 rfl) ?_
    refine lv_if_lt (tgt := 89) hx hb dX8_tour_52 (by decide) (fun c52 => ?_) (fun c52 => ?_)
    · have hf := it c52 hf
      refine lv_iload_n hx hb dX8_tour_89 rfl (lv_at hl 1 rfl) ?_
      exact r_iret hC hr hlk hW hf dX8_tour_90
    · have hf := ie c52 hf
      refine lv_iload_n hx hb dX8_tour_55 rfl (lv_at hl 1 rfl) ?_
      refine lv_iload hx hb dX8_tour_56 (lv_at hl 3 rfl) ?_
      refine lv_iload_n hx hb dX8_tour_58 rfl (lv_at hl 2 rfl) ?_
      refine lv_iadd hx hb dX8_tour_59 ?_
      refine lv_iload hx hb dX8_tour_60 (lv_at hl 3 rfl) ?_
      refine lv_iload_n hx hb dX8_tour_62 rfl (lv_at hl 2 rfl) ?_
      refine r_min hC wM_X8_86 hl.1 (Nat.le_of_ble_eq_true rfl) rfl rfl dX8_tour_63 ?_
      refine lv_iadd hx hb dX8_tour_66 ?_
      refine r_min hC wM_X8_86 hl.1 (Nat.le_of_ble_eq_true rfl) rfl rfl dX8_tour_67 ?_
      refine lv_istore_n (lv' := [(2, .int (if ((x4 + x3) + (if x3 < x4 then x3 else x4)) < x2 then ((x4 + x3) + (if x3 < x4 then x3 else x4)) else x2)), (0, .ref (ad x0)), (3, .int x3), (4, .int x4)]) hx hb dX8_tour_70 rfl hl (by decide) rfl (fun ls hl => ?_)
      refine lv_iload_n hx hb dX8_tour_71 rfl (lv_at hl 2 rfl) ?_
      refine lv_aload_n hx hb dX8_tour_72 rfl (lv_at hl 1 rfl) ?_
      obtain ⟨r3, hr3, hf⟩ := ob hf
      refine r_gR hC hK hW cfX8 (by decide) wF_X8_32 rfl hr3 dX8_tour_73 ?_
      refine lv_iload hx hb dX8_tour_76 (lv_at hl 3 rfl) ?_
      obtain ⟨v4, hv4, hf⟩ := ob hf
      refine r_aI hC hK hW hv4 dX8_tour_78 ?_
      refine r_max hC wM_X8_89 hl.1 (Nat.le_of_ble_eq_true rfl) rfl rfl dX8_tour_79 ?_
      refine lv_istore_n (lv' := [(3, .int (if x3 < v4 then v4 else x3)), (2, .int (if ((x4 + x3) + (if x3 < x4 then x3 else x4)) < x2 then ((x4 + x3) + (if x3 < x4 then x3 else x4)) else x2)), (0, .ref (ad x0)), (4, .int x4)]) hx hb dX8_tour_82 rfl hl (by decide) rfl (fun ls hl => ?_)
      refine lv_iinc (v := (x4 + (-1 : Int32))) (lv' := [(4, .int (x4 + (-1 : Int32))), (3, .int (if x3 < v4 then v4 else x3)), (2, .int (if ((x4 + x3) + (if x3 < x4 then x3 else x4)) < x2 then ((x4 + x3) + (if x3 < x4 then x3 else x4)) else x2)), (0, .ref (ad x0))]) hx hb dX8_tour_83 hl (k := 3) rfl rfl (by decide) rfl (fun ls hl => ?_)
      refine lv_goto (tgt := 50) hx hb dX8_tour_86 (by decide) ?_
      exact hg50 (if ((x4 + x3) + (if x3 < x4 then x3 else x4)) < x2 then ((x4 + x3) + (if x3 < x4 then x3 else x4)) else x2) (if x3 < v4 then v4 else x3) (x4 + (-1 : Int32)) _ _ _ hW (lv_sub hl [3, 2, 1, 0] rfl) hf
  have J50 : ∀ (x0 : Nat) (M : Mem) (x2 : Int32) (x3 : Int32) (x4 : Int32)  (H : Heap) (locs : List Loc) (ls : Array Slot) (hW : Wd D cA ad A s M H locs) (hl : lv_has ls 5 [(0, .ref (ad x0)), (2, .int x2), (3, .int x3), (4, .int x4)]) (hf : f_X8_tour_50  x0 M x2 x3 x4 = some q), W p l e (rmD 5) s m args below meth c H locs 0 0 (MQ below (QI D cA ad A q.1 q.2) args s 0 0 A) (F0 m 50 ls []) := by
    intro x0 M x2 x3 x4  H locs ls hW hl hf
    unfold f_X8_tour_50 at hf
    have key : ∀ (n : Nat) (x2 : Int32) (x3 : Int32) (x4 : Int32) (H : Heap) (locs : List Loc) (ls : Array Slot) (hW : Wd D cA ad A s M H locs) (hl : lv_has ls 5 [(0, .ref (ad x0)), (2, .int x2), (3, .int x3), (4, .int x4)]) (hf : loopF (fun ag s => f_X8_tour_50b  x0 M ag s.1 s.2.1 s.2.2) n (x2, x3, x4) = some q), W p l e (rmD 5) s m args below meth c H locs 0 0 (MQ below (QI D cA ad A q.1 q.2) args s 0 0 A) (F0 m 50 ls []) := by
      intro n
      induction n with
      | zero => intro x2 x3 x4 H locs ls hW hl hf; exact nomatch (show (none : Option _) = some _ from hf)
      | succ n ih => intro x2 x3 x4 H locs ls hW hl hf; exact B50 x0 M x2 x3 x4  _ ih H locs ls hW hl hf
    exact key FU x2 x3 x4 H locs ls hW hl hf
  have B2 : ∀ (x0 : Nat) (x1 : Nat) (M : Mem) (x2 : Int32)  (ag2 : Int32 → Option (Int32 × Mem)) (hg2 : ∀ (x2 : Int32) (H : Heap) (locs : List Loc) (ls : Array Slot) (_ : Wd D cA ad A s M H locs) (_ : lv_has ls 5 [(0, .ref (ad x0)), (1, .ref (ad x1)), (2, .int x2)]) (_ : ag2 x2 = some q), W p l e (rmD 5) s m args below meth c H locs 0 0 (MQ below (QI D cA ad A q.1 q.2) args s 0 0 A) (F0 m 2 ls [])) (H : Heap) (locs : List Loc) (ls : Array Slot) (hW : Wd D cA ad A s M H locs) (hl : lv_has ls 5 [(0, .ref (ad x0)), (1, .ref (ad x1)), (2, .int x2)]) (hf : f_X8_tour_2b  x0 x1 M ag2 x2 = some q), W p l e (rmD 5) s m args below meth c H locs 0 0 (MQ below (QI D cA ad A q.1 q.2) args s 0 0 A) (F0 m 2 ls []) := by
    intro x0 x1 M x2  ag2 hg2 H locs ls hW hl hf
    unfold f_X8_tour_2b at hf
    refine lv_iload_n hx hb dX8_tour_2 rfl (lv_at hl 2 rfl) ?_
    refine lv_aload_n hx hb dX8_tour_3 rfl (lv_at hl 0 rfl) ?_
    obtain ⟨v10, hv10, hf⟩ := ob hf
    refine r_gI hC hK hW cfX8 (by decide) wF_X8_38 rfl hv10 dX8_tour_4 ?_
    refine lv_icmp_ge (tgt := 28) hx hb dX8_tour_7 (by decide) (fun c7 => ?_) (fun c7 => ?_)
    · have hf := it c7 hf
      refine lv_aload_n hx hb dX8_tour_28 rfl (lv_at hl 0 rfl) ?_
      refine lv_aload_n hx hb dX8_tour_29 rfl (lv_at hl 1 rfl) ?_
      obtain ⟨q11, hq11, hf⟩ := ob hf
      refine k_vV hC hK hW cfX8 (c_X8_fillFurthest l hAd (cv_s hq11).2) (cv_s hq11).1 my_X8_fillFurthest wI_X8_fillFurthest wQ_X8_fillFurthest wM_X8_82 ⟨Nat.le_of_ble_eq_true rfl, Nat.le_of_ble_eq_true rfl⟩ rfl hl.1 rfl (Nat.le_of_ble_eq_true rfl) ⟨Nat.zero_le _, Nat.zero_le _⟩ dX8_tour_30 (fun H locs hW => ?_)
      refine lv_aload_n hx hb dX8_tour_33 rfl (lv_at hl 0 rfl) ?_
      obtain ⟨v12, hv12, hf⟩ := ob hf
      refine r_gI hC hK hW cfX8 (by decide) wF_X8_9 rfl hv12 dX8_tour_34 ?_
      refine lv_iconst (v := (1 : Int32)) hx hb dX8_tour_37 (by decide) ?_
      refine lv_isub hx hb dX8_tour_38 ?_
      refine lv_istore_n (lv' := [(2, .int (v12 - (1 : Int32))), (0, .ref (ad x0)), (1, .ref (ad x1))]) hx hb dX8_tour_39 rfl hl (by decide) rfl (fun ls hl => ?_)
      refine lv_iconst (v := (0 : Int32)) hx hb dX8_tour_40 (by decide) ?_
      refine lv_istore_n (lv' := [(3, .int (0 : Int32)), (2, .int (v12 - (1 : Int32))), (0, .ref (ad x0)), (1, .ref (ad x1))]) hx hb dX8_tour_41 rfl hl (by decide) rfl (fun ls hl => ?_)
      refine lv_aload_n hx hb dX8_tour_42 rfl (lv_at hl 2 rfl) ?_
      obtain ⟨v13, hv13, hf⟩ := ob hf
      refine r_gI hC hK hW cfX8 (by decide) wF_X8_9 rfl hv13 dX8_tour_43 ?_
      refine lv_iconst (v := (1 : Int32)) hx hb dX8_tour_46 (by decide) ?_
      refine lv_isub hx hb dX8_tour_47 ?_
      refine lv_istore (lv' := [(4, .int (v13 - (1 : Int32))), (3, .int (0 : Int32)), (2, .int (v12 - (1 : Int32))), (0, .ref (ad x0)), (1, .ref (ad x1))]) hx hb dX8_tour_48 hl (by decide) rfl (fun ls hl => ?_)
      exact J50 x0 q11 (v12 - (1 : Int32)) (0 : Int32) (v13 - (1 : Int32)) _ _ _ hW (lv_sub hl [3, 2, 1, 0] rfl) hf
    · have hf := ie c7 hf
      refine lv_aload_n hx hb dX8_tour_10 rfl (lv_at hl 0 rfl) ?_
      refine lv_aload_n hx hb dX8_tour_11 rfl (lv_at hl 1 rfl) ?_
      refine lv_iload_n hx hb dX8_tour_12 rfl (lv_at hl 2 rfl) ?_
      obtain ⟨q14, hq14, hf⟩ := ob hf
      refine k_vI hC hK hW cfX8 (c_X8_hasEnough l hAd (cv_s hq14).2) (cv_s hq14).1 my_X8_hasEnough wI_X8_hasEnough wQ_X8_hasEnough wM_X8_78 ⟨Nat.le_of_ble_eq_true rfl, Nat.le_of_ble_eq_true rfl⟩ rfl hl.1 rfl (Nat.le_of_ble_eq_true rfl) ⟨Nat.zero_le _, Nat.zero_le _⟩ dX8_tour_13 (fun H locs hW => ?_)
      refine lv_if_ne (tgt := 22) hx hb dX8_tour_16 (by decide) (fun c16 => ?_) (fun c16 => ?_)
      · have hf := ie c16 hf
        refine lv_iinc (v := (x2 + (1 : Int32))) (lv' := [(2, .int (x2 + (1 : Int32))), (0, .ref (ad x0)), (1, .ref (ad x1))]) hx hb dX8_tour_22 hl (k := 2) rfl rfl (by decide) rfl (fun ls hl => ?_)
        refine lv_goto (tgt := 2) hx hb dX8_tour_25 (by decide) ?_
        exact hg2 (x2 + (1 : Int32)) _ _ _ hW (lv_sub hl [1, 2, 0] rfl) hf
      · have hf := it c16 hf
        refine lv_bipush (v := (-9 : Int32)) hx hb dX8_tour_19 (by decide) ?_
        exact r_iret hC hr hlk hW hf dX8_tour_21
  have J2 : ∀ (x0 : Nat) (x1 : Nat) (M : Mem) (x2 : Int32)  (H : Heap) (locs : List Loc) (ls : Array Slot) (hW : Wd D cA ad A s M H locs) (hl : lv_has ls 5 [(0, .ref (ad x0)), (1, .ref (ad x1)), (2, .int x2)]) (hf : f_X8_tour_2  x0 x1 M x2 = some q), W p l e (rmD 5) s m args below meth c H locs 0 0 (MQ below (QI D cA ad A q.1 q.2) args s 0 0 A) (F0 m 2 ls []) := by
    intro x0 x1 M x2  H locs ls hW hl hf
    unfold f_X8_tour_2 at hf
    have key : ∀ (n : Nat) (x2 : Int32) (H : Heap) (locs : List Loc) (ls : Array Slot) (hW : Wd D cA ad A s M H locs) (hl : lv_has ls 5 [(0, .ref (ad x0)), (1, .ref (ad x1)), (2, .int x2)]) (hf : loopF (fun ag s => f_X8_tour_2b  x0 x1 M ag s) n x2 = some q), W p l e (rmD 5) s m args below meth c H locs 0 0 (MQ below (QI D cA ad A q.1 q.2) args s 0 0 A) (F0 m 2 ls []) := by
      intro n
      induction n with
      | zero => intro x2 H locs ls hW hl hf; exact nomatch (show (none : Option _) = some _ from hf)
      | succ n ih => intro x2 H locs ls hW hl hf; exact B2 x0 x1 M x2  _ ih H locs ls hW hl hf
    exact key FU x2 H locs ls hW hl hf
  have hf := hf0
  unfold f_X8_tour at hf
  refine lv_iconst (v := (0 : Int32)) hx hb dX8_tour_0 (by decide) ?_
  refine lv_istore_n (lv' := [(2, .int (0 : Int32)), (0, .ref (ad a0)), (1, .ref (ad a1))]) hx hb dX8_tour_1 rfl hl (by decide) rfl (fun ls hl => ?_)
  exact J2 a0 a1 M0 (0 : Int32) _ _ _ hW (lv_sub hl [1, 2, 0] rfl) hf
set_option maxHeartbeats 4000000 in
set_option maxRecDepth 100000 in
theorem c_X8_empty (l : Launch) {D : va_G} {cA : Nat → ClassId} {ad : Nat → Nat} {A : Nat → Prop} (hAd : AdOk ad A) {a0 : Nat} {M0 : Mem} {q : Mem} (hf0 : f_X8_empty a0 M0 = some q) : Met l yX8_empty (wd yX8_empty cX8_empty 1 none) (rmD 0) (PcW D cA ad [.ref (ad a0)] M0) (QV D cA ad A q) 0 0 A := by
  refine mk_met (own := RX8) (by decide +kernel) rfl (Nat.le_of_ble_eq_true rfl) ?_
  intro p e s m args below meth c hC hr hlk hK H locs ls hW hl
  have hx := hC.1
  have hb := hC.2.1
  have hl : lv_has ls 1 [(0, .ref (ad a0))] := hl
  have hf := hf0
  unfold f_X8_empty at hf
  refine lv_aload_n hx hb dX8_empty_0 rfl (lv_at hl 0 rfl) ?_
  refine lv_bipush (v := (6 : Int32)) hx hb dX8_empty_1 (by decide) ?_
  obtain ⟨M4, hM4, hf⟩ := ob hf
  refine r_pI hC hK hAd hW cfX8 (by decide) wF_X8_9 rfl rfl rfl hM4 dX8_empty_3 (fun H locs hW => ?_)
  refine lv_aload_n hx hb dX8_empty_6 rfl (lv_at hl 0 rfl) ?_
  refine lv_iconst (v := (0 : Int32)) hx hb dX8_empty_7 (by decide) ?_
  obtain ⟨M5, hM5, hf⟩ := ob hf
  refine r_pI hC hK hAd hW cfX8 (by decide) wF_X8_35 rfl rfl rfl hM5 dX8_empty_8 (fun H locs hW => ?_)
  refine lv_aload_n hx hb dX8_empty_11 rfl (lv_at hl 0 rfl) ?_
  refine lv_iconst (v := (0 : Int32)) hx hb dX8_empty_12 (by decide) ?_
  obtain ⟨M6, hM6, hf⟩ := ob hf
  refine r_pI hC hK hAd hW cfX8 (by decide) wF_X8_38 rfl rfl rfl hM6 dX8_empty_13 (fun H locs hW => ?_)
  exact r_vret hC hr hlk hW hf dX8_empty_16
