set_option maxHeartbeats 4000000 in
set_option maxRecDepth 100000 in
theorem c_X11_allPortions (l : Launch) {D : va_G} {cA : Nat → ClassId} {ad : Nat → Nat} {A : Nat → Prop} (hAd : AdOk ad A) {a0 : Nat} {M0 : Mem} {q : Int32} (hf0 : f_X11_allPortions a0 M0 = some q) : Met l yX11_allPortions (wd yX11_allPortions cX11_allPortions 3 (some .int)) (rmD 0) (PcW D cA ad [.ref (ad a0)] M0) (QI D cA ad A q M0) 0 0 A := by
  refine mk_met (own := RX11) (by decide +kernel) rfl (Nat.le_of_ble_eq_true rfl) ?_
  intro p e s m args below meth c hC hr hlk hK H locs ls hW hl
  have hx := hC.1
  have hb := hC.2.1
  have hl : lv_has ls 3 [(0, .ref (ad a0))] := hl
  have B4 : ∀ (x0 : Nat) (x1 : Int32) (x2 : Int32)  (ag4 : Int32 × Int32 → Option Int32) (hg4 : ∀ (x1 : Int32) (x2 : Int32) (H : Heap) (locs : List Loc) (ls : Array Slot) (_ : Wd D cA ad A s M0 H locs) (_ : lv_has ls 3 [(0, .ref (ad x0)), (1, .int x1), (2, .int x2)]) (_ : ag4 (x1, x2) = some q), W p l e (rmD 0) s m args below meth c H locs 0 0 (MQ below (QI D cA ad A q M0) args s 0 0 A) (F0 m 4 ls [])) (H : Heap) (locs : List Loc) (ls : Array Slot) (hW : Wd D cA ad A s M0 H locs) (hl : lv_has ls 3 [(0, .ref (ad x0)), (1, .int x1), (2, .int x2)]) (hf : f_X11_allPortions_4b  x0 M0 ag4 x1 x2 = some q), W p l e (rmD 0) s m args below meth c H locs 0 0 (MQ below (QI D cA ad A q M0) args s 0 0 A) (F0 m 4 ls []) := by
    intro x0 x1 x2  ag4 hg4 H locs ls hW hl hf
    unfold f_X11_allPortions_4b at hf
    refine lv_iload_n hx hb dX11_allPortions_4 rfl (lv_at hl 2 rfl) ?_
    refine lv_aload_n hx hb dX11_allPortions_5 rfl (lv_at hl 0 rfl) ?_
    obtain ⟨r6, hr6, hf⟩ := ob hf
    refine r_gR hC hK hW cfX11 (by decide) wF_X11_39 rfl hr6 dX11_allPortions_6 ?_
    obtain ⟨v7, hv7, hf⟩ := ob hf
    refine r_gI hC hK hW cfX8 (by decide) wF_X11_263 rfl hv7 dX11_allPortions_9 ?_
    refine lv_icmp_ge (tgt := 33) hx hb dX11_allPortions_12 (by decide) (fun c12 => ?_) (fun c12 => ?_)
    · have hf := it c12 hf
      refine lv_iload_n hx hb dX11_allPortions_33 rfl (lv_at hl 1 rfl) ?_
      exact r_iretP hC hr hlk hW hf dX11_allPortions_34
    · have hf := ie c12 hf
      refine lv_iload_n hx hb dX11_allPortions_15 rfl (lv_at hl 1 rfl) ?_
      refine lv_aload_n hx hb dX11_allPortions_16 rfl (lv_at hl 0 rfl) ?_
      obtain ⟨r8, hr8, hf⟩ := ob hf
      refine r_gR hC hK hW cfX11 (by decide) wF_X11_46 rfl hr8 dX11_allPortions_17 ?_
      obtain ⟨r9, hr9, hf⟩ := ob hf
      refine r_gR hC hK hW cfX7 (by decide) wF_X11_151 rfl hr9 dX11_allPortions_20 ?_
      refine lv_iload_n hx hb dX11_allPortions_23 rfl (lv_at hl 2 rfl) ?_
      obtain ⟨v10, hv10, hf⟩ := ob hf
      refine r_aI hC hK hW hv10 dX11_allPortions_24 ?_
      refine lv_iadd hx hb dX11_allPortions_25 ?_
      refine lv_istore_n (lv' := [(1, .int (x1 + v10)), (0, .ref (ad x0)), (2, .int x2)]) hx hb dX11_allPortions_26 rfl hl (by decide) rfl (fun ls hl => ?_)
      refine lv_iinc (v := (x2 + (1 : Int32))) (lv' := [(2, .int (x2 + (1 : Int32))), (1, .int (x1 + v10)), (0, .ref (ad x0))]) hx hb dX11_allPortions_27 hl (k := 2) rfl rfl (by decide) rfl (fun ls hl => ?_)
      refine lv_goto (tgt := 4) hx hb dX11_allPortions_30 (by decide) ?_
      exact hg4 (x1 + v10) (x2 + (1 : Int32)) _ _ _ hW (lv_sub hl [2, 1, 0] rfl) hf
  have J4 : ∀ (x0 : Nat) (x1 : Int32) (x2 : Int32)  (H : Heap) (locs : List Loc) (ls : Array Slot) (hW : Wd D cA ad A s M0 H locs) (hl : lv_has ls 3 [(0, .ref (ad x0)), (1, .int x1), (2, .int x2)]) (hf : f_X11_allPortions_4  x0 M0 x1 x2 = some q), W p l e (rmD 0) s m args below meth c H locs 0 0 (MQ below (QI D cA ad A q M0) args s 0 0 A) (F0 m 4 ls []) := by
    intro x0 x1 x2  H locs ls hW hl hf
    unfold f_X11_allPortions_4 at hf
    have key : ∀ (n : Nat) (x1 : Int32) (x2 : Int32) (H : Heap) (locs : List Loc) (ls : Array Slot) (hW : Wd D cA ad A s M0 H locs) (hl : lv_has ls 3 [(0, .ref (ad x0)), (1, .int x1), (2, .int x2)]) (hf : loopF (fun ag s => f_X11_allPortions_4b  x0 M0 ag s.1 s.2) n (x1, x2) = some q), W p l e (rmD 0) s m args below meth c H locs 0 0 (MQ below (QI D cA ad A q M0) args s 0 0 A) (F0 m 4 ls []) := by
      intro n
      induction n with
      | zero => intro x1 x2 H locs ls hW hl hf; exact nomatch (show (none : Option _) = some _ from hf)
      | succ n ih => intro x1 x2 H locs ls hW hl hf; exact B4 x0 x1 x2  _ ih H locs ls hW hl hf
    exact key FU x1 x2 H locs ls hW hl hf
  have hf := hf0
  unfold f_X11_allPortions at hf
  refine lv_iconst (v := (0 : Int32)) hx hb dX11_allPortions_0 (by decide) ?_
  refine lv_istore_n (lv' := [(1, .int (0 : Int32)), (0, .ref (ad a0))]) hx hb dX11_allPortions_1 rfl hl (by decide) rfl (fun ls hl => ?_)
  refine lv_iconst (v := (0 : Int32)) hx hb dX11_allPortions_2 (by decide) ?_
  refine lv_istore_n (lv' := [(2, .int (0 : Int32)), (1, .int (0 : Int32)), (0, .ref (ad a0))]) hx hb dX11_allPortions_3 rfl hl (by decide) rfl (fun ls hl => ?_)
  exact J4 a0 (0 : Int32) (0 : Int32) _ _ _ hW (lv_sub hl [2, 1, 0] rfl) hf
set_option maxHeartbeats 4000000 in
set_option maxRecDepth 100000 in
theorem c_X11_isImage (l : Launch) {D : va_G} {cA : Nat → ClassId} {ad : Nat → Nat} {A : Nat → Prop} (hAd : AdOk ad A) {a0 : Nat} {a1 : Int32} {M0 : Mem} {q : Int32} (hf0 : f_X11_isImage a0 a1 M0 = some q) : Met l yX11_isImage (wd yX11_isImage cX11_isImage 2 (some .boolean)) (rmD 0) (PcW D cA ad [.ref (ad a0), .int a1] M0) (QI D cA ad A q M0) 0 0 A := by
  refine mk_met (own := RX11) (by decide +kernel) rfl (Nat.le_of_ble_eq_true rfl) ?_
  intro p e s m args below meth c hC hr hlk hK H locs ls hW hl
  have hx := hC.1
  have hb := hC.2.1
  have hl : lv_has ls 2 [(0, .ref (ad a0)), (1, .int a1)] := hl
  have J13 : ∀    (H : Heap) (locs : List Loc) (ls : Array Slot) (hW : Wd D cA ad A s M0 H locs) (hl : lv_has ls 2 []) (hf : f_X11_isImage_13    M0 = some q), W p l e (rmD 0) s m args below meth c H locs 0 0 (MQ below (QI D cA ad A q M0) args s 0 0 A) (F0 m 13 ls []) := by
    intro    H locs ls hW hl hf
    unfold f_X11_isImage_13 at hf
    refine lv_iconst (v := (0 : Int32)) hx hb dX11_isImage_13 (by decide) ?_
    exact r_zretP hC hr hlk hW hf dX11_isImage_14
  have hf := hf0
  unfold f_X11_isImage at hf
  refine lv_iload_n hx hb dX11_isImage_0 rfl (lv_at hl 1 rfl) ?_
  refine lv_if_lt (tgt := 13) hx hb dX11_isImage_1 (by decide) (fun c1 => ?_) (fun c1 => ?_)
  · have hf := it c1 hf
    exact J13  _ _ _ hW (lv_sub hl [] rfl) hf
  · have hf := ie c1 hf
    refine lv_iload_n hx hb dX11_isImage_4 rfl (lv_at hl 1 rfl) ?_
    refine lv_iconst (v := (2 : Int32)) hx hb dX11_isImage_5 (by decide) ?_
    refine lv_icmp_ge (tgt := 13) hx hb dX11_isImage_6 (by decide) (fun c6 => ?_) (fun c6 => ?_)
    · have hf := it c6 hf
      exact J13  _ _ _ hW (lv_sub hl [] rfl) hf
    · have hf := ie c6 hf
      refine lv_iconst (v := (1 : Int32)) hx hb dX11_isImage_9 (by decide) ?_
      refine lv_goto (tgt := 14) hx hb dX11_isImage_10 (by decide) ?_
      exact r_zretP hC hr hlk hW hf dX11_isImage_14
set_option maxHeartbeats 4000000 in
set_option maxRecDepth 100000 in
theorem c_X11_back (l : Launch) {D : va_G} {cA : Nat → ClassId} {ad : Nat → Nat} {A : Nat → Prop} (hAd : AdOk ad A) {a0 : Nat} {a1 : Int32} {M0 : Mem} {q : (Int32 × Mem)} (hf0 : f_X11_back a0 a1 M0 = some q) : Met l yX11_back (wd yX11_back cX11_back 2 (some .int)) (rmD 2) (PcW D cA ad [.ref (ad a0), .int a1] M0) (QI D cA ad A q.1 q.2) 0 0 A := by
  refine mk_met (own := RX11) (by decide +kernel) rfl (Nat.le_of_ble_eq_true rfl) ?_
  intro p e s m args below meth c hC hr hlk hK H locs ls hW hl
  have hx := hC.1
  have hb := hC.2.1
  have hl : lv_has ls 2 [(0, .ref (ad a0)), (1, .int a1)] := hl
  have hf := hf0
  unfold f_X11_back at hf
  refine lv_aload_n hx hb dX11_back_0 rfl (lv_at hl 0 rfl) ?_
  refine lv_iload_n hx hb dX11_back_1 rfl (lv_at hl 1 rfl) ?_
  obtain ⟨q11, hq11, hf⟩ := ob hf
  refine k_vI hC hK hW cfX11 (c_X11_isImage l hAd (cv_s hq11).2) (cv_s hq11).1 my_X11_isImage wI_X11_isImage wQ_X11_isImage wM_X11_260 ⟨Nat.le_of_ble_eq_true rfl, Nat.le_of_ble_eq_true rfl⟩ rfl hl.1 rfl (Nat.le_of_ble_eq_true rfl) ⟨Nat.zero_le _, Nat.zero_le _⟩ dX11_back_2 (fun H locs hW => ?_)
  refine lv_if_ne (tgt := 10) hx hb dX11_back_5 (by decide) (fun c5 => ?_) (fun c5 => ?_)
  · have hf := ie c5 hf
    refine lv_aload_n hx hb dX11_back_10 rfl (lv_at hl 0 rfl) ?_
    obtain ⟨r12, hr12, hf⟩ := ob hf
    refine r_gR hC hK hW cfX11 (by decide) wF_X11_60 rfl hr12 dX11_back_11 ?_
    refine lv_iload_n hx hb dX11_back_14 rfl (lv_at hl 1 rfl) ?_
    obtain ⟨v13, hv13, hf⟩ := ob hf
    refine r_aZ hC hK hW hv13 dX11_back_15 ?_
    refine lv_if_ne (tgt := 22) hx hb dX11_back_16 (by decide) (fun c16 => ?_) (fun c16 => ?_)
    · have hf := ie c16 hf
      refine lv_aload_n hx hb dX11_back_22 rfl (lv_at hl 0 rfl) ?_
      obtain ⟨r14, hr14, hf⟩ := ob hf
      refine r_gR hC hK hW cfX11 (by decide) wF_X11_46 rfl hr14 dX11_back_23 ?_
      refine lv_aload_n hx hb dX11_back_26 rfl (lv_at hl 0 rfl) ?_
      obtain ⟨r15, hr15, hf⟩ := ob hf
      refine r_gR hC hK hW cfX11 (by decide) wF_X11_57 rfl hr15 dX11_back_27 ?_
      refine lv_iload_n hx hb dX11_back_30 rfl (lv_at hl 1 rfl) ?_
      obtain ⟨r16, hr16, hf⟩ := ob hf
      refine r_aR hC hK hW (by decide) hr16 dX11_back_31 ?_
      obtain ⟨q17, hq17, hf⟩ := ob hf
      refine k_vV hC hK hW cfX7 (c_X7_become l hAd (cv_s hq17).2) (cv_s hq17).1 my_X7_become wI_X7_become wQ_X7_become wM_X11_112 ⟨Nat.le_of_ble_eq_true rfl, Nat.le_of_ble_eq_true rfl⟩ rfl hl.1 rfl (Nat.le_of_ble_eq_true rfl) ⟨Nat.zero_le _, Nat.zero_le _⟩ dX11_back_32 (fun H locs hW => ?_)
      refine lv_aload_n hx hb dX11_back_35 rfl (lv_at hl 0 rfl) ?_
      refine lv_iconst (v := (0 : Int32)) hx hb dX11_back_36 (by decide) ?_
      obtain ⟨M18, hM18, hf⟩ := ob hf
      refine r_pI hC hK hAd hW cfX11 (by decide) wF_X11_116 rfl rfl rfl hM18 dX11_back_37 (fun H locs hW => ?_)
      refine lv_aload_n hx hb dX11_back_40 rfl (lv_at hl 0 rfl) ?_
      obtain ⟨r19, hr19, hf⟩ := ob hf
      refine r_gR hC hK hW cfX11 (by decide) wF_X11_46 rfl hr19 dX11_back_41 ?_
      obtain ⟨v20, hv20, hf⟩ := ob hf
      refine r_gI hC hK hW cfX7 (by decide) wF_X11_160 rfl hv20 dX11_back_44 ?_
      exact r_iret hC hr hlk hW hf dX11_back_47
    · have hf := it c16 hf
      refine lv_bipush (v := (-2 : Int32)) hx hb dX11_back_19 (by decide) ?_
      exact r_iret hC hr hlk hW hf dX11_back_21
  · have hf := it c5 hf
    refine lv_iconst (v := (-1 : Int32)) hx hb dX11_back_8 (by decide) ?_
    exact r_iret hC hr hlk hW hf dX11_back_9
set_option maxHeartbeats 4000000 in
set_option maxRecDepth 100000 in
theorem c_X11_isGuest (l : Launch) {D : va_G} {cA : Nat → ClassId} {ad : Nat → Nat} {A : Nat → Prop} (hAd : AdOk ad A) {a0 : Nat} {a1 : Int32} {M0 : Mem} {q : Int32} (hf0 : f_X11_isGuest a0 a1 M0 = some q) : Met l yX11_isGuest (wd yX11_isGuest cX11_isGuest 2 (some .boolean)) (rmD 0) (PcW D cA ad [.ref (ad a0), .int a1] M0) (QI D cA ad A q M0) 0 0 A := by
  refine mk_met (own := RX11) (by decide +kernel) rfl (Nat.le_of_ble_eq_true rfl) ?_
  intro p e s m args below meth c hC hr hlk hK H locs ls hW hl
  have hx := hC.1
  have hb := hC.2.1
  have hl : lv_has ls 2 [(0, .ref (ad a0)), (1, .int a1)] := hl
  have J19 : ∀    (H : Heap) (locs : List Loc) (ls : Array Slot) (hW : Wd D cA ad A s M0 H locs) (hl : lv_has ls 2 []) (hf : f_X11_isGuest_19    M0 = some q), W p l e (rmD 0) s m args below meth c H locs 0 0 (MQ below (QI D cA ad A q M0) args s 0 0 A) (F0 m 19 ls []) := by
    intro    H locs ls hW hl hf
    unfold f_X11_isGuest_19 at hf
    refine lv_iconst (v := (0 : Int32)) hx hb dX11_isGuest_19 (by decide) ?_
    exact r_zretP hC hr hlk hW hf dX11_isGuest_20
  have hf := hf0
  unfold f_X11_isGuest at hf
  refine lv_iload_n hx hb dX11_isGuest_0 rfl (lv_at hl 1 rfl) ?_
  refine lv_if_lt (tgt := 19) hx hb dX11_isGuest_1 (by decide) (fun c1 => ?_) (fun c1 => ?_)
  · have hf := it c1 hf
    exact J19  _ _ _ hW (lv_sub hl [] rfl) hf
  · have hf := ie c1 hf
    refine lv_iload_n hx hb dX11_isGuest_4 rfl (lv_at hl 1 rfl) ?_
    refine lv_aload_n hx hb dX11_isGuest_5 rfl (lv_at hl 0 rfl) ?_
    obtain ⟨r3, hr3, hf⟩ := ob hf
    refine r_gR hC hK hW cfX11 (by decide) wF_X11_39 rfl hr3 dX11_isGuest_6 ?_
    obtain ⟨v4, hv4, hf⟩ := ob hf
    refine r_gI hC hK hW cfX8 (by decide) wF_X11_227 rfl hv4 dX11_isGuest_9 ?_
    refine lv_icmp_ge (tgt := 19) hx hb dX11_isGuest_12 (by decide) (fun c12 => ?_) (fun c12 => ?_)
    · have hf := it c12 hf
      exact J19  _ _ _ hW (lv_sub hl [] rfl) hf
    · have hf := ie c12 hf
      refine lv_iconst (v := (1 : Int32)) hx hb dX11_isGuest_15 (by decide) ?_
      refine lv_goto (tgt := 20) hx hb dX11_isGuest_16 (by decide) ?_
      exact r_zretP hC hr hlk hW hf dX11_isGuest_20
set_option maxHeartbeats 4000000 in
set_option maxRecDepth 100000 in
theorem c_X11_remember (l : Launch) {D : va_G} {cA : Nat → ClassId} {ad : Nat → Nat} {A : Nat → Prop} (hAd : AdOk ad A) {a0 : Nat} {M0 : Mem} {q : Mem} (hf0 : f_X11_remember a0 M0 = some q) : Met l yX11_remember (wd yX11_remember cX11_remember 3 none) (rmD 2) (PcW D cA ad [.ref (ad a0)] M0) (QV D cA ad A q) 0 0 A := by
  refine mk_met (own := RX11) (by decide +kernel) rfl (Nat.le_of_ble_eq_true rfl) ?_
  intro p e s m args below meth c hC hr hlk hK H locs ls hW hl
  have hx := hC.1
  have hb := hC.2.1
  have hl : lv_has ls 3 [(0, .ref (ad a0))] := hl
  have J58 : ∀ (x0 : Nat)  (M : Mem)  (H : Heap) (locs : List Loc) (ls : Array Slot) (hW : Wd D cA ad A s M H locs) (hl : lv_has ls 3 [(0, .ref (ad x0))]) (hf : f_X11_remember_58  x0  M = some q), W p l e (rmD 2) s m args below meth c H locs 0 0 (MQ below (QV D cA ad A q) args s 0 0 A) (F0 m 58 ls []) := by
    intro x0  M  H locs ls hW hl hf
    unfold f_X11_remember_58 at hf
    refine lv_aload_n hx hb dX11_remember_58 rfl (lv_at hl 0 rfl) ?_
    obtain ⟨r8, hr8, hf⟩ := ob hf
    refine r_gR hC hK hW cfX11 (by decide) wF_X11_53 rfl hr8 dX11_remember_59 ?_
    refine lv_aload_n hx hb dX11_remember_62 rfl (lv_at hl 0 rfl) ?_
    obtain ⟨v9, hv9, hf⟩ := ob hf
    refine r_gI hC hK hW cfX11 (by decide) wF_X11_116 rfl hv9 dX11_remember_63 ?_
    obtain ⟨r10, hr10, hf⟩ := ob hf
    refine r_aR hC hK hW (by decide) hr10 dX11_remember_66 ?_
    refine lv_aload_n hx hb dX11_remember_67 rfl (lv_at hl 0 rfl) ?_
    obtain ⟨r11, hr11, hf⟩ := ob hf
    refine r_gR hC hK hW cfX11 (by decide) wF_X11_46 rfl hr11 dX11_remember_68 ?_
    obtain ⟨q12, hq12, hf⟩ := ob hf
    refine k_vV hC hK hW cfX7 (c_X7_become l hAd (cv_s hq12).2) (cv_s hq12).1 my_X7_become wI_X7_become wQ_X7_become wM_X11_112 ⟨Nat.le_of_ble_eq_true rfl, Nat.le_of_ble_eq_true rfl⟩ rfl hl.1 rfl (Nat.le_of_ble_eq_true rfl) ⟨Nat.zero_le _, Nat.zero_le _⟩ dX11_remember_71 (fun H locs hW => ?_)
    refine lv_aload_n hx hb dX11_remember_74 rfl (lv_at hl 0 rfl) ?_
    refine lv_dup hx hb dX11_remember_75 rfl ?_
    obtain ⟨v13, hv13, hf⟩ := ob hf
    refine r_gI hC hK hW cfX11 (by decide) wF_X11_116 rfl hv13 dX11_remember_76 ?_
    refine lv_iconst (v := (1 : Int32)) hx hb dX11_remember_79 (by decide) ?_
    refine lv_iadd hx hb dX11_remember_80 ?_
    obtain ⟨M14, hM14, hf⟩ := ob hf
    refine r_pI hC hK hAd hW cfX11 (by decide) wF_X11_116 rfl rfl rfl hM14 dX11_remember_81 (fun H locs hW => ?_)
    exact r_vret hC hr hlk hW hf dX11_remember_84
  have B18 : ∀ (x0 : Nat) (x1 : Nat) (x2 : Int32) (M : Mem)  (ag18 : Int32 × Mem → Option Mem) (hg18 : ∀ (x2 : Int32) (M : Mem) (H : Heap) (locs : List Loc) (ls : Array Slot) (_ : Wd D cA ad A s M H locs) (_ : lv_has ls 3 [(0, .ref (ad x0)), (1, .ref (ad x1)), (2, .int x2)]) (_ : ag18 (x2, M) = some q), W p l e (rmD 2) s m args below meth c H locs 0 0 (MQ below (QV D cA ad A q) args s 0 0 A) (F0 m 18 ls [])) (H : Heap) (locs : List Loc) (ls : Array Slot) (hW : Wd D cA ad A s M H locs) (hl : lv_has ls 3 [(0, .ref (ad x0)), (1, .ref (ad x1)), (2, .int x2)]) (hf : f_X11_remember_18b  x0 x1 ag18 x2 M = some q), W p l e (rmD 2) s m args below meth c H locs 0 0 (MQ below (QV D cA ad A q) args s 0 0 A) (F0 m 18 ls []) := by
    intro x0 x1 x2 M  ag18 hg18 H locs ls hW hl hf
    unfold f_X11_remember_18b at hf
    refine lv_iload_n hx hb dX11_remember_18 rfl (lv_at hl 2 rfl) ?_
    refine lv_bipush (v := (10 : Int32)) hx hb dX11_remember_19 (by decide) ?_
    refine lv_icmp_ge (tgt := 44) hx hb dX11_remember_21 (by decide) (fun c21 => ?_) (fun c21 => ?_)
    · have hf := it c21 hf
      refine lv_aload_n hx hb dX11_remember_44 rfl (lv_at hl 0 rfl) ?_
      obtain ⟨r22, hr22, hf⟩ := ob hf
      refine r_gR hC hK hW cfX11 (by decide) wF_X11_53 rfl hr22 dX11_remember_45 ?_
      refine lv_bipush (v := (9 : Int32)) hx hb dX11_remember_48 (by decide) ?_
      refine lv_aload_n hx hb dX11_remember_50 rfl (lv_at hl 1 rfl) ?_
      obtain ⟨M23, hM23, hf⟩ := ob hf
      refine r_sR hC hK hAd hW hM23 dX11_remember_51 (fun H locs hW => ?_)
      refine lv_aload_n hx hb dX11_remember_52 rfl (lv_at hl 0 rfl) ?_
      refine lv_bipush (v := (9 : Int32)) hx hb dX11_remember_53 (by decide) ?_
      obtain ⟨M24, hM24, hf⟩ := ob hf
      refine r_pI hC hK hAd hW cfX11 (by decide) wF_X11_116 rfl rfl rfl hM24 dX11_remember_55 (fun H locs hW => ?_)
      exact J58 x0 M24 _ _ _ hW (lv_sub hl [0] rfl) hf
    · have hf := ie c21 hf
      refine lv_aload_n hx hb dX11_remember_24 rfl (lv_at hl 0 rfl) ?_
      obtain ⟨r25, hr25, hf⟩ := ob hf
      refine r_gR hC hK hW cfX11 (by decide) wF_X11_53 rfl hr25 dX11_remember_25 ?_
      refine lv_iload_n hx hb dX11_remember_28 rfl (lv_at hl 2 rfl) ?_
      refine lv_iconst (v := (1 : Int32)) hx hb dX11_remember_29 (by decide) ?_
      refine lv_isub hx hb dX11_remember_30 ?_
      refine lv_aload_n hx hb dX11_remember_31 rfl (lv_at hl 0 rfl) ?_
      obtain ⟨r26, hr26, hf⟩ := ob hf
      refine r_gR hC hK hW cfX11 (by decide) wF_X11_53 rfl hr26 dX11_remember_32 ?_
      refine lv_iload_n hx hb dX11_remember_35 rfl (lv_at hl 2 rfl) ?_
      obtain ⟨r27, hr27, hf⟩ := ob hf
      refine r_aR hC hK hW (by decide) hr27 dX11_remember_36 ?_
      obtain ⟨M28, hM28, hf⟩ := ob hf
      refine r_sR hC hK hAd hW hM28 dX11_remember_37 (fun H locs hW => ?_)
      refine lv_iinc (v := (x2 + (1 : Int32))) (lv' := [(2, .int (x2 + (1 : Int32))), (0, .ref (ad x0)), (1, .ref (ad x1))]) hx hb dX11_remember_38 hl (k := 2) rfl rfl (by decide) rfl (fun ls hl => ?_)
      refine lv_goto (tgt := 18) hx hb dX11_remember_41 (by decide) ?_
      exact hg18 (x2 + (1 : Int32)) M28 _ _ _ hW (lv_sub hl [1, 2, 0] rfl) hf
  have J18 : ∀ (x0 : Nat) (x1 : Nat) (x2 : Int32) (M : Mem)  (H : Heap) (locs : List Loc) (ls : Array Slot) (hW : Wd D cA ad A s M H locs) (hl : lv_has ls 3 [(0, .ref (ad x0)), (1, .ref (ad x1)), (2, .int x2)]) (hf : f_X11_remember_18  x0 x1 x2 M = some q), W p l e (rmD 2) s m args below meth c H locs 0 0 (MQ below (QV D cA ad A q) args s 0 0 A) (F0 m 18 ls []) := by
    intro x0 x1 x2 M  H locs ls hW hl hf
    unfold f_X11_remember_18 at hf
    have key : ∀ (n : Nat) (x2 : Int32) (M : Mem) (H : Heap) (locs : List Loc) (ls : Array Slot) (hW : Wd D cA ad A s M H locs) (hl : lv_has ls 3 [(0, .ref (ad x0)), (1, .ref (ad x1)), (2, .int x2)]) (hf : loopF (fun ag s => f_X11_remember_18b  x0 x1 ag s.1 s.2) n (x2, M) = some q), W p l e (rmD 2) s m args below meth c H locs 0 0 (MQ below (QV D cA ad A q) args s 0 0 A) (F0 m 18 ls []) := by
      intro n
      induction n with
      | zero => intro x2 M H locs ls hW hl hf; exact nomatch (show (none : Option _) = some _ from hf)
      | succ n ih => intro x2 M H locs ls hW hl hf; exact B18 x0 x1 x2 M  _ ih H locs ls hW hl hf
    exact key FU x2 M H locs ls hW hl hf
  have hf := hf0
  unfold f_X11_remember at hf
  refine lv_aload_n hx hb dX11_remember_0 rfl (lv_at hl 0 rfl) ?_
  obtain ⟨v32, hv32, hf⟩ := ob hf
  refine r_gI hC hK hW cfX11 (by decide) wF_X11_116 rfl hv32 dX11_remember_1 ?_
  refine lv_bipush (v := (10 : Int32)) hx hb dX11_remember_4 (by decide) ?_
  refine lv_icmp_lt (tgt := 58) hx hb dX11_remember_6 (by decide) (fun c6 => ?_) (fun c6 => ?_)
  · have hf := it c6 hf
    exact J58 a0 M0 _ _ _ hW (lv_sub hl [0] rfl) hf
  · have hf := ie c6 hf
    refine lv_aload_n hx hb dX11_remember_9 rfl (lv_at hl 0 rfl) ?_
    obtain ⟨r33, hr33, hf⟩ := ob hf
    refine r_gR hC hK hW cfX11 (by decide) wF_X11_53 rfl hr33 dX11_remember_10 ?_
    refine lv_iconst (v := (0 : Int32)) hx hb dX11_remember_13 (by decide) ?_
    obtain ⟨r34, hr34, hf⟩ := ob hf
    refine r_aR hC hK hW (by decide) hr34 dX11_remember_14 ?_
    refine lv_astore_n (lv' := [(1, .ref (ad r34)), (0, .ref (ad a0))]) hx hb dX11_remember_15 rfl hl (by decide) rfl (fun ls hl => ?_)
    refine lv_iconst (v := (1 : Int32)) hx hb dX11_remember_16 (by decide) ?_
    refine lv_istore_n (lv' := [(2, .int (1 : Int32)), (1, .ref (ad r34)), (0, .ref (ad a0))]) hx hb dX11_remember_17 rfl hl (by decide) rfl (fun ls hl => ?_)
    exact J18 a0 r34 (1 : Int32) M0 _ _ _ hW (lv_sub hl [2, 1, 0] rfl) hf
set_option maxHeartbeats 4000000 in
set_option maxRecDepth 100000 in
theorem c_X11_changes (l : Launch) {D : va_G} {cA : Nat → ClassId} {ad : Nat → Nat} {A : Nat → Prop} (hAd : AdOk ad A) {a0 : Nat} {a1 : Int32} {a2 : Int32} {M0 : Mem} {q : (Int32 × Mem)} (hf0 : f_X11_changes a0 a1 a2 M0 = some q) : Met l yX11_changes (wd yX11_changes cX11_changes 3 (some .int)) (rmD 3) (PcW D cA ad [.ref (ad a0), .int a1, .int a2] M0) (QI D cA ad A q.1 q.2) 0 0 A := by
  refine mk_met (own := RX11) (by decide +kernel) rfl (Nat.le_of_ble_eq_true rfl) ?_
  intro p e s m args below meth c hC hr hlk hK H locs ls hW hl
  have hx := hC.1
  have hb := hC.2.1
  have hl : lv_has ls 3 [(0, .ref (ad a0)), (1, .int a1), (2, .int a2)] := hl
  have hf := hf0
  unfold f_X11_changes at hf
  refine lv_aload_n hx hb dX11_changes_0 rfl (lv_at hl 0 rfl) ?_
  refine lv_iload_n hx hb dX11_changes_1 rfl (lv_at hl 1 rfl) ?_
  obtain ⟨q9, hq9, hf⟩ := ob hf
  refine k_vI hC hK hW cfX11 (c_X11_isGuest l hAd (cv_s hq9).2) (cv_s hq9).1 my_X11_isGuest wI_X11_isGuest wQ_X11_isGuest wM_X11_122 ⟨Nat.le_of_ble_eq_true rfl, Nat.le_of_ble_eq_true rfl⟩ rfl hl.1 rfl (Nat.le_of_ble_eq_true rfl) ⟨Nat.zero_le _, Nat.zero_le _⟩ dX11_changes_2 (fun H locs hW => ?_)
  refine lv_if_eq (tgt := 21) hx hb dX11_changes_5 (by decide) (fun c5 => ?_) (fun c5 => ?_)
  · have hf := it c5 hf
    refine lv_iconst (v := (-1 : Int32)) hx hb dX11_changes_21 (by decide) ?_
    exact r_iret hC hr hlk hW hf dX11_changes_22
  · have hf := ie c5 hf
    refine lv_aload_n hx hb dX11_changes_8 rfl (lv_at hl 0 rfl) ?_
    refine lv_iload_n hx hb dX11_changes_9 rfl (lv_at hl 2 rfl) ?_
    obtain ⟨q10, hq10, hf⟩ := ob hf
    refine k_vI hC hK hW cfX11 (c_X11_isGuest l hAd (cv_s hq10).2) (cv_s hq10).1 my_X11_isGuest wI_X11_isGuest wQ_X11_isGuest wM_X11_122 ⟨Nat.le_of_ble_eq_true rfl, Nat.le_of_ble_eq_true rfl⟩ rfl hl.1 rfl (Nat.le_of_ble_eq_true rfl) ⟨Nat.zero_le _, Nat.zero_le _⟩ dX11_changes_10 (fun H locs hW => ?_)
    refine lv_if_eq (tgt := 21) hx hb dX11_changes_13 (by decide) (fun c13 => ?_) (fun c13 => ?_)
    · have hf := it c13 hf
      refine lv_iconst (v := (-1 : Int32)) hx hb dX11_changes_21 (by decide) ?_
      exact r_iret hC hr hlk hW hf dX11_changes_22
    · have hf := ie c13 hf
      refine lv_iload_n hx hb dX11_changes_16 rfl (lv_at hl 1 rfl) ?_
      refine lv_iload_n hx hb dX11_changes_17 rfl (lv_at hl 2 rfl) ?_
      refine lv_icmp_ne (tgt := 23) hx hb dX11_changes_18 (by decide) (fun c18 => ?_) (fun c18 => ?_)
      · have hf := ie c18 hf
        refine lv_aload_n hx hb dX11_changes_23 rfl (lv_at hl 0 rfl) ?_
        obtain ⟨q11, hq11, hf⟩ := ob hf
        refine k_vV hC hK hW cfX11 (c_X11_remember l hAd (cv_s hq11).2) (cv_s hq11).1 my_X11_remember wI_X11_remember wQ_X11_remember wM_X11_187 ⟨Nat.le_of_ble_eq_true rfl, Nat.le_of_ble_eq_true rfl⟩ rfl hl.1 rfl (Nat.le_of_ble_eq_true rfl) ⟨Nat.zero_le _, Nat.zero_le _⟩ dX11_changes_24 (fun H locs hW => ?_)
        refine lv_aload_n hx hb dX11_changes_27 rfl (lv_at hl 0 rfl) ?_
        obtain ⟨r12, hr12, hf⟩ := ob hf
        refine r_gR hC hK hW cfX11 (by decide) wF_X11_46 rfl hr12 dX11_changes_28 ?_
        refine lv_iload_n hx hb dX11_changes_31 rfl (lv_at hl 1 rfl) ?_
        refine lv_iload_n hx hb dX11_changes_32 rfl (lv_at hl 2 rfl) ?_
        obtain ⟨q13, hq13, hf⟩ := ob hf
        refine k_vV hC hK hW cfX7 (c_X7_changeSeats l hAd (cv_s hq13).2) (cv_s hq13).1 my_X7_changeSeats wI_X7_changeSeats wQ_X7_changeSeats wM_X11_207 ⟨Nat.le_of_ble_eq_true rfl, Nat.le_of_ble_eq_true rfl⟩ rfl hl.1 rfl (Nat.le_of_ble_eq_true rfl) ⟨Nat.zero_le _, Nat.zero_le _⟩ dX11_changes_33 (fun H locs hW => ?_)
        refine lv_aload_n hx hb dX11_changes_36 rfl (lv_at hl 0 rfl) ?_
        obtain ⟨r14, hr14, hf⟩ := ob hf
        refine r_gR hC hK hW cfX11 (by decide) wF_X11_46 rfl hr14 dX11_changes_37 ?_
        obtain ⟨r15, hr15, hf⟩ := ob hf
        refine r_gR hC hK hW cfX7 (by decide) wF_X11_126 rfl hr15 dX11_changes_40 ?_
        refine lv_iload_n hx hb dX11_changes_43 rfl (lv_at hl 1 rfl) ?_
        obtain ⟨v16, hv16, hf⟩ := ob hf
        refine r_aI hC hK hW hv16 dX11_changes_44 ?_
        exact r_iret hC hr hlk hW hf dX11_changes_45
      · have hf := it c18 hf
        refine lv_iconst (v := (-1 : Int32)) hx hb dX11_changes_21 (by decide) ?_
        exact r_iret hC hr hlk hW hf dX11_changes_22
set_option maxHeartbeats 4000000 in
set_option maxRecDepth 100000 in
theorem c_X11_clear (l : Launch) {D : va_G} {cA : Nat → ClassId} {ad : Nat → Nat} {A : Nat → Prop} (hAd : AdOk ad A) {a0 : Nat} {M0 : Mem} {q : (Int32 × Mem)} (hf0 : f_X11_clear a0 M0 = some q) : Met l yX11_clear (wd yX11_clear cX11_clear 2 (some .int)) (rmD 0) (PcW D cA ad [.ref (ad a0)] M0) (QI D cA ad A q.1 q.2) 0 0 A := by
  refine mk_met (own := RX11) (by decide +kernel) rfl (Nat.le_of_ble_eq_true rfl) ?_
  intro p e s m args below meth c hC hr hlk hK H locs ls hW hl
  have hx := hC.1
  have hb := hC.2.1
  have hl : lv_has ls 2 [(0, .ref (ad a0))] := hl
  have hf := hf0
  unfold f_X11_clear at hf
  refine lv_aload_n hx hb dX11_clear_0 rfl (lv_at hl 0 rfl) ?_
  obtain ⟨r5, hr5, hf⟩ := ob hf
  refine r_gR hC hK hW cfX11 (by decide) wF_X11_10 rfl hr5 dX11_clear_1 ?_
  obtain ⟨v6, hv6, hf⟩ := ob hf
  refine r_gI hC hK hW cfX9 (by decide) wF_X11_93 rfl hv6 dX11_clear_4 ?_
  refine lv_istore_n (lv' := [(1, .int v6), (0, .ref (ad a0))]) hx hb dX11_clear_7 rfl hl (by decide) rfl (fun ls hl => ?_)
  refine lv_aload_n hx hb dX11_clear_8 rfl (lv_at hl 1 rfl) ?_
  obtain ⟨r7, hr7, hf⟩ := ob hf
  refine r_gR hC hK hW cfX11 (by decide) wF_X11_10 rfl hr7 dX11_clear_9 ?_
  refine lv_iconst (v := (0 : Int32)) hx hb dX11_clear_12 (by decide) ?_
  obtain ⟨M8, hM8, hf⟩ := ob hf
  refine r_pI hC hK hAd hW cfX9 (by decide) wF_X11_93 rfl rfl rfl hM8 dX11_clear_13 (fun H locs hW => ?_)
  refine lv_iload_n hx hb dX11_clear_16 rfl (lv_at hl 0 rfl) ?_
  exact r_iret hC hr hlk hW hf dX11_clear_17
set_option maxHeartbeats 4000000 in
set_option maxRecDepth 100000 in
theorem c_X11_count (l : Launch) {D : va_G} {cA : Nat → ClassId} {ad : Nat → Nat} {A : Nat → Prop} (hAd : AdOk ad A) {a0 : Nat} {a1 : Int32} {M0 : Mem} {q : Int32} (hf0 : f_X11_count a0 a1 M0 = some q) : Met l yX11_count (wd yX11_count cX11_count 2 (some .int)) (rmD 0) (PcW D cA ad [.ref (ad a0), .int a1] M0) (QI D cA ad A q M0) 0 0 A := by
  refine mk_met (own := RX11) (by decide +kernel) rfl (Nat.le_of_ble_eq_true rfl) ?_
  intro p e s m args below meth c hC hr hlk hK H locs ls hW hl
  have hx := hC.1
  have hb := hC.2.1
  have hl : lv_has ls 2 [(0, .ref (ad a0)), (1, .int a1)] := hl
  have hf := hf0
  unfold f_X11_count at hf
  refine lv_iload_n hx hb dX11_count_0 rfl (lv_at hl 1 rfl) ?_
  by_cases c1_0 : a1 = 0
  · have hf := it c1_0 hf
    refine k_tbl (tgt := 36) c1_0 hC dX11_count_1 (by decide) (by decide) rfl (by decide) ?_
    refine lv_aload_n hx hb dX11_count_36 rfl (lv_at hl 0 rfl) ?_
    obtain ⟨r10, hr10, hf⟩ := ob hf
    refine r_gR hC hK hW cfX11 (by decide) wF_X11_39 rfl hr10 dX11_count_37 ?_
    obtain ⟨v11, hv11, hf⟩ := ob hf
    refine r_gI hC hK hW cfX8 (by decide) wF_X11_181 rfl hv11 dX11_count_40 ?_
    exact r_iretP hC hr hlk hW hf dX11_count_43
  · have hf := ie c1_0 hf
    by_cases c1_1 : a1 = 1
    · have hf := it c1_1 hf
      refine k_tbl (tgt := 44) c1_1 hC dX11_count_1 (by decide) (by decide) rfl (by decide) ?_
      refine lv_aload_n hx hb dX11_count_44 rfl (lv_at hl 0 rfl) ?_
      obtain ⟨r12, hr12, hf⟩ := ob hf
      refine r_gR hC hK hW cfX11 (by decide) wF_X11_39 rfl hr12 dX11_count_45 ?_
      obtain ⟨v13, hv13, hf⟩ := ob hf
      refine r_gI hC hK hW cfX8 (by decide) wF_X11_227 rfl hv13 dX11_count_48 ?_
      exact r_iretP hC hr hlk hW hf dX11_count_51
    · have hf := ie c1_1 hf
      by_cases c1_2 : a1 = 2
      · have hf := it c1_2 hf
        refine k_tbl (tgt := 52) c1_2 hC dX11_count_1 (by decide) (by decide) rfl (by decide) ?_
        refine lv_aload_n hx hb dX11_count_52 rfl (lv_at hl 0 rfl) ?_
        obtain ⟨r14, hr14, hf⟩ := ob hf
        refine r_gR hC hK hW cfX11 (by decide) wF_X11_39 rfl hr14 dX11_count_53 ?_
        obtain ⟨v15, hv15, hf⟩ := ob hf
        refine r_gI hC hK hW cfX8 (by decide) wF_X11_263 rfl hv15 dX11_count_56 ?_
        exact r_iretP hC hr hlk hW hf dX11_count_59
      · have hf := ie c1_2 hf
        by_cases c1_3 : a1 = 3
        · have hf := it c1_3 hf
          refine k_tbl (tgt := 60) c1_3 hC dX11_count_1 (by decide) (by decide) rfl (by decide) ?_
          refine lv_aload_n hx hb dX11_count_60 rfl (lv_at hl 0 rfl) ?_
          obtain ⟨v16, hv16, hf⟩ := ob hf
          refine r_gI hC hK hW cfX11 (by decide) wF_X11_119 rfl hv16 dX11_count_61 ?_
          exact r_iretP hC hr hlk hW hf dX11_count_64
        · have hf := ie c1_3 hf
          by_cases c1_4 : a1 = 4
          · have hf := it c1_4 hf
            refine k_tbl (tgt := 65) c1_4 hC dX11_count_1 (by decide) (by decide) rfl (by decide) ?_
            refine lv_aload_n hx hb dX11_count_65 rfl (lv_at hl 0 rfl) ?_
            obtain ⟨r17, hr17, hf⟩ := ob hf
            refine r_gR hC hK hW cfX11 (by decide) wF_X11_10 rfl hr17 dX11_count_66 ?_
            obtain ⟨v18, hv18, hf⟩ := ob hf
            refine r_gI hC hK hW cfX9 (by decide) wF_X11_93 rfl hv18 dX11_count_69 ?_
            exact r_iretP hC hr hlk hW hf dX11_count_72
          · have hf := ie c1_4 hf
            refine lv_tableOut (tgt := 73) hx hb dX11_count_1 (tbl_out 5 (by decide) (fun j hj => ?_)) (by decide) ?_
            · rcases (show j = 0 ∨ j = 1 ∨ j = 2 ∨ j = 3 ∨ j = 4 by omega) with rfl | rfl | rfl | rfl | rfl
              · exact c1_0
              · exact c1_1
              · exact c1_2
              · exact c1_3
              · exact c1_4
            refine lv_iconst (v := (-1 : Int32)) hx hb dX11_count_73 (by decide) ?_
            exact r_iretP hC hr hlk hW hf dX11_count_74
set_option maxHeartbeats 4000000 in
set_option maxRecDepth 100000 in
theorem c_X11_isDish (l : Launch) {D : va_G} {cA : Nat → ClassId} {ad : Nat → Nat} {A : Nat → Prop} (hAd : AdOk ad A) {a0 : Nat} {a1 : Int32} {M0 : Mem} {q : Int32} (hf0 : f_X11_isDish a0 a1 M0 = some q) : Met l yX11_isDish (wd yX11_isDish cX11_isDish 2 (some .boolean)) (rmD 0) (PcW D cA ad [.ref (ad a0), .int a1] M0) (QI D cA ad A q M0) 0 0 A := by
  refine mk_met (own := RX11) (by decide +kernel) rfl (Nat.le_of_ble_eq_true rfl) ?_
  intro p e s m args below meth c hC hr hlk hK H locs ls hW hl
  have hx := hC.1
  have hb := hC.2.1
  have hl : lv_has ls 2 [(0, .ref (ad a0)), (1, .int a1)] := hl
  have J19 : ∀    (H : Heap) (locs : List Loc) (ls : Array Slot) (hW : Wd D cA ad A s M0 H locs) (hl : lv_has ls 2 []) (hf : f_X11_isDish_19    M0 = some q), W p l e (rmD 0) s m args below meth c H locs 0 0 (MQ below (QI D cA ad A q M0) args s 0 0 A) (F0 m 19 ls []) := by
    intro    H locs ls hW hl hf
    unfold f_X11_isDish_19 at hf
    refine lv_iconst (v := (0 : Int32)) hx hb dX11_isDish_19 (by decide) ?_
    exact r_zretP hC hr hlk hW hf dX11_isDish_20
  have hf := hf0
  unfold f_X11_isDish at hf
  refine lv_iload_n hx hb dX11_isDish_0 rfl (lv_at hl 1 rfl) ?_
  refine lv_if_lt (tgt := 19) hx hb dX11_isDish_1 (by decide) (fun c1 => ?_) (fun c1 => ?_)
  · have hf := it c1 hf
    exact J19  _ _ _ hW (lv_sub hl [] rfl) hf
  · have hf := ie c1 hf
    refine lv_iload_n hx hb dX11_isDish_4 rfl (lv_at hl 1 rfl) ?_
    refine lv_aload_n hx hb dX11_isDish_5 rfl (lv_at hl 0 rfl) ?_
    obtain ⟨r3, hr3, hf⟩ := ob hf
    refine r_gR hC hK hW cfX11 (by decide) wF_X11_39 rfl hr3 dX11_isDish_6 ?_
    obtain ⟨v4, hv4, hf⟩ := ob hf
    refine r_gI hC hK hW cfX8 (by decide) wF_X11_263 rfl hv4 dX11_isDish_9 ?_
    refine lv_icmp_ge (tgt := 19) hx hb dX11_isDish_12 (by decide) (fun c12 => ?_) (fun c12 => ?_)
    · have hf := it c12 hf
      exact J19  _ _ _ hW (lv_sub hl [] rfl) hf
    · have hf := ie c12 hf
      refine lv_iconst (v := (1 : Int32)) hx hb dX11_isDish_15 (by decide) ?_
      refine lv_goto (tgt := 20) hx hb dX11_isDish_16 (by decide) ?_
      exact r_zretP hC hr hlk hW hf dX11_isDish_20
set_option maxHeartbeats 4000000 in
set_option maxRecDepth 100000 in
theorem c_X11_dish (l : Launch) {D : va_G} {cA : Nat → ClassId} {ad : Nat → Nat} {A : Nat → Prop} (hAd : AdOk ad A) {a0 : Nat} {a1 : Int32} {a2 : Int32} {M0 : Mem} {q : Int32} (hf0 : f_X11_dish a0 a1 a2 M0 = some q) : Met l yX11_dish (wd yX11_dish cX11_dish 3 (some .int)) (rmD 5) (PcW D cA ad [.ref (ad a0), .int a1, .int a2] M0) (QI D cA ad A q M0) 0 0 A := by
  refine mk_met (own := RX11) (by decide +kernel) rfl (Nat.le_of_ble_eq_true rfl) ?_
  intro p e s m args below meth c hC hr hlk hK H locs ls hW hl
  have hx := hC.1
  have hb := hC.2.1
  have hl : lv_has ls 3 [(0, .ref (ad a0)), (1, .int a1), (2, .int a2)] := hl
  have hf := hf0
  unfold f_X11_dish at hf
  refine lv_aload_n hx hb dX11_dish_0 rfl (lv_at hl 0 rfl) ?_
  refine lv_iload_n hx hb dX11_dish_1 rfl (lv_at hl 1 rfl) ?_
  obtain ⟨q19, hq19, hf⟩ := ob hf
  refine k_vI hC hK hW cfX11 (c_X11_isDish l hAd (cv_s hq19).2) (cv_s hq19).1 my_X11_isDish wI_X11_isDish wQ_X11_isDish wM_X11_145 ⟨Nat.le_of_ble_eq_true rfl, Nat.le_of_ble_eq_true rfl⟩ rfl hl.1 rfl (Nat.le_of_ble_eq_true rfl) ⟨Nat.zero_le _, Nat.zero_le _⟩ dX11_dish_2 (fun H locs hW => ?_)
  refine lv_if_ne (tgt := 10) hx hb dX11_dish_5 (by decide) (fun c5 => ?_) (fun c5 => ?_)
  · have hf := ie c5 hf
    refine lv_iload_n hx hb dX11_dish_10 rfl (lv_at hl 2 rfl) ?_
    by_cases c11_0 : a2 = 0
    · have hf := it c11_0 hf
      refine k_tbl (tgt := 44) c11_0 hC dX11_dish_11 (by decide) (by decide) rfl (by decide) ?_
      refine lv_aload_n hx hb dX11_dish_44 rfl (lv_at hl 0 rfl) ?_
      obtain ⟨r20, hr20, hf⟩ := ob hf
      refine r_gR hC hK hW cfX11 (by decide) wF_X11_46 rfl hr20 dX11_dish_45 ?_
      obtain ⟨r21, hr21, hf⟩ := ob hf
      refine r_gR hC hK hW cfX7 (by decide) wF_X11_148 rfl hr21 dX11_dish_48 ?_
      refine lv_iload_n hx hb dX11_dish_51 rfl (lv_at hl 1 rfl) ?_
      obtain ⟨v22, hv22, hf⟩ := ob hf
      refine r_aI hC hK hW hv22 dX11_dish_52 ?_
      exact r_iretP hC hr hlk hW hf dX11_dish_53
    · have hf := ie c11_0 hf
      by_cases c11_1 : a2 = 1
      · have hf := it c11_1 hf
        refine k_tbl (tgt := 54) c11_1 hC dX11_dish_11 (by decide) (by decide) rfl (by decide) ?_
        refine lv_aload_n hx hb dX11_dish_54 rfl (lv_at hl 0 rfl) ?_
        obtain ⟨r23, hr23, hf⟩ := ob hf
        refine r_gR hC hK hW cfX11 (by decide) wF_X11_46 rfl hr23 dX11_dish_55 ?_
        obtain ⟨r24, hr24, hf⟩ := ob hf
        refine r_gR hC hK hW cfX7 (by decide) wF_X11_151 rfl hr24 dX11_dish_58 ?_
        refine lv_iload_n hx hb dX11_dish_61 rfl (lv_at hl 1 rfl) ?_
        obtain ⟨v25, hv25, hf⟩ := ob hf
        refine r_aI hC hK hW hv25 dX11_dish_62 ?_
        exact r_iretP hC hr hlk hW hf dX11_dish_63
      · have hf := ie c11_1 hf
        by_cases c11_2 : a2 = 2
        · have hf := it c11_2 hf
          refine k_tbl (tgt := 64) c11_2 hC dX11_dish_11 (by decide) (by decide) rfl (by decide) ?_
          refine lv_aload_n hx hb dX11_dish_64 rfl (lv_at hl 0 rfl) ?_
          obtain ⟨r26, hr26, hf⟩ := ob hf
          refine r_gR hC hK hW cfX11 (by decide) wF_X11_39 rfl hr26 dX11_dish_65 ?_
          obtain ⟨r27, hr27, hf⟩ := ob hf
          refine r_gR hC hK hW cfX8 (by decide) wF_X11_154 rfl hr27 dX11_dish_68 ?_
          refine lv_iload_n hx hb dX11_dish_71 rfl (lv_at hl 1 rfl) ?_
          obtain ⟨v28, hv28, hf⟩ := ob hf
          refine r_aI hC hK hW hv28 dX11_dish_72 ?_
          exact r_iretP hC hr hlk hW hf dX11_dish_73
        · have hf := ie c11_2 hf
          by_cases c11_3 : a2 = 3
          · have hf := it c11_3 hf
            refine k_tbl (tgt := 74) c11_3 hC dX11_dish_11 (by decide) (by decide) rfl (by decide) ?_
            refine lv_aload_n hx hb dX11_dish_74 rfl (lv_at hl 0 rfl) ?_
            obtain ⟨r29, hr29, hf⟩ := ob hf
            refine r_gR hC hK hW cfX11 (by decide) wF_X11_39 rfl hr29 dX11_dish_75 ?_
            refine lv_aload_n hx hb dX11_dish_78 rfl (lv_at hl 0 rfl) ?_
            obtain ⟨r30, hr30, hf⟩ := ob hf
            refine r_gR hC hK hW cfX11 (by decide) wF_X11_46 rfl hr30 dX11_dish_79 ?_
            refine lv_iload_n hx hb dX11_dish_82 rfl (lv_at hl 1 rfl) ?_
            obtain ⟨q31, hq31, hf⟩ := ob hf
            refine k_vI hC hK hW cfX8 (c_X8_seatBefore l hAd (cv_s hq31).2) (cv_s hq31).1 my_X8_seatBefore wI_X8_seatBefore wQ_X8_seatBefore wM_X11_157 ⟨Nat.le_of_ble_eq_true rfl, Nat.le_of_ble_eq_true rfl⟩ rfl hl.1 rfl (Nat.le_of_ble_eq_true rfl) ⟨Nat.zero_le _, Nat.zero_le _⟩ dX11_dish_83 (fun H locs hW => ?_)
            exact r_iretP hC hr hlk hW hf dX11_dish_86
          · have hf := ie c11_3 hf
            by_cases c11_4 : a2 = 4
            · have hf := it c11_4 hf
              refine k_tbl (tgt := 87) c11_4 hC dX11_dish_11 (by decide) (by decide) rfl (by decide) ?_
              refine lv_aload_n hx hb dX11_dish_87 rfl (lv_at hl 0 rfl) ?_
              obtain ⟨r32, hr32, hf⟩ := ob hf
              refine r_gR hC hK hW cfX11 (by decide) wF_X11_39 rfl hr32 dX11_dish_88 ?_
              refine lv_aload_n hx hb dX11_dish_91 rfl (lv_at hl 0 rfl) ?_
              obtain ⟨r33, hr33, hf⟩ := ob hf
              refine r_gR hC hK hW cfX11 (by decide) wF_X11_46 rfl hr33 dX11_dish_92 ?_
              refine lv_iload_n hx hb dX11_dish_95 rfl (lv_at hl 1 rfl) ?_
              refine lv_aload_n hx hb dX11_dish_96 rfl (lv_at hl 0 rfl) ?_
              obtain ⟨r34, hr34, hf⟩ := ob hf
              refine r_gR hC hK hW cfX11 (by decide) wF_X11_46 rfl hr34 dX11_dish_97 ?_
              obtain ⟨v35, hv35, hf⟩ := ob hf
              refine r_gI hC hK hW cfX7 (by decide) wF_X11_160 rfl hv35 dX11_dish_100 ?_
              obtain ⟨q36, hq36, hf⟩ := ob hf
              refine k_vI hC hK hW cfX8 (c_X8_whoReach l hAd (cv_s hq36).2) (cv_s hq36).1 my_X8_whoReach wI_X8_whoReach wQ_X8_whoReach wM_X11_163 ⟨Nat.le_of_ble_eq_true rfl, Nat.le_of_ble_eq_true rfl⟩ rfl hl.1 rfl (Nat.le_of_ble_eq_true rfl) ⟨Nat.zero_le _, Nat.zero_le _⟩ dX11_dish_103 (fun H locs hW => ?_)
              exact r_iretP hC hr hlk hW hf dX11_dish_106
            · have hf := ie c11_4 hf
              refine lv_tableOut (tgt := 107) hx hb dX11_dish_11 (tbl_out 5 (by decide) (fun j hj => ?_)) (by decide) ?_
              · rcases (show j = 0 ∨ j = 1 ∨ j = 2 ∨ j = 3 ∨ j = 4 by omega) with rfl | rfl | rfl | rfl | rfl
                · exact c11_0
                · exact c11_1
                · exact c11_2
                · exact c11_3
                · exact c11_4
              refine lv_iconst (v := (-1 : Int32)) hx hb dX11_dish_107 (by decide) ?_
              exact r_iretP hC hr hlk hW hf dX11_dish_108
  · have hf := it c5 hf
    refine lv_iconst (v := (-1 : Int32)) hx hb dX11_dish_8 (by decide) ?_
    exact r_iretP hC hr hlk hW hf dX11_dish_9
set_option maxHeartbeats 4000000 in
set_option maxRecDepth 100000 in
theorem c_X11_fed (l : Launch) {D : va_G} {cA : Nat → ClassId} {ad : Nat → Nat} {A : Nat → Prop} (hAd : AdOk ad A) {a0 : Nat} {a1 : Int32} {M0 : Mem} {q : (Int32 × Mem)} (hf0 : f_X11_fed a0 a1 M0 = some q) : Met l yX11_fed (wd yX11_fed cX11_fed 2 (some .int)) (rmD 4) (PcW D cA ad [.ref (ad a0), .int a1] M0) (QI D cA ad A q.1 q.2) 0 0 A := by
  refine mk_met (own := RX11) (by decide +kernel) rfl (Nat.le_of_ble_eq_true rfl) ?_
  intro p e s m args below meth c hC hr hlk hK H locs ls hW hl
  have hx := hC.1
  have hb := hC.2.1
  have hl : lv_has ls 2 [(0, .ref (ad a0)), (1, .int a1)] := hl
  have hf := hf0
  unfold f_X11_fed at hf
  refine lv_aload_n hx hb dX11_fed_0 rfl (lv_at hl 0 rfl) ?_
  refine lv_iload_n hx hb dX11_fed_1 rfl (lv_at hl 1 rfl) ?_
  obtain ⟨q9, hq9, hf⟩ := ob hf
  refine k_vI hC hK hW cfX11 (c_X11_isGuest l hAd (cv_s hq9).2) (cv_s hq9).1 my_X11_isGuest wI_X11_isGuest wQ_X11_isGuest wM_X11_122 ⟨Nat.le_of_ble_eq_true rfl, Nat.le_of_ble_eq_true rfl⟩ rfl hl.1 rfl (Nat.le_of_ble_eq_true rfl) ⟨Nat.zero_le _, Nat.zero_le _⟩ dX11_fed_2 (fun H locs hW => ?_)
  refine lv_if_ne (tgt := 10) hx hb dX11_fed_5 (by decide) (fun c5 => ?_) (fun c5 => ?_)
  · have hf := ie c5 hf
    refine lv_aload_n hx hb dX11_fed_10 rfl (lv_at hl 0 rfl) ?_
    obtain ⟨r10, hr10, hf⟩ := ob hf
    refine r_gR hC hK hW cfX11 (by decide) wF_X11_19 rfl hr10 dX11_fed_11 ?_
    refine lv_aload_n hx hb dX11_fed_14 rfl (lv_at hl 0 rfl) ?_
    obtain ⟨r11, hr11, hf⟩ := ob hf
    refine r_gR hC hK hW cfX11 (by decide) wF_X11_39 rfl hr11 dX11_fed_15 ?_
    refine lv_aload_n hx hb dX11_fed_18 rfl (lv_at hl 0 rfl) ?_
    obtain ⟨r12, hr12, hf⟩ := ob hf
    refine r_gR hC hK hW cfX11 (by decide) wF_X11_46 rfl hr12 dX11_fed_19 ?_
    obtain ⟨q13, hq13, hf⟩ := ob hf
    refine k_vI hC hK hW cfX5 (c_X5_share l hAd (cv_s hq13).2) (cv_s hq13).1 my_X5_share wI_X5_share wQ_X5_share wM_X11_177 ⟨Nat.le_of_ble_eq_true rfl, Nat.le_of_ble_eq_true rfl⟩ rfl hl.1 rfl (Nat.le_of_ble_eq_true rfl) ⟨Nat.zero_le _, Nat.zero_le _⟩ dX11_fed_22 (fun H locs hW => ?_)
    refine lv_pop hx hb dX11_fed_25 rfl ?_
    refine lv_aload_n hx hb dX11_fed_26 rfl (lv_at hl 0 rfl) ?_
    obtain ⟨r14, hr14, hf⟩ := ob hf
    refine r_gR hC hK hW cfX11 (by decide) wF_X11_19 rfl hr14 dX11_fed_27 ?_
    obtain ⟨r15, hr15, hf⟩ := ob hf
    refine r_gR hC hK hW cfX5 (by decide) wF_X11_221 rfl hr15 dX11_fed_30 ?_
    refine lv_iload_n hx hb dX11_fed_33 rfl (lv_at hl 1 rfl) ?_
    obtain ⟨v16, hv16, hf⟩ := ob hf
    refine r_aI hC hK hW hv16 dX11_fed_34 ?_
    exact r_iret hC hr hlk hW hf dX11_fed_35
  · have hf := it c5 hf
    refine lv_iconst (v := (-1 : Int32)) hx hb dX11_fed_8 (by decide) ?_
    exact r_iret hC hr hlk hW hf dX11_fed_9
set_option maxHeartbeats 4000000 in
set_option maxRecDepth 100000 in
theorem c_X11_fitsAllSeen (l : Launch) {D : va_G} {cA : Nat → ClassId} {ad : Nat → Nat} {A : Nat → Prop} (hAd : AdOk ad A) {a0 : Nat} {a1 : Int32} {M0 : Mem} {q : Int32} (hf0 : f_X11_fitsAllSeen a0 a1 M0 = some q) : Met l yX11_fitsAllSeen (wd yX11_fitsAllSeen cX11_fitsAllSeen 3 (some .boolean)) (rmD 4) (PcW D cA ad [.ref (ad a0), .int a1] M0) (QI D cA ad A q M0) 0 0 A := by
  refine mk_met (own := RX11) (by decide +kernel) rfl (Nat.le_of_ble_eq_true rfl) ?_
  intro p e s m args below meth c hC hr hlk hK H locs ls hW hl
  have hx := hC.1
  have hb := hC.2.1
  have hl : lv_has ls 3 [(0, .ref (ad a0)), (1, .int a1)] := hl
  have B2 : ∀ (x0 : Nat) (x1 : Int32) (x2 : Int32)  (ag2 : Int32 → Option Int32) (hg2 : ∀ (x2 : Int32) (H : Heap) (locs : List Loc) (ls : Array Slot) (_ : Wd D cA ad A s M0 H locs) (_ : lv_has ls 3 [(0, .ref (ad x0)), (1, .int x1), (2, .int x2)]) (_ : ag2 x2 = some q), W p l e (rmD 4) s m args below meth c H locs 0 0 (MQ below (QI D cA ad A q M0) args s 0 0 A) (F0 m 2 ls [])) (H : Heap) (locs : List Loc) (ls : Array Slot) (hW : Wd D cA ad A s M0 H locs) (hl : lv_has ls 3 [(0, .ref (ad x0)), (1, .int x1), (2, .int x2)]) (hf : f_X11_fitsAllSeen_2b  x0 x1 M0 ag2 x2 = some q), W p l e (rmD 4) s m args below meth c H locs 0 0 (MQ below (QI D cA ad A q M0) args s 0 0 A) (F0 m 2 ls []) := by
    intro x0 x1 x2  ag2 hg2 H locs ls hW hl hf
    unfold f_X11_fitsAllSeen_2b at hf
    refine lv_iload_n hx hb dX11_fitsAllSeen_2 rfl (lv_at hl 2 rfl) ?_
    refine lv_aload_n hx hb dX11_fitsAllSeen_3 rfl (lv_at hl 0 rfl) ?_
    obtain ⟨v11, hv11, hf⟩ := ob hf
    refine r_gI hC hK hW cfX11 (by decide) wF_X11_119 rfl hv11 dX11_fitsAllSeen_4 ?_
    refine lv_icmp_ge (tgt := 51) hx hb dX11_fitsAllSeen_7 (by decide) (fun c7 => ?_) (fun c7 => ?_)
    · have hf := it c7 hf
      refine lv_iconst (v := (1 : Int32)) hx hb dX11_fitsAllSeen_51 (by decide) ?_
      exact r_zretP hC hr hlk hW hf dX11_fitsAllSeen_52
    · have hf := ie c7 hf
      refine lv_aload_n hx hb dX11_fitsAllSeen_10 rfl (lv_at hl 0 rfl) ?_
      obtain ⟨r12, hr12, hf⟩ := ob hf
      refine r_gR hC hK hW cfX11 (by decide) wF_X11_39 rfl hr12 dX11_fitsAllSeen_11 ?_
      refine lv_aload_n hx hb dX11_fitsAllSeen_14 rfl (lv_at hl 0 rfl) ?_
      obtain ⟨r13, hr13, hf⟩ := ob hf
      refine r_gR hC hK hW cfX11 (by decide) wF_X11_46 rfl hr13 dX11_fitsAllSeen_15 ?_
      refine lv_iload_n hx hb dX11_fitsAllSeen_18 rfl (lv_at hl 1 rfl) ?_
      refine lv_aload_n hx hb dX11_fitsAllSeen_19 rfl (lv_at hl 0 rfl) ?_
      obtain ⟨r14, hr14, hf⟩ := ob hf
      refine r_gR hC hK hW cfX11 (by decide) wF_X11_64 rfl hr14 dX11_fitsAllSeen_20 ?_
      refine lv_iload_n hx hb dX11_fitsAllSeen_23 rfl (lv_at hl 2 rfl) ?_
      obtain ⟨v15, hv15, hf⟩ := ob hf
      refine r_aI hC hK hW hv15 dX11_fitsAllSeen_24 ?_
      refine lv_aload_n hx hb dX11_fitsAllSeen_25 rfl (lv_at hl 0 rfl) ?_
      obtain ⟨r16, hr16, hf⟩ := ob hf
      refine r_gR hC hK hW cfX11 (by decide) wF_X11_68 rfl hr16 dX11_fitsAllSeen_26 ?_
      refine lv_iload_n hx hb dX11_fitsAllSeen_29 rfl (lv_at hl 2 rfl) ?_
      obtain ⟨v17, hv17, hf⟩ := ob hf
      refine r_aI hC hK hW hv17 dX11_fitsAllSeen_30 ?_
      obtain ⟨q18, hq18, hf⟩ := ob hf
      refine k_vI hC hK hW cfX8 (c_X8_reaches l hAd (cv_s hq18).2) (cv_s hq18).1 my_X8_reaches wI_X8_reaches wQ_X8_reaches wM_X11_197 ⟨Nat.le_of_ble_eq_true rfl, Nat.le_of_ble_eq_true rfl⟩ rfl hl.1 rfl (Nat.le_of_ble_eq_true rfl) ⟨Nat.zero_le _, Nat.zero_le _⟩ dX11_fitsAllSeen_31 (fun H locs hW => ?_)
      refine lv_aload_n hx hb dX11_fitsAllSeen_34 rfl (lv_at hl 0 rfl) ?_
      obtain ⟨r19, hr19, hf⟩ := ob hf
      refine r_gR hC hK hW cfX11 (by decide) wF_X11_71 rfl hr19 dX11_fitsAllSeen_35 ?_
      refine lv_iload_n hx hb dX11_fitsAllSeen_38 rfl (lv_at hl 2 rfl) ?_
      obtain ⟨v20, hv20, hf⟩ := ob hf
      refine r_aZ hC hK hW hv20 dX11_fitsAllSeen_39 ?_
      refine lv_icmp_eq (tgt := 45) hx hb dX11_fitsAllSeen_40 (by decide) (fun c40 => ?_) (fun c40 => ?_)
      · have hf := it c40 hf
        refine lv_iinc (v := (x2 + (1 : Int32))) (lv' := [(2, .int (x2 + (1 : Int32))), (0, .ref (ad x0)), (1, .int x1)]) hx hb dX11_fitsAllSeen_45 hl (k := 2) rfl rfl (by decide) rfl (fun ls hl => ?_)
        refine lv_goto (tgt := 2) hx hb dX11_fitsAllSeen_48 (by decide) ?_
        exact hg2 (x2 + (1 : Int32)) _ _ _ hW (lv_sub hl [1, 2, 0] rfl) hf
      · have hf := ie c40 hf
        refine lv_iconst (v := (0 : Int32)) hx hb dX11_fitsAllSeen_43 (by decide) ?_
        exact r_zretP hC hr hlk hW hf dX11_fitsAllSeen_44
  have J2 : ∀ (x0 : Nat) (x1 : Int32) (x2 : Int32)  (H : Heap) (locs : List Loc) (ls : Array Slot) (hW : Wd D cA ad A s M0 H locs) (hl : lv_has ls 3 [(0, .ref (ad x0)), (1, .int x1), (2, .int x2)]) (hf : f_X11_fitsAllSeen_2  x0 x1 M0 x2 = some q), W p l e (rmD 4) s m args below meth c H locs 0 0 (MQ below (QI D cA ad A q M0) args s 0 0 A) (F0 m 2 ls []) := by
    intro x0 x1 x2  H locs ls hW hl hf
    unfold f_X11_fitsAllSeen_2 at hf
    have key : ∀ (n : Nat) (x2 : Int32) (H : Heap) (locs : List Loc) (ls : Array Slot) (hW : Wd D cA ad A s M0 H locs) (hl : lv_has ls 3 [(0, .ref (ad x0)), (1, .int x1), (2, .int x2)]) (hf : loopF (fun ag s => f_X11_fitsAllSeen_2b  x0 x1 M0 ag s) n x2 = some q), W p l e (rmD 4) s m args below meth c H locs 0 0 (MQ below (QI D cA ad A q M0) args s 0 0 A) (F0 m 2 ls []) := by
      intro n
      induction n with
      | zero => intro x2 H locs ls hW hl hf; exact nomatch (show (none : Option _) = some _ from hf)
      | succ n ih => intro x2 H locs ls hW hl hf; exact B2 x0 x1 x2  _ ih H locs ls hW hl hf
    exact key FU x2 H locs ls hW hl hf
  have hf := hf0
  unfold f_X11_fitsAllSeen at hf
  refine lv_iconst (v := (0 : Int32)) hx hb dX11_fitsAllSeen_0 (by decide) ?_
  refine lv_istore_n (lv' := [(2, .int (0 : Int32)), (0, .ref (ad a0)), (1, .int a1)]) hx hb dX11_fitsAllSeen_1 rfl hl (by decide) rfl (fun ls hl => ?_)
  exact J2 a0 a1 (0 : Int32) _ _ _ hW (lv_sub hl [1, 2, 0] rfl) hf
set_option maxHeartbeats 4000000 in
set_option maxRecDepth 100000 in
theorem c_X11_forget (l : Launch) {D : va_G} {cA : Nat → ClassId} {ad : Nat → Nat} {A : Nat → Prop} (hAd : AdOk ad A) {a0 : Nat} {M0 : Mem} {q : (Int32 × Mem)} (hf0 : f_X11_forget a0 M0 = some q) : Met l yX11_forget (wd yX11_forget cX11_forget 2 (some .int)) (rmD 0) (PcW D cA ad [.ref (ad a0)] M0) (QI D cA ad A q.1 q.2) 0 0 A := by
  refine mk_met (own := RX11) (by decide +kernel) rfl (Nat.le_of_ble_eq_true rfl) ?_
  intro p e s m args below meth c hC hr hlk hK H locs ls hW hl
  have hx := hC.1
  have hb := hC.2.1
  have hl : lv_has ls 2 [(0, .ref (ad a0))] := hl
  have hf := hf0
  unfold f_X11_forget at hf
  refine lv_aload_n hx hb dX11_forget_0 rfl (lv_at hl 0 rfl) ?_
  obtain ⟨v3, hv3, hf⟩ := ob hf
  refine r_gI hC hK hW cfX11 (by decide) wF_X11_119 rfl hv3 dX11_forget_1 ?_
  refine lv_istore_n (lv' := [(1, .int v3), (0, .ref (ad a0))]) hx hb dX11_forget_4 rfl hl (by decide) rfl (fun ls hl => ?_)
  refine lv_aload_n hx hb dX11_forget_5 rfl (lv_at hl 1 rfl) ?_
  refine lv_iconst (v := (0 : Int32)) hx hb dX11_forget_6 (by decide) ?_
  obtain ⟨M4, hM4, hf⟩ := ob hf
  refine r_pI hC hK hAd hW cfX11 (by decide) wF_X11_119 rfl rfl rfl hM4 dX11_forget_7 (fun H locs hW => ?_)
  refine lv_iload_n hx hb dX11_forget_10 rfl (lv_at hl 0 rfl) ?_
  exact r_iret hC hr hlk hW hf dX11_forget_11
set_option maxHeartbeats 4000000 in
set_option maxRecDepth 100000 in
theorem c_X11_guest (l : Launch) {D : va_G} {cA : Nat → ClassId} {ad : Nat → Nat} {A : Nat → Prop} (hAd : AdOk ad A) {a0 : Nat} {a1 : Int32} {a2 : Int32} {M0 : Mem} {q : Int32} (hf0 : f_X11_guest a0 a1 a2 M0 = some q) : Met l yX11_guest (wd yX11_guest cX11_guest 3 (some .int)) (rmD 5) (PcW D cA ad [.ref (ad a0), .int a1, .int a2] M0) (QI D cA ad A q M0) 0 0 A := by
  refine mk_met (own := RX11) (by decide +kernel) rfl (Nat.le_of_ble_eq_true rfl) ?_
  intro p e s m args below meth c hC hr hlk hK H locs ls hW hl
  have hx := hC.1
  have hb := hC.2.1
  have hl : lv_has ls 3 [(0, .ref (ad a0)), (1, .int a1), (2, .int a2)] := hl
  have hf := hf0
  unfold f_X11_guest at hf
  refine lv_aload_n hx hb dX11_guest_0 rfl (lv_at hl 0 rfl) ?_
  refine lv_iload_n hx hb dX11_guest_1 rfl (lv_at hl 1 rfl) ?_
  obtain ⟨q20, hq20, hf⟩ := ob hf
  refine k_vI hC hK hW cfX11 (c_X11_isGuest l hAd (cv_s hq20).2) (cv_s hq20).1 my_X11_isGuest wI_X11_isGuest wQ_X11_isGuest wM_X11_122 ⟨Nat.le_of_ble_eq_true rfl, Nat.le_of_ble_eq_true rfl⟩ rfl hl.1 rfl (Nat.le_of_ble_eq_true rfl) ⟨Nat.zero_le _, Nat.zero_le _⟩ dX11_guest_2 (fun H locs hW => ?_)
  refine lv_if_ne (tgt := 10) hx hb dX11_guest_5 (by decide) (fun c5 => ?_) (fun c5 => ?_)
  · have hf := ie c5 hf
    refine lv_iload_n hx hb dX11_guest_10 rfl (lv_at hl 2 rfl) ?_
    by_cases c11_0 : a2 = 0
    · have hf := it c11_0 hf
      refine k_tbl (tgt := 48) c11_0 hC dX11_guest_11 (by decide) (by decide) rfl (by decide) ?_
      refine lv_aload_n hx hb dX11_guest_48 rfl (lv_at hl 0 rfl) ?_
      obtain ⟨r21, hr21, hf⟩ := ob hf
      refine r_gR hC hK hW cfX11 (by decide) wF_X11_46 rfl hr21 dX11_guest_49 ?_
      obtain ⟨r22, hr22, hf⟩ := ob hf
      refine r_gR hC hK hW cfX7 (by decide) wF_X11_126 rfl hr22 dX11_guest_52 ?_
      refine lv_iload_n hx hb dX11_guest_55 rfl (lv_at hl 1 rfl) ?_
      obtain ⟨v23, hv23, hf⟩ := ob hf
      refine r_aI hC hK hW hv23 dX11_guest_56 ?_
      exact r_iretP hC hr hlk hW hf dX11_guest_57
    · have hf := ie c11_0 hf
      by_cases c11_1 : a2 = 1
      · have hf := it c11_1 hf
        refine k_tbl (tgt := 58) c11_1 hC dX11_guest_11 (by decide) (by decide) rfl (by decide) ?_
        refine lv_aload_n hx hb dX11_guest_58 rfl (lv_at hl 0 rfl) ?_
        obtain ⟨r24, hr24, hf⟩ := ob hf
        refine r_gR hC hK hW cfX11 (by decide) wF_X11_39 rfl hr24 dX11_guest_59 ?_
        obtain ⟨r25, hr25, hf⟩ := ob hf
        refine r_gR hC hK hW cfX8 (by decide) wF_X11_129 rfl hr25 dX11_guest_62 ?_
        refine lv_iload_n hx hb dX11_guest_65 rfl (lv_at hl 1 rfl) ?_
        obtain ⟨v26, hv26, hf⟩ := ob hf
        refine r_aI hC hK hW hv26 dX11_guest_66 ?_
        exact r_iretP hC hr hlk hW hf dX11_guest_67
      · have hf := ie c11_1 hf
        by_cases c11_2 : a2 = 2
        · have hf := it c11_2 hf
          refine k_tbl (tgt := 68) c11_2 hC dX11_guest_11 (by decide) (by decide) rfl (by decide) ?_
          refine lv_aload_n hx hb dX11_guest_68 rfl (lv_at hl 0 rfl) ?_
          obtain ⟨r27, hr27, hf⟩ := ob hf
          refine r_gR hC hK hW cfX11 (by decide) wF_X11_39 rfl hr27 dX11_guest_69 ?_
          obtain ⟨r28, hr28, hf⟩ := ob hf
          refine r_gR hC hK hW cfX8 (by decide) wF_X11_132 rfl hr28 dX11_guest_72 ?_
          refine lv_iload_n hx hb dX11_guest_75 rfl (lv_at hl 1 rfl) ?_
          obtain ⟨v29, hv29, hf⟩ := ob hf
          refine r_aI hC hK hW hv29 dX11_guest_76 ?_
          exact r_iretP hC hr hlk hW hf dX11_guest_77
        · have hf := ie c11_2 hf
          by_cases c11_3 : a2 = 3
          · have hf := it c11_3 hf
            refine k_tbl (tgt := 78) c11_3 hC dX11_guest_11 (by decide) (by decide) rfl (by decide) ?_
            refine lv_aload_n hx hb dX11_guest_78 rfl (lv_at hl 0 rfl) ?_
            obtain ⟨r30, hr30, hf⟩ := ob hf
            refine r_gR hC hK hW cfX11 (by decide) wF_X11_46 rfl hr30 dX11_guest_79 ?_
            obtain ⟨r31, hr31, hf⟩ := ob hf
            refine r_gR hC hK hW cfX7 (by decide) wF_X11_135 rfl hr31 dX11_guest_82 ?_
            refine lv_iload_n hx hb dX11_guest_85 rfl (lv_at hl 1 rfl) ?_
            obtain ⟨v32, hv32, hf⟩ := ob hf
            refine r_aI hC hK hW hv32 dX11_guest_86 ?_
            exact r_iretP hC hr hlk hW hf dX11_guest_87
          · have hf := ie c11_3 hf
            by_cases c11_4 : a2 = 4
            · have hf := it c11_4 hf
              refine k_tbl (tgt := 88) c11_4 hC dX11_guest_11 (by decide) (by decide) rfl (by decide) ?_
              refine lv_aload_n hx hb dX11_guest_88 rfl (lv_at hl 0 rfl) ?_
              obtain ⟨r33, hr33, hf⟩ := ob hf
              refine r_gR hC hK hW cfX11 (by decide) wF_X11_39 rfl hr33 dX11_guest_89 ?_
              refine lv_aload_n hx hb dX11_guest_92 rfl (lv_at hl 0 rfl) ?_
              obtain ⟨r34, hr34, hf⟩ := ob hf
              refine r_gR hC hK hW cfX11 (by decide) wF_X11_46 rfl hr34 dX11_guest_93 ?_
              refine lv_iload_n hx hb dX11_guest_96 rfl (lv_at hl 1 rfl) ?_
              obtain ⟨q35, hq35, hf⟩ := ob hf
              refine k_vI hC hK hW cfX8 (c_X8_needs l hAd (cv_s hq35).2) (cv_s hq35).1 my_X8_needs wI_X8_needs wQ_X8_needs wM_X11_138 ⟨Nat.le_of_ble_eq_true rfl, Nat.le_of_ble_eq_true rfl⟩ rfl hl.1 rfl (Nat.le_of_ble_eq_true rfl) ⟨Nat.zero_le _, Nat.zero_le _⟩ dX11_guest_97 (fun H locs hW => ?_)
              exact r_iretP hC hr hlk hW hf dX11_guest_100
            · have hf := ie c11_4 hf
              by_cases c11_5 : a2 = 5
              · have hf := it c11_5 hf
                refine k_tbl (tgt := 101) c11_5 hC dX11_guest_11 (by decide) (by decide) rfl (by decide) ?_
                refine lv_aload_n hx hb dX11_guest_101 rfl (lv_at hl 0 rfl) ?_
                obtain ⟨r36, hr36, hf⟩ := ob hf
                refine r_gR hC hK hW cfX11 (by decide) wF_X11_39 rfl hr36 dX11_guest_102 ?_
                refine lv_aload_n hx hb dX11_guest_105 rfl (lv_at hl 0 rfl) ?_
                obtain ⟨r37, hr37, hf⟩ := ob hf
                refine r_gR hC hK hW cfX11 (by decide) wF_X11_46 rfl hr37 dX11_guest_106 ?_
                refine lv_iload_n hx hb dX11_guest_109 rfl (lv_at hl 1 rfl) ?_
                obtain ⟨q38, hq38, hf⟩ := ob hf
                refine k_vI hC hK hW cfX8 (c_X8_reachedBy l hAd (cv_s hq38).2) (cv_s hq38).1 my_X8_reachedBy wI_X8_reachedBy wQ_X8_reachedBy wM_X11_142 ⟨Nat.le_of_ble_eq_true rfl, Nat.le_of_ble_eq_true rfl⟩ rfl hl.1 rfl (Nat.le_of_ble_eq_true rfl) ⟨Nat.zero_le _, Nat.zero_le _⟩ dX11_guest_110 (fun H locs hW => ?_)
                exact r_iretP hC hr hlk hW hf dX11_guest_113
              · have hf := ie c11_5 hf
                refine lv_tableOut (tgt := 114) hx hb dX11_guest_11 (tbl_out 6 (by decide) (fun j hj => ?_)) (by decide) ?_
                · rcases (show j = 0 ∨ j = 1 ∨ j = 2 ∨ j = 3 ∨ j = 4 ∨ j = 5 by omega) with rfl | rfl | rfl | rfl | rfl | rfl
                  · exact c11_0
                  · exact c11_1
                  · exact c11_2
                  · exact c11_3
                  · exact c11_4
                  · exact c11_5
                refine lv_iconst (v := (-1 : Int32)) hx hb dX11_guest_114 (by decide) ?_
                exact r_iretP hC hr hlk hW hf dX11_guest_115
  · have hf := it c5 hf
    refine lv_iconst (v := (-1 : Int32)) hx hb dX11_guest_8 (by decide) ?_
    exact r_iretP hC hr hlk hW hf dX11_guest_9
set_option maxHeartbeats 4000000 in
set_option maxRecDepth 100000 in
theorem c_X11_isBit (l : Launch) {D : va_G} {cA : Nat → ClassId} {ad : Nat → Nat} {A : Nat → Prop} (hAd : AdOk ad A) {a0 : Int32} {M0 : Mem} {q : Int32} (hf0 : f_X11_isBit a0 M0 = some q) : Met l yX11_isBit (wd yX11_isBit cX11_isBit 1 (some .boolean)) (rmD 0) (PcW D cA ad [.int a0] M0) (QI D cA ad A q M0) 0 0 A := by
  refine mk_met (own := RX11) (by decide +kernel) rfl (Nat.le_of_ble_eq_true rfl) ?_
  intro p e s m args below meth c hC hr hlk hK H locs ls hW hl
  have hx := hC.1
  have hb := hC.2.1
  have hl : lv_has ls 1 [(0, .int a0)] := hl
  have J9 : ∀    (H : Heap) (locs : List Loc) (ls : Array Slot) (hW : Wd D cA ad A s M0 H locs) (hl : lv_has ls 1 []) (hf : f_X11_isBit_9    M0 = some q), W p l e (rmD 0) s m args below meth c H locs 0 0 (MQ below (QI D cA ad A q M0) args s 0 0 A) (F0 m 9 ls []) := by
    intro    H locs ls hW hl hf
    unfold f_X11_isBit_9 at hf
    refine lv_iconst (v := (1 : Int32)) hx hb dX11_isBit_9 (by decide) ?_
    refine lv_goto (tgt := 14) hx hb dX11_isBit_10 (by decide) ?_
    exact r_zretP hC hr hlk hW hf dX11_isBit_14
  have hf := hf0
  unfold f_X11_isBit at hf
  refine lv_iload_n hx hb dX11_isBit_0 rfl (lv_at hl 0 rfl) ?_
  refine lv_if_eq (tgt := 9) hx hb dX11_isBit_1 (by decide) (fun c1 => ?_) (fun c1 => ?_)
  · have hf := it c1 hf
    exact J9  _ _ _ hW (lv_sub hl [] rfl) hf
  · have hf := ie c1 hf
    refine lv_iload_n hx hb dX11_isBit_4 rfl (lv_at hl 0 rfl) ?_
    refine lv_iconst (v := (1 : Int32)) hx hb dX11_isBit_5 (by decide) ?_
    refine lv_icmp_ne (tgt := 13) hx hb dX11_isBit_6 (by decide) (fun c6 => ?_) (fun c6 => ?_)
    · have hf := ie c6 hf
      refine lv_iconst (v := (0 : Int32)) hx hb dX11_isBit_13 (by decide) ?_
      exact r_zretP hC hr hlk hW hf dX11_isBit_14
    · have hf := it c6 hf
      exact J9  _ _ _ hW (lv_sub hl [] rfl) hf
set_option maxHeartbeats 4000000 in
set_option maxRecDepth 100000 in
theorem c_X11_isEmpty (l : Launch) {D : va_G} {cA : Nat → ClassId} {ad : Nat → Nat} {A : Nat → Prop} (hAd : AdOk ad A) {a0 : Nat} {a1 : Int32} {M0 : Mem} {q : Int32} (hf0 : f_X11_isEmpty a0 a1 M0 = some q) : Met l yX11_isEmpty (wd yX11_isEmpty cX11_isEmpty 3 (some .boolean)) (rmD 0) (PcW D cA ad [.ref (ad a0), .int a1] M0) (QI D cA ad A q M0) 0 0 A := by
  refine mk_met (own := RX11) (by decide +kernel) rfl (Nat.le_of_ble_eq_true rfl) ?_
  intro p e s m args below meth c hC hr hlk hK H locs ls hW hl
  have hx := hC.1
  have hb := hC.2.1
  have hl : lv_has ls 3 [(0, .ref (ad a0)), (1, .int a1)] := hl
  have B2 : ∀ (x0 : Nat) (x1 : Int32) (x2 : Int32)  (ag2 : Int32 → Option Int32) (hg2 : ∀ (x2 : Int32) (H : Heap) (locs : List Loc) (ls : Array Slot) (_ : Wd D cA ad A s M0 H locs) (_ : lv_has ls 3 [(0, .ref (ad x0)), (1, .int x1), (2, .int x2)]) (_ : ag2 x2 = some q), W p l e (rmD 0) s m args below meth c H locs 0 0 (MQ below (QI D cA ad A q M0) args s 0 0 A) (F0 m 2 ls [])) (H : Heap) (locs : List Loc) (ls : Array Slot) (hW : Wd D cA ad A s M0 H locs) (hl : lv_has ls 3 [(0, .ref (ad x0)), (1, .int x1), (2, .int x2)]) (hf : f_X11_isEmpty_2b  x0 x1 M0 ag2 x2 = some q), W p l e (rmD 0) s m args below meth c H locs 0 0 (MQ below (QI D cA ad A q M0) args s 0 0 A) (F0 m 2 ls []) := by
    intro x0 x1 x2  ag2 hg2 H locs ls hW hl hf
    unfold f_X11_isEmpty_2b at hf
    refine lv_iload_n hx hb dX11_isEmpty_2 rfl (lv_at hl 2 rfl) ?_
    refine lv_aload_n hx hb dX11_isEmpty_3 rfl (lv_at hl 0 rfl) ?_
    obtain ⟨r6, hr6, hf⟩ := ob hf
    refine r_gR hC hK hW cfX11 (by decide) wF_X11_39 rfl hr6 dX11_isEmpty_4 ?_
    obtain ⟨v7, hv7, hf⟩ := ob hf
    refine r_gI hC hK hW cfX8 (by decide) wF_X11_263 rfl hv7 dX11_isEmpty_7 ?_
    refine lv_icmp_ge (tgt := 34) hx hb dX11_isEmpty_10 (by decide) (fun c10 => ?_) (fun c10 => ?_)
    · have hf := it c10 hf
      refine lv_iconst (v := (1 : Int32)) hx hb dX11_isEmpty_34 (by decide) ?_
      exact r_zretP hC hr hlk hW hf dX11_isEmpty_35
    · have hf := ie c10 hf
      refine lv_aload_n hx hb dX11_isEmpty_13 rfl (lv_at hl 0 rfl) ?_
      obtain ⟨r8, hr8, hf⟩ := ob hf
      refine r_gR hC hK hW cfX11 (by decide) wF_X11_46 rfl hr8 dX11_isEmpty_14 ?_
      obtain ⟨r9, hr9, hf⟩ := ob hf
      refine r_gR hC hK hW cfX7 (by decide) wF_X11_148 rfl hr9 dX11_isEmpty_17 ?_
      refine lv_iload_n hx hb dX11_isEmpty_20 rfl (lv_at hl 2 rfl) ?_
      obtain ⟨v10, hv10, hf⟩ := ob hf
      refine r_aI hC hK hW hv10 dX11_isEmpty_21 ?_
      refine lv_iload_n hx hb dX11_isEmpty_22 rfl (lv_at hl 1 rfl) ?_
      refine lv_icmp_ne (tgt := 28) hx hb dX11_isEmpty_23 (by decide) (fun c23 => ?_) (fun c23 => ?_)
      · have hf := ie c23 hf
        refine lv_iinc (v := (x2 + (1 : Int32))) (lv' := [(2, .int (x2 + (1 : Int32))), (0, .ref (ad x0)), (1, .int x1)]) hx hb dX11_isEmpty_28 hl (k := 2) rfl rfl (by decide) rfl (fun ls hl => ?_)
        refine lv_goto (tgt := 2) hx hb dX11_isEmpty_31 (by decide) ?_
        exact hg2 (x2 + (1 : Int32)) _ _ _ hW (lv_sub hl [1, 2, 0] rfl) hf
      · have hf := it c23 hf
        refine lv_iconst (v := (0 : Int32)) hx hb dX11_isEmpty_26 (by decide) ?_
        exact r_zretP hC hr hlk hW hf dX11_isEmpty_27
  have J2 : ∀ (x0 : Nat) (x1 : Int32) (x2 : Int32)  (H : Heap) (locs : List Loc) (ls : Array Slot) (hW : Wd D cA ad A s M0 H locs) (hl : lv_has ls 3 [(0, .ref (ad x0)), (1, .int x1), (2, .int x2)]) (hf : f_X11_isEmpty_2  x0 x1 M0 x2 = some q), W p l e (rmD 0) s m args below meth c H locs 0 0 (MQ below (QI D cA ad A q M0) args s 0 0 A) (F0 m 2 ls []) := by
    intro x0 x1 x2  H locs ls hW hl hf
    unfold f_X11_isEmpty_2 at hf
    have key : ∀ (n : Nat) (x2 : Int32) (H : Heap) (locs : List Loc) (ls : Array Slot) (hW : Wd D cA ad A s M0 H locs) (hl : lv_has ls 3 [(0, .ref (ad x0)), (1, .int x1), (2, .int x2)]) (hf : loopF (fun ag s => f_X11_isEmpty_2b  x0 x1 M0 ag s) n x2 = some q), W p l e (rmD 0) s m args below meth c H locs 0 0 (MQ below (QI D cA ad A q M0) args s 0 0 A) (F0 m 2 ls []) := by
      intro n
      induction n with
      | zero => intro x2 H locs ls hW hl hf; exact nomatch (show (none : Option _) = some _ from hf)
      | succ n ih => intro x2 H locs ls hW hl hf; exact B2 x0 x1 x2  _ ih H locs ls hW hl hf
    exact key FU x2 H locs ls hW hl hf
  have hf := hf0
  unfold f_X11_isEmpty at hf
  refine lv_iconst (v := (0 : Int32)) hx hb dX11_isEmpty_0 (by decide) ?_
  refine lv_istore_n (lv' := [(2, .int (0 : Int32)), (0, .ref (ad a0)), (1, .int a1)]) hx hb dX11_isEmpty_1 rfl hl (by decide) rfl (fun ls hl => ?_)
  exact J2 a0 a1 (0 : Int32) _ _ _ hW (lv_sub hl [1, 2, 0] rfl) hf
set_option maxHeartbeats 4000000 in
set_option maxRecDepth 100000 in
theorem c_X11_isTurn (l : Launch) {D : va_G} {cA : Nat → ClassId} {ad : Nat → Nat} {A : Nat → Prop} (hAd : AdOk ad A) {a0 : Nat} {a1 : Int32} {M0 : Mem} {q : Int32} (hf0 : f_X11_isTurn a0 a1 M0 = some q) : Met l yX11_isTurn (wd yX11_isTurn cX11_isTurn 2 (some .boolean)) (rmD 0) (PcW D cA ad [.ref (ad a0), .int a1] M0) (QI D cA ad A q M0) 0 0 A := by
  refine mk_met (own := RX11) (by decide +kernel) rfl (Nat.le_of_ble_eq_true rfl) ?_
  intro p e s m args below meth c hC hr hlk hK H locs ls hW hl
  have hx := hC.1
  have hb := hC.2.1
  have hl : lv_has ls 2 [(0, .ref (ad a0)), (1, .int a1)] := hl
  have J19 : ∀    (H : Heap) (locs : List Loc) (ls : Array Slot) (hW : Wd D cA ad A s M0 H locs) (hl : lv_has ls 2 []) (hf : f_X11_isTurn_19    M0 = some q), W p l e (rmD 0) s m args below meth c H locs 0 0 (MQ below (QI D cA ad A q M0) args s 0 0 A) (F0 m 19 ls []) := by
    intro    H locs ls hW hl hf
    unfold f_X11_isTurn_19 at hf
    refine lv_iconst (v := (0 : Int32)) hx hb dX11_isTurn_19 (by decide) ?_
    exact r_zretP hC hr hlk hW hf dX11_isTurn_20
  have hf := hf0
  unfold f_X11_isTurn at hf
  refine lv_iload_n hx hb dX11_isTurn_0 rfl (lv_at hl 1 rfl) ?_
  refine lv_if_lt (tgt := 19) hx hb dX11_isTurn_1 (by decide) (fun c1 => ?_) (fun c1 => ?_)
  · have hf := it c1 hf
    exact J19  _ _ _ hW (lv_sub hl [] rfl) hf
  · have hf := ie c1 hf
    refine lv_iload_n hx hb dX11_isTurn_4 rfl (lv_at hl 1 rfl) ?_
    refine lv_aload_n hx hb dX11_isTurn_5 rfl (lv_at hl 0 rfl) ?_
    obtain ⟨r3, hr3, hf⟩ := ob hf
    refine r_gR hC hK hW cfX11 (by decide) wF_X11_39 rfl hr3 dX11_isTurn_6 ?_
    obtain ⟨v4, hv4, hf⟩ := ob hf
    refine r_gI hC hK hW cfX8 (by decide) wF_X11_181 rfl hv4 dX11_isTurn_9 ?_
    refine lv_icmp_ge (tgt := 19) hx hb dX11_isTurn_12 (by decide) (fun c12 => ?_) (fun c12 => ?_)
    · have hf := it c12 hf
      exact J19  _ _ _ hW (lv_sub hl [] rfl) hf
    · have hf := ie c12 hf
      refine lv_iconst (v := (1 : Int32)) hx hb dX11_isTurn_15 (by decide) ?_
      refine lv_goto (tgt := 20) hx hb dX11_isTurn_16 (by decide) ?_
      exact r_zretP hC hr hlk hW hf dX11_isTurn_20
set_option maxHeartbeats 4000000 in
set_option maxRecDepth 100000 in
theorem c_X11_keep (l : Launch) {D : va_G} {cA : Nat → ClassId} {ad : Nat → Nat} {A : Nat → Prop} (hAd : AdOk ad A) {a0 : Nat} {a1 : Int32} {M0 : Mem} {q : (Int32 × Mem)} (hf0 : f_X11_keep a0 a1 M0 = some q) : Met l yX11_keep (wd yX11_keep cX11_keep 2 (some .int)) (rmD 2) (PcW D cA ad [.ref (ad a0), .int a1] M0) (QI D cA ad A q.1 q.2) 0 0 A := by
  refine mk_met (own := RX11) (by decide +kernel) rfl (Nat.le_of_ble_eq_true rfl) ?_
  intro p e s m args below meth c hC hr hlk hK H locs ls hW hl
  have hx := hC.1
  have hb := hC.2.1
  have hl : lv_has ls 2 [(0, .ref (ad a0)), (1, .int a1)] := hl
  have hf := hf0
  unfold f_X11_keep at hf
  refine lv_aload_n hx hb dX11_keep_0 rfl (lv_at hl 0 rfl) ?_
  refine lv_iload_n hx hb dX11_keep_1 rfl (lv_at hl 1 rfl) ?_
  obtain ⟨q10, hq10, hf⟩ := ob hf
  refine k_vI hC hK hW cfX11 (c_X11_isImage l hAd (cv_s hq10).2) (cv_s hq10).1 my_X11_isImage wI_X11_isImage wQ_X11_isImage wM_X11_260 ⟨Nat.le_of_ble_eq_true rfl, Nat.le_of_ble_eq_true rfl⟩ rfl hl.1 rfl (Nat.le_of_ble_eq_true rfl) ⟨Nat.zero_le _, Nat.zero_le _⟩ dX11_keep_2 (fun H locs hW => ?_)
  refine lv_if_ne (tgt := 10) hx hb dX11_keep_5 (by decide) (fun c5 => ?_) (fun c5 => ?_)
  · have hf := ie c5 hf
    refine lv_aload_n hx hb dX11_keep_10 rfl (lv_at hl 0 rfl) ?_
    obtain ⟨r11, hr11, hf⟩ := ob hf
    refine r_gR hC hK hW cfX11 (by decide) wF_X11_57 rfl hr11 dX11_keep_11 ?_
    refine lv_iload_n hx hb dX11_keep_14 rfl (lv_at hl 1 rfl) ?_
    obtain ⟨r12, hr12, hf⟩ := ob hf
    refine r_aR hC hK hW (by decide) hr12 dX11_keep_15 ?_
    refine lv_aload_n hx hb dX11_keep_16 rfl (lv_at hl 0 rfl) ?_
    obtain ⟨r13, hr13, hf⟩ := ob hf
    refine r_gR hC hK hW cfX11 (by decide) wF_X11_46 rfl hr13 dX11_keep_17 ?_
    obtain ⟨q14, hq14, hf⟩ := ob hf
    refine k_vV hC hK hW cfX7 (c_X7_become l hAd (cv_s hq14).2) (cv_s hq14).1 my_X7_become wI_X7_become wQ_X7_become wM_X11_112 ⟨Nat.le_of_ble_eq_true rfl, Nat.le_of_ble_eq_true rfl⟩ rfl hl.1 rfl (Nat.le_of_ble_eq_true rfl) ⟨Nat.zero_le _, Nat.zero_le _⟩ dX11_keep_20 (fun H locs hW => ?_)
    refine lv_aload_n hx hb dX11_keep_23 rfl (lv_at hl 0 rfl) ?_
    obtain ⟨r15, hr15, hf⟩ := ob hf
    refine r_gR hC hK hW cfX11 (by decide) wF_X11_60 rfl hr15 dX11_keep_24 ?_
    refine lv_iload_n hx hb dX11_keep_27 rfl (lv_at hl 1 rfl) ?_
    refine lv_iconst (v := (1 : Int32)) hx hb dX11_keep_28 (by decide) ?_
    obtain ⟨M16, hM16, hf⟩ := ob hf
    refine r_sZ hC hK hAd hW hM16 dX11_keep_29 (fun H locs hW => ?_)
    refine lv_aload_n hx hb dX11_keep_30 rfl (lv_at hl 0 rfl) ?_
    obtain ⟨r17, hr17, hf⟩ := ob hf
    refine r_gR hC hK hW cfX11 (by decide) wF_X11_46 rfl hr17 dX11_keep_31 ?_
    obtain ⟨v18, hv18, hf⟩ := ob hf
    refine r_gI hC hK hW cfX7 (by decide) wF_X11_160 rfl hv18 dX11_keep_34 ?_
    exact r_iret hC hr hlk hW hf dX11_keep_37
  · have hf := it c5 hf
    refine lv_iconst (v := (-1 : Int32)) hx hb dX11_keep_8 (by decide) ?_
    exact r_iret hC hr hlk hW hf dX11_keep_9
set_option maxHeartbeats 4000000 in
set_option maxRecDepth 100000 in
theorem c_X11_who (l : Launch) {D : va_G} {cA : Nat → ClassId} {ad : Nat → Nat} {A : Nat → Prop} (hAd : AdOk ad A) {a0 : Nat} {M0 : Mem} {q : Int32} (hf0 : f_X11_who a0 M0 = some q) : Met l yX11_who (wd yX11_who cX11_who 3 (some .int)) (rmD 5) (PcW D cA ad [.ref (ad a0)] M0) (QI D cA ad A q M0) 0 0 A := by
  refine mk_met (own := RX11) (by decide +kernel) rfl (Nat.le_of_ble_eq_true rfl) ?_
  intro p e s m args below meth c hC hr hlk hK H locs ls hW hl
  have hx := hC.1
  have hb := hC.2.1
  have hl : lv_has ls 3 [(0, .ref (ad a0))] := hl
  have B4 : ∀ (x0 : Nat) (x1 : Int32) (x2 : Int32)  (ag4 : Int32 × Int32 → Option Int32) (hg4 : ∀ (x1 : Int32) (x2 : Int32) (H : Heap) (locs : List Loc) (ls : Array Slot) (_ : Wd D cA ad A s M0 H locs) (_ : lv_has ls 3 [(0, .ref (ad x0)), (1, .int x1), (2, .int x2)]) (_ : ag4 (x1, x2) = some q), W p l e (rmD 5) s m args below meth c H locs 0 0 (MQ below (QI D cA ad A q M0) args s 0 0 A) (F0 m 4 ls [])) (H : Heap) (locs : List Loc) (ls : Array Slot) (hW : Wd D cA ad A s M0 H locs) (hl : lv_has ls 3 [(0, .ref (ad x0)), (1, .int x1), (2, .int x2)]) (hf : f_X11_who_4b  x0 M0 ag4 x1 x2 = some q), W p l e (rmD 5) s m args below meth c H locs 0 0 (MQ below (QI D cA ad A q M0) args s 0 0 A) (F0 m 4 ls []) := by
    intro x0 x1 x2  ag4 hg4 H locs ls hW hl hf
    unfold f_X11_who_4b at hf
    refine lv_iload_n hx hb dX11_who_4 rfl (lv_at hl 2 rfl) ?_
    refine lv_aload_n hx hb dX11_who_5 rfl (lv_at hl 0 rfl) ?_
    obtain ⟨r4, hr4, hf⟩ := ob hf
    refine r_gR hC hK hW cfX11 (by decide) wF_X11_39 rfl hr4 dX11_who_6 ?_
    obtain ⟨v5, hv5, hf⟩ := ob hf
    refine r_gI hC hK hW cfX8 (by decide) wF_X11_227 rfl hv5 dX11_who_9 ?_
    refine lv_icmp_ge (tgt := 35) hx hb dX11_who_12 (by decide) (fun c12 => ?_) (fun c12 => ?_)
    · have hf := it c12 hf
      refine lv_iload_n hx hb dX11_who_35 rfl (lv_at hl 1 rfl) ?_
      exact r_iretP hC hr hlk hW hf dX11_who_36
    · have hf := ie c12 hf
      refine lv_aload_n hx hb dX11_who_15 rfl (lv_at hl 0 rfl) ?_
      refine lv_iload_n hx hb dX11_who_16 rfl (lv_at hl 2 rfl) ?_
      obtain ⟨q6, hq6, hf⟩ := ob hf
      refine k_vI hC hK hW cfX11 (c_X11_fitsAllSeen l hAd (cv_s hq6).2) (cv_s hq6).1 my_X11_fitsAllSeen wI_X11_fitsAllSeen wQ_X11_fitsAllSeen wM_X11_230 ⟨Nat.le_of_ble_eq_true rfl, Nat.le_of_ble_eq_true rfl⟩ rfl hl.1 rfl (Nat.le_of_ble_eq_true rfl) ⟨Nat.zero_le _, Nat.zero_le _⟩ dX11_who_17 (fun H locs hW => ?_)
      refine lv_if_eq (tgt := 29) hx hb dX11_who_20 (by decide) (fun c20 => ?_) (fun c20 => ?_)
      · have hf := it c20 hf
        refine lv_iinc (v := (x2 + (1 : Int32))) (lv' := [(2, .int (x2 + (1 : Int32))), (0, .ref (ad x0)), (1, .int x1)]) hx hb dX11_who_29 hl (k := 2) rfl rfl (by decide) rfl (fun ls hl => ?_)
        refine lv_goto (tgt := 4) hx hb dX11_who_32 (by decide) ?_
        exact hg4 x1 (x2 + (1 : Int32)) _ _ _ hW (lv_sub hl [1, 2, 0] rfl) hf
      · have hf := ie c20 hf
        refine lv_iload_n hx hb dX11_who_23 rfl (lv_at hl 1 rfl) ?_
        refine lv_iconst (v := (1 : Int32)) hx hb dX11_who_24 (by decide) ?_
        refine lv_iload_n hx hb dX11_who_25 rfl (lv_at hl 2 rfl) ?_
        refine lv_ishl hx hb dX11_who_26 ?_
        refine lv_ior hx hb dX11_who_27 ?_
        refine lv_istore_n (lv' := [(1, .int (x1 ||| ((1 : Int32) <<< (x2 &&& 31)))), (0, .ref (ad x0)), (2, .int x2)]) hx hb dX11_who_28 rfl hl (by decide) rfl (fun ls hl => ?_)
        refine lv_iinc (v := (x2 + (1 : Int32))) (lv' := [(2, .int (x2 + (1 : Int32))), (1, .int (x1 ||| ((1 : Int32) <<< (x2 &&& 31)))), (0, .ref (ad x0))]) hx hb dX11_who_29 hl (k := 2) rfl rfl (by decide) rfl (fun ls hl => ?_)
        refine lv_goto (tgt := 4) hx hb dX11_who_32 (by decide) ?_
        exact hg4 (x1 ||| ((1 : Int32) <<< (x2 &&& 31))) (x2 + (1 : Int32)) _ _ _ hW (lv_sub hl [2, 1, 0] rfl) hf
  have J4 : ∀ (x0 : Nat) (x1 : Int32) (x2 : Int32)  (H : Heap) (locs : List Loc) (ls : Array Slot) (hW : Wd D cA ad A s M0 H locs) (hl : lv_has ls 3 [(0, .ref (ad x0)), (1, .int x1), (2, .int x2)]) (hf : f_X11_who_4  x0 M0 x1 x2 = some q), W p l e (rmD 5) s m args below meth c H locs 0 0 (MQ below (QI D cA ad A q M0) args s 0 0 A) (F0 m 4 ls []) := by
    intro x0 x1 x2  H locs ls hW hl hf
    unfold f_X11_who_4 at hf
    have key : ∀ (n : Nat) (x1 : Int32) (x2 : Int32) (H : Heap) (locs : List Loc) (ls : Array Slot) (hW : Wd D cA ad A s M0 H locs) (hl : lv_has ls 3 [(0, .ref (ad x0)), (1, .int x1), (2, .int x2)]) (hf : loopF (fun ag s => f_X11_who_4b  x0 M0 ag s.1 s.2) n (x1, x2) = some q), W p l e (rmD 5) s m args below meth c H locs 0 0 (MQ below (QI D cA ad A q M0) args s 0 0 A) (F0 m 4 ls []) := by
      intro n
      induction n with
      | zero => intro x1 x2 H locs ls hW hl hf; exact nomatch (show (none : Option _) = some _ from hf)
      | succ n ih => intro x1 x2 H locs ls hW hl hf; exact B4 x0 x1 x2  _ ih H locs ls hW hl hf
    exact key FU x1 x2 H locs ls hW hl hf
  have hf := hf0
  unfold f_X11_who at hf
  refine lv_iconst (v := (0 : Int32)) hx hb dX11_who_0 (by decide) ?_
  refine lv_istore_n (lv' := [(1, .int (0 : Int32)), (0, .ref (ad a0))]) hx hb dX11_who_1 rfl hl (by decide) rfl (fun ls hl => ?_)
  refine lv_iconst (v := (0 : Int32)) hx hb dX11_who_2 (by decide) ?_
  refine lv_istore_n (lv' := [(2, .int (0 : Int32)), (1, .int (0 : Int32)), (0, .ref (ad a0))]) hx hb dX11_who_3 rfl hl (by decide) rfl (fun ls hl => ?_)
  exact J4 a0 (0 : Int32) (0 : Int32) _ _ _ hW (lv_sub hl [2, 1, 0] rfl) hf
set_option maxHeartbeats 4000000 in
set_option maxRecDepth 100000 in
theorem c_X11_look (l : Launch) {D : va_G} {cA : Nat → ClassId} {ad : Nat → Nat} {A : Nat → Prop} (hAd : AdOk ad A) {a0 : Nat} {a1 : Int32} {M0 : Mem} {q : Int32} (hf0 : f_X11_look a0 a1 M0 = some q) : Met l yX11_look (wd yX11_look cX11_look 9 (some .int)) (rmD 6) (PcW D cA ad [.ref (ad a0), .int a1] M0) (QI D cA ad A q M0) 0 0 A := by
  refine mk_met (own := RX11) (by decide +kernel) rfl (Nat.le_of_ble_eq_true rfl) ?_
  intro p e s m args below meth c hC hr hlk hK H locs ls hW hl
  have hx := hC.1
  have hb := hC.2.1
  have hl : lv_has ls 9 [(0, .ref (ad a0)), (1, .int a1)] := hl
  have B40 : ∀ (x0 : Nat) (x1 : Int32) (x2 : Int32) (x3 : Int32) (x4 : Int32) (x5 : Int32) (x6 : Int32)  (ag40 : Int32 × Int32 × Int32 → Option Int32) (hg40 : ∀ (x4 : Int32) (x5 : Int32) (x6 : Int32) (H : Heap) (locs : List Loc) (ls : Array Slot) (_ : Wd D cA ad A s M0 H locs) (_ : lv_has ls 9 [(0, .ref (ad x0)), (1, .int x1), (2, .int x2), (3, .int x3), (4, .int x4), (5, .int x5), (6, .int x6)]) (_ : ag40 (x4, x5, x6) = some q), W p l e (rmD 6) s m args below meth c H locs 0 0 (MQ below (QI D cA ad A q M0) args s 0 0 A) (F0 m 40 ls [])) (H : Heap) (locs : List Loc) (ls : Array Slot) (hW : Wd D cA ad A s M0 H locs) (hl : lv_has ls 9 [(0, .ref (ad x0)), (1, .int x1), (2, .int x2), (3, .int x3), (4, .int x4), (5, .int x5), (6, .int x6)]) (hf : f_X11_look_40b  x0 x1 x2 x3 M0 ag40 x4 x5 x6 = some q), W p l e (rmD 6) s m args below meth c H locs 0 0 (MQ below (QI D cA ad A q M0) args s 0 0 A) (F0 m 40 ls []) := by
    intro x0 x1 x2 x3 x4 x5 x6  ag40 hg40 H locs ls hW hl hf
    unfold f_X11_look_40b at hf
    refine lv_iload hx hb dX11_look_40 (lv_at hl 6 rfl) ?_
    refine lv_aload_n hx hb dX11_look_42 rfl (lv_at hl 0 rfl) ?_
    obtain ⟨r7, hr7, hf⟩ := ob hf
    refine r_gR hC hK hW cfX11 (by decide) wF_X11_39 rfl hr7 dX11_look_43 ?_
    obtain ⟨v8, hv8, hf⟩ := ob hf
    refine r_gI hC hK hW cfX8 (by decide) wF_X11_181 rfl hv8 dX11_look_46 ?_
    refine lv_icmp_ge (tgt := 105) hx hb dX11_look_49 (by decide) (fun c49 => ?_) (fun c49 => ?_)
    · have hf := it c49 hf
      refine lv_iload hx hb dX11_look_105 (lv_at hl 4 rfl) ?_
      exact r_iretP hC hr hlk hW hf dX11_look_107
    · have hf := ie c49 hf
      refine lv_iload_n hx hb dX11_look_52 rfl (lv_at hl 2 rfl) ?_
      refine lv_aload_n hx hb dX11_look_53 rfl (lv_at hl 0 rfl) ?_
      obtain ⟨r9, hr9, hf⟩ := ob hf
      refine r_gR hC hK hW cfX11 (by decide) wF_X11_39 rfl hr9 dX11_look_54 ?_
      refine lv_aload_n hx hb dX11_look_57 rfl (lv_at hl 0 rfl) ?_
      obtain ⟨r10, hr10, hf⟩ := ob hf
      refine r_gR hC hK hW cfX11 (by decide) wF_X11_46 rfl hr10 dX11_look_58 ?_
      refine lv_iload_n hx hb dX11_look_61 rfl (lv_at hl 1 rfl) ?_
      refine lv_iload hx hb dX11_look_62 (lv_at hl 6 rfl) ?_
      obtain ⟨q11, hq11, hf⟩ := ob hf
      refine k_vI hC hK hW cfX8 (c_X8_whoReach l hAd (cv_s hq11).2) (cv_s hq11).1 my_X8_whoReach wI_X8_whoReach wQ_X8_whoReach wM_X11_163 ⟨Nat.le_of_ble_eq_true rfl, Nat.le_of_ble_eq_true rfl⟩ rfl hl.1 rfl (Nat.le_of_ble_eq_true rfl) ⟨Nat.zero_le _, Nat.zero_le _⟩ dX11_look_64 (fun H locs hW => ?_)
      refine lv_iand hx hb dX11_look_67 ?_
      obtain ⟨q12, hq12, hf⟩ := ob hf
      refine k_sI hC hK hW (c_J6_bitCount_0f7a4 l hAd hq12) my_J6_bitCount_0f7a4 wS_J6_bitCount_0f7a4 wM_X11_236 ⟨Nat.le_of_ble_eq_true rfl, Nat.le_of_ble_eq_true rfl⟩ rfl hl.1 rfl (Nat.le_of_ble_eq_true rfl) ⟨Nat.zero_le _, Nat.zero_le _⟩ dX11_look_68 (fun H locs hW => ?_)
      refine lv_istore (lv' := [(7, .int q12), (0, .ref (ad x0)), (1, .int x1), (2, .int x2), (3, .int x3), (4, .int x4), (5, .int x5), (6, .int x6)]) hx hb dX11_look_71 hl (by decide) rfl (fun ls hl => ?_)
      refine lv_iload hx hb dX11_look_73 (lv_at hl 0 rfl) ?_
      refine lv_iload_n hx hb dX11_look_75 rfl (lv_at hl 4 rfl) ?_
      refine lv_iload hx hb dX11_look_76 (lv_at hl 0 rfl) ?_
      refine lv_isub hx hb dX11_look_78 ?_
      refine r_max hC wM_X11_241 hl.1 (Nat.le_of_ble_eq_true rfl) rfl rfl dX11_look_79 ?_
      refine lv_istore (lv' := [(8, .int (if q12 < (x3 - q12) then (x3 - q12) else q12)), (7, .int q12), (0, .ref (ad x0)), (1, .int x1), (2, .int x2), (3, .int x3), (4, .int x4), (5, .int x5), (6, .int x6)]) hx hb dX11_look_82 hl (by decide) rfl (fun ls hl => ?_)
      refine lv_iload hx hb dX11_look_84 (lv_at hl 0 rfl) ?_
      refine lv_iload hx hb dX11_look_86 (lv_at hl 7 rfl) ?_
      refine lv_icmp_ge (tgt := 99) hx hb dX11_look_88 (by decide) (fun c88 => ?_) (fun c88 => ?_)
      · have hf := it c88 hf
        refine lv_iinc (v := (x6 + (1 : Int32))) (lv' := [(6, .int (x6 + (1 : Int32))), (8, .int (if q12 < (x3 - q12) then (x3 - q12) else q12)), (7, .int q12), (0, .ref (ad x0)), (1, .int x1), (2, .int x2), (3, .int x3), (4, .int x4), (5, .int x5)]) hx hb dX11_look_99 hl (k := 8) rfl rfl (by decide) rfl (fun ls hl => ?_)
        refine lv_goto (tgt := 40) hx hb dX11_look_102 (by decide) ?_
        exact hg40 x4 x5 (x6 + (1 : Int32)) _ _ _ hW (lv_sub hl [3, 4, 5, 6, 7, 8, 0] rfl) hf
      · have hf := ie c88 hf
        refine lv_iload hx hb dX11_look_91 (lv_at hl 0 rfl) ?_
        refine lv_istore (lv' := [(5, .int (if q12 < (x3 - q12) then (x3 - q12) else q12)), (8, .int (if q12 < (x3 - q12) then (x3 - q12) else q12)), (7, .int q12), (0, .ref (ad x0)), (1, .int x1), (2, .int x2), (3, .int x3), (4, .int x4), (6, .int x6)]) hx hb dX11_look_93 hl (by decide) rfl (fun ls hl => ?_)
        refine lv_iload hx hb dX11_look_95 (lv_at hl 8 rfl) ?_
        refine lv_istore (lv' := [(4, .int x6), (5, .int (if q12 < (x3 - q12) then (x3 - q12) else q12)), (8, .int (if q12 < (x3 - q12) then (x3 - q12) else q12)), (7, .int q12), (0, .ref (ad x0)), (1, .int x1), (2, .int x2), (3, .int x3), (6, .int x6)]) hx hb dX11_look_97 hl (by decide) rfl (fun ls hl => ?_)
        refine lv_iinc (v := (x6 + (1 : Int32))) (lv' := [(6, .int (x6 + (1 : Int32))), (4, .int x6), (5, .int (if q12 < (x3 - q12) then (x3 - q12) else q12)), (8, .int (if q12 < (x3 - q12) then (x3 - q12) else q12)), (7, .int q12), (0, .ref (ad x0)), (1, .int x1), (2, .int x2), (3, .int x3)]) hx hb dX11_look_99 hl (k := 8) rfl rfl (by decide) rfl (fun ls hl => ?_)
        refine lv_goto (tgt := 40) hx hb dX11_look_102 (by decide) ?_
        exact hg40 x6 (if q12 < (x3 - q12) then (x3 - q12) else q12) (x6 + (1 : Int32)) _ _ _ hW (lv_sub hl [5, 6, 7, 8, 1, 2, 0] rfl) hf
  have J40 : ∀ (x0 : Nat) (x1 : Int32) (x2 : Int32) (x3 : Int32) (x4 : Int32) (x5 : Int32) (x6 : Int32)  (H : Heap) (locs : List Loc) (ls : Array Slot) (hW : Wd D cA ad A s M0 H locs) (hl : lv_has ls 9 [(0, .ref (ad x0)), (1, .int x1), (2, .int x2), (3, .int x3), (4, .int x4), (5, .int x5), (6, .int x6)]) (hf : f_X11_look_40  x0 x1 x2 x3 M0 x4 x5 x6 = some q), W p l e (rmD 6) s m args below meth c H locs 0 0 (MQ below (QI D cA ad A q M0) args s 0 0 A) (F0 m 40 ls []) := by
    intro x0 x1 x2 x3 x4 x5 x6  H locs ls hW hl hf
    unfold f_X11_look_40 at hf
    have key : ∀ (n : Nat) (x4 : Int32) (x5 : Int32) (x6 : Int32) (H : Heap) (locs : List Loc) (ls : Array Slot) (hW : Wd D cA ad A s M0 H locs) (hl : lv_has ls 9 [(0, .ref (ad x0)), (1, .int x1), (2, .int x2), (3, .int x3), (4, .int x4), (5, .int x5), (6, .int x6)]) (hf : loopF (fun ag s => f_X11_look_40b  x0 x1 x2 x3 M0 ag s.1 s.2.1 s.2.2) n (x4, x5, x6) = some q), W p l e (rmD 6) s m args below meth c H locs 0 0 (MQ below (QI D cA ad A q M0) args s 0 0 A) (F0 m 40 ls []) := by
      intro n
      induction n with
      | zero => intro x4 x5 x6 H locs ls hW hl hf; exact nomatch (show (none : Option _) = some _ from hf)
      | succ n ih => intro x4 x5 x6 H locs ls hW hl hf; exact B40 x0 x1 x2 x3 x4 x5 x6  _ ih H locs ls hW hl hf
    exact key FU x4 x5 x6 H locs ls hW hl hf
  have hf := hf0
  unfold f_X11_look at hf
  refine lv_aload_n hx hb dX11_look_0 rfl (lv_at hl 0 rfl) ?_
  refine lv_iload_n hx hb dX11_look_1 rfl (lv_at hl 1 rfl) ?_
  obtain ⟨q16, hq16, hf⟩ := ob hf
  refine k_vI hC hK hW cfX11 (c_X11_isDish l hAd (cv_s hq16).2) (cv_s hq16).1 my_X11_isDish wI_X11_isDish wQ_X11_isDish wM_X11_145 ⟨Nat.le_of_ble_eq_true rfl, Nat.le_of_ble_eq_true rfl⟩ rfl hl.1 rfl (Nat.le_of_ble_eq_true rfl) ⟨Nat.zero_le _, Nat.zero_le _⟩ dX11_look_2 (fun H locs hW => ?_)
  refine lv_if_ne (tgt := 10) hx hb dX11_look_5 (by decide) (fun c5 => ?_) (fun c5 => ?_)
  · have hf := ie c5 hf
    refine lv_aload_n hx hb dX11_look_10 rfl (lv_at hl 0 rfl) ?_
    obtain ⟨q17, hq17, hf⟩ := ob hf
    refine k_vI hC hK hW cfX11 (c_X11_who l hAd (cv_s hq17).2) (cv_s hq17).1 my_X11_who wI_X11_who wQ_X11_who wM_X11_233 ⟨Nat.le_of_ble_eq_true rfl, Nat.le_of_ble_eq_true rfl⟩ rfl hl.1 rfl (Nat.le_of_ble_eq_true rfl) ⟨Nat.zero_le _, Nat.zero_le _⟩ dX11_look_11 (fun H locs hW => ?_)
    refine lv_istore_n (lv' := [(2, .int q17), (0, .ref (ad a0)), (1, .int a1)]) hx hb dX11_look_14 rfl hl (by decide) rfl (fun ls hl => ?_)
    refine lv_iload_n hx hb dX11_look_15 rfl (lv_at hl 0 rfl) ?_
    obtain ⟨q18, hq18, hf⟩ := ob hf
    refine k_sI hC hK hW (c_J6_bitCount_0f7a4 l hAd hq18) my_J6_bitCount_0f7a4 wS_J6_bitCount_0f7a4 wM_X11_236 ⟨Nat.le_of_ble_eq_true rfl, Nat.le_of_ble_eq_true rfl⟩ rfl hl.1 rfl (Nat.le_of_ble_eq_true rfl) ⟨Nat.zero_le _, Nat.zero_le _⟩ dX11_look_16 (fun H locs hW => ?_)
    refine lv_istore_n (lv' := [(3, .int q18), (2, .int q17), (0, .ref (ad a0)), (1, .int a1)]) hx hb dX11_look_19 rfl hl (by decide) rfl (fun ls hl => ?_)
    refine lv_iload_n hx hb dX11_look_20 rfl (lv_at hl 0 rfl) ?_
    refine lv_iconst (v := (2 : Int32)) hx hb dX11_look_21 (by decide) ?_
    refine lv_icmp_ge (tgt := 28) hx hb dX11_look_22 (by decide) (fun c22 => ?_) (fun c22 => ?_)
    · have hf := it c22 hf
      refine lv_bipush (v := (-9 : Int32)) hx hb dX11_look_28 (by decide) ?_
      refine lv_istore (lv' := [(4, .int (-9 : Int32)), (3, .int q18), (2, .int q17), (0, .ref (ad a0)), (1, .int a1)]) hx hb dX11_look_30 hl (by decide) rfl (fun ls hl => ?_)
      refine lv_iload_n hx hb dX11_look_32 rfl (lv_at hl 1 rfl) ?_
      refine lv_iconst (v := (1 : Int32)) hx hb dX11_look_33 (by decide) ?_
      refine lv_iadd hx hb dX11_look_34 ?_
      refine lv_istore (lv' := [(5, .int (q18 + (1 : Int32))), (4, .int (-9 : Int32)), (3, .int q18), (2, .int q17), (0, .ref (ad a0)), (1, .int a1)]) hx hb dX11_look_35 hl (by decide) rfl (fun ls hl => ?_)
      refine lv_iconst (v := (0 : Int32)) hx hb dX11_look_37 (by decide) ?_
      refine lv_istore (lv' := [(6, .int (0 : Int32)), (5, .int (q18 + (1 : Int32))), (4, .int (-9 : Int32)), (3, .int q18), (2, .int q17), (0, .ref (ad a0)), (1, .int a1)]) hx hb dX11_look_38 hl (by decide) rfl (fun ls hl => ?_)
      exact J40 a0 a1 q17 q18 (-9 : Int32) (q18 + (1 : Int32)) (0 : Int32) _ _ _ hW (lv_sub hl [5, 6, 4, 3, 2, 1, 0] rfl) hf
    · have hf := ie c22 hf
      refine lv_bipush (v := (-9 : Int32)) hx hb dX11_look_25 (by decide) ?_
      exact r_iretP hC hr hlk hW hf dX11_look_27
  · have hf := it c5 hf
    refine lv_iconst (v := (-1 : Int32)) hx hb dX11_look_8 (by decide) ?_
    exact r_iretP hC hr hlk hW hf dX11_look_9
set_option maxHeartbeats 4000000 in
set_option maxRecDepth 100000 in
theorem c_X11_moves (l : Launch) {D : va_G} {cA : Nat → ClassId} {ad : Nat → Nat} {A : Nat → Prop} (hAd : AdOk ad A) {a0 : Nat} {a1 : Int32} {a2 : Int32} {M0 : Mem} {q : (Int32 × Mem)} (hf0 : f_X11_moves a0 a1 a2 M0 = some q) : Met l yX11_moves (wd yX11_moves cX11_moves 4 (some .int)) (rmD 3) (PcW D cA ad [.ref (ad a0), .int a1, .int a2] M0) (QI D cA ad A q.1 q.2) 0 0 A := by
  refine mk_met (own := RX11) (by decide +kernel) rfl (Nat.le_of_ble_eq_true rfl) ?_
  intro p e s m args below meth c hC hr hlk hK H locs ls hW hl
  have hx := hC.1
  have hb := hC.2.1
  have hl : lv_has ls 4 [(0, .ref (ad a0)), (1, .int a1), (2, .int a2)] := hl
  have hf := hf0
  unfold f_X11_moves at hf
  refine lv_aload_n hx hb dX11_moves_0 rfl (lv_at hl 0 rfl) ?_
  refine lv_iload_n hx hb dX11_moves_1 rfl (lv_at hl 1 rfl) ?_
  obtain ⟨q11, hq11, hf⟩ := ob hf
  refine k_vI hC hK hW cfX11 (c_X11_isDish l hAd (cv_s hq11).2) (cv_s hq11).1 my_X11_isDish wI_X11_isDish wQ_X11_isDish wM_X11_145 ⟨Nat.le_of_ble_eq_true rfl, Nat.le_of_ble_eq_true rfl⟩ rfl hl.1 rfl (Nat.le_of_ble_eq_true rfl) ⟨Nat.zero_le _, Nat.zero_le _⟩ dX11_moves_2 (fun H locs hW => ?_)
  refine lv_if_eq (tgt := 16) hx hb dX11_moves_5 (by decide) (fun c5 => ?_) (fun c5 => ?_)
  · have hf := it c5 hf
    refine lv_iconst (v := (-1 : Int32)) hx hb dX11_moves_16 (by decide) ?_
    exact r_iret hC hr hlk hW hf dX11_moves_17
  · have hf := ie c5 hf
    refine lv_aload_n hx hb dX11_moves_8 rfl (lv_at hl 0 rfl) ?_
    refine lv_iload_n hx hb dX11_moves_9 rfl (lv_at hl 2 rfl) ?_
    obtain ⟨q12, hq12, hf⟩ := ob hf
    refine k_vI hC hK hW cfX11 (c_X11_isTurn l hAd (cv_s hq12).2) (cv_s hq12).1 my_X11_isTurn wI_X11_isTurn wQ_X11_isTurn wM_X11_201 ⟨Nat.le_of_ble_eq_true rfl, Nat.le_of_ble_eq_true rfl⟩ rfl hl.1 rfl (Nat.le_of_ble_eq_true rfl) ⟨Nat.zero_le _, Nat.zero_le _⟩ dX11_moves_10 (fun H locs hW => ?_)
    refine lv_if_ne (tgt := 18) hx hb dX11_moves_13 (by decide) (fun c13 => ?_) (fun c13 => ?_)
    · have hf := ie c13 hf
      refine lv_aload_n hx hb dX11_moves_18 rfl (lv_at hl 0 rfl) ?_
      refine lv_iload_n hx hb dX11_moves_19 rfl (lv_at hl 2 rfl) ?_
      obtain ⟨q13, hq13, hf⟩ := ob hf
      refine k_vI hC hK hW cfX11 (c_X11_isEmpty l hAd (cv_s hq13).2) (cv_s hq13).1 my_X11_isEmpty wI_X11_isEmpty wQ_X11_isEmpty wM_X11_204 ⟨Nat.le_of_ble_eq_true rfl, Nat.le_of_ble_eq_true rfl⟩ rfl hl.1 rfl (Nat.le_of_ble_eq_true rfl) ⟨Nat.zero_le _, Nat.zero_le _⟩ dX11_moves_20 (fun H locs hW => ?_)
      refine lv_if_ne (tgt := 29) hx hb dX11_moves_23 (by decide) (fun c23 => ?_) (fun c23 => ?_)
      · have hf := ie c23 hf
        refine lv_aload_n hx hb dX11_moves_29 rfl (lv_at hl 0 rfl) ?_
        obtain ⟨q14, hq14, hf⟩ := ob hf
        refine k_vV hC hK hW cfX11 (c_X11_remember l hAd (cv_s hq14).2) (cv_s hq14).1 my_X11_remember wI_X11_remember wQ_X11_remember wM_X11_187 ⟨Nat.le_of_ble_eq_true rfl, Nat.le_of_ble_eq_true rfl⟩ rfl hl.1 rfl (Nat.le_of_ble_eq_true rfl) ⟨Nat.zero_le _, Nat.zero_le _⟩ dX11_moves_30 (fun H locs hW => ?_)
        refine lv_aload_n hx hb dX11_moves_33 rfl (lv_at hl 0 rfl) ?_
        obtain ⟨r15, hr15, hf⟩ := ob hf
        refine r_gR hC hK hW cfX11 (by decide) wF_X11_46 rfl hr15 dX11_moves_34 ?_
        obtain ⟨r16, hr16, hf⟩ := ob hf
        refine r_gR hC hK hW cfX7 (by decide) wF_X11_148 rfl hr16 dX11_moves_37 ?_
        refine lv_iload_n hx hb dX11_moves_40 rfl (lv_at hl 1 rfl) ?_
        obtain ⟨v17, hv17, hf⟩ := ob hf
        refine r_aI hC hK hW hv17 dX11_moves_41 ?_
        refine lv_istore_n (lv' := [(3, .int v17), (0, .ref (ad a0)), (1, .int a1), (2, .int a2)]) hx hb dX11_moves_42 rfl hl (by decide) rfl (fun ls hl => ?_)
        refine lv_aload_n hx hb dX11_moves_43 rfl (lv_at hl 1 rfl) ?_
        obtain ⟨r18, hr18, hf⟩ := ob hf
        refine r_gR hC hK hW cfX11 (by decide) wF_X11_46 rfl hr18 dX11_moves_44 ?_
        obtain ⟨r19, hr19, hf⟩ := ob hf
        refine r_gR hC hK hW cfX7 (by decide) wF_X11_148 rfl hr19 dX11_moves_47 ?_
        refine lv_iload_n hx hb dX11_moves_50 rfl (lv_at hl 2 rfl) ?_
        refine lv_iload_n hx hb dX11_moves_51 rfl (lv_at hl 3 rfl) ?_
        obtain ⟨M20, hM20, hf⟩ := ob hf
        refine r_sI hC hK hAd hW hM20 dX11_moves_52 (fun H locs hW => ?_)
        refine lv_iload_n hx hb dX11_moves_53 rfl (lv_at hl 0 rfl) ?_
        exact r_iret hC hr hlk hW hf dX11_moves_54
      · have hf := it c23 hf
        refine lv_bipush (v := (-2 : Int32)) hx hb dX11_moves_26 (by decide) ?_
        exact r_iret hC hr hlk hW hf dX11_moves_28
    · have hf := it c13 hf
      refine lv_iconst (v := (-1 : Int32)) hx hb dX11_moves_16 (by decide) ?_
      exact r_iret hC hr hlk hW hf dX11_moves_17
set_option maxHeartbeats 4000000 in
set_option maxRecDepth 100000 in
theorem c_X11_swap (l : Launch) {D : va_G} {cA : Nat → ClassId} {ad : Nat → Nat} {A : Nat → Prop} (hAd : AdOk ad A) {a0 : Nat} {M0 : Mem} {q : (Int32 × Mem)} (hf0 : f_X11_swap a0 M0 = some q) : Met l yX11_swap (wd yX11_swap cX11_swap 6 (some .int)) (rmD 6) (PcW D cA ad [.ref (ad a0)] M0) (QI D cA ad A q.1 q.2) 0 0 A := by
  refine mk_met (own := RX11) (by decide +kernel) rfl (Nat.le_of_ble_eq_true rfl) ?_
  intro p e s m args below meth c hC hr hlk hK H locs ls hW hl
  have hx := hC.1
  have hb := hC.2.1
  have hl : lv_has ls 6 [(0, .ref (ad a0))] := hl
  have J96 : ∀ (x0 : Nat) (x1 : Int32) (x2 : Int32) (x3 : Int32) (x4 : Int32)  (M : Mem) (ag28 : Int32 × Int32 × Int32 × Mem → Option (Int32 × Mem)) (hg28 : ∀ (x1 : Int32) (x2 : Int32) (x3 : Int32) (M : Mem) (H : Heap) (locs : List Loc) (ls : Array Slot) (_ : Wd D cA ad A s M H locs) (_ : lv_has ls 6 [(0, .ref (ad x0)), (1, .int x1), (2, .int x2), (3, .int x3)]) (_ : ag28 (x1, x2, x3, M) = some q), W p l e (rmD 6) s m args below meth c H locs 0 0 (MQ below (QI D cA ad A q.1 q.2) args s 0 0 A) (F0 m 28 ls [])) (ag44 : Int32 × Int32 × Int32 × Mem → Option (Int32 × Mem)) (hg44 : ∀ (x1 : Int32) (x2 : Int32) (x4 : Int32) (M : Mem) (H : Heap) (locs : List Loc) (ls : Array Slot) (_ : Wd D cA ad A s M H locs) (_ : lv_has ls 6 [(0, .ref (ad x0)), (1, .int x1), (2, .int x2), (3, .int x3), (4, .int x4)]) (_ : ag44 (x1, x2, x4, M) = some q), W p l e (rmD 6) s m args below meth c H locs 0 0 (MQ below (QI D cA ad A q.1 q.2) args s 0 0 A) (F0 m 44 ls [])) (H : Heap) (locs : List Loc) (ls : Array Slot) (hW : Wd D cA ad A s M H locs) (hl : lv_has ls 6 [(0, .ref (ad x0)), (1, .int x1), (2, .int x2), (3, .int x3), (4, .int x4)]) (hf : f_X11_swap_96 ag28 ag44 x0 x1 x2 x3 x4  M = some q), W p l e (rmD 6) s m args below meth c H locs 0 0 (MQ below (QI D cA ad A q.1 q.2) args s 0 0 A) (F0 m 96 ls []) := by
    intro x0 x1 x2 x3 x4  M ag28 hg28 ag44 hg44 H locs ls hW hl hf
    unfold f_X11_swap_96 at hf
    refine lv_aload_n hx hb dX11_swap_96 rfl (lv_at hl 0 rfl) ?_
    obtain ⟨r3, hr3, hf⟩ := ob hf
    refine r_gR hC hK hW cfX11 (by decide) wF_X11_50 rfl hr3 dX11_swap_97 ?_
    refine lv_iload_n hx hb dX11_swap_100 rfl (lv_at hl 3 rfl) ?_
    refine lv_iload hx hb dX11_swap_101 (lv_at hl 4 rfl) ?_
    obtain ⟨q4, hq4, hf⟩ := ob hf
    refine k_vV hC hK hW cfX7 (c_X7_changeSeats l hAd (cv_s hq4).2) (cv_s hq4).1 my_X7_changeSeats wI_X7_changeSeats wQ_X7_changeSeats wM_X11_207 ⟨Nat.le_of_ble_eq_true rfl, Nat.le_of_ble_eq_true rfl⟩ rfl hl.1 rfl (Nat.le_of_ble_eq_true rfl) ⟨Nat.zero_le _, Nat.zero_le _⟩ dX11_swap_103 (fun H locs hW => ?_)
    refine lv_iinc (v := (x4 + (1 : Int32))) (lv' := [(4, .int (x4 + (1 : Int32))), (0, .ref (ad x0)), (1, .int x1), (2, .int x2), (3, .int x3)]) hx hb dX11_swap_106 hl (k := 4) rfl rfl (by decide) rfl (fun ls hl => ?_)
    refine lv_goto (tgt := 44) hx hb dX11_swap_109 (by decide) ?_
    exact hg44 x1 x2 (x4 + (1 : Int32)) q4 _ _ _ hW (lv_sub hl [1, 2, 3, 4, 0] rfl) hf
  have B44 : ∀ (x0 : Nat) (x3 : Int32) (x1 : Int32) (x2 : Int32) (x4 : Int32) (M : Mem) (ag28 : Int32 × Int32 × Int32 × Mem → Option (Int32 × Mem)) (hg28 : ∀ (x1 : Int32) (x2 : Int32) (x3 : Int32) (M : Mem) (H : Heap) (locs : List Loc) (ls : Array Slot) (_ : Wd D cA ad A s M H locs) (_ : lv_has ls 6 [(0, .ref (ad x0)), (1, .int x1), (2, .int x2), (3, .int x3)]) (_ : ag28 (x1, x2, x3, M) = some q), W p l e (rmD 6) s m args below meth c H locs 0 0 (MQ below (QI D cA ad A q.1 q.2) args s 0 0 A) (F0 m 28 ls [])) (ag44 : Int32 × Int32 × Int32 × Mem → Option (Int32 × Mem)) (hg44 : ∀ (x1 : Int32) (x2 : Int32) (x4 : Int32) (M : Mem) (H : Heap) (locs : List Loc) (ls : Array Slot) (_ : Wd D cA ad A s M H locs) (_ : lv_has ls 6 [(0, .ref (ad x0)), (1, .int x1), (2, .int x2), (3, .int x3), (4, .int x4)]) (_ : ag44 (x1, x2, x4, M) = some q), W p l e (rmD 6) s m args below meth c H locs 0 0 (MQ below (QI D cA ad A q.1 q.2) args s 0 0 A) (F0 m 44 ls [])) (H : Heap) (locs : List Loc) (ls : Array Slot) (hW : Wd D cA ad A s M H locs) (hl : lv_has ls 6 [(0, .ref (ad x0)), (1, .int x1), (2, .int x2), (3, .int x3), (4, .int x4)]) (hf : f_X11_swap_44b ag28 x0 x3 ag44 x1 x2 x4 M = some q), W p l e (rmD 6) s m args below meth c H locs 0 0 (MQ below (QI D cA ad A q.1 q.2) args s 0 0 A) (F0 m 44 ls []) := by
    intro x0 x3 x1 x2 x4 M ag28 hg28 ag44 hg44 H locs ls hW hl hf
    unfold f_X11_swap_44b at hf
    refine lv_iload hx hb dX11_swap_44 (lv_at hl 4 rfl) ?_
    refine lv_aload_n hx hb dX11_swap_46 rfl (lv_at hl 0 rfl) ?_
    obtain ⟨r12, hr12, hf⟩ := ob hf
    refine r_gR hC hK hW cfX11 (by decide) wF_X11_39 rfl hr12 dX11_swap_47 ?_
    obtain ⟨v13, hv13, hf⟩ := ob hf
    refine r_gI hC hK hW cfX8 (by decide) wF_X11_227 rfl hv13 dX11_swap_50 ?_
    refine lv_icmp_ge (tgt := 112) hx hb dX11_swap_53 (by decide) (fun c53 => ?_) (fun c53 => ?_)
    · have hf := it c53 hf
      refine lv_iinc (v := (x3 + (1 : Int32))) (lv' := [(3, .int (x3 + (1 : Int32))), (0, .ref (ad x0)), (1, .int x1), (2, .int x2), (4, .int x4)]) hx hb dX11_swap_112 hl (k := 3) rfl rfl (by decide) rfl (fun ls hl => ?_)
      refine lv_goto (tgt := 28) hx hb dX11_swap_115 (by decide) ?_
      exact hg28 x1 x2 (x3 + (1 : Int32)) M _ _ _ hW (lv_sub hl [1, 2, 3, 0] rfl) hf
    · have hf := ie c53 hf
      refine lv_aload_n hx hb dX11_swap_56 rfl (lv_at hl 0 rfl) ?_
      obtain ⟨r14, hr14, hf⟩ := ob hf
      refine r_gR hC hK hW cfX11 (by decide) wF_X11_50 rfl hr14 dX11_swap_57 ?_
      refine lv_iload_n hx hb dX11_swap_60 rfl (lv_at hl 3 rfl) ?_
      refine lv_iload hx hb dX11_swap_61 (lv_at hl 4 rfl) ?_
      obtain ⟨q15, hq15, hf⟩ := ob hf
      refine k_vV hC hK hW cfX7 (c_X7_changeSeats l hAd (cv_s hq15).2) (cv_s hq15).1 my_X7_changeSeats wI_X7_changeSeats wQ_X7_changeSeats wM_X11_207 ⟨Nat.le_of_ble_eq_true rfl, Nat.le_of_ble_eq_true rfl⟩ rfl hl.1 rfl (Nat.le_of_ble_eq_true rfl) ⟨Nat.zero_le _, Nat.zero_le _⟩ dX11_swap_63 (fun H locs hW => ?_)
      refine lv_aload_n hx hb dX11_swap_66 rfl (lv_at hl 0 rfl) ?_
      obtain ⟨r16, hr16, hf⟩ := ob hf
      refine r_gR hC hK hW cfX11 (by decide) wF_X11_39 rfl hr16 dX11_swap_67 ?_
      refine lv_aload_n hx hb dX11_swap_70 rfl (lv_at hl 0 rfl) ?_
      obtain ⟨r17, hr17, hf⟩ := ob hf
      refine r_gR hC hK hW cfX11 (by decide) wF_X11_50 rfl hr17 dX11_swap_71 ?_
      obtain ⟨q18, hq18, hf⟩ := ob hf
      refine k_vI hC hK hW cfX8 (c_X8_tour l hAd (cv_s hq18).2) (cv_s hq18).1 my_X8_tour wI_X8_tour wQ_X8_tour wM_X11_170 ⟨Nat.le_of_ble_eq_true rfl, Nat.le_of_ble_eq_true rfl⟩ rfl hl.1 rfl (Nat.le_of_ble_eq_true rfl) ⟨Nat.zero_le _, Nat.zero_le _⟩ dX11_swap_74 (fun H locs hW => ?_)
      refine lv_istore (lv' := [(5, .int q18.1), (0, .ref (ad x0)), (1, .int x1), (2, .int x2), (3, .int x3), (4, .int x4)]) hx hb dX11_swap_77 hl (by decide) rfl (fun ls hl => ?_)
      refine lv_iload hx hb dX11_swap_79 (lv_at hl 0 rfl) ?_
      refine lv_iload_n hx hb dX11_swap_81 rfl (lv_at hl 3 rfl) ?_
      refine lv_icmp_ge (tgt := 96) hx hb dX11_swap_82 (by decide) (fun c82 => ?_) (fun c82 => ?_)
      · have hf := it c82 hf
        exact J96 x0 x1 x2 x3 x4 q18.2 ag28 hg28 ag44 hg44 _ _ _ hW (lv_sub hl [1, 2, 3, 4, 5] rfl) hf
      · have hf := ie c82 hf
        refine lv_iload hx hb dX11_swap_85 (lv_at hl 0 rfl) ?_
        refine lv_istore_n (lv' := [(2, .int q18.1), (5, .int q18.1), (0, .ref (ad x0)), (1, .int x1), (3, .int x3), (4, .int x4)]) hx hb dX11_swap_87 rfl hl (by decide) rfl (fun ls hl => ?_)
        refine lv_bipush (v := (10 : Int32)) hx hb dX11_swap_88 (by decide) ?_
        refine lv_iload_n hx hb dX11_swap_90 rfl (lv_at hl 4 rfl) ?_
        refine lv_imul hx hb dX11_swap_91 ?_
        refine lv_iload hx hb dX11_swap_92 (lv_at hl 5 rfl) ?_
        refine lv_iadd hx hb dX11_swap_94 ?_
        refine lv_istore_n (lv' := [(1, .int (((10 : Int32) * x3) + x4)), (2, .int q18.1), (5, .int q18.1), (0, .ref (ad x0)), (3, .int x3), (4, .int x4)]) hx hb dX11_swap_95 rfl hl (by decide) rfl (fun ls hl => ?_)
        exact J96 x0 (((10 : Int32) * x3) + x4) q18.1 x3 x4 q18.2 ag28 hg28 ag44 hg44 _ _ _ hW (lv_sub hl [3, 0, 1, 4, 5] rfl) hf
  have J44 : ∀ (x0 : Nat) (x3 : Int32) (x1 : Int32) (x2 : Int32) (x4 : Int32) (M : Mem) (ag28 : Int32 × Int32 × Int32 × Mem → Option (Int32 × Mem)) (hg28 : ∀ (x1 : Int32) (x2 : Int32) (x3 : Int32) (M : Mem) (H : Heap) (locs : List Loc) (ls : Array Slot) (_ : Wd D cA ad A s M H locs) (_ : lv_has ls 6 [(0, .ref (ad x0)), (1, .int x1), (2, .int x2), (3, .int x3)]) (_ : ag28 (x1, x2, x3, M) = some q), W p l e (rmD 6) s m args below meth c H locs 0 0 (MQ below (QI D cA ad A q.1 q.2) args s 0 0 A) (F0 m 28 ls [])) (H : Heap) (locs : List Loc) (ls : Array Slot) (hW : Wd D cA ad A s M H locs) (hl : lv_has ls 6 [(0, .ref (ad x0)), (1, .int x1), (2, .int x2), (3, .int x3), (4, .int x4)]) (hf : f_X11_swap_44 ag28 x0 x3 x1 x2 x4 M = some q), W p l e (rmD 6) s m args below meth c H locs 0 0 (MQ below (QI D cA ad A q.1 q.2) args s 0 0 A) (F0 m 44 ls []) := by
    intro x0 x3 x1 x2 x4 M ag28 hg28 H locs ls hW hl hf
    unfold f_X11_swap_44 at hf
    have key : ∀ (n : Nat) (x1 : Int32) (x2 : Int32) (x4 : Int32) (M : Mem) (H : Heap) (locs : List Loc) (ls : Array Slot) (hW : Wd D cA ad A s M H locs) (hl : lv_has ls 6 [(0, .ref (ad x0)), (1, .int x1), (2, .int x2), (3, .int x3), (4, .int x4)]) (hf : loopF (fun ag s => f_X11_swap_44b ag28 x0 x3 ag s.1 s.2.1 s.2.2.1 s.2.2.2) n (x1, x2, x4, M) = some q), W p l e (rmD 6) s m args below meth c H locs 0 0 (MQ below (QI D cA ad A q.1 q.2) args s 0 0 A) (F0 m 44 ls []) := by
      intro n
      induction n with
      | zero => intro x1 x2 x4 M H locs ls hW hl hf; exact nomatch (show (none : Option _) = some _ from hf)
      | succ n ih => intro x1 x2 x4 M H locs ls hW hl hf; exact B44 x0 x3 x1 x2 x4 M ag28 hg28 _ ih H locs ls hW hl hf
    exact key FU x1 x2 x4 M H locs ls hW hl hf
  have B28 : ∀ (x0 : Nat) (x1 : Int32) (x2 : Int32) (x3 : Int32) (M : Mem)  (ag28 : Int32 × Int32 × Int32 × Mem → Option (Int32 × Mem)) (hg28 : ∀ (x1 : Int32) (x2 : Int32) (x3 : Int32) (M : Mem) (H : Heap) (locs : List Loc) (ls : Array Slot) (_ : Wd D cA ad A s M H locs) (_ : lv_has ls 6 [(0, .ref (ad x0)), (1, .int x1), (2, .int x2), (3, .int x3)]) (_ : ag28 (x1, x2, x3, M) = some q), W p l e (rmD 6) s m args below meth c H locs 0 0 (MQ below (QI D cA ad A q.1 q.2) args s 0 0 A) (F0 m 28 ls [])) (H : Heap) (locs : List Loc) (ls : Array Slot) (hW : Wd D cA ad A s M H locs) (hl : lv_has ls 6 [(0, .ref (ad x0)), (1, .int x1), (2, .int x2), (3, .int x3)]) (hf : f_X11_swap_28b  x0 ag28 x1 x2 x3 M = some q), W p l e (rmD 6) s m args below meth c H locs 0 0 (MQ below (QI D cA ad A q.1 q.2) args s 0 0 A) (F0 m 28 ls []) := by
    intro x0 x1 x2 x3 M  ag28 hg28 H locs ls hW hl hf
    unfold f_X11_swap_28b at hf
    refine lv_iload_n hx hb dX11_swap_28 rfl (lv_at hl 3 rfl) ?_
    refine lv_aload_n hx hb dX11_swap_29 rfl (lv_at hl 0 rfl) ?_
    obtain ⟨r21, hr21, hf⟩ := ob hf
    refine r_gR hC hK hW cfX11 (by decide) wF_X11_39 rfl hr21 dX11_swap_30 ?_
    obtain ⟨v22, hv22, hf⟩ := ob hf
    refine r_gI hC hK hW cfX8 (by decide) wF_X11_227 rfl hv22 dX11_swap_33 ?_
    refine lv_icmp_ge (tgt := 118) hx hb dX11_swap_36 (by decide) (fun c36 => ?_) (fun c36 => ?_)
    · have hf := it c36 hf
      refine lv_iload_n hx hb dX11_swap_118 rfl (lv_at hl 1 rfl) ?_
      exact r_iret hC hr hlk hW hf dX11_swap_119
    · have hf := ie c36 hf
      refine lv_iload_n hx hb dX11_swap_39 rfl (lv_at hl 3 rfl) ?_
      refine lv_iconst (v := (1 : Int32)) hx hb dX11_swap_40 (by decide) ?_
      refine lv_iadd hx hb dX11_swap_41 ?_
      refine lv_istore (lv' := [(4, .int (x3 + (1 : Int32))), (0, .ref (ad x0)), (1, .int x1), (2, .int x2), (3, .int x3)]) hx hb dX11_swap_42 hl (by decide) rfl (fun ls hl => ?_)
      exact J44 x0 x3 x1 x2 (x3 + (1 : Int32)) M ag28 hg28 _ _ _ hW (lv_sub hl [1, 2, 3, 4, 0] rfl) hf
  have J28 : ∀ (x0 : Nat) (x1 : Int32) (x2 : Int32) (x3 : Int32) (M : Mem)  (H : Heap) (locs : List Loc) (ls : Array Slot) (hW : Wd D cA ad A s M H locs) (hl : lv_has ls 6 [(0, .ref (ad x0)), (1, .int x1), (2, .int x2), (3, .int x3)]) (hf : f_X11_swap_28  x0 x1 x2 x3 M = some q), W p l e (rmD 6) s m args below meth c H locs 0 0 (MQ below (QI D cA ad A q.1 q.2) args s 0 0 A) (F0 m 28 ls []) := by
    intro x0 x1 x2 x3 M  H locs ls hW hl hf
    unfold f_X11_swap_28 at hf
    have key : ∀ (n : Nat) (x1 : Int32) (x2 : Int32) (x3 : Int32) (M : Mem) (H : Heap) (locs : List Loc) (ls : Array Slot) (hW : Wd D cA ad A s M H locs) (hl : lv_has ls 6 [(0, .ref (ad x0)), (1, .int x1), (2, .int x2), (3, .int x3)]) (hf : loopF (fun ag s => f_X11_swap_28b  x0 ag s.1 s.2.1 s.2.2.1 s.2.2.2) n (x1, x2, x3, M) = some q), W p l e (rmD 6) s m args below meth c H locs 0 0 (MQ below (QI D cA ad A q.1 q.2) args s 0 0 A) (F0 m 28 ls []) := by
      intro n
      induction n with
      | zero => intro x1 x2 x3 M H locs ls hW hl hf; exact nomatch (show (none : Option _) = some _ from hf)
      | succ n ih => intro x1 x2 x3 M H locs ls hW hl hf; exact B28 x0 x1 x2 x3 M  _ ih H locs ls hW hl hf
    exact key FU x1 x2 x3 M H locs ls hW hl hf
  have hf := hf0
  unfold f_X11_swap at hf
  refine lv_bipush (v := (-9 : Int32)) hx hb dX11_swap_0 (by decide) ?_
  refine lv_istore_n (lv' := [(1, .int (-9 : Int32)), (0, .ref (ad a0))]) hx hb dX11_swap_2 rfl hl (by decide) rfl (fun ls hl => ?_)
  refine lv_aload_n hx hb dX11_swap_3 rfl (lv_at hl 1 rfl) ?_
  obtain ⟨r29, hr29, hf⟩ := ob hf
  refine r_gR hC hK hW cfX11 (by decide) wF_X11_39 rfl hr29 dX11_swap_4 ?_
  refine lv_aload_n hx hb dX11_swap_7 rfl (lv_at hl 1 rfl) ?_
  obtain ⟨r30, hr30, hf⟩ := ob hf
  refine r_gR hC hK hW cfX11 (by decide) wF_X11_46 rfl hr30 dX11_swap_8 ?_
  obtain ⟨q31, hq31, hf⟩ := ob hf
  refine k_vI hC hK hW cfX8 (c_X8_tour l hAd (cv_s hq31).2) (cv_s hq31).1 my_X8_tour wI_X8_tour wQ_X8_tour wM_X11_170 ⟨Nat.le_of_ble_eq_true rfl, Nat.le_of_ble_eq_true rfl⟩ rfl hl.1 rfl (Nat.le_of_ble_eq_true rfl) ⟨Nat.zero_le _, Nat.zero_le _⟩ dX11_swap_11 (fun H locs hW => ?_)
  refine lv_istore_n (lv' := [(2, .int q31.1), (1, .int (-9 : Int32)), (0, .ref (ad a0))]) hx hb dX11_swap_14 rfl hl (by decide) rfl (fun ls hl => ?_)
  refine lv_aload_n hx hb dX11_swap_15 rfl (lv_at hl 2 rfl) ?_
  obtain ⟨r32, hr32, hf⟩ := ob hf
  refine r_gR hC hK hW cfX11 (by decide) wF_X11_50 rfl hr32 dX11_swap_16 ?_
  refine lv_aload_n hx hb dX11_swap_19 rfl (lv_at hl 2 rfl) ?_
  obtain ⟨r33, hr33, hf⟩ := ob hf
  refine r_gR hC hK hW cfX11 (by decide) wF_X11_46 rfl hr33 dX11_swap_20 ?_
  obtain ⟨q34, hq34, hf⟩ := ob hf
  refine k_vV hC hK hW cfX7 (c_X7_become l hAd (cv_s hq34).2) (cv_s hq34).1 my_X7_become wI_X7_become wQ_X7_become wM_X11_112 ⟨Nat.le_of_ble_eq_true rfl, Nat.le_of_ble_eq_true rfl⟩ rfl hl.1 rfl (Nat.le_of_ble_eq_true rfl) ⟨Nat.zero_le _, Nat.zero_le _⟩ dX11_swap_23 (fun H locs hW => ?_)
  refine lv_iconst (v := (0 : Int32)) hx hb dX11_swap_26 (by decide) ?_
  refine lv_istore_n (lv' := [(3, .int (0 : Int32)), (2, .int q31.1), (1, .int (-9 : Int32)), (0, .ref (ad a0))]) hx hb dX11_swap_27 rfl hl (by decide) rfl (fun ls hl => ?_)
  exact J28 a0 (-9 : Int32) q31.1 (0 : Int32) q34 _ _ _ hW (lv_sub hl [3, 2, 1, 0] rfl) hf
set_option maxHeartbeats 4000000 in
set_option maxRecDepth 100000 in
theorem c_X11_now (l : Launch) {D : va_G} {cA : Nat → ClassId} {ad : Nat → Nat} {A : Nat → Prop} (hAd : AdOk ad A) {a0 : Nat} {a1 : Int32} {M0 : Mem} {q : (Int32 × Mem)} (hf0 : f_X11_now a0 a1 M0 = some q) : Met l yX11_now (wd yX11_now cX11_now 2 (some .int)) (rmD 7) (PcW D cA ad [.ref (ad a0), .int a1] M0) (QI D cA ad A q.1 q.2) 0 0 A := by
  refine mk_met (own := RX11) (by decide +kernel) rfl (Nat.le_of_ble_eq_true rfl) ?_
  intro p e s m args below meth c hC hr hlk hK H locs ls hW hl
  have hx := hC.1
  have hb := hC.2.1
  have hl : lv_has ls 2 [(0, .ref (ad a0)), (1, .int a1)] := hl
  have hf := hf0
  unfold f_X11_now at hf
  refine lv_iload_n hx hb dX11_now_0 rfl (lv_at hl 1 rfl) ?_
  by_cases c1_0 : a1 = 0
  · have hf := it c1_0 hf
    refine k_tbl (tgt := 40) c1_0 hC dX11_now_1 (by decide) (by decide) rfl (by decide) ?_
    refine lv_aload_n hx hb dX11_now_40 rfl (lv_at hl 0 rfl) ?_
    obtain ⟨r13, hr13, hf⟩ := ob hf
    refine r_gR hC hK hW cfX11 (by decide) wF_X11_46 rfl hr13 dX11_now_41 ?_
    obtain ⟨v14, hv14, hf⟩ := ob hf
    refine r_gI hC hK hW cfX7 (by decide) wF_X11_160 rfl hv14 dX11_now_44 ?_
    exact r_iret hC hr hlk hW hf dX11_now_47
  · have hf := ie c1_0 hf
    by_cases c1_1 : a1 = 1
    · have hf := it c1_1 hf
      refine k_tbl (tgt := 48) c1_1 hC dX11_now_1 (by decide) (by decide) rfl (by decide) ?_
      refine lv_aload_n hx hb dX11_now_48 rfl (lv_at hl 0 rfl) ?_
      obtain ⟨q15, hq15, hf⟩ := ob hf
      refine k_vI hC hK hW cfX11 (c_X11_allPortions l hAd (cv_s hq15).2) (cv_s hq15).1 my_X11_allPortions wI_X11_allPortions wQ_X11_allPortions wM_X11_167 ⟨Nat.le_of_ble_eq_true rfl, Nat.le_of_ble_eq_true rfl⟩ rfl hl.1 rfl (Nat.le_of_ble_eq_true rfl) ⟨Nat.zero_le _, Nat.zero_le _⟩ dX11_now_49 (fun H locs hW => ?_)
      exact r_iret hC hr hlk hW hf dX11_now_52
    · have hf := ie c1_1 hf
      by_cases c1_2 : a1 = 2
      · have hf := it c1_2 hf
        refine k_tbl (tgt := 53) c1_2 hC dX11_now_1 (by decide) (by decide) rfl (by decide) ?_
        refine lv_aload_n hx hb dX11_now_53 rfl (lv_at hl 0 rfl) ?_
        obtain ⟨r16, hr16, hf⟩ := ob hf
        refine r_gR hC hK hW cfX11 (by decide) wF_X11_39 rfl hr16 dX11_now_54 ?_
        refine lv_aload_n hx hb dX11_now_57 rfl (lv_at hl 0 rfl) ?_
        obtain ⟨r17, hr17, hf⟩ := ob hf
        refine r_gR hC hK hW cfX11 (by decide) wF_X11_46 rfl hr17 dX11_now_58 ?_
        obtain ⟨q18, hq18, hf⟩ := ob hf
        refine k_vI hC hK hW cfX8 (c_X8_tour l hAd (cv_s hq18).2) (cv_s hq18).1 my_X8_tour wI_X8_tour wQ_X8_tour wM_X11_170 ⟨Nat.le_of_ble_eq_true rfl, Nat.le_of_ble_eq_true rfl⟩ rfl hl.1 rfl (Nat.le_of_ble_eq_true rfl) ⟨Nat.zero_le _, Nat.zero_le _⟩ dX11_now_61 (fun H locs hW => ?_)
        exact r_iret hC hr hlk hW hf dX11_now_64
      · have hf := ie c1_2 hf
        by_cases c1_3 : a1 = 3
        · have hf := it c1_3 hf
          refine k_tbl (tgt := 65) c1_3 hC dX11_now_1 (by decide) (by decide) rfl (by decide) ?_
          refine lv_aload_n hx hb dX11_now_65 rfl (lv_at hl 0 rfl) ?_
          obtain ⟨q19, hq19, hf⟩ := ob hf
          refine k_vI hC hK hW cfX11 (c_X11_swap l hAd (cv_s hq19).2) (cv_s hq19).1 my_X11_swap wI_X11_swap wQ_X11_swap wM_X11_174 ⟨Nat.le_of_ble_eq_true rfl, Nat.le_of_ble_eq_true rfl⟩ rfl hl.1 rfl (Nat.le_of_ble_eq_true rfl) ⟨Nat.zero_le _, Nat.zero_le _⟩ dX11_now_66 (fun H locs hW => ?_)
          exact r_iret hC hr hlk hW hf dX11_now_69
        · have hf := ie c1_3 hf
          by_cases c1_4 : a1 = 4
          · have hf := it c1_4 hf
            refine k_tbl (tgt := 70) c1_4 hC dX11_now_1 (by decide) (by decide) rfl (by decide) ?_
            refine lv_aload_n hx hb dX11_now_70 rfl (lv_at hl 0 rfl) ?_
            obtain ⟨r20, hr20, hf⟩ := ob hf
            refine r_gR hC hK hW cfX11 (by decide) wF_X11_19 rfl hr20 dX11_now_71 ?_
            refine lv_aload_n hx hb dX11_now_74 rfl (lv_at hl 0 rfl) ?_
            obtain ⟨r21, hr21, hf⟩ := ob hf
            refine r_gR hC hK hW cfX11 (by decide) wF_X11_39 rfl hr21 dX11_now_75 ?_
            refine lv_aload_n hx hb dX11_now_78 rfl (lv_at hl 0 rfl) ?_
            obtain ⟨r22, hr22, hf⟩ := ob hf
            refine r_gR hC hK hW cfX11 (by decide) wF_X11_46 rfl hr22 dX11_now_79 ?_
            obtain ⟨q23, hq23, hf⟩ := ob hf
            refine k_vI hC hK hW cfX5 (c_X5_share l hAd (cv_s hq23).2) (cv_s hq23).1 my_X5_share wI_X5_share wQ_X5_share wM_X11_177 ⟨Nat.le_of_ble_eq_true rfl, Nat.le_of_ble_eq_true rfl⟩ rfl hl.1 rfl (Nat.le_of_ble_eq_true rfl) ⟨Nat.zero_le _, Nat.zero_le _⟩ dX11_now_82 (fun H locs hW => ?_)
            exact r_iret hC hr hlk hW hf dX11_now_85
          · have hf := ie c1_4 hf
            by_cases c1_5 : a1 = 5
            · have hf := it c1_5 hf
              refine k_tbl (tgt := 86) c1_5 hC dX11_now_1 (by decide) (by decide) rfl (by decide) ?_
              refine lv_aload_n hx hb dX11_now_86 rfl (lv_at hl 0 rfl) ?_
              obtain ⟨v24, hv24, hf⟩ := ob hf
              refine r_gI hC hK hW cfX11 (by decide) wF_X11_116 rfl hv24 dX11_now_87 ?_
              exact r_iret hC hr hlk hW hf dX11_now_90
            · have hf := ie c1_5 hf
              refine lv_tableOut (tgt := 91) hx hb dX11_now_1 (tbl_out 6 (by decide) (fun j hj => ?_)) (by decide) ?_
              · rcases (show j = 0 ∨ j = 1 ∨ j = 2 ∨ j = 3 ∨ j = 4 ∨ j = 5 by omega) with rfl | rfl | rfl | rfl | rfl | rfl
                · exact c1_0
                · exact c1_1
                · exact c1_2
                · exact c1_3
                · exact c1_4
                · exact c1_5
              refine lv_iconst (v := (-1 : Int32)) hx hb dX11_now_91 (by decide) ?_
              exact r_iret hC hr hlk hW hf dX11_now_92
set_option maxHeartbeats 4000000 in
set_option maxRecDepth 100000 in
theorem c_X11_spreadChances (l : Launch) {D : va_G} {cA : Nat → ClassId} {ad : Nat → Nat} {A : Nat → Prop} (hAd : AdOk ad A) {a0 : Nat} {a1 : Int32} {M0 : Mem} {q : (Int32 × Mem)} (hf0 : f_X11_spreadChances a0 a1 M0 = some q) : Met l yX11_spreadChances (wd yX11_spreadChances cX11_spreadChances 7 (some .int)) (rmD 1) (PcW D cA ad [.ref (ad a0), .int a1] M0) (QI D cA ad A q.1 q.2) 0 0 A := by
  refine mk_met (own := RX11) (by decide +kernel) rfl (Nat.le_of_ble_eq_true rfl) ?_
  intro p e s m args below meth c hC hr hlk hK H locs ls hW hl
  have hx := hC.1
  have hb := hC.2.1
  have hl : lv_has ls 7 [(0, .ref (ad a0)), (1, .int a1)] := hl
  have B61 : ∀ (x0 : Nat) (x1 : Int32) (x2 : Int32) (x3 : Int32) (x4 : Int32) (x5 : Int32) (x6 : Int32) (M : Mem) (ag36 : Int32 × Int32 × Mem → Option (Int32 × Mem)) (hg36 : ∀ (x2 : Int32) (x4 : Int32) (M : Mem) (H : Heap) (locs : List Loc) (ls : Array Slot) (_ : Wd D cA ad A s M H locs) (_ : lv_has ls 7 [(0, .ref (ad x0)), (1, .int x1), (2, .int x2), (3, .int x3), (4, .int x4)]) (_ : ag36 (x2, x4, M) = some q), W p l e (rmD 1) s m args below meth c H locs 0 0 (MQ below (QI D cA ad A q.1 q.2) args s 0 0 A) (F0 m 36 ls [])) (ag61 : Int32 × Mem → Option (Int32 × Mem)) (hg61 : ∀ (x6 : Int32) (M : Mem) (H : Heap) (locs : List Loc) (ls : Array Slot) (_ : Wd D cA ad A s M H locs) (_ : lv_has ls 7 [(0, .ref (ad x0)), (1, .int x1), (2, .int x2), (3, .int x3), (4, .int x4), (5, .int x5), (6, .int x6)]) (_ : ag61 (x6, M) = some q), W p l e (rmD 1) s m args below meth c H locs 0 0 (MQ below (QI D cA ad A q.1 q.2) args s 0 0 A) (F0 m 61 ls [])) (H : Heap) (locs : List Loc) (ls : Array Slot) (hW : Wd D cA ad A s M H locs) (hl : lv_has ls 7 [(0, .ref (ad x0)), (1, .int x1), (2, .int x2), (3, .int x3), (4, .int x4), (5, .int x5), (6, .int x6)]) (hf : f_X11_spreadChances_61b ag36 x0 x1 x2 x3 x4 x5 ag61 x6 M = some q), W p l e (rmD 1) s m args below meth c H locs 0 0 (MQ below (QI D cA ad A q.1 q.2) args s 0 0 A) (F0 m 61 ls []) := by
    intro x0 x1 x2 x3 x4 x5 x6 M ag36 hg36 ag61 hg61 H locs ls hW hl hf
    unfold f_X11_spreadChances_61b at hf
    refine lv_iload hx hb dX11_spreadChances_61 (lv_at hl 6 rfl) ?_
    refine lv_if_le (tgt := 103) hx hb dX11_spreadChances_63 (by decide) (fun c63 => ?_) (fun c63 => ?_)
    · have hf := it c63 hf
      refine lv_aload_n hx hb dX11_spreadChances_103 rfl (lv_at hl 0 rfl) ?_
      obtain ⟨r11, hr11, hf⟩ := ob hf
      refine r_gR hC hK hW cfX11 (by decide) wF_X11_74 rfl hr11 dX11_spreadChances_104 ?_
      refine lv_iconst (v := (0 : Int32)) hx hb dX11_spreadChances_107 (by decide) ?_
      refine lv_aload_n hx hb dX11_spreadChances_108 rfl (lv_at hl 0 rfl) ?_
      obtain ⟨r12, hr12, hf⟩ := ob hf
      refine r_gR hC hK hW cfX11 (by decide) wF_X11_74 rfl hr12 dX11_spreadChances_109 ?_
      refine lv_iconst (v := (0 : Int32)) hx hb dX11_spreadChances_112 (by decide) ?_
      obtain ⟨v13, hv13, hf⟩ := ob hf
      refine r_aI hC hK hW hv13 dX11_spreadChances_113 ?_
      refine lv_bipush (v := (10 : Int32)) hx hb dX11_spreadChances_114 (by decide) ?_
      refine lv_iload_n hx hb dX11_spreadChances_116 rfl (lv_at hl 1 rfl) ?_
      refine lv_isub hx hb dX11_spreadChances_117 ?_
      refine lv_imul hx hb dX11_spreadChances_118 ?_
      refine lv_iload hx hb dX11_spreadChances_119 (lv_at hl 5 rfl) ?_
      refine lv_iadd hx hb dX11_spreadChances_121 ?_
      obtain ⟨M14, hM14, hf⟩ := ob hf
      refine r_sI hC hK hAd hW hM14 dX11_spreadChances_122 (fun H locs hW => ?_)
      refine lv_iload_n hx hb dX11_spreadChances_123 rfl (lv_at hl 2 rfl) ?_
      refine lv_bipush (v := (10 : Int32)) hx hb dX11_spreadChances_124 (by decide) ?_
      refine lv_imul hx hb dX11_spreadChances_126 ?_
      refine lv_istore_n (lv' := [(2, .int (x2 * (10 : Int32))), (0, .ref (ad x0)), (1, .int x1), (3, .int x3), (4, .int x4), (5, .int x5), (6, .int x6)]) hx hb dX11_spreadChances_127 rfl hl (by decide) rfl (fun ls hl => ?_)
      refine lv_iinc (v := (x4 + (1 : Int32))) (lv' := [(4, .int (x4 + (1 : Int32))), (2, .int (x2 * (10 : Int32))), (0, .ref (ad x0)), (1, .int x1), (3, .int x3), (5, .int x5), (6, .int x6)]) hx hb dX11_spreadChances_128 hl (k := 4) rfl rfl (by decide) rfl (fun ls hl => ?_)
      refine lv_goto (tgt := 36) hx hb dX11_spreadChances_131 (by decide) ?_
      exact hg36 (x2 * (10 : Int32)) (x4 + (1 : Int32)) M14 _ _ _ hW (lv_sub hl [2, 3, 1, 4, 0] rfl) hf
    · have hf := ie c63 hf
      refine lv_aload_n hx hb dX11_spreadChances_66 rfl (lv_at hl 0 rfl) ?_
      obtain ⟨r15, hr15, hf⟩ := ob hf
      refine r_gR hC hK hW cfX11 (by decide) wF_X11_74 rfl hr15 dX11_spreadChances_67 ?_
      refine lv_iload hx hb dX11_spreadChances_70 (lv_at hl 6 rfl) ?_
      refine lv_aload_n hx hb dX11_spreadChances_72 rfl (lv_at hl 0 rfl) ?_
      obtain ⟨r16, hr16, hf⟩ := ob hf
      refine r_gR hC hK hW cfX11 (by decide) wF_X11_74 rfl hr16 dX11_spreadChances_73 ?_
      refine lv_iload hx hb dX11_spreadChances_76 (lv_at hl 6 rfl) ?_
      obtain ⟨v17, hv17, hf⟩ := ob hf
      refine r_aI hC hK hW hv17 dX11_spreadChances_78 ?_
      refine lv_bipush (v := (10 : Int32)) hx hb dX11_spreadChances_79 (by decide) ?_
      refine lv_iload_n hx hb dX11_spreadChances_81 rfl (lv_at hl 1 rfl) ?_
      refine lv_isub hx hb dX11_spreadChances_82 ?_
      refine lv_imul hx hb dX11_spreadChances_83 ?_
      refine lv_aload_n hx hb dX11_spreadChances_84 rfl (lv_at hl 0 rfl) ?_
      obtain ⟨r18, hr18, hf⟩ := ob hf
      refine r_gR hC hK hW cfX11 (by decide) wF_X11_74 rfl hr18 dX11_spreadChances_85 ?_
      refine lv_iload hx hb dX11_spreadChances_88 (lv_at hl 6 rfl) ?_
      refine lv_iconst (v := (1 : Int32)) hx hb dX11_spreadChances_90 (by decide) ?_
      refine lv_isub hx hb dX11_spreadChances_91 ?_
      obtain ⟨v19, hv19, hf⟩ := ob hf
      refine r_aI hC hK hW hv19 dX11_spreadChances_92 ?_
      refine lv_iload_n hx hb dX11_spreadChances_93 rfl (lv_at hl 1 rfl) ?_
      refine lv_imul hx hb dX11_spreadChances_94 ?_
      refine lv_iadd hx hb dX11_spreadChances_95 ?_
      obtain ⟨M20, hM20, hf⟩ := ob hf
      refine r_sI hC hK hAd hW hM20 dX11_spreadChances_96 (fun H locs hW => ?_)
      refine lv_iinc (v := (x6 + (-1 : Int32))) (lv' := [(6, .int (x6 + (-1 : Int32))), (0, .ref (ad x0)), (1, .int x1), (2, .int x2), (3, .int x3), (4, .int x4), (5, .int x5)]) hx hb dX11_spreadChances_97 hl (k := 6) rfl rfl (by decide) rfl (fun ls hl => ?_)
      refine lv_goto (tgt := 61) hx hb dX11_spreadChances_100 (by decide) ?_
      exact hg61 (x6 + (-1 : Int32)) M20 _ _ _ hW (lv_sub hl [1, 2, 3, 4, 5, 6, 0] rfl) hf
  have J61 : ∀ (x0 : Nat) (x1 : Int32) (x2 : Int32) (x3 : Int32) (x4 : Int32) (x5 : Int32) (x6 : Int32) (M : Mem) (ag36 : Int32 × Int32 × Mem → Option (Int32 × Mem)) (hg36 : ∀ (x2 : Int32) (x4 : Int32) (M : Mem) (H : Heap) (locs : List Loc) (ls : Array Slot) (_ : Wd D cA ad A s M H locs) (_ : lv_has ls 7 [(0, .ref (ad x0)), (1, .int x1), (2, .int x2), (3, .int x3), (4, .int x4)]) (_ : ag36 (x2, x4, M) = some q), W p l e (rmD 1) s m args below meth c H locs 0 0 (MQ below (QI D cA ad A q.1 q.2) args s 0 0 A) (F0 m 36 ls [])) (H : Heap) (locs : List Loc) (ls : Array Slot) (hW : Wd D cA ad A s M H locs) (hl : lv_has ls 7 [(0, .ref (ad x0)), (1, .int x1), (2, .int x2), (3, .int x3), (4, .int x4), (5, .int x5), (6, .int x6)]) (hf : f_X11_spreadChances_61 ag36 x0 x1 x2 x3 x4 x5 x6 M = some q), W p l e (rmD 1) s m args below meth c H locs 0 0 (MQ below (QI D cA ad A q.1 q.2) args s 0 0 A) (F0 m 61 ls []) := by
    intro x0 x1 x2 x3 x4 x5 x6 M ag36 hg36 H locs ls hW hl hf
    unfold f_X11_spreadChances_61 at hf
    have key : ∀ (n : Nat) (x6 : Int32) (M : Mem) (H : Heap) (locs : List Loc) (ls : Array Slot) (hW : Wd D cA ad A s M H locs) (hl : lv_has ls 7 [(0, .ref (ad x0)), (1, .int x1), (2, .int x2), (3, .int x3), (4, .int x4), (5, .int x5), (6, .int x6)]) (hf : loopF (fun ag s => f_X11_spreadChances_61b ag36 x0 x1 x2 x3 x4 x5 ag s.1 s.2) n (x6, M) = some q), W p l e (rmD 1) s m args below meth c H locs 0 0 (MQ below (QI D cA ad A q.1 q.2) args s 0 0 A) (F0 m 61 ls []) := by
      intro n
      induction n with
      | zero => intro x6 M H locs ls hW hl hf; exact nomatch (show (none : Option _) = some _ from hf)
      | succ n ih => intro x6 M H locs ls hW hl hf; exact B61 x0 x1 x2 x3 x4 x5 x6 M ag36 hg36 _ ih H locs ls hW hl hf
    exact key FU x6 M H locs ls hW hl hf
  have B36 : ∀ (x0 : Nat) (x1 : Int32) (x3 : Int32) (x2 : Int32) (x4 : Int32) (M : Mem)  (ag36 : Int32 × Int32 × Mem → Option (Int32 × Mem)) (hg36 : ∀ (x2 : Int32) (x4 : Int32) (M : Mem) (H : Heap) (locs : List Loc) (ls : Array Slot) (_ : Wd D cA ad A s M H locs) (_ : lv_has ls 7 [(0, .ref (ad x0)), (1, .int x1), (2, .int x2), (3, .int x3), (4, .int x4)]) (_ : ag36 (x2, x4, M) = some q), W p l e (rmD 1) s m args below meth c H locs 0 0 (MQ below (QI D cA ad A q.1 q.2) args s 0 0 A) (F0 m 36 ls [])) (H : Heap) (locs : List Loc) (ls : Array Slot) (hW : Wd D cA ad A s M H locs) (hl : lv_has ls 7 [(0, .ref (ad x0)), (1, .int x1), (2, .int x2), (3, .int x3), (4, .int x4)]) (hf : f_X11_spreadChances_36b  x0 x1 x3 ag36 x2 x4 M = some q), W p l e (rmD 1) s m args below meth c H locs 0 0 (MQ below (QI D cA ad A q.1 q.2) args s 0 0 A) (F0 m 36 ls []) := by
    intro x0 x1 x3 x2 x4 M  ag36 hg36 H locs ls hW hl hf
    unfold f_X11_spreadChances_36b at hf
    refine lv_iload hx hb dX11_spreadChances_36 (lv_at hl 4 rfl) ?_
    refine lv_aload_n hx hb dX11_spreadChances_38 rfl (lv_at hl 0 rfl) ?_
    obtain ⟨r25, hr25, hf⟩ := ob hf
    refine r_gR hC hK hW cfX11 (by decide) wF_X11_39 rfl hr25 dX11_spreadChances_39 ?_
    obtain ⟨v26, hv26, hf⟩ := ob hf
    refine r_gI hC hK hW cfX8 (by decide) wF_X11_227 rfl hv26 dX11_spreadChances_42 ?_
    refine lv_icmp_ge (tgt := 134) hx hb dX11_spreadChances_45 (by decide) (fun c45 => ?_) (fun c45 => ?_)
    · have hf := it c45 hf
      refine lv_iload_n hx hb dX11_spreadChances_134 rfl (lv_at hl 2 rfl) ?_
      exact r_iret hC hr hlk hW hf dX11_spreadChances_135
    · have hf := ie c45 hf
      refine lv_aload_n hx hb dX11_spreadChances_48 rfl (lv_at hl 0 rfl) ?_
      obtain ⟨r27, hr27, hf⟩ := ob hf
      refine r_gR hC hK hW cfX11 (by decide) wF_X11_74 rfl hr27 dX11_spreadChances_49 ?_
      refine lv_iload_n hx hb dX11_spreadChances_52 rfl (lv_at hl 3 rfl) ?_
      obtain ⟨v28, hv28, hf⟩ := ob hf
      refine r_aI hC hK hW hv28 dX11_spreadChances_53 ?_
      refine lv_iload_n hx hb dX11_spreadChances_54 rfl (lv_at hl 1 rfl) ?_
      refine lv_imul hx hb dX11_spreadChances_55 ?_
      refine lv_istore (lv' := [(5, .int (v28 * x1)), (0, .ref (ad x0)), (1, .int x1), (2, .int x2), (3, .int x3), (4, .int x4)]) hx hb dX11_spreadChances_56 hl (by decide) rfl (fun ls hl => ?_)
      refine lv_iload_n hx hb dX11_spreadChances_58 rfl (lv_at hl 4 rfl) ?_
      refine lv_istore (lv' := [(6, .int x3), (5, .int (v28 * x1)), (0, .ref (ad x0)), (1, .int x1), (2, .int x2), (3, .int x3), (4, .int x4)]) hx hb dX11_spreadChances_59 hl (by decide) rfl (fun ls hl => ?_)
      exact J61 x0 x1 x2 x3 x4 (v28 * x1) x3 M ag36 hg36 _ _ _ hW (lv_sub hl [2, 3, 4, 5, 6, 1, 0] rfl) hf
  have J36 : ∀ (x0 : Nat) (x1 : Int32) (x3 : Int32) (x2 : Int32) (x4 : Int32) (M : Mem)  (H : Heap) (locs : List Loc) (ls : Array Slot) (hW : Wd D cA ad A s M H locs) (hl : lv_has ls 7 [(0, .ref (ad x0)), (1, .int x1), (2, .int x2), (3, .int x3), (4, .int x4)]) (hf : f_X11_spreadChances_36  x0 x1 x3 x2 x4 M = some q), W p l e (rmD 1) s m args below meth c H locs 0 0 (MQ below (QI D cA ad A q.1 q.2) args s 0 0 A) (F0 m 36 ls []) := by
    intro x0 x1 x3 x2 x4 M  H locs ls hW hl hf
    unfold f_X11_spreadChances_36 at hf
    have key : ∀ (n : Nat) (x2 : Int32) (x4 : Int32) (M : Mem) (H : Heap) (locs : List Loc) (ls : Array Slot) (hW : Wd D cA ad A s M H locs) (hl : lv_has ls 7 [(0, .ref (ad x0)), (1, .int x1), (2, .int x2), (3, .int x3), (4, .int x4)]) (hf : loopF (fun ag s => f_X11_spreadChances_36b  x0 x1 x3 ag s.1 s.2.1 s.2.2) n (x2, x4, M) = some q), W p l e (rmD 1) s m args below meth c H locs 0 0 (MQ below (QI D cA ad A q.1 q.2) args s 0 0 A) (F0 m 36 ls []) := by
      intro n
      induction n with
      | zero => intro x2 x4 M H locs ls hW hl hf; exact nomatch (show (none : Option _) = some _ from hf)
      | succ n ih => intro x2 x4 M H locs ls hW hl hf; exact B36 x0 x1 x3 x2 x4 M  _ ih H locs ls hW hl hf
    exact key FU x2 x4 M H locs ls hW hl hf
  have hf := hf0
  unfold f_X11_spreadChances at hf
  refine lv_aload_n hx hb dX11_spreadChances_0 rfl (lv_at hl 0 rfl) ?_
  obtain ⟨r37, hr37, hf⟩ := ob hf
  refine r_gR hC hK hW cfX11 (by decide) wF_X11_74 rfl hr37 dX11_spreadChances_1 ?_
  refine lv_iconst (v := (0 : Int32)) hx hb dX11_spreadChances_4 (by decide) ?_
  obtain ⟨q38, hq38, hf⟩ := ob hf
  refine k_sV hC hK hW (c_J7_fill_53178 l hAd hq38) my_J7_fill_53178 wS_J7_fill_53178 wM_X11_270 ⟨Nat.le_of_ble_eq_true rfl, Nat.le_of_ble_eq_true rfl⟩ rfl hl.1 rfl (Nat.le_of_ble_eq_true rfl) ⟨Nat.zero_le _, Nat.zero_le _⟩ dX11_spreadChances_5 (fun H locs hW => ?_)
  refine lv_aload_n hx hb dX11_spreadChances_8 rfl (lv_at hl 0 rfl) ?_
  obtain ⟨r39, hr39, hf⟩ := ob hf
  refine r_gR hC hK hW cfX11 (by decide) wF_X11_74 rfl hr39 dX11_spreadChances_9 ?_
  refine lv_aload_n hx hb dX11_spreadChances_12 rfl (lv_at hl 0 rfl) ?_
  obtain ⟨r40, hr40, hf⟩ := ob hf
  refine r_gR hC hK hW cfX11 (by decide) wF_X11_46 rfl hr40 dX11_spreadChances_13 ?_
  obtain ⟨v41, hv41, hf⟩ := ob hf
  refine r_gI hC hK hW cfX7 (by decide) wF_X11_160 rfl hv41 dX11_spreadChances_16 ?_
  refine lv_iconst (v := (1 : Int32)) hx hb dX11_spreadChances_19 (by decide) ?_
  obtain ⟨M42, hM42, hf⟩ := ob hf
  refine r_sI hC hK hAd hW hM42 dX11_spreadChances_20 (fun H locs hW => ?_)
  refine lv_iconst (v := (1 : Int32)) hx hb dX11_spreadChances_21 (by decide) ?_
  refine lv_istore_n (lv' := [(2, .int (1 : Int32)), (0, .ref (ad a0)), (1, .int a1)]) hx hb dX11_spreadChances_22 rfl hl (by decide) rfl (fun ls hl => ?_)
  refine lv_aload_n hx hb dX11_spreadChances_23 rfl (lv_at hl 1 rfl) ?_
  obtain ⟨r43, hr43, hf⟩ := ob hf
  refine r_gR hC hK hW cfX11 (by decide) wF_X11_39 rfl hr43 dX11_spreadChances_24 ?_
  obtain ⟨v44, hv44, hf⟩ := ob hf
  refine r_gI hC hK hW cfX8 (by decide) wF_X11_181 rfl hv44 dX11_spreadChances_27 ?_
  refine lv_iconst (v := (1 : Int32)) hx hb dX11_spreadChances_30 (by decide) ?_
  refine lv_isub hx hb dX11_spreadChances_31 ?_
  refine lv_istore_n (lv' := [(3, .int (v44 - (1 : Int32))), (2, .int (1 : Int32)), (0, .ref (ad a0)), (1, .int a1)]) hx hb dX11_spreadChances_32 rfl hl (by decide) rfl (fun ls hl => ?_)
  refine lv_iconst (v := (0 : Int32)) hx hb dX11_spreadChances_33 (by decide) ?_
  refine lv_istore (lv' := [(4, .int (0 : Int32)), (3, .int (v44 - (1 : Int32))), (2, .int (1 : Int32)), (0, .ref (ad a0)), (1, .int a1)]) hx hb dX11_spreadChances_34 hl (by decide) rfl (fun ls hl => ?_)
  exact J36 a0 a1 (v44 - (1 : Int32)) (1 : Int32) (0 : Int32) M42 _ _ _ hW (lv_sub hl [3, 4, 2, 1, 0] rfl) hf
set_option maxHeartbeats 4000000 in
set_option maxRecDepth 100000 in
theorem c_X11_odds (l : Launch) {D : va_G} {cA : Nat → ClassId} {ad : Nat → Nat} {A : Nat → Prop} (hAd : AdOk ad A) {a0 : Nat} {a1 : Int32} {a2 : Int32} {a3 : Int32} {M0 : Mem} {q : (Int32 × Mem)} (hf0 : f_X11_odds a0 a1 a2 a3 M0 = some q) : Met l yX11_odds (wd yX11_odds cX11_odds 7 (some .int)) (rmD 2) (PcW D cA ad [.ref (ad a0), .int a1, .int a2, .int a3] M0) (QI D cA ad A q.1 q.2) 0 0 A := by
  refine mk_met (own := RX11) (by decide +kernel) rfl (Nat.le_of_ble_eq_true rfl) ?_
  intro p e s m args below meth c hC hr hlk hK H locs ls hW hl
  have hx := hC.1
  have hb := hC.2.1
  have hl : lv_has ls 7 [(0, .ref (ad a0)), (1, .int a1), (2, .int a2), (3, .int a3)] := hl
  have J83 : ∀ (x0 : Nat) (x3 : Int32) (x4 : Int32) (x5 : Int32) (x6 : Int32)  (M : Mem) (ag45 : Int32 × Int32 × Int32 → Option (Int32 × Mem)) (hg45 : ∀ (x4 : Int32) (x5 : Int32) (x6 : Int32) (H : Heap) (locs : List Loc) (ls : Array Slot) (_ : Wd D cA ad A s M H locs) (_ : lv_has ls 7 [(0, .ref (ad x0)), (3, .int x3), (4, .int x4), (5, .int x5), (6, .int x6)]) (_ : ag45 (x4, x5, x6) = some q), W p l e (rmD 2) s m args below meth c H locs 0 0 (MQ below (QI D cA ad A q.1 q.2) args s 0 0 A) (F0 m 45 ls [])) (H : Heap) (locs : List Loc) (ls : Array Slot) (hW : Wd D cA ad A s M H locs) (hl : lv_has ls 7 [(0, .ref (ad x0)), (3, .int x3), (4, .int x4), (5, .int x5), (6, .int x6)]) (hf : f_X11_odds_83 ag45 x0 x3 x4 x5 x6  M = some q), W p l e (rmD 2) s m args below meth c H locs 0 0 (MQ below (QI D cA ad A q.1 q.2) args s 0 0 A) (F0 m 83 ls []) := by
    intro x0 x3 x4 x5 x6  M ag45 hg45 H locs ls hW hl hf
    unfold f_X11_odds_83 at hf
    refine lv_iload hx hb dX11_odds_83 (lv_at hl 2 rfl) ?_
    refine lv_iconst (v := (5 : Int32)) hx hb dX11_odds_85 (by decide) ?_
    obtain ⟨v5, hv5, hf⟩ := ob hf
    refine r_rem hC hv5 dX11_odds_86 ?_
    refine lv_if_ne (tgt := 109) hx hb dX11_odds_87 (by decide) (fun c87 => ?_) (fun c87 => ?_)
    · have hf := ie c87 hf
      refine lv_iinc (v := (x6 + (1 : Int32))) (lv' := [(6, .int (x6 + (1 : Int32))), (0, .ref (ad x0)), (3, .int x3), (4, .int x4), (5, .int x5)]) hx hb dX11_odds_109 hl (k := 4) rfl rfl (by decide) rfl (fun ls hl => ?_)
      refine lv_goto (tgt := 45) hx hb dX11_odds_112 (by decide) ?_
      exact hg45 x4 x5 (x6 + (1 : Int32)) _ _ _ hW (lv_sub hl [1, 2, 3, 4, 0] rfl) hf
    · have hf := it c87 hf
      refine lv_iload hx hb dX11_odds_90 (lv_at hl 3 rfl) ?_
      refine lv_iconst (v := (5 : Int32)) hx hb dX11_odds_92 (by decide) ?_
      obtain ⟨v6, hv6, hf⟩ := ob hf
      refine r_rem hC hv6 dX11_odds_93 ?_
      refine lv_if_ne (tgt := 109) hx hb dX11_odds_94 (by decide) (fun c94 => ?_) (fun c94 => ?_)
      · have hf := ie c94 hf
        refine lv_iinc (v := (x6 + (1 : Int32))) (lv' := [(6, .int (x6 + (1 : Int32))), (0, .ref (ad x0)), (3, .int x3), (4, .int x4), (5, .int x5)]) hx hb dX11_odds_109 hl (k := 4) rfl rfl (by decide) rfl (fun ls hl => ?_)
        refine lv_goto (tgt := 45) hx hb dX11_odds_112 (by decide) ?_
        exact hg45 x4 x5 (x6 + (1 : Int32)) _ _ _ hW (lv_sub hl [1, 2, 3, 4, 0] rfl) hf
      · have hf := it c94 hf
        refine lv_iload hx hb dX11_odds_97 (lv_at hl 2 rfl) ?_
        refine lv_iconst (v := (5 : Int32)) hx hb dX11_odds_99 (by decide) ?_
        obtain ⟨v7, hv7, hf⟩ := ob hf
        refine r_div hC hv7 dX11_odds_100 ?_
        refine lv_istore (lv' := [(4, .int v7), (0, .ref (ad x0)), (3, .int x3), (5, .int x5), (6, .int x6)]) hx hb dX11_odds_101 hl (by decide) rfl (fun ls hl => ?_)
        refine lv_iload hx hb dX11_odds_103 (lv_at hl 3 rfl) ?_
        refine lv_iconst (v := (5 : Int32)) hx hb dX11_odds_105 (by decide) ?_
        obtain ⟨v8, hv8, hf⟩ := ob hf
        refine r_div hC hv8 dX11_odds_106 ?_
        refine lv_istore (lv' := [(5, .int v8), (4, .int v7), (0, .ref (ad x0)), (3, .int x3), (6, .int x6)]) hx hb dX11_odds_107 hl (by decide) rfl (fun ls hl => ?_)
        refine lv_iinc (v := (x6 + (1 : Int32))) (lv' := [(6, .int (x6 + (1 : Int32))), (5, .int v8), (4, .int v7), (0, .ref (ad x0)), (3, .int x3)]) hx hb dX11_odds_109 hl (k := 4) rfl rfl (by decide) rfl (fun ls hl => ?_)
        refine lv_goto (tgt := 45) hx hb dX11_odds_112 (by decide) ?_
        exact hg45 v7 v8 (x6 + (1 : Int32)) _ _ _ hW (lv_sub hl [3, 4, 2, 1, 0] rfl) hf
  have B45 : ∀ (x0 : Nat) (x3 : Int32) (M : Mem) (x4 : Int32) (x5 : Int32) (x6 : Int32)  (ag45 : Int32 × Int32 × Int32 → Option (Int32 × Mem)) (hg45 : ∀ (x4 : Int32) (x5 : Int32) (x6 : Int32) (H : Heap) (locs : List Loc) (ls : Array Slot) (_ : Wd D cA ad A s M H locs) (_ : lv_has ls 7 [(0, .ref (ad x0)), (3, .int x3), (4, .int x4), (5, .int x5), (6, .int x6)]) (_ : ag45 (x4, x5, x6) = some q), W p l e (rmD 2) s m args below meth c H locs 0 0 (MQ below (QI D cA ad A q.1 q.2) args s 0 0 A) (F0 m 45 ls [])) (H : Heap) (locs : List Loc) (ls : Array Slot) (hW : Wd D cA ad A s M H locs) (hl : lv_has ls 7 [(0, .ref (ad x0)), (3, .int x3), (4, .int x4), (5, .int x5), (6, .int x6)]) (hf : f_X11_odds_45b  x0 x3 M ag45 x4 x5 x6 = some q), W p l e (rmD 2) s m args below meth c H locs 0 0 (MQ below (QI D cA ad A q.1 q.2) args s 0 0 A) (F0 m 45 ls []) := by
    intro x0 x3 M x4 x5 x6  ag45 hg45 H locs ls hW hl hf
    unfold f_X11_odds_45b at hf
    refine lv_iload hx hb dX11_odds_45 (lv_at hl 4 rfl) ?_
    refine lv_aload_n hx hb dX11_odds_47 rfl (lv_at hl 0 rfl) ?_
    obtain ⟨r15, hr15, hf⟩ := ob hf
    refine r_gR hC hK hW cfX11 (by decide) wF_X11_39 rfl hr15 dX11_odds_48 ?_
    obtain ⟨v16, hv16, hf⟩ := ob hf
    refine r_gI hC hK hW cfX8 (by decide) wF_X11_227 rfl hv16 dX11_odds_51 ?_
    refine lv_icmp_ge (tgt := 115) hx hb dX11_odds_54 (by decide) (fun c54 => ?_) (fun c54 => ?_)
    · have hf := it c54 hf
      refine lv_iload_n hx hb dX11_odds_115 rfl (lv_at hl 1 rfl) ?_
      refine lv_if_ne (tgt := 124) hx hb dX11_odds_116 (by decide) (fun c116 => ?_) (fun c116 => ?_)
      · have hf := ie c116 hf
        refine lv_iload hx hb dX11_odds_124 (lv_at hl 2 rfl) ?_
        exact r_iret hC hr hlk hW hf dX11_odds_126
      · have hf := it c116 hf
        refine lv_iload hx hb dX11_odds_119 (lv_at hl 3 rfl) ?_
        refine lv_goto (tgt := 126) hx hb dX11_odds_121 (by decide) ?_
        exact r_iret hC hr hlk hW hf dX11_odds_126
    · have hf := ie c54 hf
      refine lv_iload hx hb dX11_odds_57 (lv_at hl 2 rfl) ?_
      refine lv_iconst (v := (2 : Int32)) hx hb dX11_odds_59 (by decide) ?_
      obtain ⟨v17, hv17, hf⟩ := ob hf
      refine r_rem hC hv17 dX11_odds_60 ?_
      refine lv_if_ne (tgt := 83) hx hb dX11_odds_61 (by decide) (fun c61 => ?_) (fun c61 => ?_)
      · have hf := ie c61 hf
        exact J83 x0 x3 x4 x5 x6 M ag45 hg45 _ _ _ hW (lv_sub hl [0, 1, 2, 3, 4] rfl) hf
      · have hf := it c61 hf
        refine lv_iload hx hb dX11_odds_64 (lv_at hl 3 rfl) ?_
        refine lv_iconst (v := (2 : Int32)) hx hb dX11_odds_66 (by decide) ?_
        obtain ⟨v18, hv18, hf⟩ := ob hf
        refine r_rem hC hv18 dX11_odds_67 ?_
        refine lv_if_ne (tgt := 83) hx hb dX11_odds_68 (by decide) (fun c68 => ?_) (fun c68 => ?_)
        · have hf := ie c68 hf
          exact J83 x0 x3 x4 x5 x6 M ag45 hg45 _ _ _ hW (lv_sub hl [0, 1, 2, 3, 4] rfl) hf
        · have hf := it c68 hf
          refine lv_iload hx hb dX11_odds_71 (lv_at hl 2 rfl) ?_
          refine lv_iconst (v := (2 : Int32)) hx hb dX11_odds_73 (by decide) ?_
          obtain ⟨v19, hv19, hf⟩ := ob hf
          refine r_div hC hv19 dX11_odds_74 ?_
          refine lv_istore (lv' := [(4, .int v19), (0, .ref (ad x0)), (3, .int x3), (5, .int x5), (6, .int x6)]) hx hb dX11_odds_75 hl (by decide) rfl (fun ls hl => ?_)
          refine lv_iload hx hb dX11_odds_77 (lv_at hl 3 rfl) ?_
          refine lv_iconst (v := (2 : Int32)) hx hb dX11_odds_79 (by decide) ?_
          obtain ⟨v20, hv20, hf⟩ := ob hf
          refine r_div hC hv20 dX11_odds_80 ?_
          refine lv_istore (lv' := [(5, .int v20), (4, .int v19), (0, .ref (ad x0)), (3, .int x3), (6, .int x6)]) hx hb dX11_odds_81 hl (by decide) rfl (fun ls hl => ?_)
          exact J83 x0 x3 v19 v20 x6 M ag45 hg45 _ _ _ hW (lv_sub hl [2, 3, 1, 0, 4] rfl) hf
  have J45 : ∀ (x0 : Nat) (x3 : Int32) (M : Mem) (x4 : Int32) (x5 : Int32) (x6 : Int32)  (H : Heap) (locs : List Loc) (ls : Array Slot) (hW : Wd D cA ad A s M H locs) (hl : lv_has ls 7 [(0, .ref (ad x0)), (3, .int x3), (4, .int x4), (5, .int x5), (6, .int x6)]) (hf : f_X11_odds_45  x0 x3 M x4 x5 x6 = some q), W p l e (rmD 2) s m args below meth c H locs 0 0 (MQ below (QI D cA ad A q.1 q.2) args s 0 0 A) (F0 m 45 ls []) := by
    intro x0 x3 M x4 x5 x6  H locs ls hW hl hf
    unfold f_X11_odds_45 at hf
    have key : ∀ (n : Nat) (x4 : Int32) (x5 : Int32) (x6 : Int32) (H : Heap) (locs : List Loc) (ls : Array Slot) (hW : Wd D cA ad A s M H locs) (hl : lv_has ls 7 [(0, .ref (ad x0)), (3, .int x3), (4, .int x4), (5, .int x5), (6, .int x6)]) (hf : loopF (fun ag s => f_X11_odds_45b  x0 x3 M ag s.1 s.2.1 s.2.2) n (x4, x5, x6) = some q), W p l e (rmD 2) s m args below meth c H locs 0 0 (MQ below (QI D cA ad A q.1 q.2) args s 0 0 A) (F0 m 45 ls []) := by
      intro n
      induction n with
      | zero => intro x4 x5 x6 H locs ls hW hl hf; exact nomatch (show (none : Option _) = some _ from hf)
      | succ n ih => intro x4 x5 x6 H locs ls hW hl hf; exact B45 x0 x3 M x4 x5 x6  _ ih H locs ls hW hl hf
    exact key FU x4 x5 x6 H locs ls hW hl hf
  have hf := hf0
  unfold f_X11_odds at hf
  refine lv_iload_n hx hb dX11_odds_0 rfl (lv_at hl 1 rfl) ?_
  refine lv_if_lt (tgt := 25) hx hb dX11_odds_1 (by decide) (fun c1 => ?_) (fun c1 => ?_)
  · have hf := it c1 hf
    refine lv_iconst (v := (-1 : Int32)) hx hb dX11_odds_25 (by decide) ?_
    exact r_iret hC hr hlk hW hf dX11_odds_26
  · have hf := ie c1 hf
    refine lv_iload_n hx hb dX11_odds_4 rfl (lv_at hl 1 rfl) ?_
    refine lv_bipush (v := (10 : Int32)) hx hb dX11_odds_5 (by decide) ?_
    refine lv_icmp_gt (tgt := 25) hx hb dX11_odds_7 (by decide) (fun c7 => ?_) (fun c7 => ?_)
    · have hf := it c7 hf
      refine lv_iconst (v := (-1 : Int32)) hx hb dX11_odds_25 (by decide) ?_
      exact r_iret hC hr hlk hW hf dX11_odds_26
    · have hf := ie c7 hf
      refine lv_aload_n hx hb dX11_odds_10 rfl (lv_at hl 0 rfl) ?_
      refine lv_iload_n hx hb dX11_odds_11 rfl (lv_at hl 2 rfl) ?_
      obtain ⟨q26, hq26, hf⟩ := ob hf
      refine k_vI hC hK hW cfX11 (c_X11_isTurn l hAd (cv_s hq26).2) (cv_s hq26).1 my_X11_isTurn wI_X11_isTurn wQ_X11_isTurn wM_X11_201 ⟨Nat.le_of_ble_eq_true rfl, Nat.le_of_ble_eq_true rfl⟩ rfl hl.1 rfl (Nat.le_of_ble_eq_true rfl) ⟨Nat.zero_le _, Nat.zero_le _⟩ dX11_odds_12 (fun H locs hW => ?_)
      refine lv_if_eq (tgt := 25) hx hb dX11_odds_15 (by decide) (fun c15 => ?_) (fun c15 => ?_)
      · have hf := it c15 hf
        refine lv_iconst (v := (-1 : Int32)) hx hb dX11_odds_25 (by decide) ?_
        exact r_iret hC hr hlk hW hf dX11_odds_26
      · have hf := ie c15 hf
        refine lv_iload_n hx hb dX11_odds_18 rfl (lv_at hl 3 rfl) ?_
        obtain ⟨q27, hq27, hf⟩ := ob hf
        refine k_sI hC hK hW (c_X11_isBit l hAd hq27) my_X11_isBit wS_X11_isBit wM_X11_184 ⟨Nat.le_of_ble_eq_true rfl, Nat.le_of_ble_eq_true rfl⟩ rfl hl.1 rfl (Nat.le_of_ble_eq_true rfl) ⟨Nat.zero_le _, Nat.zero_le _⟩ dX11_odds_19 (fun H locs hW => ?_)
        refine lv_if_ne (tgt := 27) hx hb dX11_odds_22 (by decide) (fun c22 => ?_) (fun c22 => ?_)
        · have hf := ie c22 hf
          refine lv_aload_n hx hb dX11_odds_27 rfl (lv_at hl 0 rfl) ?_
          refine lv_iload_n hx hb dX11_odds_28 rfl (lv_at hl 1 rfl) ?_
          obtain ⟨q28, hq28, hf⟩ := ob hf
          refine k_vI hC hK hW cfX11 (c_X11_spreadChances l hAd (cv_s hq28).2) (cv_s hq28).1 my_X11_spreadChances wI_X11_spreadChances wQ_X11_spreadChances wM_X11_224 ⟨Nat.le_of_ble_eq_true rfl, Nat.le_of_ble_eq_true rfl⟩ rfl hl.1 rfl (Nat.le_of_ble_eq_true rfl) ⟨Nat.zero_le _, Nat.zero_le _⟩ dX11_odds_29 (fun H locs hW => ?_)
          refine lv_istore (lv' := [(4, .int q28.1), (0, .ref (ad a0)), (1, .int a1), (2, .int a2), (3, .int a3)]) hx hb dX11_odds_32 hl (by decide) rfl (fun ls hl => ?_)
          refine lv_aload_n hx hb dX11_odds_34 rfl (lv_at hl 1 rfl) ?_
          obtain ⟨r29, hr29, hf⟩ := ob hf
          refine r_gR hC hK hW cfX11 (by decide) wF_X11_74 rfl hr29 dX11_odds_35 ?_
          refine lv_iload_n hx hb dX11_odds_38 rfl (lv_at hl 3 rfl) ?_
          obtain ⟨v30, hv30, hf⟩ := ob hf
          refine r_aI hC hK hW hv30 dX11_odds_39 ?_
          refine lv_istore (lv' := [(5, .int v30), (4, .int q28.1), (0, .ref (ad a0)), (1, .int a1), (2, .int a2), (3, .int a3)]) hx hb dX11_odds_40 hl (by decide) rfl (fun ls hl => ?_)
          refine lv_iconst (v := (0 : Int32)) hx hb dX11_odds_42 (by decide) ?_
          refine lv_istore (lv' := [(6, .int (0 : Int32)), (5, .int v30), (4, .int q28.1), (0, .ref (ad a0)), (1, .int a1), (2, .int a2), (3, .int a3)]) hx hb dX11_odds_43 hl (by decide) rfl (fun ls hl => ?_)
          exact J45 a0 a3 q28.2 q28.1 v30 (0 : Int32) _ _ _ hW (lv_sub hl [3, 6, 2, 1, 0] rfl) hf
        · have hf := it c22 hf
          refine lv_iconst (v := (-1 : Int32)) hx hb dX11_odds_25 (by decide) ?_
          exact r_iret hC hr hlk hW hf dX11_odds_26
set_option maxHeartbeats 4000000 in
set_option maxRecDepth 100000 in
theorem c_X11_puts (l : Launch) {D : va_G} {cA : Nat → ClassId} {ad : Nat → Nat} {A : Nat → Prop} (hAd : AdOk ad A) {a0 : Nat} {a1 : Int32} {M0 : Mem} {q : (Int32 × Mem)} (hf0 : f_X11_puts a0 a1 M0 = some q) : Met l yX11_puts (wd yX11_puts cX11_puts 6 (some .int)) (rmD 6) (PcW D cA ad [.ref (ad a0), .int a1] M0) (QI D cA ad A q.1 q.2) 0 0 A := by
  refine mk_met (own := RX11) (by decide +kernel) rfl (Nat.le_of_ble_eq_true rfl) ?_
  intro p e s m args below meth c hC hr hlk hK H locs ls hW hl
  have hx := hC.1
  have hb := hC.2.1
  have hl : lv_has ls 6 [(0, .ref (ad a0)), (1, .int a1)] := hl
  have J70 : ∀ (x0 : Nat) (x1 : Int32) (x2 : Int32) (x3 : Int32) (x4 : Int32)  (M : Mem) (ag35 : Int32 × Int32 × Int32 × Mem → Option (Int32 × Mem)) (hg35 : ∀ (x2 : Int32) (x3 : Int32) (x4 : Int32) (M : Mem) (H : Heap) (locs : List Loc) (ls : Array Slot) (_ : Wd D cA ad A s M H locs) (_ : lv_has ls 6 [(0, .ref (ad x0)), (1, .int x1), (2, .int x2), (3, .int x3), (4, .int x4)]) (_ : ag35 (x2, x3, x4, M) = some q), W p l e (rmD 6) s m args below meth c H locs 0 0 (MQ below (QI D cA ad A q.1 q.2) args s 0 0 A) (F0 m 35 ls [])) (H : Heap) (locs : List Loc) (ls : Array Slot) (hW : Wd D cA ad A s M H locs) (hl : lv_has ls 6 [(0, .ref (ad x0)), (1, .int x1), (2, .int x2), (3, .int x3), (4, .int x4)]) (hf : f_X11_puts_70 ag35 x0 x1 x2 x3 x4  M = some q), W p l e (rmD 6) s m args below meth c H locs 0 0 (MQ below (QI D cA ad A q.1 q.2) args s 0 0 A) (F0 m 70 ls []) := by
    intro x0 x1 x2 x3 x4  M ag35 hg35 H locs ls hW hl hf
    unfold f_X11_puts_70 at hf
    refine lv_aload_n hx hb dX11_puts_70 rfl (lv_at hl 0 rfl) ?_
    obtain ⟨r7, hr7, hf⟩ := ob hf
    refine r_gR hC hK hW cfX11 (by decide) wF_X11_50 rfl hr7 dX11_puts_71 ?_
    obtain ⟨r8, hr8, hf⟩ := ob hf
    refine r_gR hC hK hW cfX7 (by decide) wF_X11_148 rfl hr8 dX11_puts_74 ?_
    refine lv_iload_n hx hb dX11_puts_77 rfl (lv_at hl 1 rfl) ?_
    refine lv_iload hx hb dX11_puts_78 (lv_at hl 4 rfl) ?_
    obtain ⟨M9, hM9, hf⟩ := ob hf
    refine r_sI hC hK hAd hW hM9 dX11_puts_80 (fun H locs hW => ?_)
    refine lv_aload_n hx hb dX11_puts_81 rfl (lv_at hl 0 rfl) ?_
    obtain ⟨r10, hr10, hf⟩ := ob hf
    refine r_gR hC hK hW cfX11 (by decide) wF_X11_39 rfl hr10 dX11_puts_82 ?_
    refine lv_aload_n hx hb dX11_puts_85 rfl (lv_at hl 0 rfl) ?_
    obtain ⟨r11, hr11, hf⟩ := ob hf
    refine r_gR hC hK hW cfX11 (by decide) wF_X11_50 rfl hr11 dX11_puts_86 ?_
    obtain ⟨q12, hq12, hf⟩ := ob hf
    refine k_vI hC hK hW cfX8 (c_X8_tour l hAd (cv_s hq12).2) (cv_s hq12).1 my_X8_tour wI_X8_tour wQ_X8_tour wM_X11_170 ⟨Nat.le_of_ble_eq_true rfl, Nat.le_of_ble_eq_true rfl⟩ rfl hl.1 rfl (Nat.le_of_ble_eq_true rfl) ⟨Nat.zero_le _, Nat.zero_le _⟩ dX11_puts_89 (fun H locs hW => ?_)
    refine lv_istore (lv' := [(5, .int q12.1), (0, .ref (ad x0)), (1, .int x1), (2, .int x2), (3, .int x3), (4, .int x4)]) hx hb dX11_puts_92 hl (by decide) rfl (fun ls hl => ?_)
    refine lv_iload hx hb dX11_puts_94 (lv_at hl 0 rfl) ?_
    refine lv_bipush (v := (-9 : Int32)) hx hb dX11_puts_96 (by decide) ?_
    refine lv_icmp_eq (tgt := 113) hx hb dX11_puts_98 (by decide) (fun c98 => ?_) (fun c98 => ?_)
    · have hf := it c98 hf
      refine lv_iinc (v := (x4 + (1 : Int32))) (lv' := [(4, .int (x4 + (1 : Int32))), (5, .int q12.1), (0, .ref (ad x0)), (1, .int x1), (2, .int x2), (3, .int x3)]) hx hb dX11_puts_113 hl (k := 5) rfl rfl (by decide) rfl (fun ls hl => ?_)
      refine lv_goto (tgt := 35) hx hb dX11_puts_116 (by decide) ?_
      exact hg35 x2 x3 (x4 + (1 : Int32)) q12.2 _ _ _ hW (lv_sub hl [2, 3, 4, 5, 0] rfl) hf
    · have hf := ie c98 hf
      refine lv_iload hx hb dX11_puts_101 (lv_at hl 0 rfl) ?_
      refine lv_iload_n hx hb dX11_puts_103 rfl (lv_at hl 4 rfl) ?_
      refine lv_icmp_ge (tgt := 113) hx hb dX11_puts_104 (by decide) (fun c104 => ?_) (fun c104 => ?_)
      · have hf := it c104 hf
        refine lv_iinc (v := (x4 + (1 : Int32))) (lv' := [(4, .int (x4 + (1 : Int32))), (5, .int q12.1), (0, .ref (ad x0)), (1, .int x1), (2, .int x2), (3, .int x3)]) hx hb dX11_puts_113 hl (k := 5) rfl rfl (by decide) rfl (fun ls hl => ?_)
        refine lv_goto (tgt := 35) hx hb dX11_puts_116 (by decide) ?_
        exact hg35 x2 x3 (x4 + (1 : Int32)) q12.2 _ _ _ hW (lv_sub hl [2, 3, 4, 5, 0] rfl) hf
      · have hf := ie c104 hf
        refine lv_iload hx hb dX11_puts_107 (lv_at hl 0 rfl) ?_
        refine lv_istore_n (lv' := [(3, .int q12.1), (5, .int q12.1), (0, .ref (ad x0)), (1, .int x1), (2, .int x2), (4, .int x4)]) hx hb dX11_puts_109 rfl hl (by decide) rfl (fun ls hl => ?_)
        refine lv_iload hx hb dX11_puts_110 (lv_at hl 5 rfl) ?_
        refine lv_istore_n (lv' := [(2, .int x4), (3, .int q12.1), (5, .int q12.1), (0, .ref (ad x0)), (1, .int x1), (4, .int x4)]) hx hb dX11_puts_112 rfl hl (by decide) rfl (fun ls hl => ?_)
        refine lv_iinc (v := (x4 + (1 : Int32))) (lv' := [(4, .int (x4 + (1 : Int32))), (2, .int x4), (3, .int q12.1), (5, .int q12.1), (0, .ref (ad x0)), (1, .int x1)]) hx hb dX11_puts_113 hl (k := 5) rfl rfl (by decide) rfl (fun ls hl => ?_)
        refine lv_goto (tgt := 35) hx hb dX11_puts_116 (by decide) ?_
        exact hg35 x4 q12.1 (x4 + (1 : Int32)) q12.2 _ _ _ hW (lv_sub hl [4, 5, 1, 2, 0] rfl) hf
  have B35 : ∀ (x0 : Nat) (x1 : Int32) (x2 : Int32) (x3 : Int32) (x4 : Int32) (M : Mem)  (ag35 : Int32 × Int32 × Int32 × Mem → Option (Int32 × Mem)) (hg35 : ∀ (x2 : Int32) (x3 : Int32) (x4 : Int32) (M : Mem) (H : Heap) (locs : List Loc) (ls : Array Slot) (_ : Wd D cA ad A s M H locs) (_ : lv_has ls 6 [(0, .ref (ad x0)), (1, .int x1), (2, .int x2), (3, .int x3), (4, .int x4)]) (_ : ag35 (x2, x3, x4, M) = some q), W p l e (rmD 6) s m args below meth c H locs 0 0 (MQ below (QI D cA ad A q.1 q.2) args s 0 0 A) (F0 m 35 ls [])) (H : Heap) (locs : List Loc) (ls : Array Slot) (hW : Wd D cA ad A s M H locs) (hl : lv_has ls 6 [(0, .ref (ad x0)), (1, .int x1), (2, .int x2), (3, .int x3), (4, .int x4)]) (hf : f_X11_puts_35b  x0 x1 ag35 x2 x3 x4 M = some q), W p l e (rmD 6) s m args below meth c H locs 0 0 (MQ below (QI D cA ad A q.1 q.2) args s 0 0 A) (F0 m 35 ls []) := by
    intro x0 x1 x2 x3 x4 M  ag35 hg35 H locs ls hW hl hf
    unfold f_X11_puts_35b at hf
    refine lv_iload hx hb dX11_puts_35 (lv_at hl 4 rfl) ?_
    refine lv_aload_n hx hb dX11_puts_37 rfl (lv_at hl 0 rfl) ?_
    obtain ⟨r19, hr19, hf⟩ := ob hf
    refine r_gR hC hK hW cfX11 (by decide) wF_X11_39 rfl hr19 dX11_puts_38 ?_
    obtain ⟨v20, hv20, hf⟩ := ob hf
    refine r_gI hC hK hW cfX8 (by decide) wF_X11_181 rfl hv20 dX11_puts_41 ?_
    refine lv_icmp_ge (tgt := 119) hx hb dX11_puts_44 (by decide) (fun c44 => ?_) (fun c44 => ?_)
    · have hf := it c44 hf
      refine lv_iload_n hx hb dX11_puts_119 rfl (lv_at hl 2 rfl) ?_
      exact r_iret hC hr hlk hW hf dX11_puts_120
    · have hf := ie c44 hf
      refine lv_iload hx hb dX11_puts_47 (lv_at hl 4 rfl) ?_
      refine lv_aload_n hx hb dX11_puts_49 rfl (lv_at hl 0 rfl) ?_
      obtain ⟨r21, hr21, hf⟩ := ob hf
      refine r_gR hC hK hW cfX11 (by decide) wF_X11_46 rfl hr21 dX11_puts_50 ?_
      obtain ⟨r22, hr22, hf⟩ := ob hf
      refine r_gR hC hK hW cfX7 (by decide) wF_X11_148 rfl hr22 dX11_puts_53 ?_
      refine lv_iload_n hx hb dX11_puts_56 rfl (lv_at hl 1 rfl) ?_
      obtain ⟨v23, hv23, hf⟩ := ob hf
      refine r_aI hC hK hW hv23 dX11_puts_57 ?_
      refine lv_icmp_eq (tgt := 70) hx hb dX11_puts_58 (by decide) (fun c58 => ?_) (fun c58 => ?_)
      · have hf := it c58 hf
        exact J70 x0 x1 x2 x3 x4 M ag35 hg35 _ _ _ hW (lv_sub hl [0, 1, 2, 3, 4] rfl) hf
      · have hf := ie c58 hf
        refine lv_aload_n hx hb dX11_puts_61 rfl (lv_at hl 0 rfl) ?_
        refine lv_iload hx hb dX11_puts_62 (lv_at hl 4 rfl) ?_
        obtain ⟨q24, hq24, hf⟩ := ob hf
        refine k_vI hC hK hW cfX11 (c_X11_isEmpty l hAd (cv_s hq24).2) (cv_s hq24).1 my_X11_isEmpty wI_X11_isEmpty wQ_X11_isEmpty wM_X11_204 ⟨Nat.le_of_ble_eq_true rfl, Nat.le_of_ble_eq_true rfl⟩ rfl hl.1 rfl (Nat.le_of_ble_eq_true rfl) ⟨Nat.zero_le _, Nat.zero_le _⟩ dX11_puts_64 (fun H locs hW => ?_)
        refine lv_if_eq (tgt := 113) hx hb dX11_puts_67 (by decide) (fun c67 => ?_) (fun c67 => ?_)
        · have hf := it c67 hf
          refine lv_iinc (v := (x4 + (1 : Int32))) (lv' := [(4, .int (x4 + (1 : Int32))), (0, .ref (ad x0)), (1, .int x1), (2, .int x2), (3, .int x3)]) hx hb dX11_puts_113 hl (k := 4) rfl rfl (by decide) rfl (fun ls hl => ?_)
          refine lv_goto (tgt := 35) hx hb dX11_puts_116 (by decide) ?_
          exact hg35 x2 x3 (x4 + (1 : Int32)) M _ _ _ hW (lv_sub hl [1, 2, 3, 4, 0] rfl) hf
        · have hf := ie c67 hf
          exact J70 x0 x1 x2 x3 x4 M ag35 hg35 _ _ _ hW (lv_sub hl [0, 1, 2, 3, 4] rfl) hf
  have J35 : ∀ (x0 : Nat) (x1 : Int32) (x2 : Int32) (x3 : Int32) (x4 : Int32) (M : Mem)  (H : Heap) (locs : List Loc) (ls : Array Slot) (hW : Wd D cA ad A s M H locs) (hl : lv_has ls 6 [(0, .ref (ad x0)), (1, .int x1), (2, .int x2), (3, .int x3), (4, .int x4)]) (hf : f_X11_puts_35  x0 x1 x2 x3 x4 M = some q), W p l e (rmD 6) s m args below meth c H locs 0 0 (MQ below (QI D cA ad A q.1 q.2) args s 0 0 A) (F0 m 35 ls []) := by
    intro x0 x1 x2 x3 x4 M  H locs ls hW hl hf
    unfold f_X11_puts_35 at hf
    have key : ∀ (n : Nat) (x2 : Int32) (x3 : Int32) (x4 : Int32) (M : Mem) (H : Heap) (locs : List Loc) (ls : Array Slot) (hW : Wd D cA ad A s M H locs) (hl : lv_has ls 6 [(0, .ref (ad x0)), (1, .int x1), (2, .int x2), (3, .int x3), (4, .int x4)]) (hf : loopF (fun ag s => f_X11_puts_35b  x0 x1 ag s.1 s.2.1 s.2.2.1 s.2.2.2) n (x2, x3, x4, M) = some q), W p l e (rmD 6) s m args below meth c H locs 0 0 (MQ below (QI D cA ad A q.1 q.2) args s 0 0 A) (F0 m 35 ls []) := by
      intro n
      induction n with
      | zero => intro x2 x3 x4 M H locs ls hW hl hf; exact nomatch (show (none : Option _) = some _ from hf)
      | succ n ih => intro x2 x3 x4 M H locs ls hW hl hf; exact B35 x0 x1 x2 x3 x4 M  _ ih H locs ls hW hl hf
    exact key FU x2 x3 x4 M H locs ls hW hl hf
  have hf := hf0
  unfold f_X11_puts at hf
  refine lv_aload_n hx hb dX11_puts_0 rfl (lv_at hl 0 rfl) ?_
  refine lv_iload_n hx hb dX11_puts_1 rfl (lv_at hl 1 rfl) ?_
  obtain ⟨q31, hq31, hf⟩ := ob hf
  refine k_vI hC hK hW cfX11 (c_X11_isDish l hAd (cv_s hq31).2) (cv_s hq31).1 my_X11_isDish wI_X11_isDish wQ_X11_isDish wM_X11_145 ⟨Nat.le_of_ble_eq_true rfl, Nat.le_of_ble_eq_true rfl⟩ rfl hl.1 rfl (Nat.le_of_ble_eq_true rfl) ⟨Nat.zero_le _, Nat.zero_le _⟩ dX11_puts_2 (fun H locs hW => ?_)
  refine lv_if_ne (tgt := 10) hx hb dX11_puts_5 (by decide) (fun c5 => ?_) (fun c5 => ?_)
  · have hf := ie c5 hf
    refine lv_bipush (v := (-9 : Int32)) hx hb dX11_puts_10 (by decide) ?_
    refine lv_istore_n (lv' := [(2, .int (-9 : Int32)), (0, .ref (ad a0)), (1, .int a1)]) hx hb dX11_puts_12 rfl hl (by decide) rfl (fun ls hl => ?_)
    refine lv_aload_n hx hb dX11_puts_13 rfl (lv_at hl 1 rfl) ?_
    obtain ⟨r32, hr32, hf⟩ := ob hf
    refine r_gR hC hK hW cfX11 (by decide) wF_X11_39 rfl hr32 dX11_puts_14 ?_
    obtain ⟨v33, hv33, hf⟩ := ob hf
    refine r_gI hC hK hW cfX8 (by decide) wF_X11_181 rfl hv33 dX11_puts_17 ?_
    refine lv_istore_n (lv' := [(3, .int v33), (2, .int (-9 : Int32)), (0, .ref (ad a0)), (1, .int a1)]) hx hb dX11_puts_20 rfl hl (by decide) rfl (fun ls hl => ?_)
    refine lv_aload_n hx hb dX11_puts_21 rfl (lv_at hl 2 rfl) ?_
    obtain ⟨r34, hr34, hf⟩ := ob hf
    refine r_gR hC hK hW cfX11 (by decide) wF_X11_50 rfl hr34 dX11_puts_22 ?_
    refine lv_aload_n hx hb dX11_puts_25 rfl (lv_at hl 2 rfl) ?_
    obtain ⟨r35, hr35, hf⟩ := ob hf
    refine r_gR hC hK hW cfX11 (by decide) wF_X11_46 rfl hr35 dX11_puts_26 ?_
    obtain ⟨q36, hq36, hf⟩ := ob hf
    refine k_vV hC hK hW cfX7 (c_X7_become l hAd (cv_s hq36).2) (cv_s hq36).1 my_X7_become wI_X7_become wQ_X7_become wM_X11_112 ⟨Nat.le_of_ble_eq_true rfl, Nat.le_of_ble_eq_true rfl⟩ rfl hl.1 rfl (Nat.le_of_ble_eq_true rfl) ⟨Nat.zero_le _, Nat.zero_le _⟩ dX11_puts_29 (fun H locs hW => ?_)
    refine lv_iconst (v := (0 : Int32)) hx hb dX11_puts_32 (by decide) ?_
    refine lv_istore (lv' := [(4, .int (0 : Int32)), (3, .int v33), (2, .int (-9 : Int32)), (0, .ref (ad a0)), (1, .int a1)]) hx hb dX11_puts_33 hl (by decide) rfl (fun ls hl => ?_)
    exact J35 a0 a1 (-9 : Int32) v33 (0 : Int32) q36 _ _ _ hW (lv_sub hl [3, 4, 2, 1, 0] rfl) hf
  · have hf := it c5 hf
    refine lv_iconst (v := (-1 : Int32)) hx hb dX11_puts_8 (by decide) ?_
    exact r_iret hC hr hlk hW hf dX11_puts_9
set_option maxHeartbeats 4000000 in
set_option maxRecDepth 100000 in
theorem c_X11_rate (l : Launch) {D : va_G} {cA : Nat → ClassId} {ad : Nat → Nat} {A : Nat → Prop} (hAd : AdOk ad A) {a0 : Nat} {a1 : Int32} {a2 : Int32} {M0 : Mem} {q : (Int32 × Mem)} (hf0 : f_X11_rate a0 a1 a2 M0 = some q) : Met l yX11_rate (wd yX11_rate cX11_rate 3 (some .int)) (rmD 5) (PcW D cA ad [.ref (ad a0), .int a1, .int a2] M0) (QI D cA ad A q.1 q.2) 0 0 A := by
  refine mk_met (own := RX11) (by decide +kernel) rfl (Nat.le_of_ble_eq_true rfl) ?_
  intro p e s m args below meth c hC hr hlk hK H locs ls hW hl
  have hx := hC.1
  have hb := hC.2.1
  have hl : lv_has ls 3 [(0, .ref (ad a0)), (1, .int a1), (2, .int a2)] := hl
  have hf := hf0
  unfold f_X11_rate at hf
  refine lv_iload_n hx hb dX11_rate_0 rfl (lv_at hl 1 rfl) ?_
  refine lv_if_lt (tgt := 18) hx hb dX11_rate_1 (by decide) (fun c1 => ?_) (fun c1 => ?_)
  · have hf := it c1 hf
    refine lv_ldc hx hb hC.2.2.2.1 (hC.2.2.2.2 _ wA_X11_244) dX11_rate_18 ?_
    exact r_iret hC hr hlk hW hf dX11_rate_20
  · have hf := ie c1 hf
    refine lv_iload_n hx hb dX11_rate_4 rfl (lv_at hl 1 rfl) ?_
    refine lv_bipush (v := (6 : Int32)) hx hb dX11_rate_5 (by decide) ?_
    refine lv_icmp_ge (tgt := 18) hx hb dX11_rate_7 (by decide) (fun c7 => ?_) (fun c7 => ?_)
    · have hf := it c7 hf
      refine lv_ldc hx hb hC.2.2.2.1 (hC.2.2.2.2 _ wA_X11_244) dX11_rate_18 ?_
      exact r_iret hC hr hlk hW hf dX11_rate_20
    · have hf := ie c7 hf
      refine lv_aload_n hx hb dX11_rate_10 rfl (lv_at hl 0 rfl) ?_
      refine lv_iload_n hx hb dX11_rate_11 rfl (lv_at hl 2 rfl) ?_
      obtain ⟨q29, hq29, hf⟩ := ob hf
      refine k_vI hC hK hW cfX11 (c_X11_isGuest l hAd (cv_s hq29).2) (cv_s hq29).1 my_X11_isGuest wI_X11_isGuest wQ_X11_isGuest wM_X11_122 ⟨Nat.le_of_ble_eq_true rfl, Nat.le_of_ble_eq_true rfl⟩ rfl hl.1 rfl (Nat.le_of_ble_eq_true rfl) ⟨Nat.zero_le _, Nat.zero_le _⟩ dX11_rate_12 (fun H locs hW => ?_)
      refine lv_if_ne (tgt := 21) hx hb dX11_rate_15 (by decide) (fun c15 => ?_) (fun c15 => ?_)
      · have hf := ie c15 hf
        refine lv_aload_n hx hb dX11_rate_21 rfl (lv_at hl 0 rfl) ?_
        obtain ⟨r30, hr30, hf⟩ := ob hf
        refine r_gR hC hK hW cfX11 (by decide) wF_X11_26 rfl hr30 dX11_rate_22 ?_
        refine lv_iload_n hx hb dX11_rate_25 rfl (lv_at hl 2 rfl) ?_
        obtain ⟨M31, hM31, hf⟩ := ob hf
        refine r_pI hC hK hAd hW cfX0 (by decide) wF_X11_245 rfl rfl rfl hM31 dX11_rate_26 (fun H locs hW => ?_)
        refine lv_aload_n hx hb dX11_rate_29 rfl (lv_at hl 0 rfl) ?_
        obtain ⟨r32, hr32, hf⟩ := ob hf
        refine r_gR hC hK hW cfX11 (by decide) wF_X11_26 rfl hr32 dX11_rate_30 ?_
        refine lv_aload_n hx hb dX11_rate_33 rfl (lv_at hl 0 rfl) ?_
        obtain ⟨r33, hr33, hf⟩ := ob hf
        refine r_gR hC hK hW cfX11 (by decide) wF_X11_39 rfl hr33 dX11_rate_34 ?_
        obtain ⟨r34, hr34, hf⟩ := ob hf
        refine r_gR hC hK hW cfX8 (by decide) wF_X11_129 rfl hr34 dX11_rate_37 ?_
        refine lv_iload_n hx hb dX11_rate_40 rfl (lv_at hl 2 rfl) ?_
        obtain ⟨v35, hv35, hf⟩ := ob hf
        refine r_aI hC hK hW hv35 dX11_rate_41 ?_
        obtain ⟨M36, hM36, hf⟩ := ob hf
        refine r_pI hC hK hAd hW cfX0 (by decide) wF_X11_248 rfl rfl rfl hM36 dX11_rate_42 (fun H locs hW => ?_)
        refine lv_aload_n hx hb dX11_rate_45 rfl (lv_at hl 0 rfl) ?_
        obtain ⟨r37, hr37, hf⟩ := ob hf
        refine r_gR hC hK hW cfX11 (by decide) wF_X11_26 rfl hr37 dX11_rate_46 ?_
        refine lv_aload_n hx hb dX11_rate_49 rfl (lv_at hl 0 rfl) ?_
        obtain ⟨r38, hr38, hf⟩ := ob hf
        refine r_gR hC hK hW cfX11 (by decide) wF_X11_39 rfl hr38 dX11_rate_50 ?_
        refine lv_aload_n hx hb dX11_rate_53 rfl (lv_at hl 0 rfl) ?_
        obtain ⟨r39, hr39, hf⟩ := ob hf
        refine r_gR hC hK hW cfX11 (by decide) wF_X11_46 rfl hr39 dX11_rate_54 ?_
        refine lv_iload_n hx hb dX11_rate_57 rfl (lv_at hl 2 rfl) ?_
        obtain ⟨q40, hq40, hf⟩ := ob hf
        refine k_vI hC hK hW cfX8 (c_X8_needs l hAd (cv_s hq40).2) (cv_s hq40).1 my_X8_needs wI_X8_needs wQ_X8_needs wM_X11_138 ⟨Nat.le_of_ble_eq_true rfl, Nat.le_of_ble_eq_true rfl⟩ rfl hl.1 rfl (Nat.le_of_ble_eq_true rfl) ⟨Nat.zero_le _, Nat.zero_le _⟩ dX11_rate_58 (fun H locs hW => ?_)
        obtain ⟨q41, hq41, hf⟩ := ob hf
        refine k_sI hC hK hW (c_J6_bitCount_0f7a4 l hAd hq41) my_J6_bitCount_0f7a4 wS_J6_bitCount_0f7a4 wM_X11_236 ⟨Nat.le_of_ble_eq_true rfl, Nat.le_of_ble_eq_true rfl⟩ rfl hl.1 rfl (Nat.le_of_ble_eq_true rfl) ⟨Nat.zero_le _, Nat.zero_le _⟩ dX11_rate_61 (fun H locs hW => ?_)
        obtain ⟨M42, hM42, hf⟩ := ob hf
        refine r_pI hC hK hAd hW cfX0 (by decide) wF_X11_251 rfl rfl rfl hM42 dX11_rate_64 (fun H locs hW => ?_)
        refine lv_aload_n hx hb dX11_rate_67 rfl (lv_at hl 0 rfl) ?_
        obtain ⟨r43, hr43, hf⟩ := ob hf
        refine r_gR hC hK hW cfX11 (by decide) wF_X11_26 rfl hr43 dX11_rate_68 ?_
        refine lv_aload_n hx hb dX11_rate_71 rfl (lv_at hl 0 rfl) ?_
        obtain ⟨r44, hr44, hf⟩ := ob hf
        refine r_gR hC hK hW cfX11 (by decide) wF_X11_39 rfl hr44 dX11_rate_72 ?_
        refine lv_aload_n hx hb dX11_rate_75 rfl (lv_at hl 0 rfl) ?_
        obtain ⟨r45, hr45, hf⟩ := ob hf
        refine r_gR hC hK hW cfX11 (by decide) wF_X11_46 rfl hr45 dX11_rate_76 ?_
        refine lv_iload_n hx hb dX11_rate_79 rfl (lv_at hl 2 rfl) ?_
        obtain ⟨q46, hq46, hf⟩ := ob hf
        refine k_vI hC hK hW cfX8 (c_X8_reachedBy l hAd (cv_s hq46).2) (cv_s hq46).1 my_X8_reachedBy wI_X8_reachedBy wQ_X8_reachedBy wM_X11_142 ⟨Nat.le_of_ble_eq_true rfl, Nat.le_of_ble_eq_true rfl⟩ rfl hl.1 rfl (Nat.le_of_ble_eq_true rfl) ⟨Nat.zero_le _, Nat.zero_le _⟩ dX11_rate_80 (fun H locs hW => ?_)
        obtain ⟨q47, hq47, hf⟩ := ob hf
        refine k_sI hC hK hW (c_J6_bitCount_0f7a4 l hAd hq47) my_J6_bitCount_0f7a4 wS_J6_bitCount_0f7a4 wM_X11_236 ⟨Nat.le_of_ble_eq_true rfl, Nat.le_of_ble_eq_true rfl⟩ rfl hl.1 rfl (Nat.le_of_ble_eq_true rfl) ⟨Nat.zero_le _, Nat.zero_le _⟩ dX11_rate_83 (fun H locs hW => ?_)
        obtain ⟨M48, hM48, hf⟩ := ob hf
        refine r_pI hC hK hAd hW cfX0 (by decide) wF_X11_253 rfl rfl rfl hM48 dX11_rate_86 (fun H locs hW => ?_)
        refine lv_aload_n hx hb dX11_rate_89 rfl (lv_at hl 0 rfl) ?_
        obtain ⟨r49, hr49, hf⟩ := ob hf
        refine r_gR hC hK hW cfX11 (by decide) wF_X11_26 rfl hr49 dX11_rate_90 ?_
        refine lv_aload_n hx hb dX11_rate_93 rfl (lv_at hl 0 rfl) ?_
        obtain ⟨r50, hr50, hf⟩ := ob hf
        refine r_gR hC hK hW cfX11 (by decide) wF_X11_46 rfl hr50 dX11_rate_94 ?_
        obtain ⟨v51, hv51, hf⟩ := ob hf
        refine r_gI hC hK hW cfX7 (by decide) wF_X11_160 rfl hv51 dX11_rate_97 ?_
        obtain ⟨M52, hM52, hf⟩ := ob hf
        refine r_pI hC hK hAd hW cfX0 (by decide) wF_X11_255 rfl rfl rfl hM52 dX11_rate_100 (fun H locs hW => ?_)
        refine lv_aload_n hx hb dX11_rate_103 rfl (lv_at hl 0 rfl) ?_
        obtain ⟨r53, hr53, hf⟩ := ob hf
        refine r_gR hC hK hW cfX11 (by decide) wF_X11_32 rfl hr53 dX11_rate_104 ?_
        refine lv_iload_n hx hb dX11_rate_107 rfl (lv_at hl 1 rfl) ?_
        obtain ⟨r54, hr54, hf⟩ := ob hf
        refine r_aR hC hK hW (by decide) hr54 dX11_rate_108 ?_
        refine lv_aload_n hx hb dX11_rate_109 rfl (lv_at hl 0 rfl) ?_
        obtain ⟨r55, hr55, hf⟩ := ob hf
        refine r_gR hC hK hW cfX11 (by decide) wF_X11_26 rfl hr55 dX11_rate_110 ?_
        obtain ⟨q56, hq56, hf⟩ := ob hf
        refine k_worth hC hK hAd hW hq56 wM_X11_256 ⟨Nat.le_of_ble_eq_true rfl, Nat.le_of_ble_eq_true rfl⟩ rfl hl.1 rfl (Nat.le_of_ble_eq_true rfl) ⟨Nat.zero_le _, Nat.zero_le _⟩ dX11_rate_113 (fun H locs hW => ?_)
        exact r_iret hC hr hlk hW hf dX11_rate_116
      · have hf := it c15 hf
        refine lv_ldc hx hb hC.2.2.2.1 (hC.2.2.2.2 _ wA_X11_244) dX11_rate_18 ?_
        exact r_iret hC hr hlk hW hf dX11_rate_20
set_option maxHeartbeats 4000000 in
set_option maxRecDepth 100000 in
theorem c_X11_sees (l : Launch) {D : va_G} {cA : Nat → ClassId} {ad : Nat → Nat} {A : Nat → Prop} (hAd : AdOk ad A) {a0 : Nat} {a1 : Int32} {a2 : Int32} {a3 : Int32} {M0 : Mem} {q : (Int32 × Mem)} (hf0 : f_X11_sees a0 a1 a2 a3 M0 = some q) : Met l yX11_sees (wd yX11_sees cX11_sees 4 (some .int)) (rmD 1) (PcW D cA ad [.ref (ad a0), .int a1, .int a2, .int a3] M0) (QI D cA ad A q.1 q.2) 0 0 A := by
  refine mk_met (own := RX11) (by decide +kernel) rfl (Nat.le_of_ble_eq_true rfl) ?_
  intro p e s m args below meth c hC hr hlk hK H locs ls hW hl
  have hx := hC.1
  have hb := hC.2.1
  have hl : lv_has ls 4 [(0, .ref (ad a0)), (1, .int a1), (2, .int a2), (3, .int a3)] := hl
  have J75 : ∀ (x0 : Nat) (y0 : Nat) (y1 : Int32) (y2 : Int32) (M : Mem)  (H : Heap) (locs : List Loc) (ls : Array Slot) (hW : Wd D cA ad A s M H locs) (hl : lv_has ls 4 [(0, .ref (ad x0))]) (hf : f_X11_sees_75  x0 y0 y1 y2 M = some q), W p l e (rmD 1) s m args below meth c H locs 0 0 (MQ below (QI D cA ad A q.1 q.2) args s 0 0 A) (F0 m 75 ls [.int y2, .int y1, .ref (ad y0)]) := by
    intro x0 y0 y1 y2 M  H locs ls hW hl hf
    unfold f_X11_sees_75 at hf
    obtain ⟨M5, hM5, hf⟩ := ob hf
    refine r_sZ hC hK hAd hW hM5 dX11_sees_75 (fun H locs hW => ?_)
    refine lv_aload_n hx hb dX11_sees_76 rfl (lv_at hl 0 rfl) ?_
    refine lv_dup hx hb dX11_sees_77 rfl ?_
    obtain ⟨v6, hv6, hf⟩ := ob hf
    refine r_gI hC hK hW cfX11 (by decide) wF_X11_119 rfl hv6 dX11_sees_78 ?_
    refine lv_iconst (v := (1 : Int32)) hx hb dX11_sees_81 (by decide) ?_
    refine lv_iadd hx hb dX11_sees_82 ?_
    obtain ⟨M7, hM7, hf⟩ := ob hf
    refine r_pI hC hK hAd hW cfX11 (by decide) wF_X11_119 rfl rfl rfl hM7 dX11_sees_83 (fun H locs hW => ?_)
    refine lv_aload_n hx hb dX11_sees_86 rfl (lv_at hl 0 rfl) ?_
    obtain ⟨v8, hv8, hf⟩ := ob hf
    refine r_gI hC hK hW cfX11 (by decide) wF_X11_119 rfl hv8 dX11_sees_87 ?_
    exact r_iret hC hr hlk hW hf dX11_sees_90
  have hf := hf0
  unfold f_X11_sees at hf
  refine lv_aload_n hx hb dX11_sees_0 rfl (lv_at hl 0 rfl) ?_
  refine lv_iload_n hx hb dX11_sees_1 rfl (lv_at hl 1 rfl) ?_
  obtain ⟨q21, hq21, hf⟩ := ob hf
  refine k_vI hC hK hW cfX11 (c_X11_isDish l hAd (cv_s hq21).2) (cv_s hq21).1 my_X11_isDish wI_X11_isDish wQ_X11_isDish wM_X11_145 ⟨Nat.le_of_ble_eq_true rfl, Nat.le_of_ble_eq_true rfl⟩ rfl hl.1 rfl (Nat.le_of_ble_eq_true rfl) ⟨Nat.zero_le _, Nat.zero_le _⟩ dX11_sees_2 (fun H locs hW => ?_)
  refine lv_if_eq (tgt := 23) hx hb dX11_sees_5 (by decide) (fun c5 => ?_) (fun c5 => ?_)
  · have hf := it c5 hf
    refine lv_iconst (v := (-1 : Int32)) hx hb dX11_sees_23 (by decide) ?_
    exact r_iret hC hr hlk hW hf dX11_sees_24
  · have hf := ie c5 hf
    refine lv_aload_n hx hb dX11_sees_8 rfl (lv_at hl 0 rfl) ?_
    refine lv_iload_n hx hb dX11_sees_9 rfl (lv_at hl 2 rfl) ?_
    obtain ⟨q22, hq22, hf⟩ := ob hf
    refine k_vI hC hK hW cfX11 (c_X11_isTurn l hAd (cv_s hq22).2) (cv_s hq22).1 my_X11_isTurn wI_X11_isTurn wQ_X11_isTurn wM_X11_201 ⟨Nat.le_of_ble_eq_true rfl, Nat.le_of_ble_eq_true rfl⟩ rfl hl.1 rfl (Nat.le_of_ble_eq_true rfl) ⟨Nat.zero_le _, Nat.zero_le _⟩ dX11_sees_10 (fun H locs hW => ?_)
    refine lv_if_eq (tgt := 23) hx hb dX11_sees_13 (by decide) (fun c13 => ?_) (fun c13 => ?_)
    · have hf := it c13 hf
      refine lv_iconst (v := (-1 : Int32)) hx hb dX11_sees_23 (by decide) ?_
      exact r_iret hC hr hlk hW hf dX11_sees_24
    · have hf := ie c13 hf
      refine lv_iload_n hx hb dX11_sees_16 rfl (lv_at hl 3 rfl) ?_
      obtain ⟨q23, hq23, hf⟩ := ob hf
      refine k_sI hC hK hW (c_X11_isBit l hAd hq23) my_X11_isBit wS_X11_isBit wM_X11_184 ⟨Nat.le_of_ble_eq_true rfl, Nat.le_of_ble_eq_true rfl⟩ rfl hl.1 rfl (Nat.le_of_ble_eq_true rfl) ⟨Nat.zero_le _, Nat.zero_le _⟩ dX11_sees_17 (fun H locs hW => ?_)
      refine lv_if_ne (tgt := 25) hx hb dX11_sees_20 (by decide) (fun c20 => ?_) (fun c20 => ?_)
      · have hf := ie c20 hf
        refine lv_aload_n hx hb dX11_sees_25 rfl (lv_at hl 0 rfl) ?_
        obtain ⟨v24, hv24, hf⟩ := ob hf
        refine r_gI hC hK hW cfX11 (by decide) wF_X11_119 rfl hv24 dX11_sees_26 ?_
        refine lv_bipush (v := (6 : Int32)) hx hb dX11_sees_29 (by decide) ?_
        refine lv_icmp_lt (tgt := 37) hx hb dX11_sees_31 (by decide) (fun c31 => ?_) (fun c31 => ?_)
        · have hf := it c31 hf
          refine lv_aload_n hx hb dX11_sees_37 rfl (lv_at hl 0 rfl) ?_
          obtain ⟨r25, hr25, hf⟩ := ob hf
          refine r_gR hC hK hW cfX11 (by decide) wF_X11_64 rfl hr25 dX11_sees_38 ?_
          refine lv_aload_n hx hb dX11_sees_41 rfl (lv_at hl 0 rfl) ?_
          obtain ⟨v26, hv26, hf⟩ := ob hf
          refine r_gI hC hK hW cfX11 (by decide) wF_X11_119 rfl hv26 dX11_sees_42 ?_
          refine lv_iload_n hx hb dX11_sees_45 rfl (lv_at hl 1 rfl) ?_
          obtain ⟨M27, hM27, hf⟩ := ob hf
          refine r_sI hC hK hAd hW hM27 dX11_sees_46 (fun H locs hW => ?_)
          refine lv_aload_n hx hb dX11_sees_47 rfl (lv_at hl 0 rfl) ?_
          obtain ⟨r28, hr28, hf⟩ := ob hf
          refine r_gR hC hK hW cfX11 (by decide) wF_X11_68 rfl hr28 dX11_sees_48 ?_
          refine lv_aload_n hx hb dX11_sees_51 rfl (lv_at hl 0 rfl) ?_
          obtain ⟨v29, hv29, hf⟩ := ob hf
          refine r_gI hC hK hW cfX11 (by decide) wF_X11_119 rfl hv29 dX11_sees_52 ?_
          refine lv_iload_n hx hb dX11_sees_55 rfl (lv_at hl 2 rfl) ?_
          obtain ⟨M30, hM30, hf⟩ := ob hf
          refine r_sI hC hK hAd hW hM30 dX11_sees_56 (fun H locs hW => ?_)
          refine lv_aload_n hx hb dX11_sees_57 rfl (lv_at hl 0 rfl) ?_
          obtain ⟨r31, hr31, hf⟩ := ob hf
          refine r_gR hC hK hW cfX11 (by decide) wF_X11_71 rfl hr31 dX11_sees_58 ?_
          refine lv_aload_n hx hb dX11_sees_61 rfl (lv_at hl 0 rfl) ?_
          obtain ⟨v32, hv32, hf⟩ := ob hf
          refine r_gI hC hK hW cfX11 (by decide) wF_X11_119 rfl hv32 dX11_sees_62 ?_
          refine lv_iload_n hx hb dX11_sees_65 rfl (lv_at hl 3 rfl) ?_
          refine lv_iconst (v := (1 : Int32)) hx hb dX11_sees_66 (by decide) ?_
          refine lv_icmp_ne (tgt := 74) hx hb dX11_sees_67 (by decide) (fun c67 => ?_) (fun c67 => ?_)
          · have hf := ie c67 hf
            refine lv_iconst (v := (0 : Int32)) hx hb dX11_sees_74 (by decide) ?_
            exact J75 a0 r31 v32 (0 : Int32) M30 _ _ _ hW (lv_sub hl [0] rfl) hf
          · have hf := it c67 hf
            refine lv_iconst (v := (1 : Int32)) hx hb dX11_sees_70 (by decide) ?_
            refine lv_goto (tgt := 75) hx hb dX11_sees_71 (by decide) ?_
            exact J75 a0 r31 v32 (1 : Int32) M30 _ _ _ hW (lv_sub hl [0] rfl) hf
        · have hf := ie c31 hf
          refine lv_bipush (v := (-3 : Int32)) hx hb dX11_sees_34 (by decide) ?_
          exact r_iret hC hr hlk hW hf dX11_sees_36
      · have hf := it c20 hf
        refine lv_iconst (v := (-1 : Int32)) hx hb dX11_sees_23 (by decide) ?_
        exact r_iret hC hr hlk hW hf dX11_sees_24
set_option maxHeartbeats 4000000 in
set_option maxRecDepth 100000 in
theorem c_X11_spill (l : Launch) {D : va_G} {cA : Nat → ClassId} {ad : Nat → Nat} {A : Nat → Prop} (hAd : AdOk ad A) {a0 : Nat} {M0 : Mem} {q : (Int32 × Mem)} (hf0 : f_X11_spill a0 M0 = some q) : Met l yX11_spill (wd yX11_spill cX11_spill 3 (some .int)) (rmD 0) (PcW D cA ad [.ref (ad a0)] M0) (QI D cA ad A q.1 q.2) 0 0 A := by
  refine mk_met (own := RX11) (by decide +kernel) rfl (Nat.le_of_ble_eq_true rfl) ?_
  intro p e s m args below meth c hC hr hlk hK H locs ls hW hl
  have hx := hC.1
  have hb := hC.2.1
  have hl : lv_has ls 3 [(0, .ref (ad a0))] := hl
  have B4 : ∀ (x0 : Nat) (x1 : Int32) (x2 : Int32) (M : Mem)  (ag4 : Int32 × Int32 × Mem → Option (Int32 × Mem)) (hg4 : ∀ (x1 : Int32) (x2 : Int32) (M : Mem) (H : Heap) (locs : List Loc) (ls : Array Slot) (_ : Wd D cA ad A s M H locs) (_ : lv_has ls 3 [(0, .ref (ad x0)), (1, .int x1), (2, .int x2)]) (_ : ag4 (x1, x2, M) = some q), W p l e (rmD 0) s m args below meth c H locs 0 0 (MQ below (QI D cA ad A q.1 q.2) args s 0 0 A) (F0 m 4 ls [])) (H : Heap) (locs : List Loc) (ls : Array Slot) (hW : Wd D cA ad A s M H locs) (hl : lv_has ls 3 [(0, .ref (ad x0)), (1, .int x1), (2, .int x2)]) (hf : f_X11_spill_4b  x0 ag4 x1 x2 M = some q), W p l e (rmD 0) s m args below meth c H locs 0 0 (MQ below (QI D cA ad A q.1 q.2) args s 0 0 A) (F0 m 4 ls []) := by
    intro x0 x1 x2 M  ag4 hg4 H locs ls hW hl hf
    unfold f_X11_spill_4b at hf
    refine lv_iload_n hx hb dX11_spill_4 rfl (lv_at hl 2 rfl) ?_
    refine lv_aload_n hx hb dX11_spill_5 rfl (lv_at hl 0 rfl) ?_
    obtain ⟨r13, hr13, hf⟩ := ob hf
    refine r_gR hC hK hW cfX11 (by decide) wF_X11_39 rfl hr13 dX11_spill_6 ?_
    obtain ⟨v14, hv14, hf⟩ := ob hf
    refine r_gI hC hK hW cfX8 (by decide) wF_X11_263 rfl hv14 dX11_spill_9 ?_
    refine lv_icmp_ge (tgt := 62) hx hb dX11_spill_12 (by decide) (fun c12 => ?_) (fun c12 => ?_)
    · have hf := it c12 hf
      refine lv_iload_n hx hb dX11_spill_62 rfl (lv_at hl 1 rfl) ?_
      exact r_iret hC hr hlk hW hf dX11_spill_63
    · have hf := ie c12 hf
      refine lv_aload_n hx hb dX11_spill_15 rfl (lv_at hl 0 rfl) ?_
      obtain ⟨r15, hr15, hf⟩ := ob hf
      refine r_gR hC hK hW cfX11 (by decide) wF_X11_39 rfl hr15 dX11_spill_16 ?_
      obtain ⟨r16, hr16, hf⟩ := ob hf
      refine r_gR hC hK hW cfX8 (by decide) wF_X11_154 rfl hr16 dX11_spill_19 ?_
      refine lv_iload_n hx hb dX11_spill_22 rfl (lv_at hl 2 rfl) ?_
      obtain ⟨v17, hv17, hf⟩ := ob hf
      refine r_aI hC hK hW hv17 dX11_spill_23 ?_
      refine lv_iconst (v := (1 : Int32)) hx hb dX11_spill_24 (by decide) ?_
      refine lv_icmp_ne (tgt := 56) hx hb dX11_spill_25 (by decide) (fun c25 => ?_) (fun c25 => ?_)
      · have hf := ie c25 hf
        refine lv_iinc (v := (x2 + (1 : Int32))) (lv' := [(2, .int (x2 + (1 : Int32))), (0, .ref (ad x0)), (1, .int x1)]) hx hb dX11_spill_56 hl (k := 2) rfl rfl (by decide) rfl (fun ls hl => ?_)
        refine lv_goto (tgt := 4) hx hb dX11_spill_59 (by decide) ?_
        exact hg4 x1 (x2 + (1 : Int32)) M _ _ _ hW (lv_sub hl [1, 2, 0] rfl) hf
      · have hf := it c25 hf
        refine lv_aload_n hx hb dX11_spill_28 rfl (lv_at hl 0 rfl) ?_
        obtain ⟨r18, hr18, hf⟩ := ob hf
        refine r_gR hC hK hW cfX11 (by decide) wF_X11_46 rfl hr18 dX11_spill_29 ?_
        obtain ⟨r19, hr19, hf⟩ := ob hf
        refine r_gR hC hK hW cfX7 (by decide) wF_X11_151 rfl hr19 dX11_spill_32 ?_
        refine lv_iload_n hx hb dX11_spill_35 rfl (lv_at hl 2 rfl) ?_
        obtain ⟨v20, hv20, hf⟩ := ob hf
        refine r_aI hC hK hW hv20 dX11_spill_36 ?_
        refine lv_if_le (tgt := 56) hx hb dX11_spill_37 (by decide) (fun c37 => ?_) (fun c37 => ?_)
        · have hf := it c37 hf
          refine lv_iinc (v := (x2 + (1 : Int32))) (lv' := [(2, .int (x2 + (1 : Int32))), (0, .ref (ad x0)), (1, .int x1)]) hx hb dX11_spill_56 hl (k := 2) rfl rfl (by decide) rfl (fun ls hl => ?_)
          refine lv_goto (tgt := 4) hx hb dX11_spill_59 (by decide) ?_
          exact hg4 x1 (x2 + (1 : Int32)) M _ _ _ hW (lv_sub hl [1, 2, 0] rfl) hf
        · have hf := ie c37 hf
          refine lv_aload_n hx hb dX11_spill_40 rfl (lv_at hl 0 rfl) ?_
          obtain ⟨r21, hr21, hf⟩ := ob hf
          refine r_gR hC hK hW cfX11 (by decide) wF_X11_46 rfl hr21 dX11_spill_41 ?_
          obtain ⟨r22, hr22, hf⟩ := ob hf
          refine r_gR hC hK hW cfX7 (by decide) wF_X11_151 rfl hr22 dX11_spill_44 ?_
          refine lv_iload_n hx hb dX11_spill_47 rfl (lv_at hl 2 rfl) ?_
          refine lv_dup2_11 hx hb dX11_spill_48 rfl rfl ?_
          obtain ⟨v23, hv23, hf⟩ := ob hf
          refine r_aI hC hK hW hv23 dX11_spill_49 ?_
          refine lv_iconst (v := (1 : Int32)) hx hb dX11_spill_50 (by decide) ?_
          refine lv_isub hx hb dX11_spill_51 ?_
          obtain ⟨M24, hM24, hf⟩ := ob hf
          refine r_sI hC hK hAd hW hM24 dX11_spill_52 (fun H locs hW => ?_)
          refine lv_iinc (v := (x1 + (1 : Int32))) (lv' := [(1, .int (x1 + (1 : Int32))), (0, .ref (ad x0)), (2, .int x2)]) hx hb dX11_spill_53 hl (k := 1) rfl rfl (by decide) rfl (fun ls hl => ?_)
          refine lv_iinc (v := (x2 + (1 : Int32))) (lv' := [(2, .int (x2 + (1 : Int32))), (1, .int (x1 + (1 : Int32))), (0, .ref (ad x0))]) hx hb dX11_spill_56 hl (k := 2) rfl rfl (by decide) rfl (fun ls hl => ?_)
          refine lv_goto (tgt := 4) hx hb dX11_spill_59 (by decide) ?_
          exact hg4 (x1 + (1 : Int32)) (x2 + (1 : Int32)) M24 _ _ _ hW (lv_sub hl [2, 1, 0] rfl) hf
  have J4 : ∀ (x0 : Nat) (x1 : Int32) (x2 : Int32) (M : Mem)  (H : Heap) (locs : List Loc) (ls : Array Slot) (hW : Wd D cA ad A s M H locs) (hl : lv_has ls 3 [(0, .ref (ad x0)), (1, .int x1), (2, .int x2)]) (hf : f_X11_spill_4  x0 x1 x2 M = some q), W p l e (rmD 0) s m args below meth c H locs 0 0 (MQ below (QI D cA ad A q.1 q.2) args s 0 0 A) (F0 m 4 ls []) := by
    intro x0 x1 x2 M  H locs ls hW hl hf
    unfold f_X11_spill_4 at hf
    have key : ∀ (n : Nat) (x1 : Int32) (x2 : Int32) (M : Mem) (H : Heap) (locs : List Loc) (ls : Array Slot) (hW : Wd D cA ad A s M H locs) (hl : lv_has ls 3 [(0, .ref (ad x0)), (1, .int x1), (2, .int x2)]) (hf : loopF (fun ag s => f_X11_spill_4b  x0 ag s.1 s.2.1 s.2.2) n (x1, x2, M) = some q), W p l e (rmD 0) s m args below meth c H locs 0 0 (MQ below (QI D cA ad A q.1 q.2) args s 0 0 A) (F0 m 4 ls []) := by
      intro n
      induction n with
      | zero => intro x1 x2 M H locs ls hW hl hf; exact nomatch (show (none : Option _) = some _ from hf)
      | succ n ih => intro x1 x2 M H locs ls hW hl hf; exact B4 x0 x1 x2 M  _ ih H locs ls hW hl hf
    exact key FU x1 x2 M H locs ls hW hl hf
  have hf := hf0
  unfold f_X11_spill at hf
  refine lv_iconst (v := (0 : Int32)) hx hb dX11_spill_0 (by decide) ?_
  refine lv_istore_n (lv' := [(1, .int (0 : Int32)), (0, .ref (ad a0))]) hx hb dX11_spill_1 rfl hl (by decide) rfl (fun ls hl => ?_)
  refine lv_iconst (v := (0 : Int32)) hx hb dX11_spill_2 (by decide) ?_
  refine lv_istore_n (lv' := [(2, .int (0 : Int32)), (1, .int (0 : Int32)), (0, .ref (ad a0))]) hx hb dX11_spill_3 rfl hl (by decide) rfl (fun ls hl => ?_)
  exact J4 a0 (0 : Int32) (0 : Int32) M0 _ _ _ hW (lv_sub hl [2, 1, 0] rfl) hf
set_option maxHeartbeats 4000000 in
set_option maxRecDepth 100000 in
theorem c_X11_spins (l : Launch) {D : va_G} {cA : Nat → ClassId} {ad : Nat → Nat} {A : Nat → Prop} (hAd : AdOk ad A) {a0 : Nat} {a1 : Int32} {a2 : Int32} {M0 : Mem} {q : (Int32 × Mem)} (hf0 : f_X11_spins a0 a1 a2 M0 = some q) : Met l yX11_spins (wd yX11_spins cX11_spins 3 (some .int)) (rmD 3) (PcW D cA ad [.ref (ad a0), .int a1, .int a2] M0) (QI D cA ad A q.1 q.2) 0 0 A := by
  refine mk_met (own := RX11) (by decide +kernel) rfl (Nat.le_of_ble_eq_true rfl) ?_
  intro p e s m args below meth c hC hr hlk hK H locs ls hW hl
  have hx := hC.1
  have hb := hC.2.1
  have hl : lv_has ls 3 [(0, .ref (ad a0)), (1, .int a1), (2, .int a2)] := hl
  have J62 : ∀ (x0 : Nat) (x1 : Int32) (y0 : Nat) (y1 : Nat) (y2 : Int32) (M : Mem)  (H : Heap) (locs : List Loc) (ls : Array Slot) (hW : Wd D cA ad A s M H locs) (hl : lv_has ls 3 [(0, .ref (ad x0)), (1, .int x1)]) (hf : f_X11_spins_62  x0 x1 y0 y1 y2 M = some q), W p l e (rmD 3) s m args below meth c H locs 0 0 (MQ below (QI D cA ad A q.1 q.2) args s 0 0 A) (F0 m 62 ls [.int y2, .ref (ad y1), .ref (ad y0)]) := by
    intro x0 x1 y0 y1 y2 M  H locs ls hW hl hf
    unfold f_X11_spins_62 at hf
    obtain ⟨q4, hq4, hf⟩ := ob hf
    refine k_vI hC hK hW cfX8 (c_X8_around l hAd (cv_s hq4).2) (cv_s hq4).1 my_X8_around wI_X8_around wQ_X8_around wM_X11_190 ⟨Nat.le_of_ble_eq_true rfl, Nat.le_of_ble_eq_true rfl⟩ rfl hl.1 rfl (Nat.le_of_ble_eq_true rfl) ⟨Nat.zero_le _, Nat.zero_le _⟩ dX11_spins_62 (fun H locs hW => ?_)
    obtain ⟨M5, hM5, hf⟩ := ob hf
    refine r_pI hC hK hAd hW cfX7 (by decide) wF_X11_160 rfl rfl rfl hM5 dX11_spins_65 (fun H locs hW => ?_)
    refine lv_iload_n hx hb dX11_spins_68 rfl (lv_at hl 1 rfl) ?_
    refine lv_iconst (v := (3 : Int32)) hx hb dX11_spins_69 (by decide) ?_
    refine lv_icmp_lt (tgt := 80) hx hb dX11_spins_70 (by decide) (fun c70 => ?_) (fun c70 => ?_)
    · have hf := it c70 hf
      refine lv_iconst (v := (0 : Int32)) hx hb dX11_spins_80 (by decide) ?_
      exact r_iret hC hr hlk hW hf dX11_spins_81
    · have hf := ie c70 hf
      refine lv_aload_n hx hb dX11_spins_73 rfl (lv_at hl 0 rfl) ?_
      obtain ⟨q6, hq6, hf⟩ := ob hf
      refine k_vI hC hK hW cfX11 (c_X11_spill l hAd (cv_s hq6).2) (cv_s hq6).1 my_X11_spill wI_X11_spill wQ_X11_spill wM_X11_194 ⟨Nat.le_of_ble_eq_true rfl, Nat.le_of_ble_eq_true rfl⟩ rfl hl.1 rfl (Nat.le_of_ble_eq_true rfl) ⟨Nat.zero_le _, Nat.zero_le _⟩ dX11_spins_74 (fun H locs hW => ?_)
      refine lv_goto (tgt := 81) hx hb dX11_spins_77 (by decide) ?_
      exact r_iret hC hr hlk hW hf dX11_spins_81
  have hf := hf0
  unfold f_X11_spins at hf
  refine lv_iload_n hx hb dX11_spins_0 rfl (lv_at hl 1 rfl) ?_
  refine lv_iconst (v := (1 : Int32)) hx hb dX11_spins_1 (by decide) ?_
  refine lv_icmp_lt (tgt := 23) hx hb dX11_spins_2 (by decide) (fun c2 => ?_) (fun c2 => ?_)
  · have hf := it c2 hf
    refine lv_iconst (v := (-1 : Int32)) hx hb dX11_spins_23 (by decide) ?_
    exact r_iret hC hr hlk hW hf dX11_spins_24
  · have hf := ie c2 hf
    refine lv_iload_n hx hb dX11_spins_5 rfl (lv_at hl 1 rfl) ?_
    refine lv_aload_n hx hb dX11_spins_6 rfl (lv_at hl 0 rfl) ?_
    obtain ⟨r17, hr17, hf⟩ := ob hf
    refine r_gR hC hK hW cfX11 (by decide) wF_X11_39 rfl hr17 dX11_spins_7 ?_
    obtain ⟨v18, hv18, hf⟩ := ob hf
    refine r_gI hC hK hW cfX8 (by decide) wF_X11_181 rfl hv18 dX11_spins_10 ?_
    refine lv_icmp_ge (tgt := 23) hx hb dX11_spins_13 (by decide) (fun c13 => ?_) (fun c13 => ?_)
    · have hf := it c13 hf
      refine lv_iconst (v := (-1 : Int32)) hx hb dX11_spins_23 (by decide) ?_
      exact r_iret hC hr hlk hW hf dX11_spins_24
    · have hf := ie c13 hf
      refine lv_iload_n hx hb dX11_spins_16 rfl (lv_at hl 2 rfl) ?_
      obtain ⟨q19, hq19, hf⟩ := ob hf
      refine k_sI hC hK hW (c_X11_isBit l hAd hq19) my_X11_isBit wS_X11_isBit wM_X11_184 ⟨Nat.le_of_ble_eq_true rfl, Nat.le_of_ble_eq_true rfl⟩ rfl hl.1 rfl (Nat.le_of_ble_eq_true rfl) ⟨Nat.zero_le _, Nat.zero_le _⟩ dX11_spins_17 (fun H locs hW => ?_)
      refine lv_if_ne (tgt := 25) hx hb dX11_spins_20 (by decide) (fun c20 => ?_) (fun c20 => ?_)
      · have hf := ie c20 hf
        refine lv_aload_n hx hb dX11_spins_25 rfl (lv_at hl 0 rfl) ?_
        obtain ⟨q20, hq20, hf⟩ := ob hf
        refine k_vV hC hK hW cfX11 (c_X11_remember l hAd (cv_s hq20).2) (cv_s hq20).1 my_X11_remember wI_X11_remember wQ_X11_remember wM_X11_187 ⟨Nat.le_of_ble_eq_true rfl, Nat.le_of_ble_eq_true rfl⟩ rfl hl.1 rfl (Nat.le_of_ble_eq_true rfl) ⟨Nat.zero_le _, Nat.zero_le _⟩ dX11_spins_26 (fun H locs hW => ?_)
        refine lv_aload_n hx hb dX11_spins_29 rfl (lv_at hl 0 rfl) ?_
        obtain ⟨r21, hr21, hf⟩ := ob hf
        refine r_gR hC hK hW cfX11 (by decide) wF_X11_46 rfl hr21 dX11_spins_30 ?_
        refine lv_aload_n hx hb dX11_spins_33 rfl (lv_at hl 0 rfl) ?_
        obtain ⟨r22, hr22, hf⟩ := ob hf
        refine r_gR hC hK hW cfX11 (by decide) wF_X11_39 rfl hr22 dX11_spins_34 ?_
        refine lv_iload_n hx hb dX11_spins_37 rfl (lv_at hl 2 rfl) ?_
        refine lv_if_ne (tgt := 53) hx hb dX11_spins_38 (by decide) (fun c38 => ?_) (fun c38 => ?_)
        · have hf := ie c38 hf
          refine lv_aload_n hx hb dX11_spins_53 rfl (lv_at hl 0 rfl) ?_
          obtain ⟨r23, hr23, hf⟩ := ob hf
          refine r_gR hC hK hW cfX11 (by decide) wF_X11_46 rfl hr23 dX11_spins_54 ?_
          obtain ⟨v24, hv24, hf⟩ := ob hf
          refine r_gI hC hK hW cfX7 (by decide) wF_X11_160 rfl hv24 dX11_spins_57 ?_
          refine lv_iload_n hx hb dX11_spins_60 rfl (lv_at hl 1 rfl) ?_
          refine lv_isub hx hb dX11_spins_61 ?_
          exact J62 a0 a1 r21 r22 (v24 - a1) q20 _ _ _ hW (lv_sub hl [0, 1] rfl) hf
        · have hf := it c38 hf
          refine lv_aload_n hx hb dX11_spins_41 rfl (lv_at hl 0 rfl) ?_
          obtain ⟨r25, hr25, hf⟩ := ob hf
          refine r_gR hC hK hW cfX11 (by decide) wF_X11_46 rfl hr25 dX11_spins_42 ?_
          obtain ⟨v26, hv26, hf⟩ := ob hf
          refine r_gI hC hK hW cfX7 (by decide) wF_X11_160 rfl hv26 dX11_spins_45 ?_
          refine lv_iload_n hx hb dX11_spins_48 rfl (lv_at hl 1 rfl) ?_
          refine lv_iadd hx hb dX11_spins_49 ?_
          refine lv_goto (tgt := 62) hx hb dX11_spins_50 (by decide) ?_
          exact J62 a0 a1 r21 r22 (v26 + a1) q20 _ _ _ hW (lv_sub hl [0, 1] rfl) hf
      · have hf := it c20 hf
        refine lv_iconst (v := (-1 : Int32)) hx hb dX11_spins_23 (by decide) ?_
        exact r_iret hC hr hlk hW hf dX11_spins_24
set_option maxHeartbeats 4000000 in
set_option maxRecDepth 100000 in
theorem c_X11_steps (l : Launch) {D : va_G} {cA : Nat → ClassId} {ad : Nat → Nat} {A : Nat → Prop} (hAd : AdOk ad A) {a0 : Nat} {a1 : Int32} {a2 : Int32} {a3 : Int32} {M0 : Mem} {q : Int32} (hf0 : f_X11_steps a0 a1 a2 a3 M0 = some q) : Met l yX11_steps (wd yX11_steps cX11_steps 7 (some .int)) (rmD 4) (PcW D cA ad [.ref (ad a0), .int a1, .int a2, .int a3] M0) (QI D cA ad A q M0) 0 0 A := by
  refine mk_met (own := RX11) (by decide +kernel) rfl (Nat.le_of_ble_eq_true rfl) ?_
  intro p e s m args below meth c hC hr hlk hK H locs ls hW hl
  have hx := hC.1
  have hb := hC.2.1
  have hl : lv_has ls 7 [(0, .ref (ad a0)), (1, .int a1), (2, .int a2), (3, .int a3)] := hl
  have hf := hf0
  unfold f_X11_steps at hf
  refine lv_aload_n hx hb dX11_steps_0 rfl (lv_at hl 0 rfl) ?_
  refine lv_iload_n hx hb dX11_steps_1 rfl (lv_at hl 1 rfl) ?_
  obtain ⟨q10, hq10, hf⟩ := ob hf
  refine k_vI hC hK hW cfX11 (c_X11_isGuest l hAd (cv_s hq10).2) (cv_s hq10).1 my_X11_isGuest wI_X11_isGuest wQ_X11_isGuest wM_X11_122 ⟨Nat.le_of_ble_eq_true rfl, Nat.le_of_ble_eq_true rfl⟩ rfl hl.1 rfl (Nat.le_of_ble_eq_true rfl) ⟨Nat.zero_le _, Nat.zero_le _⟩ dX11_steps_2 (fun H locs hW => ?_)
  refine lv_if_eq (tgt := 23) hx hb dX11_steps_5 (by decide) (fun c5 => ?_) (fun c5 => ?_)
  · have hf := it c5 hf
    refine lv_iconst (v := (-1 : Int32)) hx hb dX11_steps_23 (by decide) ?_
    exact r_iretP hC hr hlk hW hf dX11_steps_24
  · have hf := ie c5 hf
    refine lv_aload_n hx hb dX11_steps_8 rfl (lv_at hl 0 rfl) ?_
    refine lv_iload_n hx hb dX11_steps_9 rfl (lv_at hl 2 rfl) ?_
    obtain ⟨q11, hq11, hf⟩ := ob hf
    refine k_vI hC hK hW cfX11 (c_X11_isDish l hAd (cv_s hq11).2) (cv_s hq11).1 my_X11_isDish wI_X11_isDish wQ_X11_isDish wM_X11_145 ⟨Nat.le_of_ble_eq_true rfl, Nat.le_of_ble_eq_true rfl⟩ rfl hl.1 rfl (Nat.le_of_ble_eq_true rfl) ⟨Nat.zero_le _, Nat.zero_le _⟩ dX11_steps_10 (fun H locs hW => ?_)
    refine lv_if_eq (tgt := 23) hx hb dX11_steps_13 (by decide) (fun c13 => ?_) (fun c13 => ?_)
    · have hf := it c13 hf
      refine lv_iconst (v := (-1 : Int32)) hx hb dX11_steps_23 (by decide) ?_
      exact r_iretP hC hr hlk hW hf dX11_steps_24
    · have hf := ie c13 hf
      refine lv_iload_n hx hb dX11_steps_16 rfl (lv_at hl 3 rfl) ?_
      obtain ⟨q12, hq12, hf⟩ := ob hf
      refine k_sI hC hK hW (c_X11_isBit l hAd hq12) my_X11_isBit wS_X11_isBit wM_X11_184 ⟨Nat.le_of_ble_eq_true rfl, Nat.le_of_ble_eq_true rfl⟩ rfl hl.1 rfl (Nat.le_of_ble_eq_true rfl) ⟨Nat.zero_le _, Nat.zero_le _⟩ dX11_steps_17 (fun H locs hW => ?_)
      refine lv_if_ne (tgt := 25) hx hb dX11_steps_20 (by decide) (fun c20 => ?_) (fun c20 => ?_)
      · have hf := ie c20 hf
        refine lv_aload_n hx hb dX11_steps_25 rfl (lv_at hl 0 rfl) ?_
        obtain ⟨r13, hr13, hf⟩ := ob hf
        refine r_gR hC hK hW cfX11 (by decide) wF_X11_39 rfl hr13 dX11_steps_26 ?_
        refine lv_aload_n hx hb dX11_steps_29 rfl (lv_at hl 0 rfl) ?_
        obtain ⟨r14, hr14, hf⟩ := ob hf
        refine r_gR hC hK hW cfX11 (by decide) wF_X11_46 rfl hr14 dX11_steps_30 ?_
        refine lv_iload_n hx hb dX11_steps_33 rfl (lv_at hl 1 rfl) ?_
        refine lv_iload_n hx hb dX11_steps_34 rfl (lv_at hl 2 rfl) ?_
        refine lv_iconst (v := (0 : Int32)) hx hb dX11_steps_35 (by decide) ?_
        obtain ⟨q15, hq15, hf⟩ := ob hf
        refine k_vI hC hK hW cfX8 (c_X8_stepsBy l hAd (cv_s hq15).2) (cv_s hq15).1 my_X8_stepsBy wI_X8_stepsBy wQ_X8_stepsBy wM_X11_211 ⟨Nat.le_of_ble_eq_true rfl, Nat.le_of_ble_eq_true rfl⟩ rfl hl.1 rfl (Nat.le_of_ble_eq_true rfl) ⟨Nat.zero_le _, Nat.zero_le _⟩ dX11_steps_36 (fun H locs hW => ?_)
        refine lv_istore (lv' := [(4, .int q15), (0, .ref (ad a0)), (1, .int a1), (2, .int a2), (3, .int a3)]) hx hb dX11_steps_39 hl (by decide) rfl (fun ls hl => ?_)
        refine lv_aload_n hx hb dX11_steps_41 rfl (lv_at hl 1 rfl) ?_
        obtain ⟨r16, hr16, hf⟩ := ob hf
        refine r_gR hC hK hW cfX11 (by decide) wF_X11_39 rfl hr16 dX11_steps_42 ?_
        refine lv_aload_n hx hb dX11_steps_45 rfl (lv_at hl 1 rfl) ?_
        obtain ⟨r17, hr17, hf⟩ := ob hf
        refine r_gR hC hK hW cfX11 (by decide) wF_X11_46 rfl hr17 dX11_steps_46 ?_
        refine lv_iload_n hx hb dX11_steps_49 rfl (lv_at hl 2 rfl) ?_
        refine lv_iload_n hx hb dX11_steps_50 rfl (lv_at hl 3 rfl) ?_
        refine lv_iconst (v := (1 : Int32)) hx hb dX11_steps_51 (by decide) ?_
        obtain ⟨q18, hq18, hf⟩ := ob hf
        refine k_vI hC hK hW cfX8 (c_X8_stepsBy l hAd (cv_s hq18).2) (cv_s hq18).1 my_X8_stepsBy wI_X8_stepsBy wQ_X8_stepsBy wM_X11_211 ⟨Nat.le_of_ble_eq_true rfl, Nat.le_of_ble_eq_true rfl⟩ rfl hl.1 rfl (Nat.le_of_ble_eq_true rfl) ⟨Nat.zero_le _, Nat.zero_le _⟩ dX11_steps_52 (fun H locs hW => ?_)
        refine lv_istore (lv' := [(5, .int q18), (4, .int q15), (0, .ref (ad a0)), (1, .int a1), (2, .int a2), (3, .int a3)]) hx hb dX11_steps_55 hl (by decide) rfl (fun ls hl => ?_)
        refine lv_iload hx hb dX11_steps_57 (lv_at hl 1 rfl) ?_
        refine lv_iload hx hb dX11_steps_59 (lv_at hl 0 rfl) ?_
        refine r_min hC wM_X11_215 hl.1 (Nat.le_of_ble_eq_true rfl) rfl rfl dX11_steps_61 ?_
        refine lv_istore (lv' := [(6, .int (if q18 < q15 then q18 else q15)), (5, .int q18), (4, .int q15), (0, .ref (ad a0)), (1, .int a1), (2, .int a2), (3, .int a3)]) hx hb dX11_steps_64 hl (by decide) rfl (fun ls hl => ?_)
        refine lv_iload_n hx hb dX11_steps_66 rfl (lv_at hl 6 rfl) ?_
        refine lv_if_ne (tgt := 73) hx hb dX11_steps_67 (by decide) (fun c67 => ?_) (fun c67 => ?_)
        · have hf := ie c67 hf
          refine lv_iload hx hb dX11_steps_73 (lv_at hl 0 rfl) ?_
          refine lv_if_ne (tgt := 81) hx hb dX11_steps_75 (by decide) (fun c75 => ?_) (fun c75 => ?_)
          · have hf := ie c75 hf
            refine lv_iload hx hb dX11_steps_81 (lv_at hl 2 rfl) ?_
            refine lv_iload hx hb dX11_steps_83 (lv_at hl 1 rfl) ?_
            refine lv_icmp_gt (tgt := 92) hx hb dX11_steps_85 (by decide) (fun c85 => ?_) (fun c85 => ?_)
            · have hf := it c85 hf
              refine lv_iconst (v := (1 : Int32)) hx hb dX11_steps_92 (by decide) ?_
              exact r_iretP hC hr hlk hW hf dX11_steps_93
            · have hf := ie c85 hf
              refine lv_iconst (v := (0 : Int32)) hx hb dX11_steps_88 (by decide) ?_
              refine lv_goto (tgt := 93) hx hb dX11_steps_89 (by decide) ?_
              exact r_iretP hC hr hlk hW hf dX11_steps_93
          · have hf := it c75 hf
            refine lv_bipush (v := (-9 : Int32)) hx hb dX11_steps_78 (by decide) ?_
            exact r_iretP hC hr hlk hW hf dX11_steps_80
        · have hf := it c67 hf
          refine lv_iload hx hb dX11_steps_70 (lv_at hl 0 rfl) ?_
          exact r_iretP hC hr hlk hW hf dX11_steps_72
      · have hf := it c20 hf
        refine lv_iconst (v := (-1 : Int32)) hx hb dX11_steps_23 (by decide) ?_
        exact r_iretP hC hr hlk hW hf dX11_steps_24
set_option maxHeartbeats 4000000 in
set_option maxRecDepth 100000 in
theorem c_X11_table (l : Launch) {D : va_G} {cA : Nat → ClassId} {ad : Nat → Nat} {A : Nat → Prop} (hAd : AdOk ad A) {a0 : Nat} {M0 : Mem} {q : (Int32 × Mem)} (hf0 : f_X11_table a0 M0 = some q) : Met l yX11_table (wd yX11_table cX11_table 3 (some .int)) (rmD 7) (PcW D cA ad [.ref (ad a0)] M0) (QI D cA ad A q.1 q.2) 0 0 A := by
  refine mk_met (own := RX11) (by decide +kernel) rfl (Nat.le_of_ble_eq_true rfl) ?_
  intro p e s m args below meth c hC hr hlk hK H locs ls hW hl
  have hx := hC.1
  have hb := hC.2.1
  have hl : lv_has ls 3 [(0, .ref (ad a0))] := hl
  have B63 : ∀ (x0 : Nat) (x1 : Int32) (x2 : Int32) (M : Mem)  (ag63 : Int32 × Mem → Option (Int32 × Mem)) (hg63 : ∀ (x2 : Int32) (M : Mem) (H : Heap) (locs : List Loc) (ls : Array Slot) (_ : Wd D cA ad A s M H locs) (_ : lv_has ls 3 [(0, .ref (ad x0)), (1, .int x1), (2, .int x2)]) (_ : ag63 (x2, M) = some q), W p l e (rmD 7) s m args below meth c H locs 0 0 (MQ below (QI D cA ad A q.1 q.2) args s 0 0 A) (F0 m 63 ls [])) (H : Heap) (locs : List Loc) (ls : Array Slot) (hW : Wd D cA ad A s M H locs) (hl : lv_has ls 3 [(0, .ref (ad x0)), (1, .int x1), (2, .int x2)]) (hf : f_X11_table_63b  x0 x1 ag63 x2 M = some q), W p l e (rmD 7) s m args below meth c H locs 0 0 (MQ below (QI D cA ad A q.1 q.2) args s 0 0 A) (F0 m 63 ls []) := by
    intro x0 x1 x2 M  ag63 hg63 H locs ls hW hl hf
    unfold f_X11_table_63b at hf
    refine lv_iload_n hx hb dX11_table_63 rfl (lv_at hl 2 rfl) ?_
    refine lv_iconst (v := (2 : Int32)) hx hb dX11_table_64 (by decide) ?_
    refine lv_icmp_ge (tgt := 81) hx hb dX11_table_65 (by decide) (fun c65 => ?_) (fun c65 => ?_)
    · have hf := it c65 hf
      refine lv_iload_n hx hb dX11_table_81 rfl (lv_at hl 1 rfl) ?_
      exact r_iret hC hr hlk hW hf dX11_table_82
    · have hf := ie c65 hf
      refine lv_aload_n hx hb dX11_table_68 rfl (lv_at hl 0 rfl) ?_
      obtain ⟨r3, hr3, hf⟩ := ob hf
      refine r_gR hC hK hW cfX11 (by decide) wF_X11_60 rfl hr3 dX11_table_69 ?_
      refine lv_iload_n hx hb dX11_table_72 rfl (lv_at hl 2 rfl) ?_
      refine lv_iconst (v := (0 : Int32)) hx hb dX11_table_73 (by decide) ?_
      obtain ⟨M4, hM4, hf⟩ := ob hf
      refine r_sZ hC hK hAd hW hM4 dX11_table_74 (fun H locs hW => ?_)
      refine lv_iinc (v := (x2 + (1 : Int32))) (lv' := [(2, .int (x2 + (1 : Int32))), (0, .ref (ad x0)), (1, .int x1)]) hx hb dX11_table_75 hl (k := 2) rfl rfl (by decide) rfl (fun ls hl => ?_)
      refine lv_goto (tgt := 63) hx hb dX11_table_78 (by decide) ?_
      exact hg63 (x2 + (1 : Int32)) M4 _ _ _ hW (lv_sub hl [1, 2, 0] rfl) hf
  have J63 : ∀ (x0 : Nat) (x1 : Int32) (x2 : Int32) (M : Mem)  (H : Heap) (locs : List Loc) (ls : Array Slot) (hW : Wd D cA ad A s M H locs) (hl : lv_has ls 3 [(0, .ref (ad x0)), (1, .int x1), (2, .int x2)]) (hf : f_X11_table_63  x0 x1 x2 M = some q), W p l e (rmD 7) s m args below meth c H locs 0 0 (MQ below (QI D cA ad A q.1 q.2) args s 0 0 A) (F0 m 63 ls []) := by
    intro x0 x1 x2 M  H locs ls hW hl hf
    unfold f_X11_table_63 at hf
    have key : ∀ (n : Nat) (x2 : Int32) (M : Mem) (H : Heap) (locs : List Loc) (ls : Array Slot) (hW : Wd D cA ad A s M H locs) (hl : lv_has ls 3 [(0, .ref (ad x0)), (1, .int x1), (2, .int x2)]) (hf : loopF (fun ag s => f_X11_table_63b  x0 x1 ag s.1 s.2) n (x2, M) = some q), W p l e (rmD 7) s m args below meth c H locs 0 0 (MQ below (QI D cA ad A q.1 q.2) args s 0 0 A) (F0 m 63 ls []) := by
      intro n
      induction n with
      | zero => intro x2 M H locs ls hW hl hf; exact nomatch (show (none : Option _) = some _ from hf)
      | succ n ih => intro x2 M H locs ls hW hl hf; exact B63 x0 x1 x2 M  _ ih H locs ls hW hl hf
    exact key FU x2 M H locs ls hW hl hf
  have hf := hf0
  unfold f_X11_table at hf
  refine lv_aload_n hx hb dX11_table_0 rfl (lv_at hl 0 rfl) ?_
  obtain ⟨r19, hr19, hf⟩ := ob hf
  refine r_gR hC hK hW cfX11 (by decide) wF_X11_10 rfl hr19 dX11_table_1 ?_
  obtain ⟨q20, hq20, hf⟩ := ob hf
  refine k_vI hC hK hW cfX9 (c_X9_read l hAd (cv_s hq20).2) (cv_s hq20).1 my_X9_read wI_X9_read wQ_X9_read wM_X11_101 ⟨Nat.le_of_ble_eq_true rfl, Nat.le_of_ble_eq_true rfl⟩ rfl hl.1 rfl (Nat.le_of_ble_eq_true rfl) ⟨Nat.zero_le _, Nat.zero_le _⟩ dX11_table_4 (fun H locs hW => ?_)
  refine lv_istore_n (lv' := [(1, .int q20.1), (0, .ref (ad a0))]) hx hb dX11_table_7 rfl hl (by decide) rfl (fun ls hl => ?_)
  refine lv_iload_n hx hb dX11_table_8 rfl (lv_at hl 0 rfl) ?_
  refine lv_if_ge (tgt := 14) hx hb dX11_table_9 (by decide) (fun c9 => ?_) (fun c9 => ?_)
  · have hf := it c9 hf
    refine lv_aload_n hx hb dX11_table_14 rfl (lv_at hl 1 rfl) ?_
    obtain ⟨r21, hr21, hf⟩ := ob hf
    refine r_gR hC hK hW cfX11 (by decide) wF_X11_10 rfl hr21 dX11_table_15 ?_
    refine lv_iconst (v := (0 : Int32)) hx hb dX11_table_18 (by decide) ?_
    obtain ⟨M22, hM22, hf⟩ := ob hf
    refine r_pI hC hK hAd hW cfX9 (by decide) wF_X11_93 rfl rfl rfl hM22 dX11_table_19 (fun H locs hW => ?_)
    refine lv_aload_n hx hb dX11_table_22 rfl (lv_at hl 1 rfl) ?_
    refine lv_aload_n hx hb dX11_table_23 rfl (lv_at hl 1 rfl) ?_
    obtain ⟨r23, hr23, hf⟩ := ob hf
    refine r_gR hC hK hW cfX11 (by decide) wF_X11_10 rfl hr23 dX11_table_24 ?_
    refine lv_aload_n hx hb dX11_table_27 rfl (lv_at hl 1 rfl) ?_
    obtain ⟨r24, hr24, hf⟩ := ob hf
    refine r_gR hC hK hW cfX11 (by decide) wF_X11_39 rfl hr24 dX11_table_28 ?_
    obtain ⟨q25, hq25, hf⟩ := ob hf
    refine k_vR hC hK hW cfX9 (c_X9_handOver l hAd (cv_s hq25).2) (cv_s hq25).1 my_X9_handOver wI_X9_handOver wQ_X9_handOver wM_X11_105 ⟨Nat.le_of_ble_eq_true rfl, Nat.le_of_ble_eq_true rfl⟩ rfl hl.1 rfl (Nat.le_of_ble_eq_true rfl) ⟨Nat.zero_le _, Nat.zero_le _⟩ dX11_table_31 (fun H locs hW => ?_)
    obtain ⟨M26, hM26, hf⟩ := ob hf
    refine r_pR hC hK hAd hW cfX11 (by decide) wF_X11_39 rfl rfl rfl hM26 dX11_table_34 (fun H locs hW => ?_)
    refine lv_aload_n hx hb dX11_table_37 rfl (lv_at hl 1 rfl) ?_
    obtain ⟨r27, hr27, hf⟩ := ob hf
    refine r_gR hC hK hW cfX11 (by decide) wF_X11_46 rfl hr27 dX11_table_38 ?_
    refine lv_aload_n hx hb dX11_table_41 rfl (lv_at hl 1 rfl) ?_
    obtain ⟨r28, hr28, hf⟩ := ob hf
    refine r_gR hC hK hW cfX11 (by decide) wF_X11_39 rfl hr28 dX11_table_42 ?_
    obtain ⟨r29, hr29, hf⟩ := ob hf
    refine r_gR hC hK hW cfX8 (by decide) wF_X11_109 rfl hr29 dX11_table_45 ?_
    obtain ⟨q30, hq30, hf⟩ := ob hf
    refine k_vV hC hK hW cfX7 (c_X7_become l hAd (cv_s hq30).2) (cv_s hq30).1 my_X7_become wI_X7_become wQ_X7_become wM_X11_112 ⟨Nat.le_of_ble_eq_true rfl, Nat.le_of_ble_eq_true rfl⟩ rfl hl.1 rfl (Nat.le_of_ble_eq_true rfl) ⟨Nat.zero_le _, Nat.zero_le _⟩ dX11_table_48 (fun H locs hW => ?_)
    refine lv_aload_n hx hb dX11_table_51 rfl (lv_at hl 1 rfl) ?_
    refine lv_iconst (v := (0 : Int32)) hx hb dX11_table_52 (by decide) ?_
    obtain ⟨M31, hM31, hf⟩ := ob hf
    refine r_pI hC hK hAd hW cfX11 (by decide) wF_X11_116 rfl rfl rfl hM31 dX11_table_53 (fun H locs hW => ?_)
    refine lv_aload_n hx hb dX11_table_56 rfl (lv_at hl 1 rfl) ?_
    refine lv_iconst (v := (0 : Int32)) hx hb dX11_table_57 (by decide) ?_
    obtain ⟨M32, hM32, hf⟩ := ob hf
    refine r_pI hC hK hAd hW cfX11 (by decide) wF_X11_119 rfl rfl rfl hM32 dX11_table_58 (fun H locs hW => ?_)
    refine lv_iconst (v := (0 : Int32)) hx hb dX11_table_61 (by decide) ?_
    refine lv_istore_n (lv' := [(2, .int (0 : Int32)), (1, .int q20.1), (0, .ref (ad a0))]) hx hb dX11_table_62 rfl hl (by decide) rfl (fun ls hl => ?_)
    exact J63 a0 q20.1 (0 : Int32) M32 _ _ _ hW (lv_sub hl [2, 1, 0] rfl) hf
  · have hf := ie c9 hf
    refine lv_iload_n hx hb dX11_table_12 rfl (lv_at hl 0 rfl) ?_
    exact r_iret hC hr hlk hW hf dX11_table_13
set_option maxHeartbeats 4000000 in
set_option maxRecDepth 100000 in
theorem c_X11_takes (l : Launch) {D : va_G} {cA : Nat → ClassId} {ad : Nat → Nat} {A : Nat → Prop} (hAd : AdOk ad A) {a0 : Nat} {a1 : Int32} {a2 : Int32} {M0 : Mem} {q : (Int32 × Mem)} (hf0 : f_X11_takes a0 a1 a2 M0 = some q) : Met l yX11_takes (wd yX11_takes cX11_takes 3 (some .int)) (rmD 4) (PcW D cA ad [.ref (ad a0), .int a1, .int a2] M0) (QI D cA ad A q.1 q.2) 0 0 A := by
  refine mk_met (own := RX11) (by decide +kernel) rfl (Nat.le_of_ble_eq_true rfl) ?_
  intro p e s m args below meth c hC hr hlk hK H locs ls hW hl
  have hx := hC.1
  have hb := hC.2.1
  have hl : lv_has ls 3 [(0, .ref (ad a0)), (1, .int a1), (2, .int a2)] := hl
  have hf := hf0
  unfold f_X11_takes at hf
  refine lv_aload_n hx hb dX11_takes_0 rfl (lv_at hl 0 rfl) ?_
  refine lv_iload_n hx hb dX11_takes_1 rfl (lv_at hl 1 rfl) ?_
  obtain ⟨q23, hq23, hf⟩ := ob hf
  refine k_vI hC hK hW cfX11 (c_X11_isGuest l hAd (cv_s hq23).2) (cv_s hq23).1 my_X11_isGuest wI_X11_isGuest wQ_X11_isGuest wM_X11_122 ⟨Nat.le_of_ble_eq_true rfl, Nat.le_of_ble_eq_true rfl⟩ rfl hl.1 rfl (Nat.le_of_ble_eq_true rfl) ⟨Nat.zero_le _, Nat.zero_le _⟩ dX11_takes_2 (fun H locs hW => ?_)
  refine lv_if_eq (tgt := 16) hx hb dX11_takes_5 (by decide) (fun c5 => ?_) (fun c5 => ?_)
  · have hf := it c5 hf
    refine lv_iconst (v := (-1 : Int32)) hx hb dX11_takes_16 (by decide) ?_
    exact r_iret hC hr hlk hW hf dX11_takes_17
  · have hf := ie c5 hf
    refine lv_aload_n hx hb dX11_takes_8 rfl (lv_at hl 0 rfl) ?_
    refine lv_iload_n hx hb dX11_takes_9 rfl (lv_at hl 2 rfl) ?_
    obtain ⟨q24, hq24, hf⟩ := ob hf
    refine k_vI hC hK hW cfX11 (c_X11_isDish l hAd (cv_s hq24).2) (cv_s hq24).1 my_X11_isDish wI_X11_isDish wQ_X11_isDish wM_X11_145 ⟨Nat.le_of_ble_eq_true rfl, Nat.le_of_ble_eq_true rfl⟩ rfl hl.1 rfl (Nat.le_of_ble_eq_true rfl) ⟨Nat.zero_le _, Nat.zero_le _⟩ dX11_takes_10 (fun H locs hW => ?_)
    refine lv_if_ne (tgt := 18) hx hb dX11_takes_13 (by decide) (fun c13 => ?_) (fun c13 => ?_)
    · have hf := ie c13 hf
      refine lv_aload_n hx hb dX11_takes_18 rfl (lv_at hl 0 rfl) ?_
      obtain ⟨r25, hr25, hf⟩ := ob hf
      refine r_gR hC hK hW cfX11 (by decide) wF_X11_39 rfl hr25 dX11_takes_19 ?_
      refine lv_aload_n hx hb dX11_takes_22 rfl (lv_at hl 0 rfl) ?_
      obtain ⟨r26, hr26, hf⟩ := ob hf
      refine r_gR hC hK hW cfX11 (by decide) wF_X11_46 rfl hr26 dX11_takes_23 ?_
      refine lv_iload_n hx hb dX11_takes_26 rfl (lv_at hl 1 rfl) ?_
      refine lv_iload_n hx hb dX11_takes_27 rfl (lv_at hl 2 rfl) ?_
      refine lv_aload_n hx hb dX11_takes_28 rfl (lv_at hl 0 rfl) ?_
      obtain ⟨r27, hr27, hf⟩ := ob hf
      refine r_gR hC hK hW cfX11 (by decide) wF_X11_46 rfl hr27 dX11_takes_29 ?_
      obtain ⟨v28, hv28, hf⟩ := ob hf
      refine r_gI hC hK hW cfX7 (by decide) wF_X11_160 rfl hv28 dX11_takes_32 ?_
      obtain ⟨q29, hq29, hf⟩ := ob hf
      refine k_vI hC hK hW cfX8 (c_X8_reaches l hAd (cv_s hq29).2) (cv_s hq29).1 my_X8_reaches wI_X8_reaches wQ_X8_reaches wM_X11_197 ⟨Nat.le_of_ble_eq_true rfl, Nat.le_of_ble_eq_true rfl⟩ rfl hl.1 rfl (Nat.le_of_ble_eq_true rfl) ⟨Nat.zero_le _, Nat.zero_le _⟩ dX11_takes_35 (fun H locs hW => ?_)
      refine lv_if_eq (tgt := 54) hx hb dX11_takes_38 (by decide) (fun c38 => ?_) (fun c38 => ?_)
      · have hf := it c38 hf
        refine lv_bipush (v := (-2 : Int32)) hx hb dX11_takes_54 (by decide) ?_
        exact r_iret hC hr hlk hW hf dX11_takes_56
      · have hf := ie c38 hf
        refine lv_aload_n hx hb dX11_takes_41 rfl (lv_at hl 0 rfl) ?_
        obtain ⟨r30, hr30, hf⟩ := ob hf
        refine r_gR hC hK hW cfX11 (by decide) wF_X11_46 rfl hr30 dX11_takes_42 ?_
        obtain ⟨r31, hr31, hf⟩ := ob hf
        refine r_gR hC hK hW cfX7 (by decide) wF_X11_151 rfl hr31 dX11_takes_45 ?_
        refine lv_iload_n hx hb dX11_takes_48 rfl (lv_at hl 2 rfl) ?_
        obtain ⟨v32, hv32, hf⟩ := ob hf
        refine r_aI hC hK hW hv32 dX11_takes_49 ?_
        refine lv_iconst (v := (1 : Int32)) hx hb dX11_takes_50 (by decide) ?_
        refine lv_icmp_ge (tgt := 57) hx hb dX11_takes_51 (by decide) (fun c51 => ?_) (fun c51 => ?_)
        · have hf := it c51 hf
          refine lv_aload_n hx hb dX11_takes_57 rfl (lv_at hl 0 rfl) ?_
          obtain ⟨q33, hq33, hf⟩ := ob hf
          refine k_vV hC hK hW cfX11 (c_X11_remember l hAd (cv_s hq33).2) (cv_s hq33).1 my_X11_remember wI_X11_remember wQ_X11_remember wM_X11_187 ⟨Nat.le_of_ble_eq_true rfl, Nat.le_of_ble_eq_true rfl⟩ rfl hl.1 rfl (Nat.le_of_ble_eq_true rfl) ⟨Nat.zero_le _, Nat.zero_le _⟩ dX11_takes_58 (fun H locs hW => ?_)
          refine lv_aload_n hx hb dX11_takes_61 rfl (lv_at hl 0 rfl) ?_
          obtain ⟨r34, hr34, hf⟩ := ob hf
          refine r_gR hC hK hW cfX11 (by decide) wF_X11_46 rfl hr34 dX11_takes_62 ?_
          obtain ⟨r35, hr35, hf⟩ := ob hf
          refine r_gR hC hK hW cfX7 (by decide) wF_X11_151 rfl hr35 dX11_takes_65 ?_
          refine lv_iload_n hx hb dX11_takes_68 rfl (lv_at hl 2 rfl) ?_
          refine lv_dup2_11 hx hb dX11_takes_69 rfl rfl ?_
          obtain ⟨v36, hv36, hf⟩ := ob hf
          refine r_aI hC hK hW hv36 dX11_takes_70 ?_
          refine lv_iconst (v := (1 : Int32)) hx hb dX11_takes_71 (by decide) ?_
          refine lv_isub hx hb dX11_takes_72 ?_
          obtain ⟨M37, hM37, hf⟩ := ob hf
          refine r_sI hC hK hAd hW hM37 dX11_takes_73 (fun H locs hW => ?_)
          refine lv_aload_n hx hb dX11_takes_74 rfl (lv_at hl 0 rfl) ?_
          obtain ⟨r38, hr38, hf⟩ := ob hf
          refine r_gR hC hK hW cfX11 (by decide) wF_X11_46 rfl hr38 dX11_takes_75 ?_
          obtain ⟨r39, hr39, hf⟩ := ob hf
          refine r_gR hC hK hW cfX7 (by decide) wF_X11_135 rfl hr39 dX11_takes_78 ?_
          refine lv_iload_n hx hb dX11_takes_81 rfl (lv_at hl 1 rfl) ?_
          refine lv_dup2_11 hx hb dX11_takes_82 rfl rfl ?_
          obtain ⟨v40, hv40, hf⟩ := ob hf
          refine r_aI hC hK hW hv40 dX11_takes_83 ?_
          refine lv_iconst (v := (1 : Int32)) hx hb dX11_takes_84 (by decide) ?_
          refine lv_iload_n hx hb dX11_takes_85 rfl (lv_at hl 2 rfl) ?_
          refine lv_ishl hx hb dX11_takes_86 ?_
          refine lv_ior hx hb dX11_takes_87 ?_
          obtain ⟨M41, hM41, hf⟩ := ob hf
          refine r_sI hC hK hAd hW hM41 dX11_takes_88 (fun H locs hW => ?_)
          refine lv_aload_n hx hb dX11_takes_89 rfl (lv_at hl 0 rfl) ?_
          obtain ⟨r42, hr42, hf⟩ := ob hf
          refine r_gR hC hK hW cfX11 (by decide) wF_X11_46 rfl hr42 dX11_takes_90 ?_
          obtain ⟨r43, hr43, hf⟩ := ob hf
          refine r_gR hC hK hW cfX7 (by decide) wF_X11_151 rfl hr43 dX11_takes_93 ?_
          refine lv_iload_n hx hb dX11_takes_96 rfl (lv_at hl 2 rfl) ?_
          obtain ⟨v44, hv44, hf⟩ := ob hf
          refine r_aI hC hK hW hv44 dX11_takes_97 ?_
          exact r_iret hC hr hlk hW hf dX11_takes_98
        · have hf := ie c51 hf
          refine lv_bipush (v := (-2 : Int32)) hx hb dX11_takes_54 (by decide) ?_
          exact r_iret hC hr hlk hW hf dX11_takes_56
    · have hf := it c13 hf
      refine lv_iconst (v := (-1 : Int32)) hx hb dX11_takes_16 (by decide) ?_
      exact r_iret hC hr hlk hW hf dX11_takes_17
set_option maxHeartbeats 4000000 in
set_option maxRecDepth 100000 in
theorem c_X11_trace (l : Launch) {D : va_G} {cA : Nat → ClassId} {ad : Nat → Nat} {A : Nat → Prop} (hAd : AdOk ad A) {a0 : Nat} {M0 : Mem} {q : Int64} (hf0 : f_X11_trace a0 M0 = some q) : Met l yX11_trace (wd yX11_trace cX11_trace 1 (some .long)) (rmD 0) (PcW D cA ad [.ref (ad a0)] M0) (QL D cA ad A q M0) 0 0 A := by
  refine mk_met (own := RX11) (by decide +kernel) rfl (Nat.le_of_ble_eq_true rfl) ?_
  intro p e s m args below meth c hC hr hlk hK H locs ls hW hl
  have hx := hC.1
  have hb := hC.2.1
  have hl : lv_has ls 1 [(0, .ref (ad a0))] := hl
  have hf := hf0
  unfold f_X11_trace at hf
  refine lv_aload_n hx hb dX11_trace_0 rfl (lv_at hl 0 rfl) ?_
  obtain ⟨r3, hr3, hf⟩ := ob hf
  refine r_gR hC hK hW cfX11 (by decide) wF_X11_26 rfl hr3 dX11_trace_1 ?_
  obtain ⟨v4, hv4, hf⟩ := ob hf
  refine r_gL hC hK hW cfX0 (by decide) wF_X11_266 rfl hv4 dX11_trace_4 ?_
  exact r_lretP hC hr hlk hW hf dX11_trace_7
set_option maxHeartbeats 4000000 in
set_option maxRecDepth 100000 in
theorem c_X11_type (l : Launch) {D : va_G} {cA : Nat → ClassId} {ad : Nat → Nat} {A : Nat → Prop} (hAd : AdOk ad A) {a0 : Nat} {a1 : Int32} {M0 : Mem} {q : (Int32 × Mem)} (hf0 : f_X11_type a0 a1 M0 = some q) : Met l yX11_type (wd yX11_type cX11_type 2 (some .int)) (rmD 0) (PcW D cA ad [.ref (ad a0), .int a1] M0) (QI D cA ad A q.1 q.2) 0 0 A := by
  refine mk_met (own := RX11) (by decide +kernel) rfl (Nat.le_of_ble_eq_true rfl) ?_
  intro p e s m args below meth c hC hr hlk hK H locs ls hW hl
  have hx := hC.1
  have hb := hC.2.1
  have hl : lv_has ls 2 [(0, .ref (ad a0)), (1, .int a1)] := hl
  have hf := hf0
  unfold f_X11_type at hf
  refine lv_iload_n hx hb dX11_type_0 rfl (lv_at hl 1 rfl) ?_
  refine lv_if_lt (tgt := 11) hx hb dX11_type_1 (by decide) (fun c1 => ?_) (fun c1 => ?_)
  · have hf := it c1 hf
    refine lv_iconst (v := (-1 : Int32)) hx hb dX11_type_11 (by decide) ?_
    exact r_iret hC hr hlk hW hf dX11_type_12
  · have hf := ie c1 hf
    refine lv_iload_n hx hb dX11_type_4 rfl (lv_at hl 1 rfl) ?_
    refine lv_sipush (v := (255 : Int32)) hx hb dX11_type_5 (by decide) ?_
    refine lv_icmp_le (tgt := 13) hx hb dX11_type_8 (by decide) (fun c8 => ?_) (fun c8 => ?_)
    · have hf := it c8 hf
      refine lv_aload_n hx hb dX11_type_13 rfl (lv_at hl 0 rfl) ?_
      obtain ⟨r13, hr13, hf⟩ := ob hf
      refine r_gR hC hK hW cfX11 (by decide) wF_X11_10 rfl hr13 dX11_type_14 ?_
      obtain ⟨v14, hv14, hf⟩ := ob hf
      refine r_gI hC hK hW cfX9 (by decide) wF_X11_93 rfl hv14 dX11_type_17 ?_
      refine lv_sipush (v := (140 : Int32)) hx hb dX11_type_20 (by decide) ?_
      refine lv_icmp_lt (tgt := 29) hx hb dX11_type_23 (by decide) (fun c23 => ?_) (fun c23 => ?_)
      · have hf := it c23 hf
        refine lv_aload_n hx hb dX11_type_29 rfl (lv_at hl 0 rfl) ?_
        obtain ⟨r15, hr15, hf⟩ := ob hf
        refine r_gR hC hK hW cfX11 (by decide) wF_X11_10 rfl hr15 dX11_type_30 ?_
        obtain ⟨r16, hr16, hf⟩ := ob hf
        refine r_gR hC hK hW cfX9 (by decide) wF_X11_97 rfl hr16 dX11_type_33 ?_
        refine lv_aload_n hx hb dX11_type_36 rfl (lv_at hl 0 rfl) ?_
        obtain ⟨r17, hr17, hf⟩ := ob hf
        refine r_gR hC hK hW cfX11 (by decide) wF_X11_10 rfl hr17 dX11_type_37 ?_
        obtain ⟨v18, hv18, hf⟩ := ob hf
        refine r_gI hC hK hW cfX9 (by decide) wF_X11_93 rfl hv18 dX11_type_40 ?_
        refine lv_iload_n hx hb dX11_type_43 rfl (lv_at hl 1 rfl) ?_
        refine lv_i2c (v := ((a1).toUInt32 % 65536).toInt32) hx hb dX11_type_44 rfl ?_
        obtain ⟨M19, hM19, hf⟩ := ob hf
        refine r_sC hC hK hAd hW hM19 dX11_type_45 (fun H locs hW => ?_)
        refine lv_aload_n hx hb dX11_type_46 rfl (lv_at hl 0 rfl) ?_
        obtain ⟨r20, hr20, hf⟩ := ob hf
        refine r_gR hC hK hW cfX11 (by decide) wF_X11_10 rfl hr20 dX11_type_47 ?_
        refine lv_dup hx hb dX11_type_50 rfl ?_
        obtain ⟨v21, hv21, hf⟩ := ob hf
        refine r_gI hC hK hW cfX9 (by decide) wF_X11_93 rfl hv21 dX11_type_51 ?_
        refine lv_iconst (v := (1 : Int32)) hx hb dX11_type_54 (by decide) ?_
        refine lv_iadd hx hb dX11_type_55 ?_
        obtain ⟨M22, hM22, hf⟩ := ob hf
        refine r_pI hC hK hAd hW cfX9 (by decide) wF_X11_93 rfl rfl rfl hM22 dX11_type_56 (fun H locs hW => ?_)
        refine lv_aload_n hx hb dX11_type_59 rfl (lv_at hl 0 rfl) ?_
        obtain ⟨r23, hr23, hf⟩ := ob hf
        refine r_gR hC hK hW cfX11 (by decide) wF_X11_10 rfl hr23 dX11_type_60 ?_
        obtain ⟨v24, hv24, hf⟩ := ob hf
        refine r_gI hC hK hW cfX9 (by decide) wF_X11_93 rfl hv24 dX11_type_63 ?_
        exact r_iret hC hr hlk hW hf dX11_type_66
      · have hf := ie c23 hf
        refine lv_bipush (v := (-3 : Int32)) hx hb dX11_type_26 (by decide) ?_
        exact r_iret hC hr hlk hW hf dX11_type_28
    · have hf := ie c8 hf
      refine lv_iconst (v := (-1 : Int32)) hx hb dX11_type_11 (by decide) ?_
      exact r_iret hC hr hlk hW hf dX11_type_12
set_option maxHeartbeats 4000000 in
set_option maxRecDepth 100000 in
theorem c_X11_undo (l : Launch) {D : va_G} {cA : Nat → ClassId} {ad : Nat → Nat} {A : Nat → Prop} (hAd : AdOk ad A) {a0 : Nat} {M0 : Mem} {q : (Int32 × Mem)} (hf0 : f_X11_undo a0 M0 = some q) : Met l yX11_undo (wd yX11_undo cX11_undo 1 (some .int)) (rmD 2) (PcW D cA ad [.ref (ad a0)] M0) (QI D cA ad A q.1 q.2) 0 0 A := by
  refine mk_met (own := RX11) (by decide +kernel) rfl (Nat.le_of_ble_eq_true rfl) ?_
  intro p e s m args below meth c hC hr hlk hK H locs ls hW hl
  have hx := hC.1
  have hb := hC.2.1
  have hl : lv_has ls 1 [(0, .ref (ad a0))] := hl
  have hf := hf0
  unfold f_X11_undo at hf
  refine lv_aload_n hx hb dX11_undo_0 rfl (lv_at hl 0 rfl) ?_
  obtain ⟨v10, hv10, hf⟩ := ob hf
  refine r_gI hC hK hW cfX11 (by decide) wF_X11_116 rfl hv10 dX11_undo_1 ?_
  refine lv_iconst (v := (1 : Int32)) hx hb dX11_undo_4 (by decide) ?_
  refine lv_icmp_ge (tgt := 11) hx hb dX11_undo_5 (by decide) (fun c5 => ?_) (fun c5 => ?_)
  · have hf := it c5 hf
    refine lv_aload_n hx hb dX11_undo_11 rfl (lv_at hl 0 rfl) ?_
    refine lv_dup hx hb dX11_undo_12 rfl ?_
    obtain ⟨v11, hv11, hf⟩ := ob hf
    refine r_gI hC hK hW cfX11 (by decide) wF_X11_116 rfl hv11 dX11_undo_13 ?_
    refine lv_iconst (v := (1 : Int32)) hx hb dX11_undo_16 (by decide) ?_
    refine lv_isub hx hb dX11_undo_17 ?_
    obtain ⟨M12, hM12, hf⟩ := ob hf
    refine r_pI hC hK hAd hW cfX11 (by decide) wF_X11_116 rfl rfl rfl hM12 dX11_undo_18 (fun H locs hW => ?_)
    refine lv_aload_n hx hb dX11_undo_21 rfl (lv_at hl 0 rfl) ?_
    obtain ⟨r13, hr13, hf⟩ := ob hf
    refine r_gR hC hK hW cfX11 (by decide) wF_X11_46 rfl hr13 dX11_undo_22 ?_
    refine lv_aload_n hx hb dX11_undo_25 rfl (lv_at hl 0 rfl) ?_
    obtain ⟨r14, hr14, hf⟩ := ob hf
    refine r_gR hC hK hW cfX11 (by decide) wF_X11_53 rfl hr14 dX11_undo_26 ?_
    refine lv_aload_n hx hb dX11_undo_29 rfl (lv_at hl 0 rfl) ?_
    obtain ⟨v15, hv15, hf⟩ := ob hf
    refine r_gI hC hK hW cfX11 (by decide) wF_X11_116 rfl hv15 dX11_undo_30 ?_
    obtain ⟨r16, hr16, hf⟩ := ob hf
    refine r_aR hC hK hW (by decide) hr16 dX11_undo_33 ?_
    obtain ⟨q17, hq17, hf⟩ := ob hf
    refine k_vV hC hK hW cfX7 (c_X7_become l hAd (cv_s hq17).2) (cv_s hq17).1 my_X7_become wI_X7_become wQ_X7_become wM_X11_112 ⟨Nat.le_of_ble_eq_true rfl, Nat.le_of_ble_eq_true rfl⟩ rfl hl.1 rfl (Nat.le_of_ble_eq_true rfl) ⟨Nat.zero_le _, Nat.zero_le _⟩ dX11_undo_34 (fun H locs hW => ?_)
    refine lv_aload_n hx hb dX11_undo_37 rfl (lv_at hl 0 rfl) ?_
    obtain ⟨v18, hv18, hf⟩ := ob hf
    refine r_gI hC hK hW cfX11 (by decide) wF_X11_116 rfl hv18 dX11_undo_38 ?_
    exact r_iret hC hr hlk hW hf dX11_undo_41
  · have hf := ie c5 hf
    refine lv_bipush (v := (-2 : Int32)) hx hb dX11_undo_8 (by decide) ?_
    exact r_iret hC hr hlk hW hf dX11_undo_10
