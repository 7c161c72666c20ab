set_option maxHeartbeats 4000000 in
set_option maxRecDepth 100000 in
theorem c_X9_isSmall (l : Launch) {D : va_G} {cA : Nat → ClassId} {ad : Nat → Nat} {A : Nat → Prop} (hAd : AdOk ad A) {a0 : Int32} {M0 : Mem} {q : Int32} (hf0 : f_X9_isSmall a0 M0 = some q) : Met l yX9_isSmall (wd yX9_isSmall cX9_isSmall 1 (some .boolean)) (rmD 0) (PcW D cA ad [.int a0] M0) (QI D cA ad A q M0) 0 0 A := by
  refine mk_met (own := RX9) (by decide +kernel) rfl (Nat.le_of_ble_eq_true rfl) ?_
  intro p e s m args below meth c hC hr hlk hK H locs ls hW hl
  have hx := hC.1
  have hb := hC.2.1
  have hl : lv_has ls 1 [(0, .int a0)] := hl
  have J16 : ∀    (H : Heap) (locs : List Loc) (ls : Array Slot) (hW : Wd D cA ad A s M0 H locs) (hl : lv_has ls 1 []) (hf : f_X9_isSmall_16    M0 = some q), W p l e (rmD 0) s m args below meth c H locs 0 0 (MQ below (QI D cA ad A q M0) args s 0 0 A) (F0 m 16 ls []) := by
    intro    H locs ls hW hl hf
    unfold f_X9_isSmall_16 at hf
    refine lv_iconst (v := (0 : Int32)) hx hb dX9_isSmall_16 (by decide) ?_
    exact r_zretP hC hr hlk hW hf dX9_isSmall_17
  have hf := hf0
  unfold f_X9_isSmall at hf
  refine lv_iload_n hx hb dX9_isSmall_0 rfl (lv_at hl 0 rfl) ?_
  refine lv_bipush (v := (97 : Int32)) hx hb dX9_isSmall_1 (by decide) ?_
  refine lv_icmp_lt (tgt := 16) hx hb dX9_isSmall_3 (by decide) (fun c3 => ?_) (fun c3 => ?_)
  · have hf := it c3 hf
    exact J16  _ _ _ hW (lv_sub hl [] rfl) hf
  · have hf := ie c3 hf
    refine lv_iload_n hx hb dX9_isSmall_6 rfl (lv_at hl 0 rfl) ?_
    refine lv_bipush (v := (122 : Int32)) hx hb dX9_isSmall_7 (by decide) ?_
    refine lv_icmp_gt (tgt := 16) hx hb dX9_isSmall_9 (by decide) (fun c9 => ?_) (fun c9 => ?_)
    · have hf := it c9 hf
      exact J16  _ _ _ hW (lv_sub hl [] rfl) hf
    · have hf := ie c9 hf
      refine lv_iconst (v := (1 : Int32)) hx hb dX9_isSmall_12 (by decide) ?_
      refine lv_goto (tgt := 17) hx hb dX9_isSmall_13 (by decide) ?_
      exact r_zretP hC hr hlk hW hf dX9_isSmall_17
set_option maxHeartbeats 4000000 in
set_option maxRecDepth 100000 in
theorem c_X9_nextWord (l : Launch) {D : va_G} {cA : Nat → ClassId} {ad : Nat → Nat} {A : Nat → Prop} (hAd : AdOk ad A) {a0 : Nat} {M0 : Mem} {q : Mem} (hf0 : f_X9_nextWord a0 M0 = some q) : Met l yX9_nextWord (wd yX9_nextWord cX9_nextWord 1 none) (rmD 1) (PcW D cA ad [.ref (ad a0)] M0) (QV D cA ad A q) 0 0 A := by
  refine mk_met (own := RX9) (by decide +kernel) rfl (Nat.le_of_ble_eq_true rfl) ?_
  intro p e s m args below meth c hC hr hlk hK H locs ls hW hl
  have hx := hC.1
  have hb := hC.2.1
  have hl : lv_has ls 1 [(0, .ref (ad a0))] := hl
  have B5 : ∀ (x0 : Nat)  (M : Mem)  (ag5 : Mem → Option Mem) (hg5 : ∀ (M : Mem) (H : Heap) (locs : List Loc) (ls : Array Slot) (_ : Wd D cA ad A s M H locs) (_ : lv_has ls 1 [(0, .ref (ad x0))]) (_ : ag5 M = some q), W p l e (rmD 1) s m args below meth c H locs 0 0 (MQ below (QV D cA ad A q) args s 0 0 A) (F0 m 5 ls [])) (H : Heap) (locs : List Loc) (ls : Array Slot) (hW : Wd D cA ad A s M H locs) (hl : lv_has ls 1 [(0, .ref (ad x0))]) (hf : f_X9_nextWord_5b  x0 ag5 M = some q), W p l e (rmD 1) s m args below meth c H locs 0 0 (MQ below (QV D cA ad A q) args s 0 0 A) (F0 m 5 ls []) := by
    intro x0 M  ag5 hg5 H locs ls hW hl hf
    unfold f_X9_nextWord_5b at hf
    refine lv_aload_n hx hb dX9_nextWord_5 rfl (lv_at hl 0 rfl) ?_
    obtain ⟨v9, hv9, hf⟩ := ob hf
    refine r_gI hC hK hW cfX9 (by decide) wF_X9_25 rfl hv9 dX9_nextWord_6 ?_
    refine lv_aload_n hx hb dX9_nextWord_9 rfl (lv_at hl 0 rfl) ?_
    obtain ⟨v10, hv10, hf⟩ := ob hf
    refine r_gI hC hK hW cfX9 (by decide) wF_X9_106 rfl hv10 dX9_nextWord_10 ?_
    refine lv_icmp_ge (tgt := 44) hx hb dX9_nextWord_13 (by decide) (fun c13 => ?_) (fun c13 => ?_)
    · have hf := it c13 hf
      exact r_vret hC hr hlk hW hf dX9_nextWord_44
    · have hf := ie c13 hf
      refine lv_aload_n hx hb dX9_nextWord_16 rfl (lv_at hl 0 rfl) ?_
      obtain ⟨r11, hr11, hf⟩ := ob hf
      refine r_gR hC hK hW cfX9 (by decide) wF_X9_9 rfl hr11 dX9_nextWord_17 ?_
      refine lv_aload_n hx hb dX9_nextWord_20 rfl (lv_at hl 0 rfl) ?_
      obtain ⟨v12, hv12, hf⟩ := ob hf
      refine r_gI hC hK hW cfX9 (by decide) wF_X9_25 rfl hv12 dX9_nextWord_21 ?_
      obtain ⟨v13, hv13, hf⟩ := ob hf
      refine r_aC hC hK hW hv13 dX9_nextWord_24 ?_
      obtain ⟨q14, hq14, hf⟩ := ob hf
      refine k_sI hC hK hW (c_X9_isSmall l hAd hq14) my_X9_isSmall wS_X9_isSmall wM_X9_109 ⟨Nat.le_of_ble_eq_true rfl, Nat.le_of_ble_eq_true rfl⟩ rfl hl.1 rfl (Nat.le_of_ble_eq_true rfl) ⟨Nat.zero_le _, Nat.zero_le _⟩ dX9_nextWord_25 (fun H locs hW => ?_)
      refine lv_if_eq (tgt := 44) hx hb dX9_nextWord_28 (by decide) (fun c28 => ?_) (fun c28 => ?_)
      · have hf := it c28 hf
        exact r_vret hC hr hlk hW hf dX9_nextWord_44
      · have hf := ie c28 hf
        refine lv_aload_n hx hb dX9_nextWord_31 rfl (lv_at hl 0 rfl) ?_
        refine lv_dup hx hb dX9_nextWord_32 rfl ?_
        obtain ⟨v15, hv15, hf⟩ := ob hf
        refine r_gI hC hK hW cfX9 (by decide) wF_X9_25 rfl hv15 dX9_nextWord_33 ?_
        refine lv_iconst (v := (1 : Int32)) hx hb dX9_nextWord_36 (by decide) ?_
        refine lv_iadd hx hb dX9_nextWord_37 ?_
        obtain ⟨M16, hM16, hf⟩ := ob hf
        refine r_pI hC hK hAd hW cfX9 (by decide) wF_X9_25 rfl rfl rfl hM16 dX9_nextWord_38 (fun H locs hW => ?_)
        refine lv_goto (tgt := 5) hx hb dX9_nextWord_41 (by decide) ?_
        exact hg5 M16 _ _ _ hW (lv_sub hl [0] rfl) hf
  have J5 : ∀ (x0 : Nat)  (M : Mem)  (H : Heap) (locs : List Loc) (ls : Array Slot) (hW : Wd D cA ad A s M H locs) (hl : lv_has ls 1 [(0, .ref (ad x0))]) (hf : f_X9_nextWord_5  x0 M = some q), W p l e (rmD 1) s m args below meth c H locs 0 0 (MQ below (QV D cA ad A q) args s 0 0 A) (F0 m 5 ls []) := by
    intro x0 M  H locs ls hW hl hf
    unfold f_X9_nextWord_5 at hf
    have key : ∀ (n : Nat)  (M : Mem) (H : Heap) (locs : List Loc) (ls : Array Slot) (hW : Wd D cA ad A s M H locs) (hl : lv_has ls 1 [(0, .ref (ad x0))]) (hf : loopF (fun ag s => f_X9_nextWord_5b  x0 ag s) n M = some q), W p l e (rmD 1) s m args below meth c H locs 0 0 (MQ below (QV D cA ad A q) args s 0 0 A) (F0 m 5 ls []) := by
      intro n
      induction n with
      | zero => intro M H locs ls hW hl hf; exact nomatch (show (none : Option _) = some _ from hf)
      | succ n ih => intro M H locs ls hW hl hf; exact B5 x0 M  _ ih H locs ls hW hl hf
    exact key FU M H locs ls hW hl hf
  have hf := hf0
  unfold f_X9_nextWord at hf
  refine lv_aload_n hx hb dX9_nextWord_0 rfl (lv_at hl 0 rfl) ?_
  refine lv_iconst (v := (1 : Int32)) hx hb dX9_nextWord_1 (by decide) ?_
  obtain ⟨M18, hM18, hf⟩ := ob hf
  refine r_pI hC hK hAd hW cfX9 (by decide) wF_X9_32 rfl rfl rfl hM18 dX9_nextWord_2 (fun H locs hW => ?_)
  exact J5 a0 M18 _ _ _ hW (lv_sub hl [0] rfl) hf
set_option maxHeartbeats 4000000 in
set_option maxRecDepth 100000 in
theorem c_X9_isDigit (l : Launch) {D : va_G} {cA : Nat → ClassId} {ad : Nat → Nat} {A : Nat → Prop} (hAd : AdOk ad A) {a0 : Int32} {M0 : Mem} {q : Int32} (hf0 : f_X9_isDigit a0 M0 = some q) : Met l yX9_isDigit (wd yX9_isDigit cX9_isDigit 1 (some .boolean)) (rmD 0) (PcW D cA ad [.int a0] M0) (QI D cA ad A q M0) 0 0 A := by
  refine mk_met (own := RX9) (by decide +kernel) rfl (Nat.le_of_ble_eq_true rfl) ?_
  intro p e s m args below meth c hC hr hlk hK H locs ls hW hl
  have hx := hC.1
  have hb := hC.2.1
  have hl : lv_has ls 1 [(0, .int a0)] := hl
  have J16 : ∀    (H : Heap) (locs : List Loc) (ls : Array Slot) (hW : Wd D cA ad A s M0 H locs) (hl : lv_has ls 1 []) (hf : f_X9_isDigit_16    M0 = some q), W p l e (rmD 0) s m args below meth c H locs 0 0 (MQ below (QI D cA ad A q M0) args s 0 0 A) (F0 m 16 ls []) := by
    intro    H locs ls hW hl hf
    unfold f_X9_isDigit_16 at hf
    refine lv_iconst (v := (0 : Int32)) hx hb dX9_isDigit_16 (by decide) ?_
    exact r_zretP hC hr hlk hW hf dX9_isDigit_17
  have hf := hf0
  unfold f_X9_isDigit at hf
  refine lv_iload_n hx hb dX9_isDigit_0 rfl (lv_at hl 0 rfl) ?_
  refine lv_bipush (v := (48 : Int32)) hx hb dX9_isDigit_1 (by decide) ?_
  refine lv_icmp_lt (tgt := 16) hx hb dX9_isDigit_3 (by decide) (fun c3 => ?_) (fun c3 => ?_)
  · have hf := it c3 hf
    exact J16  _ _ _ hW (lv_sub hl [] rfl) hf
  · have hf := ie c3 hf
    refine lv_iload_n hx hb dX9_isDigit_6 rfl (lv_at hl 0 rfl) ?_
    refine lv_bipush (v := (57 : Int32)) hx hb dX9_isDigit_7 (by decide) ?_
    refine lv_icmp_gt (tgt := 16) hx hb dX9_isDigit_9 (by decide) (fun c9 => ?_) (fun c9 => ?_)
    · have hf := it c9 hf
      exact J16  _ _ _ hW (lv_sub hl [] rfl) hf
    · have hf := ie c9 hf
      refine lv_iconst (v := (1 : Int32)) hx hb dX9_isDigit_12 (by decide) ?_
      refine lv_goto (tgt := 17) hx hb dX9_isDigit_13 (by decide) ?_
      exact r_zretP hC hr hlk hW hf dX9_isDigit_17
set_option maxHeartbeats 4000000 in
set_option maxRecDepth 100000 in
theorem c_X9_nextNumber (l : Launch) {D : va_G} {cA : Nat → ClassId} {ad : Nat → Nat} {A : Nat → Prop} (hAd : AdOk ad A) {a0 : Nat} {M0 : Mem} {q : Mem} (hf0 : f_X9_nextNumber a0 M0 = some q) : Met l yX9_nextNumber (wd yX9_nextNumber cX9_nextNumber 2 none) (rmD 1) (PcW D cA ad [.ref (ad a0)] M0) (QV D cA ad A q) 0 0 A := by
  refine mk_met (own := RX9) (by decide +kernel) rfl (Nat.le_of_ble_eq_true rfl) ?_
  intro p e s m args below meth c hC hr hlk hK H locs ls hW hl
  have hx := hC.1
  have hb := hC.2.1
  have hl : lv_has ls 2 [(0, .ref (ad a0))] := hl
  have J125 : ∀  (y0 : Nat) (y1 : Int32) (M : Mem)  (H : Heap) (locs : List Loc) (ls : Array Slot) (hW : Wd D cA ad A s M H locs) (hl : lv_has ls 2 []) (hf : f_X9_nextNumber_125   y0 y1 M = some q), W p l e (rmD 1) s m args below meth c H locs 0 0 (MQ below (QV D cA ad A q) args s 0 0 A) (F0 m 125 ls [.int y1, .ref (ad y0)]) := by
    intro  y0 y1 M  H locs ls hW hl hf
    unfold f_X9_nextNumber_125 at hf
    obtain ⟨M2, hM2, hf⟩ := ob hf
    refine r_pI hC hK hAd hW cfX9 (by decide) wF_X9_32 rfl rfl rfl hM2 dX9_nextNumber_125 (fun H locs hW => ?_)
    exact r_vret hC hr hlk hW hf dX9_nextNumber_128
  have J120 : ∀  (y0 : Nat) (M : Mem)  (H : Heap) (locs : List Loc) (ls : Array Slot) (hW : Wd D cA ad A s M H locs) (hl : lv_has ls 2 []) (hf : f_X9_nextNumber_120   y0 M = some q), W p l e (rmD 1) s m args below meth c H locs 0 0 (MQ below (QV D cA ad A q) args s 0 0 A) (F0 m 120 ls [.ref (ad y0)]) := by
    intro  y0 M  H locs ls hW hl hf
    unfold f_X9_nextNumber_120 at hf
    refine lv_iconst (v := (4 : Int32)) hx hb dX9_nextNumber_120 (by decide) ?_
    refine lv_goto (tgt := 125) hx hb dX9_nextNumber_121 (by decide) ?_
    exact J125 y0 (4 : Int32) M _ _ _ hW (lv_sub hl [] rfl) hf
  have J105 : ∀ (x0 : Nat) (y0 : Int32) (M : Mem)  (H : Heap) (locs : List Loc) (ls : Array Slot) (hW : Wd D cA ad A s M H locs) (hl : lv_has ls 2 [(0, .ref (ad x0))]) (hf : f_X9_nextNumber_105  x0 y0 M = some q), W p l e (rmD 1) s m args below meth c H locs 0 0 (MQ below (QV D cA ad A q) args s 0 0 A) (F0 m 105 ls [.int y0]) := by
    intro x0 y0 M  H locs ls hW hl hf
    unfold f_X9_nextNumber_105 at hf
    refine lv_istore_n (lv' := [(1, .int y0), (0, .ref (ad x0))]) hx hb dX9_nextNumber_105 rfl hl (by decide) rfl (fun ls hl => ?_)
    refine lv_aload_n hx hb dX9_nextNumber_106 rfl (lv_at hl 1 rfl) ?_
    refine lv_aload_n hx hb dX9_nextNumber_107 rfl (lv_at hl 1 rfl) ?_
    obtain ⟨v4, hv4, hf⟩ := ob hf
    refine r_gI hC hK hW cfX9 (by decide) wF_X9_66 rfl hv4 dX9_nextNumber_108 ?_
    refine lv_bipush (v := (99 : Int32)) hx hb dX9_nextNumber_111 (by decide) ?_
    refine lv_icmp_gt (tgt := 120) hx hb dX9_nextNumber_113 (by decide) (fun c113 => ?_) (fun c113 => ?_)
    · have hf := it c113 hf
      exact J120 x0 M _ _ _ hW (lv_sub hl [] rfl) hf
    · have hf := ie c113 hf
      refine lv_iload_n hx hb dX9_nextNumber_116 rfl (lv_at hl 0 rfl) ?_
      refine lv_if_eq (tgt := 124) hx hb dX9_nextNumber_117 (by decide) (fun c117 => ?_) (fun c117 => ?_)
      · have hf := it c117 hf
        refine lv_iconst (v := (2 : Int32)) hx hb dX9_nextNumber_124 (by decide) ?_
        exact J125 x0 (2 : Int32) M _ _ _ hW (lv_sub hl [] rfl) hf
      · have hf := ie c117 hf
        exact J120 x0 M _ _ _ hW (lv_sub hl [] rfl) hf
  have J104 : ∀ (x0 : Nat)  (M : Mem)  (H : Heap) (locs : List Loc) (ls : Array Slot) (hW : Wd D cA ad A s M H locs) (hl : lv_has ls 2 [(0, .ref (ad x0))]) (hf : f_X9_nextNumber_104  x0  M = some q), W p l e (rmD 1) s m args below meth c H locs 0 0 (MQ below (QV D cA ad A q) args s 0 0 A) (F0 m 104 ls []) := by
    intro x0  M  H locs ls hW hl hf
    unfold f_X9_nextNumber_104 at hf
    refine lv_iconst (v := (0 : Int32)) hx hb dX9_nextNumber_104 (by decide) ?_
    exact J105 x0 (0 : Int32) M _ _ _ hW (lv_sub hl [0] rfl) hf
  have J73 : ∀ (x0 : Nat)  (M : Mem)  (H : Heap) (locs : List Loc) (ls : Array Slot) (hW : Wd D cA ad A s M H locs) (hl : lv_has ls 2 [(0, .ref (ad x0))]) (hf : f_X9_nextNumber_73  x0  M = some q), W p l e (rmD 1) s m args below meth c H locs 0 0 (MQ below (QV D cA ad A q) args s 0 0 A) (F0 m 73 ls []) := by
    intro x0  M  H locs ls hW hl hf
    unfold f_X9_nextNumber_73 at hf
    refine lv_aload_n hx hb dX9_nextNumber_73 rfl (lv_at hl 0 rfl) ?_
    obtain ⟨r10, hr10, hf⟩ := ob hf
    refine r_gR hC hK hW cfX9 (by decide) wF_X9_9 rfl hr10 dX9_nextNumber_74 ?_
    refine lv_aload_n hx hb dX9_nextNumber_77 rfl (lv_at hl 0 rfl) ?_
    obtain ⟨v11, hv11, hf⟩ := ob hf
    refine r_gI hC hK hW cfX9 (by decide) wF_X9_39 rfl hv11 dX9_nextNumber_78 ?_
    obtain ⟨v12, hv12, hf⟩ := ob hf
    refine r_aC hC hK hW hv12 dX9_nextNumber_81 ?_
    refine lv_bipush (v := (48 : Int32)) hx hb dX9_nextNumber_82 (by decide) ?_
    refine lv_icmp_ne (tgt := 104) hx hb dX9_nextNumber_84 (by decide) (fun c84 => ?_) (fun c84 => ?_)
    · have hf := ie c84 hf
      exact J104 x0 M _ _ _ hW (lv_sub hl [0] rfl) hf
    · have hf := it c84 hf
      refine lv_aload_n hx hb dX9_nextNumber_87 rfl (lv_at hl 0 rfl) ?_
      obtain ⟨v13, hv13, hf⟩ := ob hf
      refine r_gI hC hK hW cfX9 (by decide) wF_X9_25 rfl hv13 dX9_nextNumber_88 ?_
      refine lv_aload_n hx hb dX9_nextNumber_91 rfl (lv_at hl 0 rfl) ?_
      obtain ⟨v14, hv14, hf⟩ := ob hf
      refine r_gI hC hK hW cfX9 (by decide) wF_X9_39 rfl hv14 dX9_nextNumber_92 ?_
      refine lv_isub hx hb dX9_nextNumber_95 ?_
      refine lv_iconst (v := (1 : Int32)) hx hb dX9_nextNumber_96 (by decide) ?_
      refine lv_icmp_le (tgt := 104) hx hb dX9_nextNumber_97 (by decide) (fun c97 => ?_) (fun c97 => ?_)
      · have hf := it c97 hf
        exact J104 x0 M _ _ _ hW (lv_sub hl [0] rfl) hf
      · have hf := ie c97 hf
        refine lv_iconst (v := (1 : Int32)) hx hb dX9_nextNumber_100 (by decide) ?_
        refine lv_goto (tgt := 105) hx hb dX9_nextNumber_101 (by decide) ?_
        exact J105 x0 (1 : Int32) M _ _ _ hW (lv_sub hl [0] rfl) hf
  have B5 : ∀ (x0 : Nat)  (M : Mem)  (ag5 : Mem → Option Mem) (hg5 : ∀ (M : Mem) (H : Heap) (locs : List Loc) (ls : Array Slot) (_ : Wd D cA ad A s M H locs) (_ : lv_has ls 2 [(0, .ref (ad x0))]) (_ : ag5 M = some q), W p l e (rmD 1) s m args below meth c H locs 0 0 (MQ below (QV D cA ad A q) args s 0 0 A) (F0 m 5 ls [])) (H : Heap) (locs : List Loc) (ls : Array Slot) (hW : Wd D cA ad A s M H locs) (hl : lv_has ls 2 [(0, .ref (ad x0))]) (hf : f_X9_nextNumber_5b  x0 ag5 M = some q), W p l e (rmD 1) s m args below meth c H locs 0 0 (MQ below (QV D cA ad A q) args s 0 0 A) (F0 m 5 ls []) := by
    intro x0 M  ag5 hg5 H locs ls hW hl hf
    unfold f_X9_nextNumber_5b at hf
    refine lv_aload_n hx hb dX9_nextNumber_5 rfl (lv_at hl 0 rfl) ?_
    obtain ⟨v28, hv28, hf⟩ := ob hf
    refine r_gI hC hK hW cfX9 (by decide) wF_X9_25 rfl hv28 dX9_nextNumber_6 ?_
    refine lv_aload_n hx hb dX9_nextNumber_9 rfl (lv_at hl 0 rfl) ?_
    obtain ⟨v29, hv29, hf⟩ := ob hf
    refine r_gI hC hK hW cfX9 (by decide) wF_X9_106 rfl hv29 dX9_nextNumber_10 ?_
    refine lv_icmp_ge (tgt := 73) hx hb dX9_nextNumber_13 (by decide) (fun c13 => ?_) (fun c13 => ?_)
    · have hf := it c13 hf
      exact J73 x0 M _ _ _ hW (lv_sub hl [0] rfl) hf
    · have hf := ie c13 hf
      refine lv_aload_n hx hb dX9_nextNumber_16 rfl (lv_at hl 0 rfl) ?_
      obtain ⟨r30, hr30, hf⟩ := ob hf
      refine r_gR hC hK hW cfX9 (by decide) wF_X9_9 rfl hr30 dX9_nextNumber_17 ?_
      refine lv_aload_n hx hb dX9_nextNumber_20 rfl (lv_at hl 0 rfl) ?_
      obtain ⟨v31, hv31, hf⟩ := ob hf
      refine r_gI hC hK hW cfX9 (by decide) wF_X9_25 rfl hv31 dX9_nextNumber_21 ?_
      obtain ⟨v32, hv32, hf⟩ := ob hf
      refine r_aC hC hK hW hv32 dX9_nextNumber_24 ?_
      obtain ⟨q33, hq33, hf⟩ := ob hf
      refine k_sI hC hK hW (c_X9_isDigit l hAd hq33) my_X9_isDigit wS_X9_isDigit wM_X9_115 ⟨Nat.le_of_ble_eq_true rfl, Nat.le_of_ble_eq_true rfl⟩ rfl hl.1 rfl (Nat.le_of_ble_eq_true rfl) ⟨Nat.zero_le _, Nat.zero_le _⟩ dX9_nextNumber_25 (fun H locs hW => ?_)
      refine lv_if_eq (tgt := 73) hx hb dX9_nextNumber_28 (by decide) (fun c28 => ?_) (fun c28 => ?_)
      · have hf := it c28 hf
        exact J73 x0 M _ _ _ hW (lv_sub hl [0] rfl) hf
      · have hf := ie c28 hf
        refine lv_aload_n hx hb dX9_nextNumber_31 rfl (lv_at hl 0 rfl) ?_
        refine lv_aload_n hx hb dX9_nextNumber_32 rfl (lv_at hl 0 rfl) ?_
        obtain ⟨v34, hv34, hf⟩ := ob hf
        refine r_gI hC hK hW cfX9 (by decide) wF_X9_66 rfl hv34 dX9_nextNumber_33 ?_
        refine lv_bipush (v := (10 : Int32)) hx hb dX9_nextNumber_36 (by decide) ?_
        refine lv_imul hx hb dX9_nextNumber_38 ?_
        refine lv_aload_n hx hb dX9_nextNumber_39 rfl (lv_at hl 0 rfl) ?_
        obtain ⟨r35, hr35, hf⟩ := ob hf
        refine r_gR hC hK hW cfX9 (by decide) wF_X9_9 rfl hr35 dX9_nextNumber_40 ?_
        refine lv_aload_n hx hb dX9_nextNumber_43 rfl (lv_at hl 0 rfl) ?_
        obtain ⟨v36, hv36, hf⟩ := ob hf
        refine r_gI hC hK hW cfX9 (by decide) wF_X9_25 rfl hv36 dX9_nextNumber_44 ?_
        obtain ⟨v37, hv37, hf⟩ := ob hf
        refine r_aC hC hK hW hv37 dX9_nextNumber_47 ?_
        refine lv_iadd hx hb dX9_nextNumber_48 ?_
        refine lv_bipush (v := (48 : Int32)) hx hb dX9_nextNumber_49 (by decide) ?_
        refine lv_isub hx hb dX9_nextNumber_51 ?_
        refine lv_bipush (v := (100 : Int32)) hx hb dX9_nextNumber_52 (by decide) ?_
        refine r_min hC wM_X9_121 hl.1 (Nat.le_of_ble_eq_true rfl) rfl rfl dX9_nextNumber_54 ?_
        obtain ⟨M38, hM38, hf⟩ := ob hf
        refine r_pI hC hK hAd hW cfX9 (by decide) wF_X9_66 rfl rfl rfl hM38 dX9_nextNumber_57 (fun H locs hW => ?_)
        refine lv_aload_n hx hb dX9_nextNumber_60 rfl (lv_at hl 0 rfl) ?_
        refine lv_dup hx hb dX9_nextNumber_61 rfl ?_
        obtain ⟨v39, hv39, hf⟩ := ob hf
        refine r_gI hC hK hW cfX9 (by decide) wF_X9_25 rfl hv39 dX9_nextNumber_62 ?_
        refine lv_iconst (v := (1 : Int32)) hx hb dX9_nextNumber_65 (by decide) ?_
        refine lv_iadd hx hb dX9_nextNumber_66 ?_
        obtain ⟨M40, hM40, hf⟩ := ob hf
        refine r_pI hC hK hAd hW cfX9 (by decide) wF_X9_25 rfl rfl rfl hM40 dX9_nextNumber_67 (fun H locs hW => ?_)
        refine lv_goto (tgt := 5) hx hb dX9_nextNumber_70 (by decide) ?_
        exact hg5 M40 _ _ _ hW (lv_sub hl [0] rfl) hf
  have J5 : ∀ (x0 : Nat)  (M : Mem)  (H : Heap) (locs : List Loc) (ls : Array Slot) (hW : Wd D cA ad A s M H locs) (hl : lv_has ls 2 [(0, .ref (ad x0))]) (hf : f_X9_nextNumber_5  x0 M = some q), W p l e (rmD 1) s m args below meth c H locs 0 0 (MQ below (QV D cA ad A q) args s 0 0 A) (F0 m 5 ls []) := by
    intro x0 M  H locs ls hW hl hf
    unfold f_X9_nextNumber_5 at hf
    have key : ∀ (n : Nat)  (M : Mem) (H : Heap) (locs : List Loc) (ls : Array Slot) (hW : Wd D cA ad A s M H locs) (hl : lv_has ls 2 [(0, .ref (ad x0))]) (hf : loopF (fun ag s => f_X9_nextNumber_5b  x0 ag s) n M = some q), W p l e (rmD 1) s m args below meth c H locs 0 0 (MQ below (QV D cA ad A q) args s 0 0 A) (F0 m 5 ls []) := by
      intro n
      induction n with
      | zero => intro M H locs ls hW hl hf; exact nomatch (show (none : Option _) = some _ from hf)
      | succ n ih => intro M H locs ls hW hl hf; exact B5 x0 M  _ ih H locs ls hW hl hf
    exact key FU M H locs ls hW hl hf
  have hf := hf0
  unfold f_X9_nextNumber at hf
  refine lv_aload_n hx hb dX9_nextNumber_0 rfl (lv_at hl 0 rfl) ?_
  refine lv_iconst (v := (0 : Int32)) hx hb dX9_nextNumber_1 (by decide) ?_
  obtain ⟨M42, hM42, hf⟩ := ob hf
  refine r_pI hC hK hAd hW cfX9 (by decide) wF_X9_66 rfl rfl rfl hM42 dX9_nextNumber_2 (fun H locs hW => ?_)
  exact J5 a0 M42 _ _ _ hW (lv_sub hl [0] rfl) hf
set_option maxHeartbeats 4000000 in
set_option maxRecDepth 100000 in
theorem c_X9_nextToken (l : Launch) {D : va_G} {cA : Nat → ClassId} {ad : Nat → Nat} {A : Nat → Prop} (hAd : AdOk ad A) {a0 : Nat} {M0 : Mem} {q : Mem} (hf0 : f_X9_nextToken a0 M0 = some q) : Met l yX9_nextToken (wd yX9_nextToken cX9_nextToken 1 none) (rmD 2) (PcW D cA ad [.ref (ad a0)] M0) (QV D cA ad A q) 0 0 A := by
  refine mk_met (own := RX9) (by decide +kernel) rfl (Nat.le_of_ble_eq_true rfl) ?_
  intro p e s m args below meth c hC hr hlk hK H locs ls hW hl
  have hx := hC.1
  have hb := hC.2.1
  have hl : lv_has ls 1 [(0, .ref (ad a0))] := hl
  have J137 : ∀ (x0 : Nat) (y0 : Nat) (y1 : Int32) (M : Mem)  (H : Heap) (locs : List Loc) (ls : Array Slot) (hW : Wd D cA ad A s M H locs) (hl : lv_has ls 1 [(0, .ref (ad x0))]) (hf : f_X9_nextToken_137  x0 y0 y1 M = some q), W p l e (rmD 2) s m args below meth c H locs 0 0 (MQ below (QV D cA ad A q) args s 0 0 A) (F0 m 137 ls [.int y1, .ref (ad y0)]) := by
    intro x0 y0 y1 M  H locs ls hW hl hf
    unfold f_X9_nextToken_137 at hf
    obtain ⟨M4, hM4, hf⟩ := ob hf
    refine r_pI hC hK hAd hW cfX9 (by decide) wF_X9_32 rfl rfl rfl hM4 dX9_nextToken_137 (fun H locs hW => ?_)
    refine lv_aload_n hx hb dX9_nextToken_140 rfl (lv_at hl 0 rfl) ?_
    refine lv_aload_n hx hb dX9_nextToken_141 rfl (lv_at hl 0 rfl) ?_
    obtain ⟨v5, hv5, hf⟩ := ob hf
    refine r_gI hC hK hW cfX9 (by decide) wF_X9_39 rfl hv5 dX9_nextToken_142 ?_
    refine lv_iconst (v := (1 : Int32)) hx hb dX9_nextToken_145 (by decide) ?_
    refine lv_iadd hx hb dX9_nextToken_146 ?_
    obtain ⟨M6, hM6, hf⟩ := ob hf
    refine r_pI hC hK hAd hW cfX9 (by decide) wF_X9_25 rfl rfl rfl hM6 dX9_nextToken_147 (fun H locs hW => ?_)
    exact r_vret hC hr hlk hW hf dX9_nextToken_150
  have J46 : ∀ (x0 : Nat)  (M : Mem)  (H : Heap) (locs : List Loc) (ls : Array Slot) (hW : Wd D cA ad A s M H locs) (hl : lv_has ls 1 [(0, .ref (ad x0))]) (hf : f_X9_nextToken_46  x0  M = some q), W p l e (rmD 2) s m args below meth c H locs 0 0 (MQ below (QV D cA ad A q) args s 0 0 A) (F0 m 46 ls []) := by
    intro x0  M  H locs ls hW hl hf
    unfold f_X9_nextToken_46 at hf
    refine lv_aload_n hx hb dX9_nextToken_46 rfl (lv_at hl 0 rfl) ?_
    refine lv_aload_n hx hb dX9_nextToken_47 rfl (lv_at hl 0 rfl) ?_
    obtain ⟨v25, hv25, hf⟩ := ob hf
    refine r_gI hC hK hW cfX9 (by decide) wF_X9_39 rfl hv25 dX9_nextToken_48 ?_
    obtain ⟨M26, hM26, hf⟩ := ob hf
    refine r_pI hC hK hAd hW cfX9 (by decide) wF_X9_25 rfl rfl rfl hM26 dX9_nextToken_51 (fun H locs hW => ?_)
    refine lv_aload_n hx hb dX9_nextToken_54 rfl (lv_at hl 0 rfl) ?_
    obtain ⟨v27, hv27, hf⟩ := ob hf
    refine r_gI hC hK hW cfX9 (by decide) wF_X9_39 rfl hv27 dX9_nextToken_55 ?_
    refine lv_aload_n hx hb dX9_nextToken_58 rfl (lv_at hl 0 rfl) ?_
    obtain ⟨v28, hv28, hf⟩ := ob hf
    refine r_gI hC hK hW cfX9 (by decide) wF_X9_106 rfl hv28 dX9_nextToken_59 ?_
    refine lv_icmp_lt (tgt := 73) hx hb dX9_nextToken_62 (by decide) (fun c62 => ?_) (fun c62 => ?_)
    · have hf := it c62 hf
      refine lv_aload_n hx hb dX9_nextToken_73 rfl (lv_at hl 0 rfl) ?_
      obtain ⟨r29, hr29, hf⟩ := ob hf
      refine r_gR hC hK hW cfX9 (by decide) wF_X9_9 rfl hr29 dX9_nextToken_74 ?_
      refine lv_aload_n hx hb dX9_nextToken_77 rfl (lv_at hl 0 rfl) ?_
      obtain ⟨v30, hv30, hf⟩ := ob hf
      refine r_gI hC hK hW cfX9 (by decide) wF_X9_39 rfl hv30 dX9_nextToken_78 ?_
      obtain ⟨v31, hv31, hf⟩ := ob hf
      refine r_aC hC hK hW hv31 dX9_nextToken_81 ?_
      obtain ⟨q32, hq32, hf⟩ := ob hf
      refine k_sI hC hK hW (c_X9_isSmall l hAd hq32) my_X9_isSmall wS_X9_isSmall wM_X9_109 ⟨Nat.le_of_ble_eq_true rfl, Nat.le_of_ble_eq_true rfl⟩ rfl hl.1 rfl (Nat.le_of_ble_eq_true rfl) ⟨Nat.zero_le _, Nat.zero_le _⟩ dX9_nextToken_82 (fun H locs hW => ?_)
      refine lv_if_eq (tgt := 95) hx hb dX9_nextToken_85 (by decide) (fun c85 => ?_) (fun c85 => ?_)
      · have hf := it c85 hf
        refine lv_aload_n hx hb dX9_nextToken_95 rfl (lv_at hl 0 rfl) ?_
        obtain ⟨r33, hr33, hf⟩ := ob hf
        refine r_gR hC hK hW cfX9 (by decide) wF_X9_9 rfl hr33 dX9_nextToken_96 ?_
        refine lv_aload_n hx hb dX9_nextToken_99 rfl (lv_at hl 0 rfl) ?_
        obtain ⟨v34, hv34, hf⟩ := ob hf
        refine r_gI hC hK hW cfX9 (by decide) wF_X9_39 rfl hv34 dX9_nextToken_100 ?_
        obtain ⟨v35, hv35, hf⟩ := ob hf
        refine r_aC hC hK hW hv35 dX9_nextToken_103 ?_
        obtain ⟨q36, hq36, hf⟩ := ob hf
        refine k_sI hC hK hW (c_X9_isDigit l hAd hq36) my_X9_isDigit wS_X9_isDigit wM_X9_115 ⟨Nat.le_of_ble_eq_true rfl, Nat.le_of_ble_eq_true rfl⟩ rfl hl.1 rfl (Nat.le_of_ble_eq_true rfl) ⟨Nat.zero_le _, Nat.zero_le _⟩ dX9_nextToken_104 (fun H locs hW => ?_)
        refine lv_if_eq (tgt := 117) hx hb dX9_nextToken_107 (by decide) (fun c107 => ?_) (fun c107 => ?_)
        · have hf := it c107 hf
          refine lv_aload_n hx hb dX9_nextToken_117 rfl (lv_at hl 0 rfl) ?_
          refine lv_aload_n hx hb dX9_nextToken_118 rfl (lv_at hl 0 rfl) ?_
          obtain ⟨r37, hr37, hf⟩ := ob hf
          refine r_gR hC hK hW cfX9 (by decide) wF_X9_9 rfl hr37 dX9_nextToken_119 ?_
          refine lv_aload_n hx hb dX9_nextToken_122 rfl (lv_at hl 0 rfl) ?_
          obtain ⟨v38, hv38, hf⟩ := ob hf
          refine r_gI hC hK hW cfX9 (by decide) wF_X9_39 rfl hv38 dX9_nextToken_123 ?_
          obtain ⟨v39, hv39, hf⟩ := ob hf
          refine r_aC hC hK hW hv39 dX9_nextToken_126 ?_
          refine lv_bipush (v := (59 : Int32)) hx hb dX9_nextToken_127 (by decide) ?_
          refine lv_icmp_ne (tgt := 136) hx hb dX9_nextToken_129 (by decide) (fun c129 => ?_) (fun c129 => ?_)
          · have hf := ie c129 hf
            refine lv_iconst (v := (4 : Int32)) hx hb dX9_nextToken_136 (by decide) ?_
            exact J137 x0 x0 (4 : Int32) M26 _ _ _ hW (lv_sub hl [0] rfl) hf
          · have hf := it c129 hf
            refine lv_iconst (v := (3 : Int32)) hx hb dX9_nextToken_132 (by decide) ?_
            refine lv_goto (tgt := 137) hx hb dX9_nextToken_133 (by decide) ?_
            exact J137 x0 x0 (3 : Int32) M26 _ _ _ hW (lv_sub hl [0] rfl) hf
        · have hf := ie c107 hf
          refine lv_aload_n hx hb dX9_nextToken_110 rfl (lv_at hl 0 rfl) ?_
          obtain ⟨q40, hq40, hf⟩ := ob hf
          refine k_vV hC hK hW cfX9 (c_X9_nextNumber l hAd (cv_s hq40).2) (cv_s hq40).1 my_X9_nextNumber wI_X9_nextNumber wQ_X9_nextNumber wM_X9_118 ⟨Nat.le_of_ble_eq_true rfl, Nat.le_of_ble_eq_true rfl⟩ rfl hl.1 rfl (Nat.le_of_ble_eq_true rfl) ⟨Nat.zero_le _, Nat.zero_le _⟩ dX9_nextToken_111 (fun H locs hW => ?_)
          refine lv_goto (tgt := 150) hx hb dX9_nextToken_114 (by decide) ?_
          exact r_vret hC hr hlk hW hf dX9_nextToken_150
      · have hf := ie c85 hf
        refine lv_aload_n hx hb dX9_nextToken_88 rfl (lv_at hl 0 rfl) ?_
        obtain ⟨q41, hq41, hf⟩ := ob hf
        refine k_vV hC hK hW cfX9 (c_X9_nextWord l hAd (cv_s hq41).2) (cv_s hq41).1 my_X9_nextWord wI_X9_nextWord wQ_X9_nextWord wM_X9_112 ⟨Nat.le_of_ble_eq_true rfl, Nat.le_of_ble_eq_true rfl⟩ rfl hl.1 rfl (Nat.le_of_ble_eq_true rfl) ⟨Nat.zero_le _, Nat.zero_le _⟩ dX9_nextToken_89 (fun H locs hW => ?_)
        refine lv_goto (tgt := 150) hx hb dX9_nextToken_92 (by decide) ?_
        exact r_vret hC hr hlk hW hf dX9_nextToken_150
    · have hf := ie c62 hf
      refine lv_aload_n hx hb dX9_nextToken_65 rfl (lv_at hl 0 rfl) ?_
      refine lv_iconst (v := (0 : Int32)) hx hb dX9_nextToken_66 (by decide) ?_
      obtain ⟨M42, hM42, hf⟩ := ob hf
      refine r_pI hC hK hAd hW cfX9 (by decide) wF_X9_32 rfl rfl rfl hM42 dX9_nextToken_67 (fun H locs hW => ?_)
      refine lv_goto (tgt := 150) hx hb dX9_nextToken_70 (by decide) ?_
      exact r_vret hC hr hlk hW hf dX9_nextToken_150
  have B8 : ∀ (x0 : Nat)  (M : Mem)  (ag8 : Mem → Option Mem) (hg8 : ∀ (M : Mem) (H : Heap) (locs : List Loc) (ls : Array Slot) (_ : Wd D cA ad A s M H locs) (_ : lv_has ls 1 [(0, .ref (ad x0))]) (_ : ag8 M = some q), W p l e (rmD 2) s m args below meth c H locs 0 0 (MQ below (QV D cA ad A q) args s 0 0 A) (F0 m 8 ls [])) (H : Heap) (locs : List Loc) (ls : Array Slot) (hW : Wd D cA ad A s M H locs) (hl : lv_has ls 1 [(0, .ref (ad x0))]) (hf : f_X9_nextToken_8b  x0 ag8 M = some q), W p l e (rmD 2) s m args below meth c H locs 0 0 (MQ below (QV D cA ad A q) args s 0 0 A) (F0 m 8 ls []) := by
    intro x0 M  ag8 hg8 H locs ls hW hl hf
    unfold f_X9_nextToken_8b at hf
    refine lv_aload_n hx hb dX9_nextToken_8 rfl (lv_at hl 0 rfl) ?_
    obtain ⟨v50, hv50, hf⟩ := ob hf
    refine r_gI hC hK hW cfX9 (by decide) wF_X9_39 rfl hv50 dX9_nextToken_9 ?_
    refine lv_aload_n hx hb dX9_nextToken_12 rfl (lv_at hl 0 rfl) ?_
    obtain ⟨v51, hv51, hf⟩ := ob hf
    refine r_gI hC hK hW cfX9 (by decide) wF_X9_106 rfl hv51 dX9_nextToken_13 ?_
    refine lv_icmp_ge (tgt := 46) hx hb dX9_nextToken_16 (by decide) (fun c16 => ?_) (fun c16 => ?_)
    · have hf := it c16 hf
      exact J46 x0 M _ _ _ hW (lv_sub hl [0] rfl) hf
    · have hf := ie c16 hf
      refine lv_aload_n hx hb dX9_nextToken_19 rfl (lv_at hl 0 rfl) ?_
      obtain ⟨r52, hr52, hf⟩ := ob hf
      refine r_gR hC hK hW cfX9 (by decide) wF_X9_9 rfl hr52 dX9_nextToken_20 ?_
      refine lv_aload_n hx hb dX9_nextToken_23 rfl (lv_at hl 0 rfl) ?_
      obtain ⟨v53, hv53, hf⟩ := ob hf
      refine r_gI hC hK hW cfX9 (by decide) wF_X9_39 rfl hv53 dX9_nextToken_24 ?_
      obtain ⟨v54, hv54, hf⟩ := ob hf
      refine r_aC hC hK hW hv54 dX9_nextToken_27 ?_
      refine lv_bipush (v := (32 : Int32)) hx hb dX9_nextToken_28 (by decide) ?_
      refine lv_icmp_ne (tgt := 46) hx hb dX9_nextToken_30 (by decide) (fun c30 => ?_) (fun c30 => ?_)
      · have hf := ie c30 hf
        exact J46 x0 M _ _ _ hW (lv_sub hl [0] rfl) hf
      · have hf := it c30 hf
        refine lv_aload_n hx hb dX9_nextToken_33 rfl (lv_at hl 0 rfl) ?_
        refine lv_dup hx hb dX9_nextToken_34 rfl ?_
        obtain ⟨v55, hv55, hf⟩ := ob hf
        refine r_gI hC hK hW cfX9 (by decide) wF_X9_39 rfl hv55 dX9_nextToken_35 ?_
        refine lv_iconst (v := (1 : Int32)) hx hb dX9_nextToken_38 (by decide) ?_
        refine lv_iadd hx hb dX9_nextToken_39 ?_
        obtain ⟨M56, hM56, hf⟩ := ob hf
        refine r_pI hC hK hAd hW cfX9 (by decide) wF_X9_39 rfl rfl rfl hM56 dX9_nextToken_40 (fun H locs hW => ?_)
        refine lv_goto (tgt := 8) hx hb dX9_nextToken_43 (by decide) ?_
        exact hg8 M56 _ _ _ hW (lv_sub hl [0] rfl) hf
  have J8 : ∀ (x0 : Nat)  (M : Mem)  (H : Heap) (locs : List Loc) (ls : Array Slot) (hW : Wd D cA ad A s M H locs) (hl : lv_has ls 1 [(0, .ref (ad x0))]) (hf : f_X9_nextToken_8  x0 M = some q), W p l e (rmD 2) s m args below meth c H locs 0 0 (MQ below (QV D cA ad A q) args s 0 0 A) (F0 m 8 ls []) := by
    intro x0 M  H locs ls hW hl hf
    unfold f_X9_nextToken_8 at hf
    have key : ∀ (n : Nat)  (M : Mem) (H : Heap) (locs : List Loc) (ls : Array Slot) (hW : Wd D cA ad A s M H locs) (hl : lv_has ls 1 [(0, .ref (ad x0))]) (hf : loopF (fun ag s => f_X9_nextToken_8b  x0 ag s) n M = some q), W p l e (rmD 2) s m args below meth c H locs 0 0 (MQ below (QV D cA ad A q) args s 0 0 A) (F0 m 8 ls []) := by
      intro n
      induction n with
      | zero => intro M H locs ls hW hl hf; exact nomatch (show (none : Option _) = some _ from hf)
      | succ n ih => intro M H locs ls hW hl hf; exact B8 x0 M  _ ih H locs ls hW hl hf
    exact key FU M H locs ls hW hl hf
  have hf := hf0
  unfold f_X9_nextToken at hf
  refine lv_aload_n hx hb dX9_nextToken_0 rfl (lv_at hl 0 rfl) ?_
  refine lv_aload_n hx hb dX9_nextToken_1 rfl (lv_at hl 0 rfl) ?_
  obtain ⟨v59, hv59, hf⟩ := ob hf
  refine r_gI hC hK hW cfX9 (by decide) wF_X9_25 rfl hv59 dX9_nextToken_2 ?_
  obtain ⟨M60, hM60, hf⟩ := ob hf
  refine r_pI hC hK hAd hW cfX9 (by decide) wF_X9_39 rfl rfl rfl hM60 dX9_nextToken_5 (fun H locs hW => ?_)
  exact J8 a0 M60 _ _ _ hW (lv_sub hl [0] rfl) hf
set_option maxHeartbeats 4000000 in
set_option maxRecDepth 100000 in
theorem c_X9_isWord (l : Launch) {D : va_G} {cA : Nat → ClassId} {ad : Nat → Nat} {A : Nat → Prop} (hAd : AdOk ad A) {a0 : Nat} {a1 : Int32} {M0 : Mem} {q : Int32} (hf0 : f_X9_isWord a0 a1 M0 = some q) : Met l yX9_isWord (wd yX9_isWord cX9_isWord 2 (some .boolean)) (rmD 0) (PcW D cA ad [.ref (ad a0), .int a1] M0) (QI D cA ad A q M0) 0 0 A := by
  refine mk_met (own := RX9) (by decide +kernel) rfl (Nat.le_of_ble_eq_true rfl) ?_
  intro p e s m args below meth c hC hr hlk hK H locs ls hW hl
  have hx := hC.1
  have hb := hC.2.1
  have hl : lv_has ls 2 [(0, .ref (ad a0)), (1, .int a1)] := hl
  have J38 : ∀    (H : Heap) (locs : List Loc) (ls : Array Slot) (hW : Wd D cA ad A s M0 H locs) (hl : lv_has ls 2 []) (hf : f_X9_isWord_38    M0 = some q), W p l e (rmD 0) s m args below meth c H locs 0 0 (MQ below (QI D cA ad A q M0) args s 0 0 A) (F0 m 38 ls []) := by
    intro    H locs ls hW hl hf
    unfold f_X9_isWord_38 at hf
    refine lv_iconst (v := (0 : Int32)) hx hb dX9_isWord_38 (by decide) ?_
    exact r_zretP hC hr hlk hW hf dX9_isWord_39
  have hf := hf0
  unfold f_X9_isWord at hf
  refine lv_aload_n hx hb dX9_isWord_0 rfl (lv_at hl 0 rfl) ?_
  obtain ⟨v7, hv7, hf⟩ := ob hf
  refine r_gI hC hK hW cfX9 (by decide) wF_X9_32 rfl hv7 dX9_isWord_1 ?_
  refine lv_iconst (v := (1 : Int32)) hx hb dX9_isWord_4 (by decide) ?_
  refine lv_icmp_ne (tgt := 38) hx hb dX9_isWord_5 (by decide) (fun c5 => ?_) (fun c5 => ?_)
  · have hf := ie c5 hf
    exact J38  _ _ _ hW (lv_sub hl [] rfl) hf
  · have hf := it c5 hf
    refine lv_aload_n hx hb dX9_isWord_8 rfl (lv_at hl 0 rfl) ?_
    obtain ⟨v8, hv8, hf⟩ := ob hf
    refine r_gI hC hK hW cfX9 (by decide) wF_X9_25 rfl hv8 dX9_isWord_9 ?_
    refine lv_aload_n hx hb dX9_isWord_12 rfl (lv_at hl 0 rfl) ?_
    obtain ⟨v9, hv9, hf⟩ := ob hf
    refine r_gI hC hK hW cfX9 (by decide) wF_X9_39 rfl hv9 dX9_isWord_13 ?_
    refine lv_isub hx hb dX9_isWord_16 ?_
    refine lv_iconst (v := (1 : Int32)) hx hb dX9_isWord_17 (by decide) ?_
    refine lv_icmp_ne (tgt := 38) hx hb dX9_isWord_18 (by decide) (fun c18 => ?_) (fun c18 => ?_)
    · have hf := ie c18 hf
      exact J38  _ _ _ hW (lv_sub hl [] rfl) hf
    · have hf := it c18 hf
      refine lv_aload_n hx hb dX9_isWord_21 rfl (lv_at hl 0 rfl) ?_
      obtain ⟨r10, hr10, hf⟩ := ob hf
      refine r_gR hC hK hW cfX9 (by decide) wF_X9_9 rfl hr10 dX9_isWord_22 ?_
      refine lv_aload_n hx hb dX9_isWord_25 rfl (lv_at hl 0 rfl) ?_
      obtain ⟨v11, hv11, hf⟩ := ob hf
      refine r_gI hC hK hW cfX9 (by decide) wF_X9_39 rfl hv11 dX9_isWord_26 ?_
      obtain ⟨v12, hv12, hf⟩ := ob hf
      refine r_aC hC hK hW hv12 dX9_isWord_29 ?_
      refine lv_iload_n hx hb dX9_isWord_30 rfl (lv_at hl 1 rfl) ?_
      refine lv_icmp_ne (tgt := 38) hx hb dX9_isWord_31 (by decide) (fun c31 => ?_) (fun c31 => ?_)
      · have hf := ie c31 hf
        exact J38  _ _ _ hW (lv_sub hl [] rfl) hf
      · have hf := it c31 hf
        refine lv_iconst (v := (1 : Int32)) hx hb dX9_isWord_34 (by decide) ?_
        refine lv_goto (tgt := 39) hx hb dX9_isWord_35 (by decide) ?_
        exact r_zretP hC hr hlk hW hf dX9_isWord_39
set_option maxHeartbeats 4000000 in
set_option maxRecDepth 100000 in
theorem c_X9_readNumber (l : Launch) {D : va_G} {cA : Nat → ClassId} {ad : Nat → Nat} {A : Nat → Prop} (hAd : AdOk ad A) {a0 : Nat} {a1 : Int32} {a2 : Int32} {M0 : Mem} {q : (Int32 × Mem)} (hf0 : f_X9_readNumber a0 a1 a2 M0 = some q) : Met l yX9_readNumber (wd yX9_readNumber cX9_readNumber 3 (some .boolean)) (rmD 3) (PcW D cA ad [.ref (ad a0), .int a1, .int a2] M0) (QI D cA ad A q.1 q.2) 0 0 A := by
  refine mk_met (own := RX9) (by decide +kernel) rfl (Nat.le_of_ble_eq_true rfl) ?_
  intro p e s m args below meth c hC hr hlk hK H locs ls hW hl
  have hx := hC.1
  have hb := hC.2.1
  have hl : lv_has ls 3 [(0, .ref (ad a0)), (1, .int a1), (2, .int a2)] := hl
  have J32 : ∀   (M : Mem)  (H : Heap) (locs : List Loc) (ls : Array Slot) (hW : Wd D cA ad A s M H locs) (hl : lv_has ls 3 []) (hf : f_X9_readNumber_32    M = some q), W p l e (rmD 3) s m args below meth c H locs 0 0 (MQ below (QI D cA ad A q.1 q.2) args s 0 0 A) (F0 m 32 ls []) := by
    intro   M  H locs ls hW hl hf
    unfold f_X9_readNumber_32 at hf
    refine lv_iconst (v := (0 : Int32)) hx hb dX9_readNumber_32 (by decide) ?_
    exact r_zret hC hr hlk hW hf dX9_readNumber_33
  have hf := hf0
  unfold f_X9_readNumber at hf
  refine lv_aload_n hx hb dX9_readNumber_0 rfl (lv_at hl 0 rfl) ?_
  obtain ⟨q5, hq5, hf⟩ := ob hf
  refine k_vV hC hK hW cfX9 (c_X9_nextToken l hAd (cv_s hq5).2) (cv_s hq5).1 my_X9_nextToken wI_X9_nextToken wQ_X9_nextToken wM_X9_29 ⟨Nat.le_of_ble_eq_true rfl, Nat.le_of_ble_eq_true rfl⟩ rfl hl.1 rfl (Nat.le_of_ble_eq_true rfl) ⟨Nat.zero_le _, Nat.zero_le _⟩ dX9_readNumber_1 (fun H locs hW => ?_)
  refine lv_aload_n hx hb dX9_readNumber_4 rfl (lv_at hl 0 rfl) ?_
  obtain ⟨v6, hv6, hf⟩ := ob hf
  refine r_gI hC hK hW cfX9 (by decide) wF_X9_32 rfl hv6 dX9_readNumber_5 ?_
  refine lv_iconst (v := (2 : Int32)) hx hb dX9_readNumber_8 (by decide) ?_
  refine lv_icmp_ne (tgt := 32) hx hb dX9_readNumber_9 (by decide) (fun c9 => ?_) (fun c9 => ?_)
  · have hf := ie c9 hf
    exact J32 q5 _ _ _ hW (lv_sub hl [] rfl) hf
  · have hf := it c9 hf
    refine lv_aload_n hx hb dX9_readNumber_12 rfl (lv_at hl 0 rfl) ?_
    obtain ⟨v7, hv7, hf⟩ := ob hf
    refine r_gI hC hK hW cfX9 (by decide) wF_X9_66 rfl hv7 dX9_readNumber_13 ?_
    refine lv_iload_n hx hb dX9_readNumber_16 rfl (lv_at hl 1 rfl) ?_
    refine lv_icmp_lt (tgt := 32) hx hb dX9_readNumber_17 (by decide) (fun c17 => ?_) (fun c17 => ?_)
    · have hf := it c17 hf
      exact J32 q5 _ _ _ hW (lv_sub hl [] rfl) hf
    · have hf := ie c17 hf
      refine lv_aload_n hx hb dX9_readNumber_20 rfl (lv_at hl 0 rfl) ?_
      obtain ⟨v8, hv8, hf⟩ := ob hf
      refine r_gI hC hK hW cfX9 (by decide) wF_X9_66 rfl hv8 dX9_readNumber_21 ?_
      refine lv_iload_n hx hb dX9_readNumber_24 rfl (lv_at hl 2 rfl) ?_
      refine lv_icmp_gt (tgt := 32) hx hb dX9_readNumber_25 (by decide) (fun c25 => ?_) (fun c25 => ?_)
      · have hf := it c25 hf
        exact J32 q5 _ _ _ hW (lv_sub hl [] rfl) hf
      · have hf := ie c25 hf
        refine lv_iconst (v := (1 : Int32)) hx hb dX9_readNumber_28 (by decide) ?_
        refine lv_goto (tgt := 33) hx hb dX9_readNumber_29 (by decide) ?_
        exact r_zret hC hr hlk hW hf dX9_readNumber_33
set_option maxHeartbeats 4000000 in
set_option maxRecDepth 100000 in
theorem c_X9_readClose (l : Launch) {D : va_G} {cA : Nat → ClassId} {ad : Nat → Nat} {A : Nat → Prop} (hAd : AdOk ad A) {a0 : Nat} {M0 : Mem} {q : (Int32 × Mem)} (hf0 : f_X9_readClose a0 M0 = some q) : Met l yX9_readClose (wd yX9_readClose cX9_readClose 1 (some .boolean)) (rmD 3) (PcW D cA ad [.ref (ad a0)] M0) (QI D cA ad A q.1 q.2) 0 0 A := by
  refine mk_met (own := RX9) (by decide +kernel) rfl (Nat.le_of_ble_eq_true rfl) ?_
  intro p e s m args below meth c hC hr hlk hK H locs ls hW hl
  have hx := hC.1
  have hb := hC.2.1
  have hl : lv_has ls 1 [(0, .ref (ad a0))] := hl
  have hf := hf0
  unfold f_X9_readClose at hf
  refine lv_aload_n hx hb dX9_readClose_0 rfl (lv_at hl 0 rfl) ?_
  obtain ⟨q4, hq4, hf⟩ := ob hf
  refine k_vV hC hK hW cfX9 (c_X9_nextToken l hAd (cv_s hq4).2) (cv_s hq4).1 my_X9_nextToken wI_X9_nextToken wQ_X9_nextToken wM_X9_29 ⟨Nat.le_of_ble_eq_true rfl, Nat.le_of_ble_eq_true rfl⟩ rfl hl.1 rfl (Nat.le_of_ble_eq_true rfl) ⟨Nat.zero_le _, Nat.zero_le _⟩ dX9_readClose_1 (fun H locs hW => ?_)
  refine lv_aload_n hx hb dX9_readClose_4 rfl (lv_at hl 0 rfl) ?_
  obtain ⟨v5, hv5, hf⟩ := ob hf
  refine r_gI hC hK hW cfX9 (by decide) wF_X9_32 rfl hv5 dX9_readClose_5 ?_
  refine lv_iconst (v := (3 : Int32)) hx hb dX9_readClose_8 (by decide) ?_
  refine lv_icmp_eq (tgt := 14) hx hb dX9_readClose_9 (by decide) (fun c9 => ?_) (fun c9 => ?_)
  · have hf := it c9 hf
    refine lv_aload_n hx hb dX9_readClose_14 rfl (lv_at hl 0 rfl) ?_
    obtain ⟨q6, hq6, hf⟩ := ob hf
    refine k_vV hC hK hW cfX9 (c_X9_nextToken l hAd (cv_s hq6).2) (cv_s hq6).1 my_X9_nextToken wI_X9_nextToken wQ_X9_nextToken wM_X9_29 ⟨Nat.le_of_ble_eq_true rfl, Nat.le_of_ble_eq_true rfl⟩ rfl hl.1 rfl (Nat.le_of_ble_eq_true rfl) ⟨Nat.zero_le _, Nat.zero_le _⟩ dX9_readClose_15 (fun H locs hW => ?_)
    refine lv_iconst (v := (1 : Int32)) hx hb dX9_readClose_18 (by decide) ?_
    exact r_zret hC hr hlk hW hf dX9_readClose_19
  · have hf := ie c9 hf
    refine lv_iconst (v := (0 : Int32)) hx hb dX9_readClose_12 (by decide) ?_
    exact r_zret hC hr hlk hW hf dX9_readClose_13
set_option maxHeartbeats 4000000 in
set_option maxRecDepth 100000 in
theorem c_X9_readSeats (l : Launch) {D : va_G} {cA : Nat → ClassId} {ad : Nat → Nat} {A : Nat → Prop} (hAd : AdOk ad A) {a0 : Nat} {M0 : Mem} {q : (Int32 × Mem)} (hf0 : f_X9_readSeats a0 M0 = some q) : Met l yX9_readSeats (wd yX9_readSeats cX9_readSeats 1 (some .boolean)) (rmD 4) (PcW D cA ad [.ref (ad a0)] M0) (QI D cA ad A q.1 q.2) 0 0 A := by
  refine mk_met (own := RX9) (by decide +kernel) rfl (Nat.le_of_ble_eq_true rfl) ?_
  intro p e s m args below meth c hC hr hlk hK H locs ls hW hl
  have hx := hC.1
  have hb := hC.2.1
  have hl : lv_has ls 1 [(0, .ref (ad a0))] := hl
  have hf := hf0
  unfold f_X9_readSeats at hf
  refine lv_aload_n hx hb dX9_readSeats_0 rfl (lv_at hl 0 rfl) ?_
  refine lv_iconst (v := (3 : Int32)) hx hb dX9_readSeats_1 (by decide) ?_
  refine lv_bipush (v := (9 : Int32)) hx hb dX9_readSeats_2 (by decide) ?_
  obtain ⟨q6, hq6, hf⟩ := ob hf
  refine k_vI hC hK hW cfX9 (c_X9_readNumber l hAd (cv_s hq6).2) (cv_s hq6).1 my_X9_readNumber wI_X9_readNumber wQ_X9_readNumber wM_X9_62 ⟨Nat.le_of_ble_eq_true rfl, Nat.le_of_ble_eq_true rfl⟩ rfl hl.1 rfl (Nat.le_of_ble_eq_true rfl) ⟨Nat.zero_le _, Nat.zero_le _⟩ dX9_readSeats_4 (fun H locs hW => ?_)
  refine lv_if_ne (tgt := 12) hx hb dX9_readSeats_7 (by decide) (fun c7 => ?_) (fun c7 => ?_)
  · have hf := ie c7 hf
    refine lv_aload_n hx hb dX9_readSeats_12 rfl (lv_at hl 0 rfl) ?_
    obtain ⟨r7, hr7, hf⟩ := ob hf
    refine r_gR hC hK hW cfX9 (by decide) wF_X9_18 rfl hr7 dX9_readSeats_13 ?_
    refine lv_aload_n hx hb dX9_readSeats_16 rfl (lv_at hl 0 rfl) ?_
    obtain ⟨v8, hv8, hf⟩ := ob hf
    refine r_gI hC hK hW cfX9 (by decide) wF_X9_66 rfl hv8 dX9_readSeats_17 ?_
    obtain ⟨M9, hM9, hf⟩ := ob hf
    refine r_pI hC hK hAd hW cfX8 (by decide) wF_X9_69 rfl rfl rfl hM9 dX9_readSeats_20 (fun H locs hW => ?_)
    refine lv_aload_n hx hb dX9_readSeats_23 rfl (lv_at hl 0 rfl) ?_
    obtain ⟨q10, hq10, hf⟩ := ob hf
    refine k_vI hC hK hW cfX9 (c_X9_readClose l hAd (cv_s hq10).2) (cv_s hq10).1 my_X9_readClose wI_X9_readClose wQ_X9_readClose wM_X9_72 ⟨Nat.le_of_ble_eq_true rfl, Nat.le_of_ble_eq_true rfl⟩ rfl hl.1 rfl (Nat.le_of_ble_eq_true rfl) ⟨Nat.zero_le _, Nat.zero_le _⟩ dX9_readSeats_24 (fun H locs hW => ?_)
    exact r_zret hC hr hlk hW hf dX9_readSeats_27
  · have hf := it c7 hf
    refine lv_iconst (v := (0 : Int32)) hx hb dX9_readSeats_10 (by decide) ?_
    exact r_zret hC hr hlk hW hf dX9_readSeats_11
set_option maxHeartbeats 4000000 in
set_option maxRecDepth 100000 in
theorem c_X9_isAmong (l : Launch) {D : va_G} {cA : Nat → ClassId} {ad : Nat → Nat} {A : Nat → Prop} (hAd : AdOk ad A) {a0 : Nat} {a1 : Nat} {a2 : Int32} {M0 : Mem} {q : Int32} (hf0 : f_X9_isAmong a0 a1 a2 M0 = some q) : Met l yX9_isAmong (wd yX9_isAmong cX9_isAmong 4 (some .boolean)) (rmD 0) (PcW D cA ad [.ref (ad a0), .ref (ad a1), .int a2] M0) (QI D cA ad A q M0) 0 0 A := by
  refine mk_met (own := RX9) (by decide +kernel) rfl (Nat.le_of_ble_eq_true rfl) ?_
  intro p e s m args below meth c hC hr hlk hK H locs ls hW hl
  have hx := hC.1
  have hb := hC.2.1
  have hl : lv_has ls 4 [(0, .ref (ad a0)), (1, .ref (ad a1)), (2, .int a2)] := hl
  have B2 : ∀ (x0 : Nat) (x1 : Nat) (x2 : Int32) (x3 : Int32)  (ag2 : Int32 → Option Int32) (hg2 : ∀ (x3 : Int32) (H : Heap) (locs : List Loc) (ls : Array Slot) (_ : Wd D cA ad A s M0 H locs) (_ : lv_has ls 4 [(0, .ref (ad x0)), (1, .ref (ad x1)), (2, .int x2), (3, .int x3)]) (_ : ag2 x3 = some q), W p l e (rmD 0) s m args below meth c H locs 0 0 (MQ below (QI D cA ad A q M0) args s 0 0 A) (F0 m 2 ls [])) (H : Heap) (locs : List Loc) (ls : Array Slot) (hW : Wd D cA ad A s M0 H locs) (hl : lv_has ls 4 [(0, .ref (ad x0)), (1, .ref (ad x1)), (2, .int x2), (3, .int x3)]) (hf : f_X9_isAmong_2b  x0 x1 x2 M0 ag2 x3 = some q), W p l e (rmD 0) s m args below meth c H locs 0 0 (MQ below (QI D cA ad A q M0) args s 0 0 A) (F0 m 2 ls []) := by
    intro x0 x1 x2 x3  ag2 hg2 H locs ls hW hl hf
    unfold f_X9_isAmong_2b at hf
    refine lv_iload_n hx hb dX9_isAmong_2 rfl (lv_at hl 3 rfl) ?_
    refine lv_iload_n hx hb dX9_isAmong_3 rfl (lv_at hl 2 rfl) ?_
    refine lv_icmp_ge (tgt := 31) hx hb dX9_isAmong_4 (by decide) (fun c4 => ?_) (fun c4 => ?_)
    · have hf := it c4 hf
      refine lv_iconst (v := (0 : Int32)) hx hb dX9_isAmong_31 (by decide) ?_
      exact r_zretP hC hr hlk hW hf dX9_isAmong_32
    · have hf := ie c4 hf
      refine lv_iload_n hx hb dX9_isAmong_7 rfl (lv_at hl 3 rfl) ?_
      refine lv_aload_n hx hb dX9_isAmong_8 rfl (lv_at hl 1 rfl) ?_
      obtain ⟨v4, hv4, hf⟩ := ob hf
      refine r_aL hC hK hW hv4 dX9_isAmong_9 ?_
      refine lv_icmp_ge (tgt := 31) hx hb dX9_isAmong_10 (by decide) (fun c10 => ?_) (fun c10 => ?_)
      · have hf := it c10 hf
        refine lv_iconst (v := (0 : Int32)) hx hb dX9_isAmong_31 (by decide) ?_
        exact r_zretP hC hr hlk hW hf dX9_isAmong_32
      · have hf := ie c10 hf
        refine lv_aload_n hx hb dX9_isAmong_13 rfl (lv_at hl 1 rfl) ?_
        refine lv_iload_n hx hb dX9_isAmong_14 rfl (lv_at hl 3 rfl) ?_
        obtain ⟨v5, hv5, hf⟩ := ob hf
        refine r_aI hC hK hW hv5 dX9_isAmong_15 ?_
        refine lv_aload_n hx hb dX9_isAmong_16 rfl (lv_at hl 0 rfl) ?_
        obtain ⟨v6, hv6, hf⟩ := ob hf
        refine r_gI hC hK hW cfX9 (by decide) wF_X9_66 rfl hv6 dX9_isAmong_17 ?_
        refine lv_icmp_ne (tgt := 25) hx hb dX9_isAmong_20 (by decide) (fun c20 => ?_) (fun c20 => ?_)
        · have hf := ie c20 hf
          refine lv_iinc (v := (x3 + (1 : Int32))) (lv' := [(3, .int (x3 + (1 : Int32))), (0, .ref (ad x0)), (1, .ref (ad x1)), (2, .int x2)]) hx hb dX9_isAmong_25 hl (k := 3) rfl rfl (by decide) rfl (fun ls hl => ?_)
          refine lv_goto (tgt := 2) hx hb dX9_isAmong_28 (by decide) ?_
          exact hg2 (x3 + (1 : Int32)) _ _ _ hW (lv_sub hl [1, 2, 3, 0] rfl) hf
        · have hf := it c20 hf
          refine lv_iconst (v := (1 : Int32)) hx hb dX9_isAmong_23 (by decide) ?_
          exact r_zretP hC hr hlk hW hf dX9_isAmong_24
  have J2 : ∀ (x0 : Nat) (x1 : Nat) (x2 : Int32) (x3 : Int32)  (H : Heap) (locs : List Loc) (ls : Array Slot) (hW : Wd D cA ad A s M0 H locs) (hl : lv_has ls 4 [(0, .ref (ad x0)), (1, .ref (ad x1)), (2, .int x2), (3, .int x3)]) (hf : f_X9_isAmong_2  x0 x1 x2 M0 x3 = some q), W p l e (rmD 0) s m args below meth c H locs 0 0 (MQ below (QI D cA ad A q M0) args s 0 0 A) (F0 m 2 ls []) := by
    intro x0 x1 x2 x3  H locs ls hW hl hf
    unfold f_X9_isAmong_2 at hf
    have key : ∀ (n : Nat) (x3 : Int32) (H : Heap) (locs : List Loc) (ls : Array Slot) (hW : Wd D cA ad A s M0 H locs) (hl : lv_has ls 4 [(0, .ref (ad x0)), (1, .ref (ad x1)), (2, .int x2), (3, .int x3)]) (hf : loopF (fun ag s => f_X9_isAmong_2b  x0 x1 x2 M0 ag s) n x3 = some q), W p l e (rmD 0) s m args below meth c H locs 0 0 (MQ below (QI D cA ad A q M0) args s 0 0 A) (F0 m 2 ls []) := by
      intro n
      induction n with
      | zero => intro x3 H locs ls hW hl hf; exact nomatch (show (none : Option _) = some _ from hf)
      | succ n ih => intro x3 H locs ls hW hl hf; exact B2 x0 x1 x2 x3  _ ih H locs ls hW hl hf
    exact key FU x3 H locs ls hW hl hf
  have hf := hf0
  unfold f_X9_isAmong at hf
  refine lv_iconst (v := (0 : Int32)) hx hb dX9_isAmong_0 (by decide) ?_
  refine lv_istore_n (lv' := [(3, .int (0 : Int32)), (0, .ref (ad a0)), (1, .ref (ad a1)), (2, .int a2)]) hx hb dX9_isAmong_1 rfl hl (by decide) rfl (fun ls hl => ?_)
  exact J2 a0 a1 a2 (0 : Int32) _ _ _ hW (lv_sub hl [1, 2, 3, 0] rfl) hf
set_option maxHeartbeats 4000000 in
set_option maxRecDepth 100000 in
theorem c_X9_readRow (l : Launch) {D : va_G} {cA : Nat → ClassId} {ad : Nat → Nat} {A : Nat → Prop} (hAd : AdOk ad A) {a0 : Nat} {M0 : Mem} {q : (Int32 × Mem)} (hf0 : f_X9_readRow a0 M0 = some q) : Met l yX9_readRow (wd yX9_readRow cX9_readRow 2 (some .boolean)) (rmD 3) (PcW D cA ad [.ref (ad a0)] M0) (QI D cA ad A q.1 q.2) 0 0 A := by
  refine mk_met (own := RX9) (by decide +kernel) rfl (Nat.le_of_ble_eq_true rfl) ?_
  intro p e s m args below meth c hC hr hlk hK H locs ls hW hl
  have hx := hC.1
  have hb := hC.2.1
  have hl : lv_has ls 2 [(0, .ref (ad a0))] := hl
  have B38 : ∀ (x0 : Nat) (x1 : Int32) (M : Mem)  (ag38 : Int32 × Mem → Option (Int32 × Mem)) (hg38 : ∀ (x1 : Int32) (M : Mem) (H : Heap) (locs : List Loc) (ls : Array Slot) (_ : Wd D cA ad A s M H locs) (_ : lv_has ls 2 [(0, .ref (ad x0)), (1, .int x1)]) (_ : ag38 (x1, M) = some q), W p l e (rmD 3) s m args below meth c H locs 0 0 (MQ below (QI D cA ad A q.1 q.2) args s 0 0 A) (F0 m 38 ls [])) (H : Heap) (locs : List Loc) (ls : Array Slot) (hW : Wd D cA ad A s M H locs) (hl : lv_has ls 2 [(0, .ref (ad x0)), (1, .int x1)]) (hf : f_X9_readRow_38b  x0 ag38 x1 M = some q), W p l e (rmD 3) s m args below meth c H locs 0 0 (MQ below (QI D cA ad A q.1 q.2) args s 0 0 A) (F0 m 38 ls []) := by
    intro x0 x1 M  ag38 hg38 H locs ls hW hl hf
    unfold f_X9_readRow_38b at hf
    refine lv_iload_n hx hb dX9_readRow_38 rfl (lv_at hl 1 rfl) ?_
    refine lv_aload_n hx hb dX9_readRow_39 rfl (lv_at hl 0 rfl) ?_
    obtain ⟨v8, hv8, hf⟩ := ob hf
    refine r_gI hC hK hW cfX9 (by decide) wF_X9_25 rfl hv8 dX9_readRow_40 ?_
    refine lv_icmp_ge (tgt := 85) hx hb dX9_readRow_43 (by decide) (fun c43 => ?_) (fun c43 => ?_)
    · have hf := it c43 hf
      refine lv_iconst (v := (1 : Int32)) hx hb dX9_readRow_85 (by decide) ?_
      exact r_zret hC hr hlk hW hf dX9_readRow_86
    · have hf := ie c43 hf
      refine lv_aload_n hx hb dX9_readRow_46 rfl (lv_at hl 0 rfl) ?_
      obtain ⟨r9, hr9, hf⟩ := ob hf
      refine r_gR hC hK hW cfX9 (by decide) wF_X9_9 rfl hr9 dX9_readRow_47 ?_
      refine lv_iload_n hx hb dX9_readRow_50 rfl (lv_at hl 1 rfl) ?_
      obtain ⟨v10, hv10, hf⟩ := ob hf
      refine r_aC hC hK hW hv10 dX9_readRow_51 ?_
      refine lv_bipush (v := (102 : Int32)) hx hb dX9_readRow_52 (by decide) ?_
      refine lv_icmp_le (tgt := 59) hx hb dX9_readRow_54 (by decide) (fun c54 => ?_) (fun c54 => ?_)
      · have hf := it c54 hf
        refine lv_aload_n hx hb dX9_readRow_59 rfl (lv_at hl 0 rfl) ?_
        refine lv_dup hx hb dX9_readRow_60 rfl ?_
        obtain ⟨v11, hv11, hf⟩ := ob hf
        refine r_gI hC hK hW cfX9 (by decide) wF_X9_66 rfl hv11 dX9_readRow_61 ?_
        refine lv_iconst (v := (1 : Int32)) hx hb dX9_readRow_64 (by decide) ?_
        refine lv_aload_n hx hb dX9_readRow_65 rfl (lv_at hl 0 rfl) ?_
        obtain ⟨r12, hr12, hf⟩ := ob hf
        refine r_gR hC hK hW cfX9 (by decide) wF_X9_9 rfl hr12 dX9_readRow_66 ?_
        refine lv_iload_n hx hb dX9_readRow_69 rfl (lv_at hl 1 rfl) ?_
        obtain ⟨v13, hv13, hf⟩ := ob hf
        refine r_aC hC hK hW hv13 dX9_readRow_70 ?_
        refine lv_bipush (v := (97 : Int32)) hx hb dX9_readRow_71 (by decide) ?_
        refine lv_isub hx hb dX9_readRow_73 ?_
        refine lv_ishl hx hb dX9_readRow_74 ?_
        refine lv_ior hx hb dX9_readRow_75 ?_
        obtain ⟨M14, hM14, hf⟩ := ob hf
        refine r_pI hC hK hAd hW cfX9 (by decide) wF_X9_66 rfl rfl rfl hM14 dX9_readRow_76 (fun H locs hW => ?_)
        refine lv_iinc (v := (x1 + (1 : Int32))) (lv' := [(1, .int (x1 + (1 : Int32))), (0, .ref (ad x0))]) hx hb dX9_readRow_79 hl (k := 1) rfl rfl (by decide) rfl (fun ls hl => ?_)
        refine lv_goto (tgt := 38) hx hb dX9_readRow_82 (by decide) ?_
        exact hg38 (x1 + (1 : Int32)) M14 _ _ _ hW (lv_sub hl [1, 0] rfl) hf
      · have hf := ie c54 hf
        refine lv_iconst (v := (0 : Int32)) hx hb dX9_readRow_57 (by decide) ?_
        exact r_zret hC hr hlk hW hf dX9_readRow_58
  have J38 : ∀ (x0 : Nat) (x1 : Int32) (M : Mem)  (H : Heap) (locs : List Loc) (ls : Array Slot) (hW : Wd D cA ad A s M H locs) (hl : lv_has ls 2 [(0, .ref (ad x0)), (1, .int x1)]) (hf : f_X9_readRow_38  x0 x1 M = some q), W p l e (rmD 3) s m args below meth c H locs 0 0 (MQ below (QI D cA ad A q.1 q.2) args s 0 0 A) (F0 m 38 ls []) := by
    intro x0 x1 M  H locs ls hW hl hf
    unfold f_X9_readRow_38 at hf
    have key : ∀ (n : Nat) (x1 : Int32) (M : Mem) (H : Heap) (locs : List Loc) (ls : Array Slot) (hW : Wd D cA ad A s M H locs) (hl : lv_has ls 2 [(0, .ref (ad x0)), (1, .int x1)]) (hf : loopF (fun ag s => f_X9_readRow_38b  x0 ag s.1 s.2) n (x1, M) = some q), W p l e (rmD 3) s m args below meth c H locs 0 0 (MQ below (QI D cA ad A q.1 q.2) args s 0 0 A) (F0 m 38 ls []) := by
      intro n
      induction n with
      | zero => intro x1 M H locs ls hW hl hf; exact nomatch (show (none : Option _) = some _ from hf)
      | succ n ih => intro x1 M H locs ls hW hl hf; exact B38 x0 x1 M  _ ih H locs ls hW hl hf
    exact key FU x1 M H locs ls hW hl hf
  have hf := hf0
  unfold f_X9_readRow at hf
  refine lv_aload_n hx hb dX9_readRow_0 rfl (lv_at hl 0 rfl) ?_
  obtain ⟨q21, hq21, hf⟩ := ob hf
  refine k_vV hC hK hW cfX9 (c_X9_nextToken l hAd (cv_s hq21).2) (cv_s hq21).1 my_X9_nextToken wI_X9_nextToken wQ_X9_nextToken wM_X9_29 ⟨Nat.le_of_ble_eq_true rfl, Nat.le_of_ble_eq_true rfl⟩ rfl hl.1 rfl (Nat.le_of_ble_eq_true rfl) ⟨Nat.zero_le _, Nat.zero_le _⟩ dX9_readRow_1 (fun H locs hW => ?_)
  refine lv_aload_n hx hb dX9_readRow_4 rfl (lv_at hl 0 rfl) ?_
  obtain ⟨v22, hv22, hf⟩ := ob hf
  refine r_gI hC hK hW cfX9 (by decide) wF_X9_32 rfl hv22 dX9_readRow_5 ?_
  refine lv_iconst (v := (1 : Int32)) hx hb dX9_readRow_8 (by decide) ?_
  refine lv_icmp_ne (tgt := 26) hx hb dX9_readRow_9 (by decide) (fun c9 => ?_) (fun c9 => ?_)
  · have hf := ie c9 hf
    refine lv_iconst (v := (0 : Int32)) hx hb dX9_readRow_26 (by decide) ?_
    exact r_zret hC hr hlk hW hf dX9_readRow_27
  · have hf := it c9 hf
    refine lv_aload_n hx hb dX9_readRow_12 rfl (lv_at hl 0 rfl) ?_
    obtain ⟨v23, hv23, hf⟩ := ob hf
    refine r_gI hC hK hW cfX9 (by decide) wF_X9_25 rfl hv23 dX9_readRow_13 ?_
    refine lv_aload_n hx hb dX9_readRow_16 rfl (lv_at hl 0 rfl) ?_
    obtain ⟨v24, hv24, hf⟩ := ob hf
    refine r_gI hC hK hW cfX9 (by decide) wF_X9_39 rfl hv24 dX9_readRow_17 ?_
    refine lv_isub hx hb dX9_readRow_20 ?_
    refine lv_bipush (v := (6 : Int32)) hx hb dX9_readRow_21 (by decide) ?_
    refine lv_icmp_le (tgt := 28) hx hb dX9_readRow_23 (by decide) (fun c23 => ?_) (fun c23 => ?_)
    · have hf := it c23 hf
      refine lv_aload_n hx hb dX9_readRow_28 rfl (lv_at hl 0 rfl) ?_
      refine lv_iconst (v := (0 : Int32)) hx hb dX9_readRow_29 (by decide) ?_
      obtain ⟨M25, hM25, hf⟩ := ob hf
      refine r_pI hC hK hAd hW cfX9 (by decide) wF_X9_66 rfl rfl rfl hM25 dX9_readRow_30 (fun H locs hW => ?_)
      refine lv_aload_n hx hb dX9_readRow_33 rfl (lv_at hl 0 rfl) ?_
      obtain ⟨v26, hv26, hf⟩ := ob hf
      refine r_gI hC hK hW cfX9 (by decide) wF_X9_39 rfl hv26 dX9_readRow_34 ?_
      refine lv_istore_n (lv' := [(1, .int v26), (0, .ref (ad a0))]) hx hb dX9_readRow_37 rfl hl (by decide) rfl (fun ls hl => ?_)
      exact J38 a0 v26 M25 _ _ _ hW (lv_sub hl [1, 0] rfl) hf
    · have hf := ie c23 hf
      refine lv_iconst (v := (0 : Int32)) hx hb dX9_readRow_26 (by decide) ?_
      exact r_zret hC hr hlk hW hf dX9_readRow_27
set_option maxHeartbeats 4000000 in
set_option maxRecDepth 100000 in
theorem c_X9_readGuest (l : Launch) {D : va_G} {cA : Nat → ClassId} {ad : Nat → Nat} {A : Nat → Prop} (hAd : AdOk ad A) {a0 : Nat} {M0 : Mem} {q : (Int32 × Mem)} (hf0 : f_X9_readGuest a0 M0 = some q) : Met l yX9_readGuest (wd yX9_readGuest cX9_readGuest 2 (some .boolean)) (rmD 4) (PcW D cA ad [.ref (ad a0)] M0) (QI D cA ad A q.1 q.2) 0 0 A := by
  refine mk_met (own := RX9) (by decide +kernel) rfl (Nat.le_of_ble_eq_true rfl) ?_
  intro p e s m args below meth c hC hr hlk hK H locs ls hW hl
  have hx := hC.1
  have hb := hC.2.1
  have hl : lv_has ls 2 [(0, .ref (ad a0))] := hl
  have hf := hf0
  unfold f_X9_readGuest at hf
  refine lv_aload_n hx hb dX9_readGuest_0 rfl (lv_at hl 0 rfl) ?_
  obtain ⟨r29, hr29, hf⟩ := ob hf
  refine r_gR hC hK hW cfX9 (by decide) wF_X9_18 rfl hr29 dX9_readGuest_1 ?_
  obtain ⟨v30, hv30, hf⟩ := ob hf
  refine r_gI hC hK hW cfX8 (by decide) wF_X9_50 rfl hv30 dX9_readGuest_4 ?_
  refine lv_istore_n (lv' := [(1, .int v30), (0, .ref (ad a0))]) hx hb dX9_readGuest_7 rfl hl (by decide) rfl (fun ls hl => ?_)
  refine lv_aload_n hx hb dX9_readGuest_8 rfl (lv_at hl 1 rfl) ?_
  refine lv_iconst (v := (0 : Int32)) hx hb dX9_readGuest_9 (by decide) ?_
  refine lv_aload_n hx hb dX9_readGuest_10 rfl (lv_at hl 1 rfl) ?_
  obtain ⟨r31, hr31, hf⟩ := ob hf
  refine r_gR hC hK hW cfX9 (by decide) wF_X9_18 rfl hr31 dX9_readGuest_11 ?_
  obtain ⟨v32, hv32, hf⟩ := ob hf
  refine r_gI hC hK hW cfX8 (by decide) wF_X9_69 rfl hv32 dX9_readGuest_14 ?_
  refine lv_iconst (v := (1 : Int32)) hx hb dX9_readGuest_17 (by decide) ?_
  refine lv_isub hx hb dX9_readGuest_18 ?_
  obtain ⟨q33, hq33, hf⟩ := ob hf
  refine k_vI hC hK hW cfX9 (c_X9_readNumber l hAd (cv_s hq33).2) (cv_s hq33).1 my_X9_readNumber wI_X9_readNumber wQ_X9_readNumber wM_X9_62 ⟨Nat.le_of_ble_eq_true rfl, Nat.le_of_ble_eq_true rfl⟩ rfl hl.1 rfl (Nat.le_of_ble_eq_true rfl) ⟨Nat.zero_le _, Nat.zero_le _⟩ dX9_readGuest_19 (fun H locs hW => ?_)
  refine lv_if_eq (tgt := 43) hx hb dX9_readGuest_22 (by decide) (fun c22 => ?_) (fun c22 => ?_)
  · have hf := it c22 hf
    refine lv_iconst (v := (0 : Int32)) hx hb dX9_readGuest_43 (by decide) ?_
    exact r_zret hC hr hlk hW hf dX9_readGuest_44
  · have hf := ie c22 hf
    refine lv_aload_n hx hb dX9_readGuest_25 rfl (lv_at hl 1 rfl) ?_
    refine lv_aload_n hx hb dX9_readGuest_26 rfl (lv_at hl 1 rfl) ?_
    obtain ⟨r34, hr34, hf⟩ := ob hf
    refine r_gR hC hK hW cfX9 (by decide) wF_X9_18 rfl hr34 dX9_readGuest_27 ?_
    obtain ⟨r35, hr35, hf⟩ := ob hf
    refine r_gR hC hK hW cfX8 (by decide) wF_X9_75 rfl hr35 dX9_readGuest_30 ?_
    obtain ⟨r36, hr36, hf⟩ := ob hf
    refine r_gR hC hK hW cfX7 (by decide) wF_X9_78 rfl hr36 dX9_readGuest_33 ?_
    refine lv_iload_n hx hb dX9_readGuest_36 rfl (lv_at hl 0 rfl) ?_
    obtain ⟨q37, hq37, hf⟩ := ob hf
    refine k_vI hC hK hW cfX9 (c_X9_isAmong l hAd (cv_s hq37).2) (cv_s hq37).1 my_X9_isAmong wI_X9_isAmong wQ_X9_isAmong wM_X9_84 ⟨Nat.le_of_ble_eq_true rfl, Nat.le_of_ble_eq_true rfl⟩ rfl hl.1 rfl (Nat.le_of_ble_eq_true rfl) ⟨Nat.zero_le _, Nat.zero_le _⟩ dX9_readGuest_37 (fun H locs hW => ?_)
    refine lv_if_eq (tgt := 45) hx hb dX9_readGuest_40 (by decide) (fun c40 => ?_) (fun c40 => ?_)
    · have hf := it c40 hf
      refine lv_aload_n hx hb dX9_readGuest_45 rfl (lv_at hl 1 rfl) ?_
      obtain ⟨r38, hr38, hf⟩ := ob hf
      refine r_gR hC hK hW cfX9 (by decide) wF_X9_18 rfl hr38 dX9_readGuest_46 ?_
      obtain ⟨r39, hr39, hf⟩ := ob hf
      refine r_gR hC hK hW cfX8 (by decide) wF_X9_75 rfl hr39 dX9_readGuest_49 ?_
      obtain ⟨r40, hr40, hf⟩ := ob hf
      refine r_gR hC hK hW cfX7 (by decide) wF_X9_78 rfl hr40 dX9_readGuest_52 ?_
      refine lv_iload_n hx hb dX9_readGuest_55 rfl (lv_at hl 0 rfl) ?_
      refine lv_aload_n hx hb dX9_readGuest_56 rfl (lv_at hl 1 rfl) ?_
      obtain ⟨v41, hv41, hf⟩ := ob hf
      refine r_gI hC hK hW cfX9 (by decide) wF_X9_66 rfl hv41 dX9_readGuest_57 ?_
      obtain ⟨M42, hM42, hf⟩ := ob hf
      refine r_sI hC hK hAd hW hM42 dX9_readGuest_60 (fun H locs hW => ?_)
      refine lv_aload_n hx hb dX9_readGuest_61 rfl (lv_at hl 1 rfl) ?_
      refine lv_iconst (v := (0 : Int32)) hx hb dX9_readGuest_62 (by decide) ?_
      refine lv_iconst (v := (2 : Int32)) hx hb dX9_readGuest_63 (by decide) ?_
      obtain ⟨q43, hq43, hf⟩ := ob hf
      refine k_vI hC hK hW cfX9 (c_X9_readNumber l hAd (cv_s hq43).2) (cv_s hq43).1 my_X9_readNumber wI_X9_readNumber wQ_X9_readNumber wM_X9_62 ⟨Nat.le_of_ble_eq_true rfl, Nat.le_of_ble_eq_true rfl⟩ rfl hl.1 rfl (Nat.le_of_ble_eq_true rfl) ⟨Nat.zero_le _, Nat.zero_le _⟩ dX9_readGuest_64 (fun H locs hW => ?_)
      refine lv_if_ne (tgt := 72) hx hb dX9_readGuest_67 (by decide) (fun c67 => ?_) (fun c67 => ?_)
      · have hf := ie c67 hf
        refine lv_aload_n hx hb dX9_readGuest_72 rfl (lv_at hl 1 rfl) ?_
        obtain ⟨r44, hr44, hf⟩ := ob hf
        refine r_gR hC hK hW cfX9 (by decide) wF_X9_18 rfl hr44 dX9_readGuest_73 ?_
        obtain ⟨r45, hr45, hf⟩ := ob hf
        refine r_gR hC hK hW cfX8 (by decide) wF_X9_88 rfl hr45 dX9_readGuest_76 ?_
        refine lv_iload_n hx hb dX9_readGuest_79 rfl (lv_at hl 0 rfl) ?_
        refine lv_aload_n hx hb dX9_readGuest_80 rfl (lv_at hl 1 rfl) ?_
        obtain ⟨v46, hv46, hf⟩ := ob hf
        refine r_gI hC hK hW cfX9 (by decide) wF_X9_66 rfl hv46 dX9_readGuest_81 ?_
        obtain ⟨M47, hM47, hf⟩ := ob hf
        refine r_sI hC hK hAd hW hM47 dX9_readGuest_84 (fun H locs hW => ?_)
        refine lv_aload_n hx hb dX9_readGuest_85 rfl (lv_at hl 1 rfl) ?_
        obtain ⟨q48, hq48, hf⟩ := ob hf
        refine k_vI hC hK hW cfX9 (c_X9_readRow l hAd (cv_s hq48).2) (cv_s hq48).1 my_X9_readRow wI_X9_readRow wQ_X9_readRow wM_X9_91 ⟨Nat.le_of_ble_eq_true rfl, Nat.le_of_ble_eq_true rfl⟩ rfl hl.1 rfl (Nat.le_of_ble_eq_true rfl) ⟨Nat.zero_le _, Nat.zero_le _⟩ dX9_readGuest_86 (fun H locs hW => ?_)
        refine lv_if_ne (tgt := 94) hx hb dX9_readGuest_89 (by decide) (fun c89 => ?_) (fun c89 => ?_)
        · have hf := ie c89 hf
          refine lv_aload_n hx hb dX9_readGuest_94 rfl (lv_at hl 1 rfl) ?_
          obtain ⟨r49, hr49, hf⟩ := ob hf
          refine r_gR hC hK hW cfX9 (by decide) wF_X9_18 rfl hr49 dX9_readGuest_95 ?_
          obtain ⟨r50, hr50, hf⟩ := ob hf
          refine r_gR hC hK hW cfX8 (by decide) wF_X9_94 rfl hr50 dX9_readGuest_98 ?_
          refine lv_iload_n hx hb dX9_readGuest_101 rfl (lv_at hl 0 rfl) ?_
          refine lv_aload_n hx hb dX9_readGuest_102 rfl (lv_at hl 1 rfl) ?_
          obtain ⟨v51, hv51, hf⟩ := ob hf
          refine r_gI hC hK hW cfX9 (by decide) wF_X9_66 rfl hv51 dX9_readGuest_103 ?_
          obtain ⟨M52, hM52, hf⟩ := ob hf
          refine r_sI hC hK hAd hW hM52 dX9_readGuest_106 (fun H locs hW => ?_)
          refine lv_aload_n hx hb dX9_readGuest_107 rfl (lv_at hl 1 rfl) ?_
          obtain ⟨r53, hr53, hf⟩ := ob hf
          refine r_gR hC hK hW cfX9 (by decide) wF_X9_18 rfl hr53 dX9_readGuest_108 ?_
          refine lv_dup hx hb dX9_readGuest_111 rfl ?_
          obtain ⟨v54, hv54, hf⟩ := ob hf
          refine r_gI hC hK hW cfX8 (by decide) wF_X9_50 rfl hv54 dX9_readGuest_112 ?_
          refine lv_iconst (v := (1 : Int32)) hx hb dX9_readGuest_115 (by decide) ?_
          refine lv_iadd hx hb dX9_readGuest_116 ?_
          obtain ⟨M55, hM55, hf⟩ := ob hf
          refine r_pI hC hK hAd hW cfX8 (by decide) wF_X9_50 rfl rfl rfl hM55 dX9_readGuest_117 (fun H locs hW => ?_)
          refine lv_aload_n hx hb dX9_readGuest_120 rfl (lv_at hl 1 rfl) ?_
          obtain ⟨q56, hq56, hf⟩ := ob hf
          refine k_vI hC hK hW cfX9 (c_X9_readClose l hAd (cv_s hq56).2) (cv_s hq56).1 my_X9_readClose wI_X9_readClose wQ_X9_readClose wM_X9_72 ⟨Nat.le_of_ble_eq_true rfl, Nat.le_of_ble_eq_true rfl⟩ rfl hl.1 rfl (Nat.le_of_ble_eq_true rfl) ⟨Nat.zero_le _, Nat.zero_le _⟩ dX9_readGuest_121 (fun H locs hW => ?_)
          exact r_zret hC hr hlk hW hf dX9_readGuest_124
        · have hf := it c89 hf
          refine lv_iconst (v := (0 : Int32)) hx hb dX9_readGuest_92 (by decide) ?_
          exact r_zret hC hr hlk hW hf dX9_readGuest_93
      · have hf := it c67 hf
        refine lv_iconst (v := (0 : Int32)) hx hb dX9_readGuest_70 (by decide) ?_
        exact r_zret hC hr hlk hW hf dX9_readGuest_71
    · have hf := ie c40 hf
      refine lv_iconst (v := (0 : Int32)) hx hb dX9_readGuest_43 (by decide) ?_
      exact r_zret hC hr hlk hW hf dX9_readGuest_44
set_option maxHeartbeats 4000000 in
set_option maxRecDepth 100000 in
theorem c_X9_readDish (l : Launch) {D : va_G} {cA : Nat → ClassId} {ad : Nat → Nat} {A : Nat → Prop} (hAd : AdOk ad A) {a0 : Nat} {M0 : Mem} {q : (Int32 × Mem)} (hf0 : f_X9_readDish a0 M0 = some q) : Met l yX9_readDish (wd yX9_readDish cX9_readDish 2 (some .boolean)) (rmD 4) (PcW D cA ad [.ref (ad a0)] M0) (QI D cA ad A q.1 q.2) 0 0 A := by
  refine mk_met (own := RX9) (by decide +kernel) rfl (Nat.le_of_ble_eq_true rfl) ?_
  intro p e s m args below meth c hC hr hlk hK H locs ls hW hl
  have hx := hC.1
  have hb := hC.2.1
  have hl : lv_has ls 2 [(0, .ref (ad a0))] := hl
  have hf := hf0
  unfold f_X9_readDish at hf
  refine lv_aload_n hx hb dX9_readDish_0 rfl (lv_at hl 0 rfl) ?_
  obtain ⟨r30, hr30, hf⟩ := ob hf
  refine r_gR hC hK hW cfX9 (by decide) wF_X9_18 rfl hr30 dX9_readDish_1 ?_
  obtain ⟨v31, hv31, hf⟩ := ob hf
  refine r_gI hC hK hW cfX8 (by decide) wF_X9_56 rfl hv31 dX9_readDish_4 ?_
  refine lv_istore_n (lv' := [(1, .int v31), (0, .ref (ad a0))]) hx hb dX9_readDish_7 rfl hl (by decide) rfl (fun ls hl => ?_)
  refine lv_aload_n hx hb dX9_readDish_8 rfl (lv_at hl 1 rfl) ?_
  refine lv_iconst (v := (0 : Int32)) hx hb dX9_readDish_9 (by decide) ?_
  refine lv_aload_n hx hb dX9_readDish_10 rfl (lv_at hl 1 rfl) ?_
  obtain ⟨r32, hr32, hf⟩ := ob hf
  refine r_gR hC hK hW cfX9 (by decide) wF_X9_18 rfl hr32 dX9_readDish_11 ?_
  obtain ⟨v33, hv33, hf⟩ := ob hf
  refine r_gI hC hK hW cfX8 (by decide) wF_X9_69 rfl hv33 dX9_readDish_14 ?_
  refine lv_iconst (v := (1 : Int32)) hx hb dX9_readDish_17 (by decide) ?_
  refine lv_isub hx hb dX9_readDish_18 ?_
  obtain ⟨q34, hq34, hf⟩ := ob hf
  refine k_vI hC hK hW cfX9 (c_X9_readNumber l hAd (cv_s hq34).2) (cv_s hq34).1 my_X9_readNumber wI_X9_readNumber wQ_X9_readNumber wM_X9_62 ⟨Nat.le_of_ble_eq_true rfl, Nat.le_of_ble_eq_true rfl⟩ rfl hl.1 rfl (Nat.le_of_ble_eq_true rfl) ⟨Nat.zero_le _, Nat.zero_le _⟩ dX9_readDish_19 (fun H locs hW => ?_)
  refine lv_if_eq (tgt := 43) hx hb dX9_readDish_22 (by decide) (fun c22 => ?_) (fun c22 => ?_)
  · have hf := it c22 hf
    refine lv_iconst (v := (0 : Int32)) hx hb dX9_readDish_43 (by decide) ?_
    exact r_zret hC hr hlk hW hf dX9_readDish_44
  · have hf := ie c22 hf
    refine lv_aload_n hx hb dX9_readDish_25 rfl (lv_at hl 1 rfl) ?_
    refine lv_aload_n hx hb dX9_readDish_26 rfl (lv_at hl 1 rfl) ?_
    obtain ⟨r35, hr35, hf⟩ := ob hf
    refine r_gR hC hK hW cfX9 (by decide) wF_X9_18 rfl hr35 dX9_readDish_27 ?_
    obtain ⟨r36, hr36, hf⟩ := ob hf
    refine r_gR hC hK hW cfX8 (by decide) wF_X9_75 rfl hr36 dX9_readDish_30 ?_
    obtain ⟨r37, hr37, hf⟩ := ob hf
    refine r_gR hC hK hW cfX7 (by decide) wF_X9_97 rfl hr37 dX9_readDish_33 ?_
    refine lv_iload_n hx hb dX9_readDish_36 rfl (lv_at hl 0 rfl) ?_
    obtain ⟨q38, hq38, hf⟩ := ob hf
    refine k_vI hC hK hW cfX9 (c_X9_isAmong l hAd (cv_s hq38).2) (cv_s hq38).1 my_X9_isAmong wI_X9_isAmong wQ_X9_isAmong wM_X9_84 ⟨Nat.le_of_ble_eq_true rfl, Nat.le_of_ble_eq_true rfl⟩ rfl hl.1 rfl (Nat.le_of_ble_eq_true rfl) ⟨Nat.zero_le _, Nat.zero_le _⟩ dX9_readDish_37 (fun H locs hW => ?_)
    refine lv_if_eq (tgt := 45) hx hb dX9_readDish_40 (by decide) (fun c40 => ?_) (fun c40 => ?_)
    · have hf := it c40 hf
      refine lv_aload_n hx hb dX9_readDish_45 rfl (lv_at hl 1 rfl) ?_
      obtain ⟨r39, hr39, hf⟩ := ob hf
      refine r_gR hC hK hW cfX9 (by decide) wF_X9_18 rfl hr39 dX9_readDish_46 ?_
      obtain ⟨r40, hr40, hf⟩ := ob hf
      refine r_gR hC hK hW cfX8 (by decide) wF_X9_75 rfl hr40 dX9_readDish_49 ?_
      obtain ⟨r41, hr41, hf⟩ := ob hf
      refine r_gR hC hK hW cfX7 (by decide) wF_X9_97 rfl hr41 dX9_readDish_52 ?_
      refine lv_iload_n hx hb dX9_readDish_55 rfl (lv_at hl 0 rfl) ?_
      refine lv_aload_n hx hb dX9_readDish_56 rfl (lv_at hl 1 rfl) ?_
      obtain ⟨v42, hv42, hf⟩ := ob hf
      refine r_gI hC hK hW cfX9 (by decide) wF_X9_66 rfl hv42 dX9_readDish_57 ?_
      obtain ⟨M43, hM43, hf⟩ := ob hf
      refine r_sI hC hK hAd hW hM43 dX9_readDish_60 (fun H locs hW => ?_)
      refine lv_aload_n hx hb dX9_readDish_61 rfl (lv_at hl 1 rfl) ?_
      refine lv_iconst (v := (1 : Int32)) hx hb dX9_readDish_62 (by decide) ?_
      refine lv_bipush (v := (9 : Int32)) hx hb dX9_readDish_63 (by decide) ?_
      obtain ⟨q44, hq44, hf⟩ := ob hf
      refine k_vI hC hK hW cfX9 (c_X9_readNumber l hAd (cv_s hq44).2) (cv_s hq44).1 my_X9_readNumber wI_X9_readNumber wQ_X9_readNumber wM_X9_62 ⟨Nat.le_of_ble_eq_true rfl, Nat.le_of_ble_eq_true rfl⟩ rfl hl.1 rfl (Nat.le_of_ble_eq_true rfl) ⟨Nat.zero_le _, Nat.zero_le _⟩ dX9_readDish_65 (fun H locs hW => ?_)
      refine lv_if_ne (tgt := 73) hx hb dX9_readDish_68 (by decide) (fun c68 => ?_) (fun c68 => ?_)
      · have hf := ie c68 hf
        refine lv_aload_n hx hb dX9_readDish_73 rfl (lv_at hl 1 rfl) ?_
        obtain ⟨r45, hr45, hf⟩ := ob hf
        refine r_gR hC hK hW cfX9 (by decide) wF_X9_18 rfl hr45 dX9_readDish_74 ?_
        obtain ⟨r46, hr46, hf⟩ := ob hf
        refine r_gR hC hK hW cfX8 (by decide) wF_X9_75 rfl hr46 dX9_readDish_77 ?_
        obtain ⟨r47, hr47, hf⟩ := ob hf
        refine r_gR hC hK hW cfX7 (by decide) wF_X9_100 rfl hr47 dX9_readDish_80 ?_
        refine lv_iload_n hx hb dX9_readDish_83 rfl (lv_at hl 0 rfl) ?_
        refine lv_aload_n hx hb dX9_readDish_84 rfl (lv_at hl 1 rfl) ?_
        obtain ⟨v48, hv48, hf⟩ := ob hf
        refine r_gI hC hK hW cfX9 (by decide) wF_X9_66 rfl hv48 dX9_readDish_85 ?_
        obtain ⟨M49, hM49, hf⟩ := ob hf
        refine r_sI hC hK hAd hW hM49 dX9_readDish_88 (fun H locs hW => ?_)
        refine lv_aload_n hx hb dX9_readDish_89 rfl (lv_at hl 1 rfl) ?_
        refine lv_iconst (v := (0 : Int32)) hx hb dX9_readDish_90 (by decide) ?_
        refine lv_iconst (v := (1 : Int32)) hx hb dX9_readDish_91 (by decide) ?_
        obtain ⟨q50, hq50, hf⟩ := ob hf
        refine k_vI hC hK hW cfX9 (c_X9_readNumber l hAd (cv_s hq50).2) (cv_s hq50).1 my_X9_readNumber wI_X9_readNumber wQ_X9_readNumber wM_X9_62 ⟨Nat.le_of_ble_eq_true rfl, Nat.le_of_ble_eq_true rfl⟩ rfl hl.1 rfl (Nat.le_of_ble_eq_true rfl) ⟨Nat.zero_le _, Nat.zero_le _⟩ dX9_readDish_92 (fun H locs hW => ?_)
        refine lv_if_ne (tgt := 100) hx hb dX9_readDish_95 (by decide) (fun c95 => ?_) (fun c95 => ?_)
        · have hf := ie c95 hf
          refine lv_aload_n hx hb dX9_readDish_100 rfl (lv_at hl 1 rfl) ?_
          obtain ⟨r51, hr51, hf⟩ := ob hf
          refine r_gR hC hK hW cfX9 (by decide) wF_X9_18 rfl hr51 dX9_readDish_101 ?_
          obtain ⟨r52, hr52, hf⟩ := ob hf
          refine r_gR hC hK hW cfX8 (by decide) wF_X9_103 rfl hr52 dX9_readDish_104 ?_
          refine lv_iload_n hx hb dX9_readDish_107 rfl (lv_at hl 0 rfl) ?_
          refine lv_aload_n hx hb dX9_readDish_108 rfl (lv_at hl 1 rfl) ?_
          obtain ⟨v53, hv53, hf⟩ := ob hf
          refine r_gI hC hK hW cfX9 (by decide) wF_X9_66 rfl hv53 dX9_readDish_109 ?_
          obtain ⟨M54, hM54, hf⟩ := ob hf
          refine r_sI hC hK hAd hW hM54 dX9_readDish_112 (fun H locs hW => ?_)
          refine lv_aload_n hx hb dX9_readDish_113 rfl (lv_at hl 1 rfl) ?_
          obtain ⟨r55, hr55, hf⟩ := ob hf
          refine r_gR hC hK hW cfX9 (by decide) wF_X9_18 rfl hr55 dX9_readDish_114 ?_
          refine lv_dup hx hb dX9_readDish_117 rfl ?_
          obtain ⟨v56, hv56, hf⟩ := ob hf
          refine r_gI hC hK hW cfX8 (by decide) wF_X9_56 rfl hv56 dX9_readDish_118 ?_
          refine lv_iconst (v := (1 : Int32)) hx hb dX9_readDish_121 (by decide) ?_
          refine lv_iadd hx hb dX9_readDish_122 ?_
          obtain ⟨M57, hM57, hf⟩ := ob hf
          refine r_pI hC hK hAd hW cfX8 (by decide) wF_X9_56 rfl rfl rfl hM57 dX9_readDish_123 (fun H locs hW => ?_)
          refine lv_aload_n hx hb dX9_readDish_126 rfl (lv_at hl 1 rfl) ?_
          obtain ⟨q58, hq58, hf⟩ := ob hf
          refine k_vI hC hK hW cfX9 (c_X9_readClose l hAd (cv_s hq58).2) (cv_s hq58).1 my_X9_readClose wI_X9_readClose wQ_X9_readClose wM_X9_72 ⟨Nat.le_of_ble_eq_true rfl, Nat.le_of_ble_eq_true rfl⟩ rfl hl.1 rfl (Nat.le_of_ble_eq_true rfl) ⟨Nat.zero_le _, Nat.zero_le _⟩ dX9_readDish_127 (fun H locs hW => ?_)
          exact r_zret hC hr hlk hW hf dX9_readDish_130
        · have hf := it c95 hf
          refine lv_iconst (v := (0 : Int32)) hx hb dX9_readDish_98 (by decide) ?_
          exact r_zret hC hr hlk hW hf dX9_readDish_99
      · have hf := it c68 hf
        refine lv_iconst (v := (0 : Int32)) hx hb dX9_readDish_71 (by decide) ?_
        exact r_zret hC hr hlk hW hf dX9_readDish_72
    · have hf := ie c40 hf
      refine lv_iconst (v := (0 : Int32)) hx hb dX9_readDish_43 (by decide) ?_
      exact r_zret hC hr hlk hW hf dX9_readDish_44
set_option maxHeartbeats 4000000 in
set_option maxRecDepth 100000 in
theorem c_X9_readItem (l : Launch) {D : va_G} {cA : Nat → ClassId} {ad : Nat → Nat} {A : Nat → Prop} (hAd : AdOk ad A) {a0 : Nat} {a1 : Int32} {M0 : Mem} {q : (Int32 × Mem)} (hf0 : f_X9_readItem a0 a1 M0 = some q) : Met l yX9_readItem (wd yX9_readItem cX9_readItem 2 (some .boolean)) (rmD 5) (PcW D cA ad [.ref (ad a0), .int a1] M0) (QI D cA ad A q.1 q.2) 0 0 A := by
  refine mk_met (own := RX9) (by decide +kernel) rfl (Nat.le_of_ble_eq_true rfl) ?_
  intro p e s m args below meth c hC hr hlk hK H locs ls hW hl
  have hx := hC.1
  have hb := hC.2.1
  have hl : lv_has ls 2 [(0, .ref (ad a0)), (1, .int a1)] := hl
  have J92 : ∀   (M : Mem)  (H : Heap) (locs : List Loc) (ls : Array Slot) (hW : Wd D cA ad A s M H locs) (hl : lv_has ls 2 []) (hf : f_X9_readItem_92    M = some q), W p l e (rmD 5) s m args below meth c H locs 0 0 (MQ below (QI D cA ad A q.1 q.2) args s 0 0 A) (F0 m 92 ls []) := by
    intro   M  H locs ls hW hl hf
    unfold f_X9_readItem_92 at hf
    refine lv_iconst (v := (0 : Int32)) hx hb dX9_readItem_92 (by decide) ?_
    exact r_zret hC hr hlk hW hf dX9_readItem_93
  have J58 : ∀   (M : Mem)  (H : Heap) (locs : List Loc) (ls : Array Slot) (hW : Wd D cA ad A s M H locs) (hl : lv_has ls 2 []) (hf : f_X9_readItem_58    M = some q), W p l e (rmD 5) s m args below meth c H locs 0 0 (MQ below (QI D cA ad A q.1 q.2) args s 0 0 A) (F0 m 58 ls []) := by
    intro   M  H locs ls hW hl hf
    unfold f_X9_readItem_58 at hf
    refine lv_iconst (v := (0 : Int32)) hx hb dX9_readItem_58 (by decide) ?_
    exact r_zret hC hr hlk hW hf dX9_readItem_59
  have J24 : ∀   (M : Mem)  (H : Heap) (locs : List Loc) (ls : Array Slot) (hW : Wd D cA ad A s M H locs) (hl : lv_has ls 2 []) (hf : f_X9_readItem_24    M = some q), W p l e (rmD 5) s m args below meth c H locs 0 0 (MQ below (QI D cA ad A q.1 q.2) args s 0 0 A) (F0 m 24 ls []) := by
    intro   M  H locs ls hW hl hf
    unfold f_X9_readItem_24 at hf
    refine lv_iconst (v := (0 : Int32)) hx hb dX9_readItem_24 (by decide) ?_
    exact r_zret hC hr hlk hW hf dX9_readItem_25
  have hf := hf0
  unfold f_X9_readItem at hf
  refine lv_aload_n hx hb dX9_readItem_0 rfl (lv_at hl 0 rfl) ?_
  refine lv_bipush (v := (110 : Int32)) hx hb dX9_readItem_1 (by decide) ?_
  obtain ⟨q11, hq11, hf⟩ := ob hf
  refine k_vI hC hK hW cfX9 (c_X9_isWord l hAd (cv_s hq11).2) (cv_s hq11).1 my_X9_isWord wI_X9_isWord wQ_X9_isWord wM_X9_42 ⟨Nat.le_of_ble_eq_true rfl, Nat.le_of_ble_eq_true rfl⟩ rfl hl.1 rfl (Nat.le_of_ble_eq_true rfl) ⟨Nat.zero_le _, Nat.zero_le _⟩ dX9_readItem_3 (fun H locs hW => ?_)
  refine lv_if_eq (tgt := 26) hx hb dX9_readItem_6 (by decide) (fun c6 => ?_) (fun c6 => ?_)
  · have hf := it c6 hf
    refine lv_aload_n hx hb dX9_readItem_26 rfl (lv_at hl 0 rfl) ?_
    refine lv_bipush (v := (103 : Int32)) hx hb dX9_readItem_27 (by decide) ?_
    obtain ⟨q12, hq12, hf⟩ := ob hf
    refine k_vI hC hK hW cfX9 (c_X9_isWord l hAd (cv_s hq12).2) (cv_s hq12).1 my_X9_isWord wI_X9_isWord wQ_X9_isWord wM_X9_42 ⟨Nat.le_of_ble_eq_true rfl, Nat.le_of_ble_eq_true rfl⟩ rfl hl.1 rfl (Nat.le_of_ble_eq_true rfl) ⟨Nat.zero_le _, Nat.zero_le _⟩ dX9_readItem_29 (fun H locs hW => ?_)
    refine lv_if_eq (tgt := 60) hx hb dX9_readItem_32 (by decide) (fun c32 => ?_) (fun c32 => ?_)
    · have hf := it c32 hf
      refine lv_aload_n hx hb dX9_readItem_60 rfl (lv_at hl 0 rfl) ?_
      refine lv_bipush (v := (100 : Int32)) hx hb dX9_readItem_61 (by decide) ?_
      obtain ⟨q13, hq13, hf⟩ := ob hf
      refine k_vI hC hK hW cfX9 (c_X9_isWord l hAd (cv_s hq13).2) (cv_s hq13).1 my_X9_isWord wI_X9_isWord wQ_X9_isWord wM_X9_42 ⟨Nat.le_of_ble_eq_true rfl, Nat.le_of_ble_eq_true rfl⟩ rfl hl.1 rfl (Nat.le_of_ble_eq_true rfl) ⟨Nat.zero_le _, Nat.zero_le _⟩ dX9_readItem_63 (fun H locs hW => ?_)
      refine lv_if_eq (tgt := 92) hx hb dX9_readItem_66 (by decide) (fun c66 => ?_) (fun c66 => ?_)
      · have hf := it c66 hf
        exact J92 M0 _ _ _ hW (lv_sub hl [] rfl) hf
      · have hf := ie c66 hf
        refine lv_aload_n hx hb dX9_readItem_69 rfl (lv_at hl 0 rfl) ?_
        obtain ⟨r14, hr14, hf⟩ := ob hf
        refine r_gR hC hK hW cfX9 (by decide) wF_X9_18 rfl hr14 dX9_readItem_70 ?_
        obtain ⟨v15, hv15, hf⟩ := ob hf
        refine r_gI hC hK hW cfX8 (by decide) wF_X9_56 rfl hv15 dX9_readItem_73 ?_
        refine lv_bipush (v := (6 : Int32)) hx hb dX9_readItem_76 (by decide) ?_
        refine lv_icmp_ge (tgt := 92) hx hb dX9_readItem_78 (by decide) (fun c78 => ?_) (fun c78 => ?_)
        · have hf := it c78 hf
          exact J92 M0 _ _ _ hW (lv_sub hl [] rfl) hf
        · have hf := ie c78 hf
          refine lv_aload_n hx hb dX9_readItem_81 rfl (lv_at hl 0 rfl) ?_
          obtain ⟨q16, hq16, hf⟩ := ob hf
          refine k_vI hC hK hW cfX9 (c_X9_readDish l hAd (cv_s hq16).2) (cv_s hq16).1 my_X9_readDish wI_X9_readDish wQ_X9_readDish wM_X9_59 ⟨Nat.le_of_ble_eq_true rfl, Nat.le_of_ble_eq_true rfl⟩ rfl hl.1 rfl (Nat.le_of_ble_eq_true rfl) ⟨Nat.zero_le _, Nat.zero_le _⟩ dX9_readItem_82 (fun H locs hW => ?_)
          refine lv_if_eq (tgt := 92) hx hb dX9_readItem_85 (by decide) (fun c85 => ?_) (fun c85 => ?_)
          · have hf := it c85 hf
            exact J92 q16.2 _ _ _ hW (lv_sub hl [] rfl) hf
          · have hf := ie c85 hf
            refine lv_iconst (v := (1 : Int32)) hx hb dX9_readItem_88 (by decide) ?_
            refine lv_goto (tgt := 93) hx hb dX9_readItem_89 (by decide) ?_
            exact r_zret hC hr hlk hW hf dX9_readItem_93
    · have hf := ie c32 hf
      refine lv_aload_n hx hb dX9_readItem_35 rfl (lv_at hl 0 rfl) ?_
      obtain ⟨r17, hr17, hf⟩ := ob hf
      refine r_gR hC hK hW cfX9 (by decide) wF_X9_18 rfl hr17 dX9_readItem_36 ?_
      obtain ⟨v18, hv18, hf⟩ := ob hf
      refine r_gI hC hK hW cfX8 (by decide) wF_X9_50 rfl hv18 dX9_readItem_39 ?_
      refine lv_bipush (v := (6 : Int32)) hx hb dX9_readItem_42 (by decide) ?_
      refine lv_icmp_ge (tgt := 58) hx hb dX9_readItem_44 (by decide) (fun c44 => ?_) (fun c44 => ?_)
      · have hf := it c44 hf
        exact J58 M0 _ _ _ hW (lv_sub hl [] rfl) hf
      · have hf := ie c44 hf
        refine lv_aload_n hx hb dX9_readItem_47 rfl (lv_at hl 0 rfl) ?_
        obtain ⟨q19, hq19, hf⟩ := ob hf
        refine k_vI hC hK hW cfX9 (c_X9_readGuest l hAd (cv_s hq19).2) (cv_s hq19).1 my_X9_readGuest wI_X9_readGuest wQ_X9_readGuest wM_X9_53 ⟨Nat.le_of_ble_eq_true rfl, Nat.le_of_ble_eq_true rfl⟩ rfl hl.1 rfl (Nat.le_of_ble_eq_true rfl) ⟨Nat.zero_le _, Nat.zero_le _⟩ dX9_readItem_48 (fun H locs hW => ?_)
        refine lv_if_eq (tgt := 58) hx hb dX9_readItem_51 (by decide) (fun c51 => ?_) (fun c51 => ?_)
        · have hf := it c51 hf
          exact J58 q19.2 _ _ _ hW (lv_sub hl [] rfl) hf
        · have hf := ie c51 hf
          refine lv_iconst (v := (1 : Int32)) hx hb dX9_readItem_54 (by decide) ?_
          refine lv_goto (tgt := 59) hx hb dX9_readItem_55 (by decide) ?_
          exact r_zret hC hr hlk hW hf dX9_readItem_59
  · have hf := ie c6 hf
    refine lv_iload_n hx hb dX9_readItem_9 rfl (lv_at hl 1 rfl) ?_
    refine lv_if_eq (tgt := 24) hx hb dX9_readItem_10 (by decide) (fun c10 => ?_) (fun c10 => ?_)
    · have hf := it c10 hf
      exact J24 M0 _ _ _ hW (lv_sub hl [] rfl) hf
    · have hf := ie c10 hf
      refine lv_aload_n hx hb dX9_readItem_13 rfl (lv_at hl 0 rfl) ?_
      obtain ⟨q20, hq20, hf⟩ := ob hf
      refine k_vI hC hK hW cfX9 (c_X9_readSeats l hAd (cv_s hq20).2) (cv_s hq20).1 my_X9_readSeats wI_X9_readSeats wQ_X9_readSeats wM_X9_46 ⟨Nat.le_of_ble_eq_true rfl, Nat.le_of_ble_eq_true rfl⟩ rfl hl.1 rfl (Nat.le_of_ble_eq_true rfl) ⟨Nat.zero_le _, Nat.zero_le _⟩ dX9_readItem_14 (fun H locs hW => ?_)
      refine lv_if_eq (tgt := 24) hx hb dX9_readItem_17 (by decide) (fun c17 => ?_) (fun c17 => ?_)
      · have hf := it c17 hf
        exact J24 q20.2 _ _ _ hW (lv_sub hl [] rfl) hf
      · have hf := ie c17 hf
        refine lv_iconst (v := (1 : Int32)) hx hb dX9_readItem_20 (by decide) ?_
        refine lv_goto (tgt := 25) hx hb dX9_readItem_21 (by decide) ?_
        exact r_zret hC hr hlk hW hf dX9_readItem_25
set_option maxHeartbeats 4000000 in
set_option maxRecDepth 100000 in
theorem c_X9_read (l : Launch) {D : va_G} {cA : Nat → ClassId} {ad : Nat → Nat} {A : Nat → Prop} (hAd : AdOk ad A) {a0 : Nat} {M0 : Mem} {q : (Int32 × Mem)} (hf0 : f_X9_read a0 M0 = some q) : Met l yX9_read (wd yX9_read cX9_read 2 (some .int)) (rmD 6) (PcW D cA ad [.ref (ad a0)] M0) (QI D cA ad A q.1 q.2) 0 0 A := by
  refine mk_met (own := RX9) (by decide +kernel) rfl (Nat.le_of_ble_eq_true rfl) ?_
  intro p e s m args below meth c hC hr hlk hK H locs ls hW hl
  have hx := hC.1
  have hb := hC.2.1
  have hl : lv_has ls 2 [(0, .ref (ad a0))] := hl
  have J42 : ∀ (x0 : Nat) (x1 : Int32) (y0 : Nat) (y1 : Int32) (M : Mem) (ag18 : Int32 × Mem → Option (Int32 × Mem)) (hg18 : ∀ (x1 : Int32) (M : Mem) (H : Heap) (locs : List Loc) (ls : Array Slot) (_ : Wd D cA ad A s M H locs) (_ : lv_has ls 2 [(0, .ref (ad x0)), (1, .int x1)]) (_ : ag18 (x1, M) = some q), W p l e (rmD 6) s m args below meth c H locs 0 0 (MQ below (QI D cA ad A q.1 q.2) args s 0 0 A) (F0 m 18 ls [])) (H : Heap) (locs : List Loc) (ls : Array Slot) (hW : Wd D cA ad A s M H locs) (hl : lv_has ls 2 [(0, .ref (ad x0)), (1, .int x1)]) (hf : f_X9_read_42 ag18 x0 x1 y0 y1 M = some q), W p l e (rmD 6) s m args below meth c H locs 0 0 (MQ below (QI D cA ad A q.1 q.2) args s 0 0 A) (F0 m 42 ls [.int y1, .ref (ad y0)]) := by
    intro x0 x1 y0 y1 M ag18 hg18 H locs ls hW hl hf
    unfold f_X9_read_42 at hf
    obtain ⟨q3, hq3, hf⟩ := ob hf
    refine k_vI hC hK hW cfX9 (c_X9_readItem l hAd (cv_s hq3).2) (cv_s hq3).1 my_X9_readItem wI_X9_readItem wQ_X9_readItem wM_X9_35 ⟨Nat.le_of_ble_eq_true rfl, Nat.le_of_ble_eq_true rfl⟩ rfl hl.1 rfl (Nat.le_of_ble_eq_true rfl) ⟨Nat.zero_le _, Nat.zero_le _⟩ dX9_read_42 (fun H locs hW => ?_)
    refine lv_if_ne (tgt := 56) hx hb dX9_read_45 (by decide) (fun c45 => ?_) (fun c45 => ?_)
    · have hf := ie c45 hf
      refine lv_iinc (v := (x1 + (1 : Int32))) (lv' := [(1, .int (x1 + (1 : Int32))), (0, .ref (ad x0))]) hx hb dX9_read_56 hl (k := 1) rfl rfl (by decide) rfl (fun ls hl => ?_)
      refine lv_goto (tgt := 18) hx hb dX9_read_59 (by decide) ?_
      exact hg18 (x1 + (1 : Int32)) q3.2 _ _ _ hW (lv_sub hl [1, 0] rfl) hf
    · have hf := it c45 hf
      refine lv_bipush (v := (-10 : Int32)) hx hb dX9_read_48 (by decide) ?_
      refine lv_aload_n hx hb dX9_read_50 rfl (lv_at hl 0 rfl) ?_
      obtain ⟨v4, hv4, hf⟩ := ob hf
      refine r_gI hC hK hW cfX9 (by decide) wF_X9_39 rfl hv4 dX9_read_51 ?_
      refine lv_isub hx hb dX9_read_54 ?_
      exact r_iret hC hr hlk hW hf dX9_read_55
  have B18 : ∀ (x0 : Nat) (x1 : Int32) (M : Mem)  (ag18 : Int32 × Mem → Option (Int32 × Mem)) (hg18 : ∀ (x1 : Int32) (M : Mem) (H : Heap) (locs : List Loc) (ls : Array Slot) (_ : Wd D cA ad A s M H locs) (_ : lv_has ls 2 [(0, .ref (ad x0)), (1, .int x1)]) (_ : ag18 (x1, M) = some q), W p l e (rmD 6) s m args below meth c H locs 0 0 (MQ below (QI D cA ad A q.1 q.2) args s 0 0 A) (F0 m 18 ls [])) (H : Heap) (locs : List Loc) (ls : Array Slot) (hW : Wd D cA ad A s M H locs) (hl : lv_has ls 2 [(0, .ref (ad x0)), (1, .int x1)]) (hf : f_X9_read_18b  x0 ag18 x1 M = some q), W p l e (rmD 6) s m args below meth c H locs 0 0 (MQ below (QI D cA ad A q.1 q.2) args s 0 0 A) (F0 m 18 ls []) := by
    intro x0 x1 M  ag18 hg18 H locs ls hW hl hf
    unfold f_X9_read_18b at hf
    refine lv_aload_n hx hb dX9_read_18 rfl (lv_at hl 0 rfl) ?_
    obtain ⟨v6, hv6, hf⟩ := ob hf
    refine r_gI hC hK hW cfX9 (by decide) wF_X9_32 rfl hv6 dX9_read_19 ?_
    refine lv_if_eq (tgt := 62) hx hb dX9_read_22 (by decide) (fun c22 => ?_) (fun c22 => ?_)
    · have hf := it c22 hf
      refine lv_iload_n hx hb dX9_read_62 rfl (lv_at hl 1 rfl) ?_
      exact r_iret hC hr hlk hW hf dX9_read_63
    · have hf := ie c22 hf
      refine lv_iload_n hx hb dX9_read_25 rfl (lv_at hl 1 rfl) ?_
      refine lv_sipush (v := (140 : Int32)) hx hb dX9_read_26 (by decide) ?_
      refine lv_icmp_ge (tgt := 62) hx hb dX9_read_29 (by decide) (fun c29 => ?_) (fun c29 => ?_)
      · have hf := it c29 hf
        refine lv_iload_n hx hb dX9_read_62 rfl (lv_at hl 1 rfl) ?_
        exact r_iret hC hr hlk hW hf dX9_read_63
      · have hf := ie c29 hf
        refine lv_aload_n hx hb dX9_read_32 rfl (lv_at hl 0 rfl) ?_
        refine lv_iload_n hx hb dX9_read_33 rfl (lv_at hl 1 rfl) ?_
        refine lv_if_ne (tgt := 41) hx hb dX9_read_34 (by decide) (fun c34 => ?_) (fun c34 => ?_)
        · have hf := ie c34 hf
          refine lv_iconst (v := (0 : Int32)) hx hb dX9_read_41 (by decide) ?_
          exact J42 x0 x1 x0 (0 : Int32) M ag18 hg18 _ _ _ hW (lv_sub hl [0, 1] rfl) hf
        · have hf := it c34 hf
          refine lv_iconst (v := (1 : Int32)) hx hb dX9_read_37 (by decide) ?_
          refine lv_goto (tgt := 42) hx hb dX9_read_38 (by decide) ?_
          exact J42 x0 x1 x0 (1 : Int32) M ag18 hg18 _ _ _ hW (lv_sub hl [0, 1] rfl) hf
  have J18 : ∀ (x0 : Nat) (x1 : Int32) (M : Mem)  (H : Heap) (locs : List Loc) (ls : Array Slot) (hW : Wd D cA ad A s M H locs) (hl : lv_has ls 2 [(0, .ref (ad x0)), (1, .int x1)]) (hf : f_X9_read_18  x0 x1 M = some q), W p l e (rmD 6) s m args below meth c H locs 0 0 (MQ below (QI D cA ad A q.1 q.2) args s 0 0 A) (F0 m 18 ls []) := by
    intro x0 x1 M  H locs ls hW hl hf
    unfold f_X9_read_18 at hf
    have key : ∀ (n : Nat) (x1 : Int32) (M : Mem) (H : Heap) (locs : List Loc) (ls : Array Slot) (hW : Wd D cA ad A s M H locs) (hl : lv_has ls 2 [(0, .ref (ad x0)), (1, .int x1)]) (hf : loopF (fun ag s => f_X9_read_18b  x0 ag s.1 s.2) n (x1, M) = some q), W p l e (rmD 6) s m args below meth c H locs 0 0 (MQ below (QI D cA ad A q.1 q.2) args s 0 0 A) (F0 m 18 ls []) := by
      intro n
      induction n with
      | zero => intro x1 M H locs ls hW hl hf; exact nomatch (show (none : Option _) = some _ from hf)
      | succ n ih => intro x1 M H locs ls hW hl hf; exact B18 x0 x1 M  _ ih H locs ls hW hl hf
    exact key FU x1 M H locs ls hW hl hf
  have hf := hf0
  unfold f_X9_read at hf
  refine lv_aload_n hx hb dX9_read_0 rfl (lv_at hl 0 rfl) ?_
  obtain ⟨r11, hr11, hf⟩ := ob hf
  refine r_gR hC hK hW cfX9 (by decide) wF_X9_18 rfl hr11 dX9_read_1 ?_
  obtain ⟨q12, hq12, hf⟩ := ob hf
  refine k_vV hC hK hW cfX8 (c_X8_empty l hAd (cv_s hq12).2) (cv_s hq12).1 my_X8_empty wI_X8_empty wQ_X8_empty wM_X9_22 ⟨Nat.le_of_ble_eq_true rfl, Nat.le_of_ble_eq_true rfl⟩ rfl hl.1 rfl (Nat.le_of_ble_eq_true rfl) ⟨Nat.zero_le _, Nat.zero_le _⟩ dX9_read_4 (fun H locs hW => ?_)
  refine lv_aload_n hx hb dX9_read_7 rfl (lv_at hl 0 rfl) ?_
  refine lv_iconst (v := (0 : Int32)) hx hb dX9_read_8 (by decide) ?_
  obtain ⟨M13, hM13, hf⟩ := ob hf
  refine r_pI hC hK hAd hW cfX9 (by decide) wF_X9_25 rfl rfl rfl hM13 dX9_read_9 (fun H locs hW => ?_)
  refine lv_aload_n hx hb dX9_read_12 rfl (lv_at hl 0 rfl) ?_
  obtain ⟨q14, hq14, hf⟩ := ob hf
  refine k_vV hC hK hW cfX9 (c_X9_nextToken l hAd (cv_s hq14).2) (cv_s hq14).1 my_X9_nextToken wI_X9_nextToken wQ_X9_nextToken wM_X9_29 ⟨Nat.le_of_ble_eq_true rfl, Nat.le_of_ble_eq_true rfl⟩ rfl hl.1 rfl (Nat.le_of_ble_eq_true rfl) ⟨Nat.zero_le _, Nat.zero_le _⟩ dX9_read_13 (fun H locs hW => ?_)
  refine lv_iconst (v := (0 : Int32)) hx hb dX9_read_16 (by decide) ?_
  refine lv_istore_n (lv' := [(1, .int (0 : Int32)), (0, .ref (ad a0))]) hx hb dX9_read_17 rfl hl (by decide) rfl (fun ls hl => ?_)
  exact J18 a0 (0 : Int32) q14 _ _ _ hW (lv_sub hl [1, 0] rfl) hf
set_option maxHeartbeats 4000000 in
set_option maxRecDepth 100000 in
theorem c_X9_handOver (l : Launch) {D : va_G} {cA : Nat → ClassId} {ad : Nat → Nat} {A : Nat → Prop} (hAd : AdOk ad A) {a0 : Nat} {a1 : Nat} {M0 : Mem} {q : (Nat × Mem)} (hf0 : f_X9_handOver a0 a1 M0 = some q) : Met l yX9_handOver (wd yX9_handOver cX9_handOver 3 (some (.object "TrayTurns$Party"))) (rmD 0) (PcW D cA ad [.ref (ad a0), .ref (ad a1)] M0) (QR D cA ad A q.1 q.2) 0 0 A := by
  refine mk_met (own := RX9) (by decide +kernel) rfl (Nat.le_of_ble_eq_true rfl) ?_
  intro p e s m args below meth c hC hr hlk hK H locs ls hW hl
  have hx := hC.1
  have hb := hC.2.1
  have hl : lv_has ls 3 [(0, .ref (ad a0)), (1, .ref (ad a1))] := hl
  have hf := hf0
  unfold f_X9_handOver at hf
  refine lv_aload_n hx hb dX9_handOver_0 rfl (lv_at hl 0 rfl) ?_
  obtain ⟨r3, hr3, hf⟩ := ob hf
  refine r_gR hC hK hW cfX9 (by decide) wF_X9_18 rfl hr3 dX9_handOver_1 ?_
  refine lv_astore_n (lv' := [(2, .ref (ad r3)), (0, .ref (ad a0)), (1, .ref (ad a1))]) hx hb dX9_handOver_4 rfl hl (by decide) rfl (fun ls hl => ?_)
  refine lv_aload_n hx hb dX9_handOver_5 rfl (lv_at hl 1 rfl) ?_
  refine lv_aload_n hx hb dX9_handOver_6 rfl (lv_at hl 2 rfl) ?_
  obtain ⟨M4, hM4, hf⟩ := ob hf
  refine r_pR hC hK hAd hW cfX9 (by decide) wF_X9_18 rfl rfl rfl hM4 dX9_handOver_7 (fun H locs hW => ?_)
  refine lv_aload_n hx hb dX9_handOver_10 rfl (lv_at hl 0 rfl) ?_
  exact r_aret hC hr hlk hW hf dX9_handOver_11
