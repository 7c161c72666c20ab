set_option maxHeartbeats 4000000 in
set_option maxRecDepth 100000 in
theorem c_X12_letterAt (l : Launch) {D : va_G} {cA : Nat → ClassId} {ad : Nat → Nat} {A : Nat → Prop} (hAd : AdOk ad A) {a0 : Nat} {a1 : Int32} {M0 : Mem} {q : Int32} (hf0 : f_X12_letterAt a0 a1 M0 = some q) : Met l yX12_letterAt (wd yX12_letterAt cX12_letterAt 2 (some .int)) (rmD 0) (PcW D cA ad [.ref (ad a0), .int a1] M0) (QI D cA ad A q M0) 0 0 A := by
  refine mk_met (own := RX12) (by decide +kernel) rfl (Nat.le_of_ble_eq_true rfl) ?_
  intro p e s m args below meth c hC hr hlk hK H locs ls hW hl
  have hx := hC.1
  have hb := hC.2.1
  have hl : lv_has ls 2 [(0, .ref (ad a0)), (1, .int a1)] := hl
  have hf := hf0
  unfold f_X12_letterAt at hf
  refine lv_iload_n hx hb dX12_letterAt_0 rfl (lv_at hl 1 rfl) ?_
  refine lv_aload_n hx hb dX12_letterAt_1 rfl (lv_at hl 0 rfl) ?_
  obtain ⟨v4, hv4, hf⟩ := ob hf
  refine r_gI hC hK hW cfX12 (by decide) wF_X12_73 rfl hv4 dX12_letterAt_2 ?_
  refine lv_icmp_ge (tgt := 17) hx hb dX12_letterAt_5 (by decide) (fun c5 => ?_) (fun c5 => ?_)
  · have hf := it c5 hf
    refine lv_iconst (v := (-1 : Int32)) hx hb dX12_letterAt_17 (by decide) ?_
    exact r_iretP hC hr hlk hW hf dX12_letterAt_18
  · have hf := ie c5 hf
    refine lv_aload_n hx hb dX12_letterAt_8 rfl (lv_at hl 0 rfl) ?_
    obtain ⟨r5, hr5, hf⟩ := ob hf
    refine r_gR hC hK hW cfX12 (by decide) wF_X12_7 rfl hr5 dX12_letterAt_9 ?_
    refine lv_iload_n hx hb dX12_letterAt_12 rfl (lv_at hl 1 rfl) ?_
    obtain ⟨v6, hv6, hf⟩ := ob hf
    refine r_aI hC hK hW hv6 dX12_letterAt_13 ?_
    refine lv_goto (tgt := 18) hx hb dX12_letterAt_14 (by decide) ?_
    exact r_iretP hC hr hlk hW hf dX12_letterAt_18
set_option maxHeartbeats 4000000 in
set_option maxRecDepth 100000 in
theorem c_X12_in (l : Launch) {D : va_G} {cA : Nat → ClassId} {ad : Nat → Nat} {A : Nat → Prop} (hAd : AdOk ad A) {a0 : Int32} {a1 : Int32} {a2 : Int32} {M0 : Mem} {q : Int32} (hf0 : f_X12_in a0 a1 a2 M0 = some q) : Met l yX12_in (wd yX12_in cX12_in 3 (some .boolean)) (rmD 0) (PcW D cA ad [.int a0, .int a1, .int a2] M0) (QI D cA ad A q M0) 0 0 A := by
  refine mk_met (own := RX12) (by decide +kernel) rfl (Nat.le_of_ble_eq_true rfl) ?_
  intro p e s m args below meth c hC hr hlk hK H locs ls hW hl
  have hx := hC.1
  have hb := hC.2.1
  have hl : lv_has ls 3 [(0, .int a0), (1, .int a1), (2, .int a2)] := hl
  have J14 : ∀    (H : Heap) (locs : List Loc) (ls : Array Slot) (hW : Wd D cA ad A s M0 H locs) (hl : lv_has ls 3 []) (hf : f_X12_in_14    M0 = some q), W p l e (rmD 0) s m args below meth c H locs 0 0 (MQ below (QI D cA ad A q M0) args s 0 0 A) (F0 m 14 ls []) := by
    intro    H locs ls hW hl hf
    unfold f_X12_in_14 at hf
    refine lv_iconst (v := (0 : Int32)) hx hb dX12_in_14 (by decide) ?_
    exact r_zretP hC hr hlk hW hf dX12_in_15
  have hf := hf0
  unfold f_X12_in at hf
  refine lv_iload_n hx hb dX12_in_0 rfl (lv_at hl 0 rfl) ?_
  refine lv_iload_n hx hb dX12_in_1 rfl (lv_at hl 1 rfl) ?_
  refine lv_icmp_lt (tgt := 14) hx hb dX12_in_2 (by decide) (fun c2 => ?_) (fun c2 => ?_)
  · have hf := it c2 hf
    exact J14  _ _ _ hW (lv_sub hl [] rfl) hf
  · have hf := ie c2 hf
    refine lv_iload_n hx hb dX12_in_5 rfl (lv_at hl 0 rfl) ?_
    refine lv_iload_n hx hb dX12_in_6 rfl (lv_at hl 2 rfl) ?_
    refine lv_icmp_gt (tgt := 14) hx hb dX12_in_7 (by decide) (fun c7 => ?_) (fun c7 => ?_)
    · have hf := it c7 hf
      exact J14  _ _ _ hW (lv_sub hl [] rfl) hf
    · have hf := ie c7 hf
      refine lv_iconst (v := (1 : Int32)) hx hb dX12_in_10 (by decide) ?_
      refine lv_goto (tgt := 15) hx hb dX12_in_11 (by decide) ?_
      exact r_zretP hC hr hlk hW hf dX12_in_15
set_option maxHeartbeats 4000000 in
set_option maxRecDepth 100000 in
theorem c_X12_advances (l : Launch) {D : va_G} {cA : Nat → ClassId} {ad : Nat → Nat} {A : Nat → Prop} (hAd : AdOk ad A) {a0 : Nat} {M0 : Mem} {q : Mem} (hf0 : f_X12_advances a0 M0 = some q) : Met l yX12_advances (wd yX12_advances cX12_advances 2 none) (rmD 1) (PcW D cA ad [.ref (ad a0)] M0) (QV D cA ad A q) 0 0 A := by
  refine mk_met (own := RX12) (by decide +kernel) rfl (Nat.le_of_ble_eq_true rfl) ?_
  intro p e s m args below meth c hC hr hlk hK H locs ls hW hl
  have hx := hC.1
  have hb := hC.2.1
  have hl : lv_has ls 2 [(0, .ref (ad a0))] := hl
  have J275 : ∀  (y0 : Nat) (y1 : Int32) (M : Mem)  (H : Heap) (locs : List Loc) (ls : Array Slot) (hW : Wd D cA ad A s M H locs) (hl : lv_has ls 2 []) (hf : f_X12_advances_275   y0 y1 M = some q), W p l e (rmD 1) s m args below meth c H locs 0 0 (MQ below (QV D cA ad A q) args s 0 0 A) (F0 m 275 ls [.int y1, .ref (ad y0)]) := by
    intro  y0 y1 M  H locs ls hW hl hf
    unfold f_X12_advances_275 at hf
    obtain ⟨M2, hM2, hf⟩ := ob hf
    refine r_pI hC hK hAd hW cfX12 (by decide) wF_X12_89 rfl rfl rfl hM2 dX12_advances_275 (fun H locs hW => ?_)
    exact r_vret hC hr hlk hW hf dX12_advances_278
  have J247 : ∀  (y0 : Nat) (y1 : Int32) (M : Mem)  (H : Heap) (locs : List Loc) (ls : Array Slot) (hW : Wd D cA ad A s M H locs) (hl : lv_has ls 2 []) (hf : f_X12_advances_247   y0 y1 M = some q), W p l e (rmD 1) s m args below meth c H locs 0 0 (MQ below (QV D cA ad A q) args s 0 0 A) (F0 m 247 ls [.int y1, .ref (ad y0)]) := by
    intro  y0 y1 M  H locs ls hW hl hf
    unfold f_X12_advances_247 at hf
    obtain ⟨M4, hM4, hf⟩ := ob hf
    refine r_pI hC hK hAd hW cfX12 (by decide) wF_X12_86 rfl rfl rfl hM4 dX12_advances_247 (fun H locs hW => ?_)
    refine lv_goto (tgt := 278) hx hb dX12_advances_250 (by decide) ?_
    exact r_vret hC hr hlk hW hf dX12_advances_278
  have B192 : ∀ (x0 : Nat) (x1 : Int32)  (M : Mem)  (ag192 : Mem → Option Mem) (hg192 : ∀ (M : Mem) (H : Heap) (locs : List Loc) (ls : Array Slot) (_ : Wd D cA ad A s M H locs) (_ : lv_has ls 2 [(0, .ref (ad x0)), (1, .int x1)]) (_ : ag192 M = some q), W p l e (rmD 1) s m args below meth c H locs 0 0 (MQ below (QV D cA ad A q) args s 0 0 A) (F0 m 192 ls [])) (H : Heap) (locs : List Loc) (ls : Array Slot) (hW : Wd D cA ad A s M H locs) (hl : lv_has ls 2 [(0, .ref (ad x0)), (1, .int x1)]) (hf : f_X12_advances_192b  x0 x1 ag192 M = some q), W p l e (rmD 1) s m args below meth c H locs 0 0 (MQ below (QV D cA ad A q) args s 0 0 A) (F0 m 192 ls []) := by
    intro x0 x1 M  ag192 hg192 H locs ls hW hl hf
    unfold f_X12_advances_192b at hf
    refine lv_aload_n hx hb dX12_advances_192 rfl (lv_at hl 0 rfl) ?_
    refine lv_aload_n hx hb dX12_advances_193 rfl (lv_at hl 0 rfl) ?_
    obtain ⟨v13, hv13, hf⟩ := ob hf
    refine r_gI hC hK hW cfX12 (by decide) wF_X12_76 rfl hv13 dX12_advances_194 ?_
    obtain ⟨q14, hq14, hf⟩ := ob hf
    refine k_vI hC hK hW cfX12 (c_X12_letterAt l hAd (cv_s hq14).2) (cv_s hq14).1 my_X12_letterAt wI_X12_letterAt wQ_X12_letterAt wM_X12_79 ⟨Nat.le_of_ble_eq_true rfl, Nat.le_of_ble_eq_true rfl⟩ rfl hl.1 rfl (Nat.le_of_ble_eq_true rfl) ⟨Nat.zero_le _, Nat.zero_le _⟩ dX12_advances_197 (fun H locs hW => ?_)
    refine lv_bipush (v := (97 : Int32)) hx hb dX12_advances_200 (by decide) ?_
    refine lv_bipush (v := (122 : Int32)) hx hb dX12_advances_202 (by decide) ?_
    obtain ⟨q15, hq15, hf⟩ := ob hf
    refine k_sI hC hK hW (c_X12_in l hAd hq15) my_X12_in wS_X12_in wM_X12_69 ⟨Nat.le_of_ble_eq_true rfl, Nat.le_of_ble_eq_true rfl⟩ rfl hl.1 rfl (Nat.le_of_ble_eq_true rfl) ⟨Nat.zero_le _, Nat.zero_le _⟩ dX12_advances_204 (fun H locs hW => ?_)
    refine lv_if_eq (tgt := 223) hx hb dX12_advances_207 (by decide) (fun c207 => ?_) (fun c207 => ?_)
    · have hf := it c207 hf
      refine lv_aload_n hx hb dX12_advances_223 rfl (lv_at hl 0 rfl) ?_
      refine lv_iconst (v := (1 : Int32)) hx hb dX12_advances_224 (by decide) ?_
      obtain ⟨M16, hM16, hf⟩ := ob hf
      refine r_pI hC hK hAd hW cfX12 (by decide) wF_X12_89 rfl rfl rfl hM16 dX12_advances_225 (fun H locs hW => ?_)
      refine lv_aload_n hx hb dX12_advances_228 rfl (lv_at hl 0 rfl) ?_
      refine lv_aload_n hx hb dX12_advances_229 rfl (lv_at hl 0 rfl) ?_
      obtain ⟨v17, hv17, hf⟩ := ob hf
      refine r_gI hC hK hW cfX12 (by decide) wF_X12_76 rfl hv17 dX12_advances_230 ?_
      refine lv_aload_n hx hb dX12_advances_233 rfl (lv_at hl 0 rfl) ?_
      obtain ⟨v18, hv18, hf⟩ := ob hf
      refine r_gI hC hK hW cfX12 (by decide) wF_X12_83 rfl hv18 dX12_advances_234 ?_
      refine lv_isub hx hb dX12_advances_237 ?_
      refine lv_iconst (v := (1 : Int32)) hx hb dX12_advances_238 (by decide) ?_
      refine lv_icmp_ne (tgt := 246) hx hb dX12_advances_239 (by decide) (fun c239 => ?_) (fun c239 => ?_)
      · have hf := ie c239 hf
        refine lv_iconst (v := (0 : Int32)) hx hb dX12_advances_246 (by decide) ?_
        exact J247 x0 (0 : Int32) M16 _ _ _ hW (lv_sub hl [] rfl) hf
      · have hf := it c239 hf
        refine lv_iload_n hx hb dX12_advances_242 rfl (lv_at hl 1 rfl) ?_
        refine lv_goto (tgt := 247) hx hb dX12_advances_243 (by decide) ?_
        exact J247 x0 x1 M16 _ _ _ hW (lv_sub hl [] rfl) hf
    · have hf := ie c207 hf
      refine lv_aload_n hx hb dX12_advances_210 rfl (lv_at hl 0 rfl) ?_
      refine lv_dup hx hb dX12_advances_211 rfl ?_
      obtain ⟨v19, hv19, hf⟩ := ob hf
      refine r_gI hC hK hW cfX12 (by decide) wF_X12_76 rfl hv19 dX12_advances_212 ?_
      refine lv_iconst (v := (1 : Int32)) hx hb dX12_advances_215 (by decide) ?_
      refine lv_iadd hx hb dX12_advances_216 ?_
      obtain ⟨M20, hM20, hf⟩ := ob hf
      refine r_pI hC hK hAd hW cfX12 (by decide) wF_X12_76 rfl rfl rfl hM20 dX12_advances_217 (fun H locs hW => ?_)
      refine lv_goto (tgt := 192) hx hb dX12_advances_220 (by decide) ?_
      exact hg192 M20 _ _ _ hW (lv_sub hl [0, 1] rfl) hf
  have J192 : ∀ (x0 : Nat) (x1 : Int32)  (M : Mem)  (H : Heap) (locs : List Loc) (ls : Array Slot) (hW : Wd D cA ad A s M H locs) (hl : lv_has ls 2 [(0, .ref (ad x0)), (1, .int x1)]) (hf : f_X12_advances_192  x0 x1 M = some q), W p l e (rmD 1) s m args below meth c H locs 0 0 (MQ below (QV D cA ad A q) args s 0 0 A) (F0 m 192 ls []) := by
    intro x0 x1 M  H locs ls hW hl hf
    unfold f_X12_advances_192 at hf
    have key : ∀ (n : Nat)  (M : Mem) (H : Heap) (locs : List Loc) (ls : Array Slot) (hW : Wd D cA ad A s M H locs) (hl : lv_has ls 2 [(0, .ref (ad x0)), (1, .int x1)]) (hf : loopF (fun ag s => f_X12_advances_192b  x0 x1 ag s) n M = some q), W p l e (rmD 1) s m args below meth c H locs 0 0 (MQ below (QV D cA ad A q) args s 0 0 A) (F0 m 192 ls []) := by
      intro n
      induction n with
      | zero => intro M H locs ls hW hl hf; exact nomatch (show (none : Option _) = some _ from hf)
      | succ n ih => intro M H locs ls hW hl hf; exact B192 x0 x1 M  _ ih H locs ls hW hl hf
    exact key FU M H locs ls hW hl hf
  have J175 : ∀  (y0 : Nat) (y1 : Int32) (M : Mem)  (H : Heap) (locs : List Loc) (ls : Array Slot) (hW : Wd D cA ad A s M H locs) (hl : lv_has ls 2 []) (hf : f_X12_advances_175   y0 y1 M = some q), W p l e (rmD 1) s m args below meth c H locs 0 0 (MQ below (QV D cA ad A q) args s 0 0 A) (F0 m 175 ls [.int y1, .ref (ad y0)]) := by
    intro  y0 y1 M  H locs ls hW hl hf
    unfold f_X12_advances_175 at hf
    obtain ⟨M22, hM22, hf⟩ := ob hf
    refine r_pI hC hK hAd hW cfX12 (by decide) wF_X12_89 rfl rfl rfl hM22 dX12_advances_175 (fun H locs hW => ?_)
    refine lv_goto (tgt := 278) hx hb dX12_advances_178 (by decide) ?_
    exact r_vret hC hr hlk hW hf dX12_advances_278
  have J174 : ∀  (y0 : Nat) (M : Mem)  (H : Heap) (locs : List Loc) (ls : Array Slot) (hW : Wd D cA ad A s M H locs) (hl : lv_has ls 2 []) (hf : f_X12_advances_174   y0 M = some q), W p l e (rmD 1) s m args below meth c H locs 0 0 (MQ below (QV D cA ad A q) args s 0 0 A) (F0 m 174 ls [.ref (ad y0)]) := by
    intro  y0 M  H locs ls hW hl hf
    unfold f_X12_advances_174 at hf
    refine lv_iconst (v := (2 : Int32)) hx hb dX12_advances_174 (by decide) ?_
    exact J175 y0 (2 : Int32) M _ _ _ hW (lv_sub hl [] rfl) hf
  have J170 : ∀  (y0 : Nat) (M : Mem)  (H : Heap) (locs : List Loc) (ls : Array Slot) (hW : Wd D cA ad A s M H locs) (hl : lv_has ls 2 []) (hf : f_X12_advances_170   y0 M = some q), W p l e (rmD 1) s m args below meth c H locs 0 0 (MQ below (QV D cA ad A q) args s 0 0 A) (F0 m 170 ls [.ref (ad y0)]) := by
    intro  y0 M  H locs ls hW hl hf
    unfold f_X12_advances_170 at hf
    refine lv_iconst (v := (4 : Int32)) hx hb dX12_advances_170 (by decide) ?_
    refine lv_goto (tgt := 175) hx hb dX12_advances_171 (by decide) ?_
    exact J175 y0 (4 : Int32) M _ _ _ hW (lv_sub hl [] rfl) hf
  have J125 : ∀ (x0 : Nat) (x1 : Int32) (y0 : Nat) (y1 : Int32) (M : Mem) (ag71 : Mem → Option Mem) (hg71 : ∀ (M : Mem) (H : Heap) (locs : List Loc) (ls : Array Slot) (_ : Wd D cA ad A s M H locs) (_ : lv_has ls 2 [(0, .ref (ad x0)), (1, .int x1)]) (_ : ag71 M = some q), W p l e (rmD 1) s m args below meth c H locs 0 0 (MQ below (QV D cA ad A q) args s 0 0 A) (F0 m 71 ls [])) (H : Heap) (locs : List Loc) (ls : Array Slot) (hW : Wd D cA ad A s M H locs) (hl : lv_has ls 2 [(0, .ref (ad x0)), (1, .int x1)]) (hf : f_X12_advances_125 ag71 x0 x1 y0 y1 M = some q), W p l e (rmD 1) s m args below meth c H locs 0 0 (MQ below (QV D cA ad A q) args s 0 0 A) (F0 m 125 ls [.int y1, .ref (ad y0)]) := by
    intro x0 x1 y0 y1 M ag71 hg71 H locs ls hW hl hf
    unfold f_X12_advances_125 at hf
    obtain ⟨M26, hM26, hf⟩ := ob hf
    refine r_pI hC hK hAd hW cfX12 (by decide) wF_X12_86 rfl rfl rfl hM26 dX12_advances_125 (fun H locs hW => ?_)
    refine lv_aload_n hx hb dX12_advances_128 rfl (lv_at hl 0 rfl) ?_
    refine lv_dup hx hb dX12_advances_129 rfl ?_
    obtain ⟨v27, hv27, hf⟩ := ob hf
    refine r_gI hC hK hW cfX12 (by decide) wF_X12_76 rfl hv27 dX12_advances_130 ?_
    refine lv_iconst (v := (1 : Int32)) hx hb dX12_advances_133 (by decide) ?_
    refine lv_iadd hx hb dX12_advances_134 ?_
    obtain ⟨M28, hM28, hf⟩ := ob hf
    refine r_pI hC hK hAd hW cfX12 (by decide) wF_X12_76 rfl rfl rfl hM28 dX12_advances_135 (fun H locs hW => ?_)
    refine lv_goto (tgt := 71) hx hb dX12_advances_138 (by decide) ?_
    exact hg71 M28 _ _ _ hW (lv_sub hl [0, 1] rfl) hf
  have B71 : ∀ (x0 : Nat) (x1 : Int32)  (M : Mem)  (ag71 : Mem → Option Mem) (hg71 : ∀ (M : Mem) (H : Heap) (locs : List Loc) (ls : Array Slot) (_ : Wd D cA ad A s M H locs) (_ : lv_has ls 2 [(0, .ref (ad x0)), (1, .int x1)]) (_ : ag71 M = some q), W p l e (rmD 1) s m args below meth c H locs 0 0 (MQ below (QV D cA ad A q) args s 0 0 A) (F0 m 71 ls [])) (H : Heap) (locs : List Loc) (ls : Array Slot) (hW : Wd D cA ad A s M H locs) (hl : lv_has ls 2 [(0, .ref (ad x0)), (1, .int x1)]) (hf : f_X12_advances_71b  x0 x1 ag71 M = some q), W p l e (rmD 1) s m args below meth c H locs 0 0 (MQ below (QV D cA ad A q) args s 0 0 A) (F0 m 71 ls []) := by
    intro x0 x1 M  ag71 hg71 H locs ls hW hl hf
    unfold f_X12_advances_71b at hf
    refine lv_aload_n hx hb dX12_advances_71 rfl (lv_at hl 0 rfl) ?_
    refine lv_aload_n hx hb dX12_advances_72 rfl (lv_at hl 0 rfl) ?_
    obtain ⟨v40, hv40, hf⟩ := ob hf
    refine r_gI hC hK hW cfX12 (by decide) wF_X12_76 rfl hv40 dX12_advances_73 ?_
    obtain ⟨q41, hq41, hf⟩ := ob hf
    refine k_vI hC hK hW cfX12 (c_X12_letterAt l hAd (cv_s hq41).2) (cv_s hq41).1 my_X12_letterAt wI_X12_letterAt wQ_X12_letterAt wM_X12_79 ⟨Nat.le_of_ble_eq_true rfl, Nat.le_of_ble_eq_true rfl⟩ rfl hl.1 rfl (Nat.le_of_ble_eq_true rfl) ⟨Nat.zero_le _, Nat.zero_le _⟩ dX12_advances_76 (fun H locs hW => ?_)
    refine lv_bipush (v := (48 : Int32)) hx hb dX12_advances_79 (by decide) ?_
    refine lv_bipush (v := (57 : Int32)) hx hb dX12_advances_81 (by decide) ?_
    obtain ⟨q42, hq42, hf⟩ := ob hf
    refine k_sI hC hK hW (c_X12_in l hAd hq42) my_X12_in wS_X12_in wM_X12_69 ⟨Nat.le_of_ble_eq_true rfl, Nat.le_of_ble_eq_true rfl⟩ rfl hl.1 rfl (Nat.le_of_ble_eq_true rfl) ⟨Nat.zero_le _, Nat.zero_le _⟩ dX12_advances_83 (fun H locs hW => ?_)
    refine lv_if_eq (tgt := 141) hx hb dX12_advances_86 (by decide) (fun c86 => ?_) (fun c86 => ?_)
    · have hf := it c86 hf
      refine lv_aload_n hx hb dX12_advances_141 rfl (lv_at hl 0 rfl) ?_
      refine lv_aload_n hx hb dX12_advances_142 rfl (lv_at hl 0 rfl) ?_
      obtain ⟨v43, hv43, hf⟩ := ob hf
      refine r_gI hC hK hW cfX12 (by decide) wF_X12_86 rfl hv43 dX12_advances_143 ?_
      refine lv_bipush (v := (99 : Int32)) hx hb dX12_advances_146 (by decide) ?_
      refine lv_icmp_gt (tgt := 170) hx hb dX12_advances_148 (by decide) (fun c148 => ?_) (fun c148 => ?_)
      · have hf := it c148 hf
        exact J170 x0 M _ _ _ hW (lv_sub hl [] rfl) hf
      · have hf := ie c148 hf
        refine lv_iload_n hx hb dX12_advances_151 rfl (lv_at hl 1 rfl) ?_
        refine lv_bipush (v := (48 : Int32)) hx hb dX12_advances_152 (by decide) ?_
        refine lv_icmp_ne (tgt := 174) hx hb dX12_advances_154 (by decide) (fun c154 => ?_) (fun c154 => ?_)
        · have hf := ie c154 hf
          exact J174 x0 M _ _ _ hW (lv_sub hl [] rfl) hf
        · have hf := it c154 hf
          refine lv_aload_n hx hb dX12_advances_157 rfl (lv_at hl 0 rfl) ?_
          obtain ⟨v44, hv44, hf⟩ := ob hf
          refine r_gI hC hK hW cfX12 (by decide) wF_X12_76 rfl hv44 dX12_advances_158 ?_
          refine lv_aload_n hx hb dX12_advances_161 rfl (lv_at hl 0 rfl) ?_
          obtain ⟨v45, hv45, hf⟩ := ob hf
          refine r_gI hC hK hW cfX12 (by decide) wF_X12_83 rfl hv45 dX12_advances_162 ?_
          refine lv_isub hx hb dX12_advances_165 ?_
          refine lv_iconst (v := (1 : Int32)) hx hb dX12_advances_166 (by decide) ?_
          refine lv_icmp_le (tgt := 174) hx hb dX12_advances_167 (by decide) (fun c167 => ?_) (fun c167 => ?_)
          · have hf := it c167 hf
            exact J174 x0 M _ _ _ hW (lv_sub hl [] rfl) hf
          · have hf := ie c167 hf
            exact J170 x0 M _ _ _ hW (lv_sub hl [] rfl) hf
    · have hf := ie c86 hf
      refine lv_aload_n hx hb dX12_advances_89 rfl (lv_at hl 0 rfl) ?_
      refine lv_aload_n hx hb dX12_advances_90 rfl (lv_at hl 0 rfl) ?_
      obtain ⟨v46, hv46, hf⟩ := ob hf
      refine r_gI hC hK hW cfX12 (by decide) wF_X12_86 rfl hv46 dX12_advances_91 ?_
      refine lv_bipush (v := (99 : Int32)) hx hb dX12_advances_94 (by decide) ?_
      refine lv_icmp_le (tgt := 106) hx hb dX12_advances_96 (by decide) (fun c96 => ?_) (fun c96 => ?_)
      · have hf := it c96 hf
        refine lv_bipush (v := (10 : Int32)) hx hb dX12_advances_106 (by decide) ?_
        refine lv_aload_n hx hb dX12_advances_108 rfl (lv_at hl 0 rfl) ?_
        obtain ⟨v47, hv47, hf⟩ := ob hf
        refine r_gI hC hK hW cfX12 (by decide) wF_X12_86 rfl hv47 dX12_advances_109 ?_
        refine lv_imul hx hb dX12_advances_112 ?_
        refine lv_aload_n hx hb dX12_advances_113 rfl (lv_at hl 0 rfl) ?_
        refine lv_aload_n hx hb dX12_advances_114 rfl (lv_at hl 0 rfl) ?_
        obtain ⟨v48, hv48, hf⟩ := ob hf
        refine r_gI hC hK hW cfX12 (by decide) wF_X12_76 rfl hv48 dX12_advances_115 ?_
        obtain ⟨q49, hq49, hf⟩ := ob hf
        refine k_vI hC hK hW cfX12 (c_X12_letterAt l hAd (cv_s hq49).2) (cv_s hq49).1 my_X12_letterAt wI_X12_letterAt wQ_X12_letterAt wM_X12_79 ⟨Nat.le_of_ble_eq_true rfl, Nat.le_of_ble_eq_true rfl⟩ rfl hl.1 rfl (Nat.le_of_ble_eq_true rfl) ⟨Nat.zero_le _, Nat.zero_le _⟩ dX12_advances_118 (fun H locs hW => ?_)
        refine lv_iadd hx hb dX12_advances_121 ?_
        refine lv_bipush (v := (48 : Int32)) hx hb dX12_advances_122 (by decide) ?_
        refine lv_isub hx hb dX12_advances_124 ?_
        exact J125 x0 x1 x0 ((((10 : Int32) * v47) + q49) - (48 : Int32)) M ag71 hg71 _ _ _ hW (lv_sub hl [0, 1] rfl) hf
      · have hf := ie c96 hf
        refine lv_aload_n hx hb dX12_advances_99 rfl (lv_at hl 0 rfl) ?_
        obtain ⟨v50, hv50, hf⟩ := ob hf
        refine r_gI hC hK hW cfX12 (by decide) wF_X12_86 rfl hv50 dX12_advances_100 ?_
        refine lv_goto (tgt := 125) hx hb dX12_advances_103 (by decide) ?_
        exact J125 x0 x1 x0 v50 M ag71 hg71 _ _ _ hW (lv_sub hl [0, 1] rfl) hf
  have J71 : ∀ (x0 : Nat) (x1 : Int32)  (M : Mem)  (H : Heap) (locs : List Loc) (ls : Array Slot) (hW : Wd D cA ad A s M H locs) (hl : lv_has ls 2 [(0, .ref (ad x0)), (1, .int x1)]) (hf : f_X12_advances_71  x0 x1 M = some q), W p l e (rmD 1) s m args below meth c H locs 0 0 (MQ below (QV D cA ad A q) args s 0 0 A) (F0 m 71 ls []) := by
    intro x0 x1 M  H locs ls hW hl hf
    unfold f_X12_advances_71 at hf
    have key : ∀ (n : Nat)  (M : Mem) (H : Heap) (locs : List Loc) (ls : Array Slot) (hW : Wd D cA ad A s M H locs) (hl : lv_has ls 2 [(0, .ref (ad x0)), (1, .int x1)]) (hf : loopF (fun ag s => f_X12_advances_71b  x0 x1 ag s) n M = some q), W p l e (rmD 1) s m args below meth c H locs 0 0 (MQ below (QV D cA ad A q) args s 0 0 A) (F0 m 71 ls []) := by
      intro n
      induction n with
      | zero => intro M H locs ls hW hl hf; exact nomatch (show (none : Option _) = some _ from hf)
      | succ n ih => intro M H locs ls hW hl hf; exact B71 x0 x1 M  _ ih H locs ls hW hl hf
    exact key FU M H locs ls hW hl hf
  have B0 : ∀ (x0 : Nat)  (M : Mem)  (ag0 : Mem → Option Mem) (hg0 : ∀ (M : Mem) (H : Heap) (locs : List Loc) (ls : Array Slot) (_ : Wd D cA ad A s M H locs) (_ : lv_has ls 2 [(0, .ref (ad x0))]) (_ : ag0 M = some q), W p l e (rmD 1) s m args below meth c H locs 0 0 (MQ below (QV D cA ad A q) args s 0 0 A) (F0 m 0 ls [])) (H : Heap) (locs : List Loc) (ls : Array Slot) (hW : Wd D cA ad A s M H locs) (hl : lv_has ls 2 [(0, .ref (ad x0))]) (hf : f_X12_advances_0b  x0 ag0 M = some q), W p l e (rmD 1) s m args below meth c H locs 0 0 (MQ below (QV D cA ad A q) args s 0 0 A) (F0 m 0 ls []) := by
    intro x0 M  ag0 hg0 H locs ls hW hl hf
    unfold f_X12_advances_0b at hf
    refine lv_aload_n hx hb dX12_advances_0 rfl (lv_at hl 0 rfl) ?_
    refine lv_aload_n hx hb dX12_advances_1 rfl (lv_at hl 0 rfl) ?_
    obtain ⟨v65, hv65, hf⟩ := ob hf
    refine r_gI hC hK hW cfX12 (by decide) wF_X12_76 rfl hv65 dX12_advances_2 ?_
    obtain ⟨q66, hq66, hf⟩ := ob hf
    refine k_vI hC hK hW cfX12 (c_X12_letterAt l hAd (cv_s hq66).2) (cv_s hq66).1 my_X12_letterAt wI_X12_letterAt wQ_X12_letterAt wM_X12_79 ⟨Nat.le_of_ble_eq_true rfl, Nat.le_of_ble_eq_true rfl⟩ rfl hl.1 rfl (Nat.le_of_ble_eq_true rfl) ⟨Nat.zero_le _, Nat.zero_le _⟩ dX12_advances_5 (fun H locs hW => ?_)
    refine lv_bipush (v := (32 : Int32)) hx hb dX12_advances_8 (by decide) ?_
    refine lv_icmp_ne (tgt := 26) hx hb dX12_advances_10 (by decide) (fun c10 => ?_) (fun c10 => ?_)
    · have hf := ie c10 hf
      refine lv_aload_n hx hb dX12_advances_26 rfl (lv_at hl 0 rfl) ?_
      refine lv_aload_n hx hb dX12_advances_27 rfl (lv_at hl 0 rfl) ?_
      obtain ⟨v67, hv67, hf⟩ := ob hf
      refine r_gI hC hK hW cfX12 (by decide) wF_X12_76 rfl hv67 dX12_advances_28 ?_
      obtain ⟨M68, hM68, hf⟩ := ob hf
      refine r_pI hC hK hAd hW cfX12 (by decide) wF_X12_83 rfl rfl rfl hM68 dX12_advances_31 (fun H locs hW => ?_)
      refine lv_aload_n hx hb dX12_advances_34 rfl (lv_at hl 0 rfl) ?_
      refine lv_aload_n hx hb dX12_advances_35 rfl (lv_at hl 0 rfl) ?_
      obtain ⟨v69, hv69, hf⟩ := ob hf
      refine r_gI hC hK hW cfX12 (by decide) wF_X12_76 rfl hv69 dX12_advances_36 ?_
      obtain ⟨q70, hq70, hf⟩ := ob hf
      refine k_vI hC hK hW cfX12 (c_X12_letterAt l hAd (cv_s hq70).2) (cv_s hq70).1 my_X12_letterAt wI_X12_letterAt wQ_X12_letterAt wM_X12_79 ⟨Nat.le_of_ble_eq_true rfl, Nat.le_of_ble_eq_true rfl⟩ rfl hl.1 rfl (Nat.le_of_ble_eq_true rfl) ⟨Nat.zero_le _, Nat.zero_le _⟩ dX12_advances_39 (fun H locs hW => ?_)
      refine lv_istore_n (lv' := [(1, .int q70), (0, .ref (ad x0))]) hx hb dX12_advances_42 rfl hl (by decide) rfl (fun ls hl => ?_)
      refine lv_aload_n hx hb dX12_advances_43 rfl (lv_at hl 1 rfl) ?_
      refine lv_iconst (v := (0 : Int32)) hx hb dX12_advances_44 (by decide) ?_
      obtain ⟨M71, hM71, hf⟩ := ob hf
      refine r_pI hC hK hAd hW cfX12 (by decide) wF_X12_86 rfl rfl rfl hM71 dX12_advances_45 (fun H locs hW => ?_)
      refine lv_iload_n hx hb dX12_advances_48 rfl (lv_at hl 0 rfl) ?_
      refine lv_if_ge (tgt := 60) hx hb dX12_advances_49 (by decide) (fun c49 => ?_) (fun c49 => ?_)
      · have hf := it c49 hf
        refine lv_iload_n hx hb dX12_advances_60 rfl (lv_at hl 0 rfl) ?_
        refine lv_bipush (v := (48 : Int32)) hx hb dX12_advances_61 (by decide) ?_
        refine lv_bipush (v := (57 : Int32)) hx hb dX12_advances_63 (by decide) ?_
        obtain ⟨q72, hq72, hf⟩ := ob hf
        refine k_sI hC hK hW (c_X12_in l hAd hq72) my_X12_in wS_X12_in wM_X12_69 ⟨Nat.le_of_ble_eq_true rfl, Nat.le_of_ble_eq_true rfl⟩ rfl hl.1 rfl (Nat.le_of_ble_eq_true rfl) ⟨Nat.zero_le _, Nat.zero_le _⟩ dX12_advances_65 (fun H locs hW => ?_)
        refine lv_if_eq (tgt := 181) hx hb dX12_advances_68 (by decide) (fun c68 => ?_) (fun c68 => ?_)
        · have hf := it c68 hf
          refine lv_iload_n hx hb dX12_advances_181 rfl (lv_at hl 0 rfl) ?_
          refine lv_bipush (v := (97 : Int32)) hx hb dX12_advances_182 (by decide) ?_
          refine lv_bipush (v := (122 : Int32)) hx hb dX12_advances_184 (by decide) ?_
          obtain ⟨q73, hq73, hf⟩ := ob hf
          refine k_sI hC hK hW (c_X12_in l hAd hq73) my_X12_in wS_X12_in wM_X12_69 ⟨Nat.le_of_ble_eq_true rfl, Nat.le_of_ble_eq_true rfl⟩ rfl hl.1 rfl (Nat.le_of_ble_eq_true rfl) ⟨Nat.zero_le _, Nat.zero_le _⟩ dX12_advances_186 (fun H locs hW => ?_)
          refine lv_if_eq (tgt := 253) hx hb dX12_advances_189 (by decide) (fun c189 => ?_) (fun c189 => ?_)
          · have hf := it c189 hf
            refine lv_aload_n hx hb dX12_advances_253 rfl (lv_at hl 1 rfl) ?_
            refine lv_dup hx hb dX12_advances_254 rfl ?_
            obtain ⟨v74, hv74, hf⟩ := ob hf
            refine r_gI hC hK hW cfX12 (by decide) wF_X12_76 rfl hv74 dX12_advances_255 ?_
            refine lv_iconst (v := (1 : Int32)) hx hb dX12_advances_258 (by decide) ?_
            refine lv_iadd hx hb dX12_advances_259 ?_
            obtain ⟨M75, hM75, hf⟩ := ob hf
            refine r_pI hC hK hAd hW cfX12 (by decide) wF_X12_76 rfl rfl rfl hM75 dX12_advances_260 (fun H locs hW => ?_)
            refine lv_aload_n hx hb dX12_advances_263 rfl (lv_at hl 1 rfl) ?_
            refine lv_iload_n hx hb dX12_advances_264 rfl (lv_at hl 0 rfl) ?_
            refine lv_bipush (v := (59 : Int32)) hx hb dX12_advances_265 (by decide) ?_
            refine lv_icmp_ne (tgt := 274) hx hb dX12_advances_267 (by decide) (fun c267 => ?_) (fun c267 => ?_)
            · have hf := ie c267 hf
              refine lv_iconst (v := (4 : Int32)) hx hb dX12_advances_274 (by decide) ?_
              exact J275 x0 (4 : Int32) M75 _ _ _ hW (lv_sub hl [] rfl) hf
            · have hf := it c267 hf
              refine lv_iconst (v := (3 : Int32)) hx hb dX12_advances_270 (by decide) ?_
              refine lv_goto (tgt := 275) hx hb dX12_advances_271 (by decide) ?_
              exact J275 x0 (3 : Int32) M75 _ _ _ hW (lv_sub hl [] rfl) hf
          · have hf := ie c189 hf
            exact J192 x0 q70 M71 _ _ _ hW (lv_sub hl [1, 0] rfl) hf
        · have hf := ie c68 hf
          exact J71 x0 q70 M71 _ _ _ hW (lv_sub hl [1, 0] rfl) hf
      · have hf := ie c49 hf
        refine lv_aload_n hx hb dX12_advances_52 rfl (lv_at hl 1 rfl) ?_
        refine lv_iconst (v := (0 : Int32)) hx hb dX12_advances_53 (by decide) ?_
        obtain ⟨M76, hM76, hf⟩ := ob hf
        refine r_pI hC hK hAd hW cfX12 (by decide) wF_X12_89 rfl rfl rfl hM76 dX12_advances_54 (fun H locs hW => ?_)
        refine lv_goto (tgt := 278) hx hb dX12_advances_57 (by decide) ?_
        exact r_vret hC hr hlk hW hf dX12_advances_278
    · have hf := it c10 hf
      refine lv_aload_n hx hb dX12_advances_13 rfl (lv_at hl 0 rfl) ?_
      refine lv_dup hx hb dX12_advances_14 rfl ?_
      obtain ⟨v77, hv77, hf⟩ := ob hf
      refine r_gI hC hK hW cfX12 (by decide) wF_X12_76 rfl hv77 dX12_advances_15 ?_
      refine lv_iconst (v := (1 : Int32)) hx hb dX12_advances_18 (by decide) ?_
      refine lv_iadd hx hb dX12_advances_19 ?_
      obtain ⟨M78, hM78, hf⟩ := ob hf
      refine r_pI hC hK hAd hW cfX12 (by decide) wF_X12_76 rfl rfl rfl hM78 dX12_advances_20 (fun H locs hW => ?_)
      refine lv_goto (tgt := 0) hx hb dX12_advances_23 (by decide) ?_
      exact hg0 M78 _ _ _ hW (lv_sub hl [0] rfl) hf
  have J0 : ∀ (x0 : Nat)  (M : Mem)  (H : Heap) (locs : List Loc) (ls : Array Slot) (hW : Wd D cA ad A s M H locs) (hl : lv_has ls 2 [(0, .ref (ad x0))]) (hf : f_X12_advances_0  x0 M = some q), W p l e (rmD 1) s m args below meth c H locs 0 0 (MQ below (QV D cA ad A q) args s 0 0 A) (F0 m 0 ls []) := by
    intro x0 M  H locs ls hW hl hf
    unfold f_X12_advances_0 at hf
    have key : ∀ (n : Nat)  (M : Mem) (H : Heap) (locs : List Loc) (ls : Array Slot) (hW : Wd D cA ad A s M H locs) (hl : lv_has ls 2 [(0, .ref (ad x0))]) (hf : loopF (fun ag s => f_X12_advances_0b  x0 ag s) n M = some q), W p l e (rmD 1) s m args below meth c H locs 0 0 (MQ below (QV D cA ad A q) args s 0 0 A) (F0 m 0 ls []) := by
      intro n
      induction n with
      | zero => intro M H locs ls hW hl hf; exact nomatch (show (none : Option _) = some _ from hf)
      | succ n ih => intro M H locs ls hW hl hf; exact B0 x0 M  _ ih H locs ls hW hl hf
    exact key FU M H locs ls hW hl hf
  have hf := hf0
  unfold f_X12_advances at hf
  exact J0 a0 M0 _ _ _ hW (lv_sub hl [0] rfl) hf
set_option maxHeartbeats 4000000 in
set_option maxRecDepth 100000 in
theorem c_X12_back (l : Launch) {D : va_G} {cA : Nat → ClassId} {ad : Nat → Nat} {A : Nat → Prop} (hAd : AdOk ad A) {a0 : Nat} {a1 : Int32} {M0 : Mem} {q : (Int32 × Mem)} (hf0 : f_X12_back a0 a1 M0 = some q) : Met l yX12_back (wd yX12_back cX12_back 3 (some .int)) (rmD 1) (PcW D cA ad [.ref (ad a0), .int a1] M0) (QI D cA ad A q.1 q.2) 0 0 A := by
  refine mk_met (own := RX12) (by decide +kernel) rfl (Nat.le_of_ble_eq_true rfl) ?_
  intro p e s m args below meth c hC hr hlk hK H locs ls hW hl
  have hx := hC.1
  have hb := hC.2.1
  have hl : lv_has ls 3 [(0, .ref (ad a0)), (1, .int a1)] := hl
  have B30 : ∀ (x0 : Nat) (x1 : Int32) (x2 : Int32) (M : Mem)  (ag30 : Int32 × Mem → Option (Int32 × Mem)) (hg30 : ∀ (x2 : Int32) (M : Mem) (H : Heap) (locs : List Loc) (ls : Array Slot) (_ : Wd D cA ad A s M H locs) (_ : lv_has ls 3 [(0, .ref (ad x0)), (1, .int x1), (2, .int x2)]) (_ : ag30 (x2, M) = some q), W p l e (rmD 1) s m args below meth c H locs 0 0 (MQ below (QI D cA ad A q.1 q.2) args s 0 0 A) (F0 m 30 ls [])) (H : Heap) (locs : List Loc) (ls : Array Slot) (hW : Wd D cA ad A s M H locs) (hl : lv_has ls 3 [(0, .ref (ad x0)), (1, .int x1), (2, .int x2)]) (hf : f_X12_back_30b  x0 x1 ag30 x2 M = some q), W p l e (rmD 1) s m args below meth c H locs 0 0 (MQ below (QI D cA ad A q.1 q.2) args s 0 0 A) (F0 m 30 ls []) := by
    intro x0 x1 x2 M  ag30 hg30 H locs ls hW hl hf
    unfold f_X12_back_30b at hf
    refine lv_iload_n hx hb dX12_back_30 rfl (lv_at hl 2 rfl) ?_
    refine lv_bipush (v := (25 : Int32)) hx hb dX12_back_31 (by decide) ?_
    refine lv_icmp_ge (tgt := 59) hx hb dX12_back_33 (by decide) (fun c33 => ?_) (fun c33 => ?_)
    · have hf := it c33 hf
      refine lv_aload_n hx hb dX12_back_59 rfl (lv_at hl 0 rfl) ?_
      refine lv_iconst (v := (0 : Int32)) hx hb dX12_back_60 (by decide) ?_
      obtain ⟨M8, hM8, hf⟩ := ob hf
      refine r_pI hC hK hAd hW cfX12 (by decide) wF_X12_128 rfl rfl rfl hM8 dX12_back_61 (fun H locs hW => ?_)
      refine lv_aload_n hx hb dX12_back_64 rfl (lv_at hl 0 rfl) ?_
      obtain ⟨r9, hr9, hf⟩ := ob hf
      refine r_gR hC hK hW cfX12 (by decide) wF_X12_28 rfl hr9 dX12_back_65 ?_
      refine lv_iconst (v := (0 : Int32)) hx hb dX12_back_68 (by decide) ?_
      obtain ⟨v10, hv10, hf⟩ := ob hf
      refine r_aI hC hK hW hv10 dX12_back_69 ?_
      exact r_iret hC hr hlk hW hf dX12_back_70
    · have hf := ie c33 hf
      refine lv_aload_n hx hb dX12_back_36 rfl (lv_at hl 0 rfl) ?_
      obtain ⟨r11, hr11, hf⟩ := ob hf
      refine r_gR hC hK hW cfX12 (by decide) wF_X12_28 rfl hr11 dX12_back_37 ?_
      refine lv_iload_n hx hb dX12_back_40 rfl (lv_at hl 2 rfl) ?_
      refine lv_aload_n hx hb dX12_back_41 rfl (lv_at hl 0 rfl) ?_
      obtain ⟨r12, hr12, hf⟩ := ob hf
      refine r_gR hC hK hW cfX12 (by decide) wF_X12_31 rfl hr12 dX12_back_42 ?_
      refine lv_bipush (v := (25 : Int32)) hx hb dX12_back_45 (by decide) ?_
      refine lv_iload_n hx hb dX12_back_47 rfl (lv_at hl 1 rfl) ?_
      refine lv_imul hx hb dX12_back_48 ?_
      refine lv_iload_n hx hb dX12_back_49 rfl (lv_at hl 2 rfl) ?_
      refine lv_iadd hx hb dX12_back_50 ?_
      obtain ⟨v13, hv13, hf⟩ := ob hf
      refine r_aI hC hK hW hv13 dX12_back_51 ?_
      obtain ⟨M14, hM14, hf⟩ := ob hf
      refine r_sI hC hK hAd hW hM14 dX12_back_52 (fun H locs hW => ?_)
      refine lv_iinc (v := (x2 + (1 : Int32))) (lv' := [(2, .int (x2 + (1 : Int32))), (0, .ref (ad x0)), (1, .int x1)]) hx hb dX12_back_53 hl (k := 2) rfl rfl (by decide) rfl (fun ls hl => ?_)
      refine lv_goto (tgt := 30) hx hb dX12_back_56 (by decide) ?_
      exact hg30 (x2 + (1 : Int32)) M14 _ _ _ hW (lv_sub hl [1, 2, 0] rfl) hf
  have J30 : ∀ (x0 : Nat) (x1 : Int32) (x2 : Int32) (M : Mem)  (H : Heap) (locs : List Loc) (ls : Array Slot) (hW : Wd D cA ad A s M H locs) (hl : lv_has ls 3 [(0, .ref (ad x0)), (1, .int x1), (2, .int x2)]) (hf : f_X12_back_30  x0 x1 x2 M = some q), W p l e (rmD 1) s m args below meth c H locs 0 0 (MQ below (QI D cA ad A q.1 q.2) args s 0 0 A) (F0 m 30 ls []) := by
    intro x0 x1 x2 M  H locs ls hW hl hf
    unfold f_X12_back_30 at hf
    have key : ∀ (n : Nat) (x2 : Int32) (M : Mem) (H : Heap) (locs : List Loc) (ls : Array Slot) (hW : Wd D cA ad A s M H locs) (hl : lv_has ls 3 [(0, .ref (ad x0)), (1, .int x1), (2, .int x2)]) (hf : loopF (fun ag s => f_X12_back_30b  x0 x1 ag s.1 s.2) n (x2, M) = some q), W p l e (rmD 1) s m args below meth c H locs 0 0 (MQ below (QI D cA ad A q.1 q.2) args s 0 0 A) (F0 m 30 ls []) := by
      intro n
      induction n with
      | zero => intro x2 M H locs ls hW hl hf; exact nomatch (show (none : Option _) = some _ from hf)
      | succ n ih => intro x2 M H locs ls hW hl hf; exact B30 x0 x1 x2 M  _ ih H locs ls hW hl hf
    exact key FU x2 M H locs ls hW hl hf
  have hf := hf0
  unfold f_X12_back at hf
  refine lv_aload_n hx hb dX12_back_0 rfl (lv_at hl 0 rfl) ?_
  refine lv_iconst (v := (0 : Int32)) hx hb dX12_back_1 (by decide) ?_
  obtain ⟨M19, hM19, hf⟩ := ob hf
  refine r_pI hC hK hAd hW cfX12 (by decide) wF_X12_65 rfl rfl rfl hM19 dX12_back_2 (fun H locs hW => ?_)
  refine lv_iload_n hx hb dX12_back_5 rfl (lv_at hl 1 rfl) ?_
  refine lv_iconst (v := (0 : Int32)) hx hb dX12_back_6 (by decide) ?_
  refine lv_iconst (v := (1 : Int32)) hx hb dX12_back_7 (by decide) ?_
  obtain ⟨q20, hq20, hf⟩ := ob hf
  refine k_sI hC hK hW (c_X12_in l hAd hq20) my_X12_in wS_X12_in wM_X12_69 ⟨Nat.le_of_ble_eq_true rfl, Nat.le_of_ble_eq_true rfl⟩ rfl hl.1 rfl (Nat.le_of_ble_eq_true rfl) ⟨Nat.zero_le _, Nat.zero_le _⟩ dX12_back_8 (fun H locs hW => ?_)
  refine lv_if_ne (tgt := 16) hx hb dX12_back_11 (by decide) (fun c11 => ?_) (fun c11 => ?_)
  · have hf := ie c11 hf
    refine lv_aload_n hx hb dX12_back_16 rfl (lv_at hl 0 rfl) ?_
    obtain ⟨r21, hr21, hf⟩ := ob hf
    refine r_gR hC hK hW cfX12 (by decide) wF_X12_34 rfl hr21 dX12_back_17 ?_
    refine lv_iload_n hx hb dX12_back_20 rfl (lv_at hl 1 rfl) ?_
    obtain ⟨v22, hv22, hf⟩ := ob hf
    refine r_aZ hC hK hW hv22 dX12_back_21 ?_
    refine lv_if_ne (tgt := 28) hx hb dX12_back_22 (by decide) (fun c22 => ?_) (fun c22 => ?_)
    · have hf := ie c22 hf
      refine lv_iconst (v := (0 : Int32)) hx hb dX12_back_28 (by decide) ?_
      refine lv_istore_n (lv' := [(2, .int (0 : Int32)), (0, .ref (ad a0)), (1, .int a1)]) hx hb dX12_back_29 rfl hl (by decide) rfl (fun ls hl => ?_)
      exact J30 a0 a1 (0 : Int32) M19 _ _ _ hW (lv_sub hl [1, 2, 0] rfl) hf
    · have hf := it c22 hf
      refine lv_bipush (v := (-2 : Int32)) hx hb dX12_back_25 (by decide) ?_
      exact r_iret hC hr hlk hW hf dX12_back_27
  · have hf := it c11 hf
    refine lv_iconst (v := (-1 : Int32)) hx hb dX12_back_14 (by decide) ?_
    exact r_iret hC hr hlk hW hf dX12_back_15
set_option maxHeartbeats 4000000 in
set_option maxRecDepth 100000 in
theorem c_X12_begins (l : Launch) {D : va_G} {cA : Nat → ClassId} {ad : Nat → Nat} {A : Nat → Prop} (hAd : AdOk ad A) {a0 : Nat} {M0 : Mem} {q : Mem} (hf0 : f_X12_begins a0 M0 = some q) : Met l yX12_begins (wd yX12_begins cX12_begins 2 none) (rmD 0) (PcW D cA ad [.ref (ad a0)] M0) (QV D cA ad A q) 0 0 A := by
  refine mk_met (own := RX12) (by decide +kernel) rfl (Nat.le_of_ble_eq_true rfl) ?_
  intro p e s m args below meth c hC hr hlk hK H locs ls hW hl
  have hx := hC.1
  have hb := hC.2.1
  have hl : lv_has ls 2 [(0, .ref (ad a0))] := hl
  have B24 : ∀ (x0 : Nat) (x1 : Int32) (M : Mem)  (ag24 : Int32 × Mem → Option Mem) (hg24 : ∀ (x1 : Int32) (M : Mem) (H : Heap) (locs : List Loc) (ls : Array Slot) (_ : Wd D cA ad A s M H locs) (_ : lv_has ls 2 [(0, .ref (ad x0)), (1, .int x1)]) (_ : ag24 (x1, M) = some q), W p l e (rmD 0) s m args below meth c H locs 0 0 (MQ below (QV D cA ad A q) args s 0 0 A) (F0 m 24 ls [])) (H : Heap) (locs : List Loc) (ls : Array Slot) (hW : Wd D cA ad A s M H locs) (hl : lv_has ls 2 [(0, .ref (ad x0)), (1, .int x1)]) (hf : f_X12_begins_24b  x0 ag24 x1 M = some q), W p l e (rmD 0) s m args below meth c H locs 0 0 (MQ below (QV D cA ad A q) args s 0 0 A) (F0 m 24 ls []) := by
    intro x0 x1 M  ag24 hg24 H locs ls hW hl hf
    unfold f_X12_begins_24b at hf
    refine lv_iload_n hx hb dX12_begins_24 rfl (lv_at hl 1 rfl) ?_
    refine lv_bipush (v := (25 : Int32)) hx hb dX12_begins_25 (by decide) ?_
    refine lv_icmp_ge (tgt := 43) hx hb dX12_begins_27 (by decide) (fun c27 => ?_) (fun c27 => ?_)
    · have hf := it c27 hf
      exact r_vret hC hr hlk hW hf dX12_begins_43
    · have hf := ie c27 hf
      refine lv_aload_n hx hb dX12_begins_30 rfl (lv_at hl 0 rfl) ?_
      obtain ⟨r3, hr3, hf⟩ := ob hf
      refine r_gR hC hK hW cfX12 (by decide) wF_X12_25 rfl hr3 dX12_begins_31 ?_
      refine lv_iload_n hx hb dX12_begins_34 rfl (lv_at hl 1 rfl) ?_
      refine lv_iconst (v := (0 : Int32)) hx hb dX12_begins_35 (by decide) ?_
      obtain ⟨M4, hM4, hf⟩ := ob hf
      refine r_sI hC hK hAd hW hM4 dX12_begins_36 (fun H locs hW => ?_)
      refine lv_iinc (v := (x1 + (1 : Int32))) (lv' := [(1, .int (x1 + (1 : Int32))), (0, .ref (ad x0))]) hx hb dX12_begins_37 hl (k := 1) rfl rfl (by decide) rfl (fun ls hl => ?_)
      refine lv_goto (tgt := 24) hx hb dX12_begins_40 (by decide) ?_
      exact hg24 (x1 + (1 : Int32)) M4 _ _ _ hW (lv_sub hl [1, 0] rfl) hf
  have J24 : ∀ (x0 : Nat) (x1 : Int32) (M : Mem)  (H : Heap) (locs : List Loc) (ls : Array Slot) (hW : Wd D cA ad A s M H locs) (hl : lv_has ls 2 [(0, .ref (ad x0)), (1, .int x1)]) (hf : f_X12_begins_24  x0 x1 M = some q), W p l e (rmD 0) s m args below meth c H locs 0 0 (MQ below (QV D cA ad A q) args s 0 0 A) (F0 m 24 ls []) := by
    intro x0 x1 M  H locs ls hW hl hf
    unfold f_X12_begins_24 at hf
    have key : ∀ (n : Nat) (x1 : Int32) (M : Mem) (H : Heap) (locs : List Loc) (ls : Array Slot) (hW : Wd D cA ad A s M H locs) (hl : lv_has ls 2 [(0, .ref (ad x0)), (1, .int x1)]) (hf : loopF (fun ag s => f_X12_begins_24b  x0 ag s.1 s.2) n (x1, M) = some q), W p l e (rmD 0) s m args below meth c H locs 0 0 (MQ below (QV D cA ad A q) args s 0 0 A) (F0 m 24 ls []) := by
      intro n
      induction n with
      | zero => intro x1 M H locs ls hW hl hf; exact nomatch (show (none : Option _) = some _ from hf)
      | succ n ih => intro x1 M H locs ls hW hl hf; exact B24 x0 x1 M  _ ih H locs ls hW hl hf
    exact key FU x1 M H locs ls hW hl hf
  have hf := hf0
  unfold f_X12_begins at hf
  refine lv_aload_n hx hb dX12_begins_0 rfl (lv_at hl 0 rfl) ?_
  obtain ⟨r11, hr11, hf⟩ := ob hf
  refine r_gR hC hK hW cfX12 (by decide) wF_X12_13 rfl hr11 dX12_begins_1 ?_
  refine lv_iconst (v := (3 : Int32)) hx hb dX12_begins_4 (by decide) ?_
  refine lv_bipush (v := (6 : Int32)) hx hb dX12_begins_5 (by decide) ?_
  obtain ⟨M12, hM12, hf⟩ := ob hf
  refine r_sI hC hK hAd hW hM12 dX12_begins_7 (fun H locs hW => ?_)
  refine lv_aload_n hx hb dX12_begins_8 rfl (lv_at hl 0 rfl) ?_
  obtain ⟨r13, hr13, hf⟩ := ob hf
  refine r_gR hC hK hW cfX12 (by decide) wF_X12_13 rfl hr13 dX12_begins_9 ?_
  refine lv_iconst (v := (4 : Int32)) hx hb dX12_begins_12 (by decide) ?_
  refine lv_iconst (v := (0 : Int32)) hx hb dX12_begins_13 (by decide) ?_
  obtain ⟨M14, hM14, hf⟩ := ob hf
  refine r_sI hC hK hAd hW hM14 dX12_begins_14 (fun H locs hW => ?_)
  refine lv_aload_n hx hb dX12_begins_15 rfl (lv_at hl 0 rfl) ?_
  obtain ⟨r15, hr15, hf⟩ := ob hf
  refine r_gR hC hK hW cfX12 (by decide) wF_X12_13 rfl hr15 dX12_begins_16 ?_
  refine lv_iconst (v := (5 : Int32)) hx hb dX12_begins_19 (by decide) ?_
  refine lv_iconst (v := (0 : Int32)) hx hb dX12_begins_20 (by decide) ?_
  obtain ⟨M16, hM16, hf⟩ := ob hf
  refine r_sI hC hK hAd hW hM16 dX12_begins_21 (fun H locs hW => ?_)
  refine lv_iconst (v := (0 : Int32)) hx hb dX12_begins_22 (by decide) ?_
  refine lv_istore_n (lv' := [(1, .int (0 : Int32)), (0, .ref (ad a0))]) hx hb dX12_begins_23 rfl hl (by decide) rfl (fun ls hl => ?_)
  exact J24 a0 (0 : Int32) M16 _ _ _ hW (lv_sub hl [1, 0] rfl) hf
set_option maxHeartbeats 4000000 in
set_option maxRecDepth 100000 in
theorem c_X12_isGuest (l : Launch) {D : va_G} {cA : Nat → ClassId} {ad : Nat → Nat} {A : Nat → Prop} (hAd : AdOk ad A) {a0 : Nat} {a1 : Int32} {M0 : Mem} {q : Int32} (hf0 : f_X12_isGuest a0 a1 M0 = some q) : Met l yX12_isGuest (wd yX12_isGuest cX12_isGuest 2 (some .boolean)) (rmD 1) (PcW D cA ad [.ref (ad a0), .int a1] M0) (QI D cA ad A q M0) 0 0 A := by
  refine mk_met (own := RX12) (by decide +kernel) rfl (Nat.le_of_ble_eq_true rfl) ?_
  intro p e s m args below meth c hC hr hlk hK H locs ls hW hl
  have hx := hC.1
  have hb := hC.2.1
  have hl : lv_has ls 2 [(0, .ref (ad a0)), (1, .int a1)] := hl
  have hf := hf0
  unfold f_X12_isGuest at hf
  refine lv_iload_n hx hb dX12_isGuest_0 rfl (lv_at hl 1 rfl) ?_
  refine lv_iconst (v := (0 : Int32)) hx hb dX12_isGuest_1 (by decide) ?_
  refine lv_aload_n hx hb dX12_isGuest_2 rfl (lv_at hl 0 rfl) ?_
  obtain ⟨r4, hr4, hf⟩ := ob hf
  refine r_gR hC hK hW cfX12 (by decide) wF_X12_13 rfl hr4 dX12_isGuest_3 ?_
  refine lv_iconst (v := (1 : Int32)) hx hb dX12_isGuest_6 (by decide) ?_
  obtain ⟨v5, hv5, hf⟩ := ob hf
  refine r_aI hC hK hW hv5 dX12_isGuest_7 ?_
  refine lv_iconst (v := (1 : Int32)) hx hb dX12_isGuest_8 (by decide) ?_
  refine lv_isub hx hb dX12_isGuest_9 ?_
  obtain ⟨q6, hq6, hf⟩ := ob hf
  refine k_sI hC hK hW (c_X12_in l hAd hq6) my_X12_in wS_X12_in wM_X12_69 ⟨Nat.le_of_ble_eq_true rfl, Nat.le_of_ble_eq_true rfl⟩ rfl hl.1 rfl (Nat.le_of_ble_eq_true rfl) ⟨Nat.zero_le _, Nat.zero_le _⟩ dX12_isGuest_10 (fun H locs hW => ?_)
  exact r_zretP hC hr hlk hW hf dX12_isGuest_13
set_option maxHeartbeats 4000000 in
set_option maxRecDepth 100000 in
theorem c_X12_notes (l : Launch) {D : va_G} {cA : Nat → ClassId} {ad : Nat → Nat} {A : Nat → Prop} (hAd : AdOk ad A) {a0 : Nat} {M0 : Mem} {q : Mem} (hf0 : f_X12_notes a0 M0 = some q) : Met l yX12_notes (wd yX12_notes cX12_notes 2 none) (rmD 0) (PcW D cA ad [.ref (ad a0)] M0) (QV D cA ad A q) 0 0 A := by
  refine mk_met (own := RX12) (by decide +kernel) rfl (Nat.le_of_ble_eq_true rfl) ?_
  intro p e s m args below meth c hC hr hlk hK H locs ls hW hl
  have hx := hC.1
  have hb := hC.2.1
  have hl : lv_has ls 2 [(0, .ref (ad a0))] := hl
  have B47 : ∀ (x0 : Nat) (x1 : Int32) (M : Mem)  (ag47 : Int32 × Mem → Option Mem) (hg47 : ∀ (x1 : Int32) (M : Mem) (H : Heap) (locs : List Loc) (ls : Array Slot) (_ : Wd D cA ad A s M H locs) (_ : lv_has ls 2 [(0, .ref (ad x0)), (1, .int x1)]) (_ : ag47 (x1, M) = some q), W p l e (rmD 0) s m args below meth c H locs 0 0 (MQ below (QV D cA ad A q) args s 0 0 A) (F0 m 47 ls [])) (H : Heap) (locs : List Loc) (ls : Array Slot) (hW : Wd D cA ad A s M H locs) (hl : lv_has ls 2 [(0, .ref (ad x0)), (1, .int x1)]) (hf : f_X12_notes_47b  x0 ag47 x1 M = some q), W p l e (rmD 0) s m args below meth c H locs 0 0 (MQ below (QV D cA ad A q) args s 0 0 A) (F0 m 47 ls []) := by
    intro x0 x1 M  ag47 hg47 H locs ls hW hl hf
    unfold f_X12_notes_47b at hf
    refine lv_iload_n hx hb dX12_notes_47 rfl (lv_at hl 1 rfl) ?_
    refine lv_bipush (v := (25 : Int32)) hx hb dX12_notes_48 (by decide) ?_
    refine lv_icmp_ge (tgt := 79) hx hb dX12_notes_50 (by decide) (fun c50 => ?_) (fun c50 => ?_)
    · have hf := it c50 hf
      refine lv_aload_n hx hb dX12_notes_79 rfl (lv_at hl 0 rfl) ?_
      refine lv_dup hx hb dX12_notes_80 rfl ?_
      obtain ⟨v8, hv8, hf⟩ := ob hf
      refine r_gI hC hK hW cfX12 (by decide) wF_X12_128 rfl hv8 dX12_notes_81 ?_
      refine lv_iconst (v := (1 : Int32)) hx hb dX12_notes_84 (by decide) ?_
      refine lv_iadd hx hb dX12_notes_85 ?_
      obtain ⟨M9, hM9, hf⟩ := ob hf
      refine r_pI hC hK hAd hW cfX12 (by decide) wF_X12_128 rfl rfl rfl hM9 dX12_notes_86 (fun H locs hW => ?_)
      exact r_vret hC hr hlk hW hf dX12_notes_89
    · have hf := ie c50 hf
      refine lv_aload_n hx hb dX12_notes_53 rfl (lv_at hl 0 rfl) ?_
      obtain ⟨r10, hr10, hf⟩ := ob hf
      refine r_gR hC hK hW cfX12 (by decide) wF_X12_38 rfl hr10 dX12_notes_54 ?_
      refine lv_bipush (v := (25 : Int32)) hx hb dX12_notes_57 (by decide) ?_
      refine lv_aload_n hx hb dX12_notes_59 rfl (lv_at hl 0 rfl) ?_
      obtain ⟨v11, hv11, hf⟩ := ob hf
      refine r_gI hC hK hW cfX12 (by decide) wF_X12_128 rfl hv11 dX12_notes_60 ?_
      refine lv_imul hx hb dX12_notes_63 ?_
      refine lv_iload_n hx hb dX12_notes_64 rfl (lv_at hl 1 rfl) ?_
      refine lv_iadd hx hb dX12_notes_65 ?_
      refine lv_aload_n hx hb dX12_notes_66 rfl (lv_at hl 0 rfl) ?_
      obtain ⟨r12, hr12, hf⟩ := ob hf
      refine r_gR hC hK hW cfX12 (by decide) wF_X12_28 rfl hr12 dX12_notes_67 ?_
      refine lv_iload_n hx hb dX12_notes_70 rfl (lv_at hl 1 rfl) ?_
      obtain ⟨v13, hv13, hf⟩ := ob hf
      refine r_aI hC hK hW hv13 dX12_notes_71 ?_
      obtain ⟨M14, hM14, hf⟩ := ob hf
      refine r_sI hC hK hAd hW hM14 dX12_notes_72 (fun H locs hW => ?_)
      refine lv_iinc (v := (x1 + (1 : Int32))) (lv' := [(1, .int (x1 + (1 : Int32))), (0, .ref (ad x0))]) hx hb dX12_notes_73 hl (k := 1) rfl rfl (by decide) rfl (fun ls hl => ?_)
      refine lv_goto (tgt := 47) hx hb dX12_notes_76 (by decide) ?_
      exact hg47 (x1 + (1 : Int32)) M14 _ _ _ hW (lv_sub hl [1, 0] rfl) hf
  have J47 : ∀ (x0 : Nat) (x1 : Int32) (M : Mem)  (H : Heap) (locs : List Loc) (ls : Array Slot) (hW : Wd D cA ad A s M H locs) (hl : lv_has ls 2 [(0, .ref (ad x0)), (1, .int x1)]) (hf : f_X12_notes_47  x0 x1 M = some q), W p l e (rmD 0) s m args below meth c H locs 0 0 (MQ below (QV D cA ad A q) args s 0 0 A) (F0 m 47 ls []) := by
    intro x0 x1 M  H locs ls hW hl hf
    unfold f_X12_notes_47 at hf
    have key : ∀ (n : Nat) (x1 : Int32) (M : Mem) (H : Heap) (locs : List Loc) (ls : Array Slot) (hW : Wd D cA ad A s M H locs) (hl : lv_has ls 2 [(0, .ref (ad x0)), (1, .int x1)]) (hf : loopF (fun ag s => f_X12_notes_47b  x0 ag s.1 s.2) n (x1, M) = some q), W p l e (rmD 0) s m args below meth c H locs 0 0 (MQ below (QV D cA ad A q) args s 0 0 A) (F0 m 47 ls []) := by
      intro n
      induction n with
      | zero => intro x1 M H locs ls hW hl hf; exact nomatch (show (none : Option _) = some _ from hf)
      | succ n ih => intro x1 M H locs ls hW hl hf; exact B47 x0 x1 M  _ ih H locs ls hW hl hf
    exact key FU x1 M H locs ls hW hl hf
  have B11 : ∀ (x0 : Nat) (x1 : Int32) (M : Mem)  (ag11 : Int32 × Mem → Option Mem) (hg11 : ∀ (x1 : Int32) (M : Mem) (H : Heap) (locs : List Loc) (ls : Array Slot) (_ : Wd D cA ad A s M H locs) (_ : lv_has ls 2 [(0, .ref (ad x0)), (1, .int x1)]) (_ : ag11 (x1, M) = some q), W p l e (rmD 0) s m args below meth c H locs 0 0 (MQ below (QV D cA ad A q) args s 0 0 A) (F0 m 11 ls [])) (H : Heap) (locs : List Loc) (ls : Array Slot) (hW : Wd D cA ad A s M H locs) (hl : lv_has ls 2 [(0, .ref (ad x0)), (1, .int x1)]) (hf : f_X12_notes_11b  x0 ag11 x1 M = some q), W p l e (rmD 0) s m args below meth c H locs 0 0 (MQ below (QV D cA ad A q) args s 0 0 A) (F0 m 11 ls []) := by
    intro x0 x1 M  ag11 hg11 H locs ls hW hl hf
    unfold f_X12_notes_11b at hf
    refine lv_iload_n hx hb dX12_notes_11 rfl (lv_at hl 1 rfl) ?_
    refine lv_sipush (v := (225 : Int32)) hx hb dX12_notes_12 (by decide) ?_
    refine lv_icmp_ge (tgt := 39) hx hb dX12_notes_15 (by decide) (fun c15 => ?_) (fun c15 => ?_)
    · have hf := it c15 hf
      refine lv_aload_n hx hb dX12_notes_39 rfl (lv_at hl 0 rfl) ?_
      refine lv_bipush (v := (9 : Int32)) hx hb dX12_notes_40 (by decide) ?_
      obtain ⟨M20, hM20, hf⟩ := ob hf
      refine r_pI hC hK hAd hW cfX12 (by decide) wF_X12_128 rfl rfl rfl hM20 dX12_notes_42 (fun H locs hW => ?_)
      refine lv_iconst (v := (0 : Int32)) hx hb dX12_notes_45 (by decide) ?_
      refine lv_istore_n (lv' := [(1, .int (0 : Int32)), (0, .ref (ad x0))]) hx hb dX12_notes_46 rfl hl (by decide) rfl (fun ls hl => ?_)
      exact J47 x0 (0 : Int32) M20 _ _ _ hW (lv_sub hl [1, 0] rfl) hf
    · have hf := ie c15 hf
      refine lv_aload_n hx hb dX12_notes_18 rfl (lv_at hl 0 rfl) ?_
      obtain ⟨r21, hr21, hf⟩ := ob hf
      refine r_gR hC hK hW cfX12 (by decide) wF_X12_38 rfl hr21 dX12_notes_19 ?_
      refine lv_iload_n hx hb dX12_notes_22 rfl (lv_at hl 1 rfl) ?_
      refine lv_aload_n hx hb dX12_notes_23 rfl (lv_at hl 0 rfl) ?_
      obtain ⟨r22, hr22, hf⟩ := ob hf
      refine r_gR hC hK hW cfX12 (by decide) wF_X12_38 rfl hr22 dX12_notes_24 ?_
      refine lv_iload_n hx hb dX12_notes_27 rfl (lv_at hl 1 rfl) ?_
      refine lv_bipush (v := (25 : Int32)) hx hb dX12_notes_28 (by decide) ?_
      refine lv_iadd hx hb dX12_notes_30 ?_
      obtain ⟨v23, hv23, hf⟩ := ob hf
      refine r_aI hC hK hW hv23 dX12_notes_31 ?_
      obtain ⟨M24, hM24, hf⟩ := ob hf
      refine r_sI hC hK hAd hW hM24 dX12_notes_32 (fun H locs hW => ?_)
      refine lv_iinc (v := (x1 + (1 : Int32))) (lv' := [(1, .int (x1 + (1 : Int32))), (0, .ref (ad x0))]) hx hb dX12_notes_33 hl (k := 1) rfl rfl (by decide) rfl (fun ls hl => ?_)
      refine lv_goto (tgt := 11) hx hb dX12_notes_36 (by decide) ?_
      exact hg11 (x1 + (1 : Int32)) M24 _ _ _ hW (lv_sub hl [1, 0] rfl) hf
  have J11 : ∀ (x0 : Nat) (x1 : Int32) (M : Mem)  (H : Heap) (locs : List Loc) (ls : Array Slot) (hW : Wd D cA ad A s M H locs) (hl : lv_has ls 2 [(0, .ref (ad x0)), (1, .int x1)]) (hf : f_X12_notes_11  x0 x1 M = some q), W p l e (rmD 0) s m args below meth c H locs 0 0 (MQ below (QV D cA ad A q) args s 0 0 A) (F0 m 11 ls []) := by
    intro x0 x1 M  H locs ls hW hl hf
    unfold f_X12_notes_11 at hf
    have key : ∀ (n : Nat) (x1 : Int32) (M : Mem) (H : Heap) (locs : List Loc) (ls : Array Slot) (hW : Wd D cA ad A s M H locs) (hl : lv_has ls 2 [(0, .ref (ad x0)), (1, .int x1)]) (hf : loopF (fun ag s => f_X12_notes_11b  x0 ag s.1 s.2) n (x1, M) = some q), W p l e (rmD 0) s m args below meth c H locs 0 0 (MQ below (QV D cA ad A q) args s 0 0 A) (F0 m 11 ls []) := by
      intro n
      induction n with
      | zero => intro x1 M H locs ls hW hl hf; exact nomatch (show (none : Option _) = some _ from hf)
      | succ n ih => intro x1 M H locs ls hW hl hf; exact B11 x0 x1 M  _ ih H locs ls hW hl hf
    exact key FU x1 M H locs ls hW hl hf
  have hf := hf0
  unfold f_X12_notes at hf
  refine lv_aload_n hx hb dX12_notes_0 rfl (lv_at hl 0 rfl) ?_
  obtain ⟨v26, hv26, hf⟩ := ob hf
  refine r_gI hC hK hW cfX12 (by decide) wF_X12_128 rfl hv26 dX12_notes_1 ?_
  refine lv_bipush (v := (10 : Int32)) hx hb dX12_notes_4 (by decide) ?_
  refine lv_icmp_ne (tgt := 45) hx hb dX12_notes_6 (by decide) (fun c6 => ?_) (fun c6 => ?_)
  · have hf := ie c6 hf
    refine lv_iconst (v := (0 : Int32)) hx hb dX12_notes_45 (by decide) ?_
    refine lv_istore_n (lv' := [(1, .int (0 : Int32)), (0, .ref (ad a0))]) hx hb dX12_notes_46 rfl hl (by decide) rfl (fun ls hl => ?_)
    exact J47 a0 (0 : Int32) M0 _ _ _ hW (lv_sub hl [1, 0] rfl) hf
  · have hf := it c6 hf
    refine lv_iconst (v := (0 : Int32)) hx hb dX12_notes_9 (by decide) ?_
    refine lv_istore_n (lv' := [(1, .int (0 : Int32)), (0, .ref (ad a0))]) hx hb dX12_notes_10 rfl hl (by decide) rfl (fun ls hl => ?_)
    exact J11 a0 (0 : Int32) M0 _ _ _ hW (lv_sub hl [1, 0] rfl) hf
set_option maxHeartbeats 4000000 in
set_option maxRecDepth 100000 in
theorem c_X12_trades (l : Launch) {D : va_G} {cA : Nat → ClassId} {ad : Nat → Nat} {A : Nat → Prop} (hAd : AdOk ad A) {a0 : Nat} {a1 : Int32} {a2 : Int32} {M0 : Mem} {q : Mem} (hf0 : f_X12_trades a0 a1 a2 M0 = some q) : Met l yX12_trades (wd yX12_trades cX12_trades 4 none) (rmD 0) (PcW D cA ad [.ref (ad a0), .int a1, .int a2] M0) (QV D cA ad A q) 0 0 A := by
  refine mk_met (own := RX12) (by decide +kernel) rfl (Nat.le_of_ble_eq_true rfl) ?_
  intro p e s m args below meth c hC hr hlk hK H locs ls hW hl
  have hx := hC.1
  have hb := hC.2.1
  have hl : lv_has ls 4 [(0, .ref (ad a0)), (1, .int a1), (2, .int a2)] := hl
  have hf := hf0
  unfold f_X12_trades at hf
  refine lv_aload_n hx hb dX12_trades_0 rfl (lv_at hl 0 rfl) ?_
  obtain ⟨r9, hr9, hf⟩ := ob hf
  refine r_gR hC hK hW cfX12 (by decide) wF_X12_28 rfl hr9 dX12_trades_1 ?_
  refine lv_bipush (v := (13 : Int32)) hx hb dX12_trades_4 (by decide) ?_
  refine lv_iload_n hx hb dX12_trades_6 rfl (lv_at hl 1 rfl) ?_
  refine lv_iadd hx hb dX12_trades_7 ?_
  obtain ⟨v10, hv10, hf⟩ := ob hf
  refine r_aI hC hK hW hv10 dX12_trades_8 ?_
  refine lv_istore_n (lv' := [(3, .int v10), (0, .ref (ad a0)), (1, .int a1), (2, .int a2)]) hx hb dX12_trades_9 rfl hl (by decide) rfl (fun ls hl => ?_)
  refine lv_aload_n hx hb dX12_trades_10 rfl (lv_at hl 1 rfl) ?_
  obtain ⟨r11, hr11, hf⟩ := ob hf
  refine r_gR hC hK hW cfX12 (by decide) wF_X12_28 rfl hr11 dX12_trades_11 ?_
  refine lv_bipush (v := (13 : Int32)) hx hb dX12_trades_14 (by decide) ?_
  refine lv_iload_n hx hb dX12_trades_16 rfl (lv_at hl 2 rfl) ?_
  refine lv_iadd hx hb dX12_trades_17 ?_
  refine lv_aload_n hx hb dX12_trades_18 rfl (lv_at hl 1 rfl) ?_
  obtain ⟨r12, hr12, hf⟩ := ob hf
  refine r_gR hC hK hW cfX12 (by decide) wF_X12_28 rfl hr12 dX12_trades_19 ?_
  refine lv_bipush (v := (13 : Int32)) hx hb dX12_trades_22 (by decide) ?_
  refine lv_iload_n hx hb dX12_trades_24 rfl (lv_at hl 3 rfl) ?_
  refine lv_iadd hx hb dX12_trades_25 ?_
  obtain ⟨v13, hv13, hf⟩ := ob hf
  refine r_aI hC hK hW hv13 dX12_trades_26 ?_
  obtain ⟨M14, hM14, hf⟩ := ob hf
  refine r_sI hC hK hAd hW hM14 dX12_trades_27 (fun H locs hW => ?_)
  refine lv_aload_n hx hb dX12_trades_28 rfl (lv_at hl 1 rfl) ?_
  obtain ⟨r15, hr15, hf⟩ := ob hf
  refine r_gR hC hK hW cfX12 (by decide) wF_X12_28 rfl hr15 dX12_trades_29 ?_
  refine lv_bipush (v := (13 : Int32)) hx hb dX12_trades_32 (by decide) ?_
  refine lv_iload_n hx hb dX12_trades_34 rfl (lv_at hl 3 rfl) ?_
  refine lv_iadd hx hb dX12_trades_35 ?_
  refine lv_iload_n hx hb dX12_trades_36 rfl (lv_at hl 0 rfl) ?_
  obtain ⟨M16, hM16, hf⟩ := ob hf
  refine r_sI hC hK hAd hW hM16 dX12_trades_37 (fun H locs hW => ?_)
  exact r_vret hC hr hlk hW hf dX12_trades_38
set_option maxHeartbeats 4000000 in
set_option maxRecDepth 100000 in
theorem c_X12_changes (l : Launch) {D : va_G} {cA : Nat → ClassId} {ad : Nat → Nat} {A : Nat → Prop} (hAd : AdOk ad A) {a0 : Nat} {a1 : Int32} {a2 : Int32} {M0 : Mem} {q : (Int32 × Mem)} (hf0 : f_X12_changes a0 a1 a2 M0 = some q) : Met l yX12_changes (wd yX12_changes cX12_changes 3 (some .int)) (rmD 2) (PcW D cA ad [.ref (ad a0), .int a1, .int a2] M0) (QI D cA ad A q.1 q.2) 0 0 A := by
  refine mk_met (own := RX12) (by decide +kernel) rfl (Nat.le_of_ble_eq_true rfl) ?_
  intro p e s m args below meth c hC hr hlk hK H locs ls hW hl
  have hx := hC.1
  have hb := hC.2.1
  have hl : lv_has ls 3 [(0, .ref (ad a0)), (1, .int a1), (2, .int a2)] := hl
  have hf := hf0
  unfold f_X12_changes at hf
  refine lv_aload_n hx hb dX12_changes_0 rfl (lv_at hl 0 rfl) ?_
  refine lv_iconst (v := (0 : Int32)) hx hb dX12_changes_1 (by decide) ?_
  obtain ⟨M8, hM8, hf⟩ := ob hf
  refine r_pI hC hK hAd hW cfX12 (by decide) wF_X12_65 rfl rfl rfl hM8 dX12_changes_2 (fun H locs hW => ?_)
  refine lv_aload_n hx hb dX12_changes_5 rfl (lv_at hl 0 rfl) ?_
  refine lv_iload_n hx hb dX12_changes_6 rfl (lv_at hl 1 rfl) ?_
  obtain ⟨q9, hq9, hf⟩ := ob hf
  refine k_vI hC hK hW cfX12 (c_X12_isGuest l hAd (cv_s hq9).2) (cv_s hq9).1 my_X12_isGuest wI_X12_isGuest wQ_X12_isGuest wM_X12_134 ⟨Nat.le_of_ble_eq_true rfl, Nat.le_of_ble_eq_true rfl⟩ rfl hl.1 rfl (Nat.le_of_ble_eq_true rfl) ⟨Nat.zero_le _, Nat.zero_le _⟩ dX12_changes_7 (fun H locs hW => ?_)
  refine lv_if_eq (tgt := 26) hx hb dX12_changes_10 (by decide) (fun c10 => ?_) (fun c10 => ?_)
  · have hf := it c10 hf
    refine lv_iconst (v := (-1 : Int32)) hx hb dX12_changes_26 (by decide) ?_
    exact r_iret hC hr hlk hW hf dX12_changes_27
  · have hf := ie c10 hf
    refine lv_aload_n hx hb dX12_changes_13 rfl (lv_at hl 0 rfl) ?_
    refine lv_iload_n hx hb dX12_changes_14 rfl (lv_at hl 2 rfl) ?_
    obtain ⟨q10, hq10, hf⟩ := ob hf
    refine k_vI hC hK hW cfX12 (c_X12_isGuest l hAd (cv_s hq10).2) (cv_s hq10).1 my_X12_isGuest wI_X12_isGuest wQ_X12_isGuest wM_X12_134 ⟨Nat.le_of_ble_eq_true rfl, Nat.le_of_ble_eq_true rfl⟩ rfl hl.1 rfl (Nat.le_of_ble_eq_true rfl) ⟨Nat.zero_le _, Nat.zero_le _⟩ dX12_changes_15 (fun H locs hW => ?_)
    refine lv_if_eq (tgt := 26) hx hb dX12_changes_18 (by decide) (fun c18 => ?_) (fun c18 => ?_)
    · have hf := it c18 hf
      refine lv_iconst (v := (-1 : Int32)) hx hb dX12_changes_26 (by decide) ?_
      exact r_iret hC hr hlk hW hf dX12_changes_27
    · have hf := ie c18 hf
      refine lv_iload_n hx hb dX12_changes_21 rfl (lv_at hl 1 rfl) ?_
      refine lv_iload_n hx hb dX12_changes_22 rfl (lv_at hl 2 rfl) ?_
      refine lv_icmp_ne (tgt := 28) hx hb dX12_changes_23 (by decide) (fun c23 => ?_) (fun c23 => ?_)
      · have hf := ie c23 hf
        refine lv_aload_n hx hb dX12_changes_28 rfl (lv_at hl 0 rfl) ?_
        obtain ⟨q11, hq11, hf⟩ := ob hf
        refine k_vV hC hK hW cfX12 (c_X12_notes l hAd (cv_s hq11).2) (cv_s hq11).1 my_X12_notes wI_X12_notes wQ_X12_notes wM_X12_178 ⟨Nat.le_of_ble_eq_true rfl, Nat.le_of_ble_eq_true rfl⟩ rfl hl.1 rfl (Nat.le_of_ble_eq_true rfl) ⟨Nat.zero_le _, Nat.zero_le _⟩ dX12_changes_29 (fun H locs hW => ?_)
        refine lv_aload_n hx hb dX12_changes_32 rfl (lv_at hl 0 rfl) ?_
        refine lv_iload_n hx hb dX12_changes_33 rfl (lv_at hl 1 rfl) ?_
        refine lv_iload_n hx hb dX12_changes_34 rfl (lv_at hl 2 rfl) ?_
        obtain ⟨q12, hq12, hf⟩ := ob hf
        refine k_vV hC hK hW cfX12 (c_X12_trades l hAd (cv_s hq12).2) (cv_s hq12).1 my_X12_trades wI_X12_trades wQ_X12_trades wM_X12_162 ⟨Nat.le_of_ble_eq_true rfl, Nat.le_of_ble_eq_true rfl⟩ rfl hl.1 rfl (Nat.le_of_ble_eq_true rfl) ⟨Nat.zero_le _, Nat.zero_le _⟩ dX12_changes_35 (fun H locs hW => ?_)
        refine lv_aload_n hx hb dX12_changes_38 rfl (lv_at hl 0 rfl) ?_
        obtain ⟨r13, hr13, hf⟩ := ob hf
        refine r_gR hC hK hW cfX12 (by decide) wF_X12_28 rfl hr13 dX12_changes_39 ?_
        refine lv_bipush (v := (13 : Int32)) hx hb dX12_changes_42 (by decide) ?_
        refine lv_iload_n hx hb dX12_changes_44 rfl (lv_at hl 1 rfl) ?_
        refine lv_iadd hx hb dX12_changes_45 ?_
        obtain ⟨v14, hv14, hf⟩ := ob hf
        refine r_aI hC hK hW hv14 dX12_changes_46 ?_
        exact r_iret hC hr hlk hW hf dX12_changes_47
      · have hf := it c23 hf
        refine lv_iconst (v := (-1 : Int32)) hx hb dX12_changes_26 (by decide) ?_
        exact r_iret hC hr hlk hW hf dX12_changes_27
set_option maxHeartbeats 4000000 in
set_option maxRecDepth 100000 in
theorem c_X12_clear (l : Launch) {D : va_G} {cA : Nat → ClassId} {ad : Nat → Nat} {A : Nat → Prop} (hAd : AdOk ad A) {a0 : Nat} {M0 : Mem} {q : (Int32 × Mem)} (hf0 : f_X12_clear a0 M0 = some q) : Met l yX12_clear (wd yX12_clear cX12_clear 2 (some .int)) (rmD 0) (PcW D cA ad [.ref (ad a0)] M0) (QI D cA ad A q.1 q.2) 0 0 A := by
  refine mk_met (own := RX12) (by decide +kernel) rfl (Nat.le_of_ble_eq_true rfl) ?_
  intro p e s m args below meth c hC hr hlk hK H locs ls hW hl
  have hx := hC.1
  have hb := hC.2.1
  have hl : lv_has ls 2 [(0, .ref (ad a0))] := hl
  have hf := hf0
  unfold f_X12_clear at hf
  refine lv_aload_n hx hb dX12_clear_0 rfl (lv_at hl 0 rfl) ?_
  refine lv_iconst (v := (0 : Int32)) hx hb dX12_clear_1 (by decide) ?_
  obtain ⟨M4, hM4, hf⟩ := ob hf
  refine r_pI hC hK hAd hW cfX12 (by decide) wF_X12_65 rfl rfl rfl hM4 dX12_clear_2 (fun H locs hW => ?_)
  refine lv_aload_n hx hb dX12_clear_5 rfl (lv_at hl 0 rfl) ?_
  obtain ⟨v5, hv5, hf⟩ := ob hf
  refine r_gI hC hK hW cfX12 (by decide) wF_X12_73 rfl hv5 dX12_clear_6 ?_
  refine lv_istore_n (lv' := [(1, .int v5), (0, .ref (ad a0))]) hx hb dX12_clear_9 rfl hl (by decide) rfl (fun ls hl => ?_)
  refine lv_aload_n hx hb dX12_clear_10 rfl (lv_at hl 1 rfl) ?_
  refine lv_iconst (v := (0 : Int32)) hx hb dX12_clear_11 (by decide) ?_
  obtain ⟨M6, hM6, hf⟩ := ob hf
  refine r_pI hC hK hAd hW cfX12 (by decide) wF_X12_73 rfl rfl rfl hM6 dX12_clear_12 (fun H locs hW => ?_)
  refine lv_iload_n hx hb dX12_clear_15 rfl (lv_at hl 0 rfl) ?_
  exact r_iret hC hr hlk hW hf dX12_clear_16
set_option maxHeartbeats 4000000 in
set_option maxRecDepth 100000 in
theorem c_X12_count (l : Launch) {D : va_G} {cA : Nat → ClassId} {ad : Nat → Nat} {A : Nat → Prop} (hAd : AdOk ad A) {a0 : Nat} {a1 : Int32} {M0 : Mem} {q : (Int32 × Mem)} (hf0 : f_X12_count a0 a1 M0 = some q) : Met l yX12_count (wd yX12_count cX12_count 2 (some .int)) (rmD 1) (PcW D cA ad [.ref (ad a0), .int a1] M0) (QI D cA ad A q.1 q.2) 0 0 A := by
  refine mk_met (own := RX12) (by decide +kernel) rfl (Nat.le_of_ble_eq_true rfl) ?_
  intro p e s m args below meth c hC hr hlk hK H locs ls hW hl
  have hx := hC.1
  have hb := hC.2.1
  have hl : lv_has ls 2 [(0, .ref (ad a0)), (1, .int a1)] := hl
  have hf := hf0
  unfold f_X12_count at hf
  refine lv_aload_n hx hb dX12_count_0 rfl (lv_at hl 0 rfl) ?_
  refine lv_iconst (v := (0 : Int32)) hx hb dX12_count_1 (by decide) ?_
  obtain ⟨M7, hM7, hf⟩ := ob hf
  refine r_pI hC hK hAd hW cfX12 (by decide) wF_X12_65 rfl rfl rfl hM7 dX12_count_2 (fun H locs hW => ?_)
  refine lv_iload_n hx hb dX12_count_5 rfl (lv_at hl 1 rfl) ?_
  refine lv_iconst (v := (0 : Int32)) hx hb dX12_count_6 (by decide) ?_
  refine lv_iconst (v := (2 : Int32)) hx hb dX12_count_7 (by decide) ?_
  obtain ⟨q8, hq8, hf⟩ := ob hf
  refine k_sI hC hK hW (c_X12_in l hAd hq8) my_X12_in wS_X12_in wM_X12_69 ⟨Nat.le_of_ble_eq_true rfl, Nat.le_of_ble_eq_true rfl⟩ rfl hl.1 rfl (Nat.le_of_ble_eq_true rfl) ⟨Nat.zero_le _, Nat.zero_le _⟩ dX12_count_8 (fun H locs hW => ?_)
  refine lv_if_eq (tgt := 23) hx hb dX12_count_11 (by decide) (fun c11 => ?_) (fun c11 => ?_)
  · have hf := it c11 hf
    refine lv_iload_n hx hb dX12_count_23 rfl (lv_at hl 1 rfl) ?_
    refine lv_iconst (v := (3 : Int32)) hx hb dX12_count_24 (by decide) ?_
    refine lv_icmp_ne (tgt := 35) hx hb dX12_count_25 (by decide) (fun c25 => ?_) (fun c25 => ?_)
    · have hf := ie c25 hf
      refine lv_iload_n hx hb dX12_count_35 rfl (lv_at hl 1 rfl) ?_
      refine lv_iconst (v := (4 : Int32)) hx hb dX12_count_36 (by decide) ?_
      refine lv_icmp_ne (tgt := 47) hx hb dX12_count_37 (by decide) (fun c37 => ?_) (fun c37 => ?_)
      · have hf := ie c37 hf
        refine lv_iconst (v := (-1 : Int32)) hx hb dX12_count_47 (by decide) ?_
        exact r_iret hC hr hlk hW hf dX12_count_48
      · have hf := it c37 hf
        refine lv_aload_n hx hb dX12_count_40 rfl (lv_at hl 0 rfl) ?_
        obtain ⟨v9, hv9, hf⟩ := ob hf
        refine r_gI hC hK hW cfX12 (by decide) wF_X12_73 rfl hv9 dX12_count_41 ?_
        refine lv_goto (tgt := 48) hx hb dX12_count_44 (by decide) ?_
        exact r_iret hC hr hlk hW hf dX12_count_48
    · have hf := it c25 hf
      refine lv_aload_n hx hb dX12_count_28 rfl (lv_at hl 0 rfl) ?_
      obtain ⟨v10, hv10, hf⟩ := ob hf
      refine r_gI hC hK hW cfX12 (by decide) wF_X12_125 rfl hv10 dX12_count_29 ?_
      refine lv_goto (tgt := 48) hx hb dX12_count_32 (by decide) ?_
      exact r_iret hC hr hlk hW hf dX12_count_48
  · have hf := ie c11 hf
    refine lv_aload_n hx hb dX12_count_14 rfl (lv_at hl 0 rfl) ?_
    obtain ⟨r11, hr11, hf⟩ := ob hf
    refine r_gR hC hK hW cfX12 (by decide) wF_X12_13 rfl hr11 dX12_count_15 ?_
    refine lv_iload_n hx hb dX12_count_18 rfl (lv_at hl 1 rfl) ?_
    obtain ⟨v12, hv12, hf⟩ := ob hf
    refine r_aI hC hK hW hv12 dX12_count_19 ?_
    refine lv_goto (tgt := 48) hx hb dX12_count_20 (by decide) ?_
    exact r_iret hC hr hlk hW hf dX12_count_48
set_option maxHeartbeats 4000000 in
set_option maxRecDepth 100000 in
theorem c_X12_isDish (l : Launch) {D : va_G} {cA : Nat → ClassId} {ad : Nat → Nat} {A : Nat → Prop} (hAd : AdOk ad A) {a0 : Nat} {a1 : Int32} {M0 : Mem} {q : Int32} (hf0 : f_X12_isDish a0 a1 M0 = some q) : Met l yX12_isDish (wd yX12_isDish cX12_isDish 2 (some .boolean)) (rmD 1) (PcW D cA ad [.ref (ad a0), .int a1] M0) (QI D cA ad A q M0) 0 0 A := by
  refine mk_met (own := RX12) (by decide +kernel) rfl (Nat.le_of_ble_eq_true rfl) ?_
  intro p e s m args below meth c hC hr hlk hK H locs ls hW hl
  have hx := hC.1
  have hb := hC.2.1
  have hl : lv_has ls 2 [(0, .ref (ad a0)), (1, .int a1)] := hl
  have hf := hf0
  unfold f_X12_isDish at hf
  refine lv_iload_n hx hb dX12_isDish_0 rfl (lv_at hl 1 rfl) ?_
  refine lv_iconst (v := (0 : Int32)) hx hb dX12_isDish_1 (by decide) ?_
  refine lv_aload_n hx hb dX12_isDish_2 rfl (lv_at hl 0 rfl) ?_
  obtain ⟨r4, hr4, hf⟩ := ob hf
  refine r_gR hC hK hW cfX12 (by decide) wF_X12_13 rfl hr4 dX12_isDish_3 ?_
  refine lv_iconst (v := (2 : Int32)) hx hb dX12_isDish_6 (by decide) ?_
  obtain ⟨v5, hv5, hf⟩ := ob hf
  refine r_aI hC hK hW hv5 dX12_isDish_7 ?_
  refine lv_iconst (v := (1 : Int32)) hx hb dX12_isDish_8 (by decide) ?_
  refine lv_isub hx hb dX12_isDish_9 ?_
  obtain ⟨q6, hq6, hf⟩ := ob hf
  refine k_sI hC hK hW (c_X12_in l hAd hq6) my_X12_in wS_X12_in wM_X12_69 ⟨Nat.le_of_ble_eq_true rfl, Nat.le_of_ble_eq_true rfl⟩ rfl hl.1 rfl (Nat.le_of_ble_eq_true rfl) ⟨Nat.zero_le _, Nat.zero_le _⟩ dX12_isDish_10 (fun H locs hW => ?_)
  exact r_zretP hC hr hlk hW hf dX12_isDish_13
set_option maxHeartbeats 4000000 in
set_option maxRecDepth 100000 in
theorem c_X12_reachesBy (l : Launch) {D : va_G} {cA : Nat → ClassId} {ad : Nat → Nat} {A : Nat → Prop} (hAd : AdOk ad A) {a0 : Nat} {a1 : Int32} {a2 : Int32} {a3 : Int32} {M0 : Mem} {q : Int32} (hf0 : f_X12_reachesBy a0 a1 a2 a3 M0 = some q) : Met l yX12_reachesBy (wd yX12_reachesBy cX12_reachesBy 6 (some .boolean)) (rmD 0) (PcW D cA ad [.ref (ad a0), .int a1, .int a2, .int a3] M0) (QI D cA ad A q M0) 0 0 A := by
  refine mk_met (own := RX12) (by decide +kernel) rfl (Nat.le_of_ble_eq_true rfl) ?_
  intro p e s m args below meth c hC hr hlk hK H locs ls hW hl
  have hx := hC.1
  have hb := hC.2.1
  have hl : lv_has ls 6 [(0, .ref (ad a0)), (1, .int a1), (2, .int a2), (3, .int a3)] := hl
  have J64 : ∀    (H : Heap) (locs : List Loc) (ls : Array Slot) (hW : Wd D cA ad A s M0 H locs) (hl : lv_has ls 6 []) (hf : f_X12_reachesBy_64    M0 = some q), W p l e (rmD 0) s m args below meth c H locs 0 0 (MQ below (QI D cA ad A q M0) args s 0 0 A) (F0 m 64 ls []) := by
    intro    H locs ls hW hl hf
    unfold f_X12_reachesBy_64 at hf
    refine lv_iconst (v := (1 : Int32)) hx hb dX12_reachesBy_64 (by decide) ?_
    refine lv_goto (tgt := 69) hx hb dX12_reachesBy_65 (by decide) ?_
    exact r_zretP hC hr hlk hW hf dX12_reachesBy_69
  have hf := hf0
  unfold f_X12_reachesBy at hf
  refine lv_aload_n hx hb dX12_reachesBy_0 rfl (lv_at hl 0 rfl) ?_
  obtain ⟨r12, hr12, hf⟩ := ob hf
  refine r_gR hC hK hW cfX12 (by decide) wF_X12_13 rfl hr12 dX12_reachesBy_1 ?_
  refine lv_iconst (v := (0 : Int32)) hx hb dX12_reachesBy_4 (by decide) ?_
  obtain ⟨v13, hv13, hf⟩ := ob hf
  refine r_aI hC hK hW hv13 dX12_reachesBy_5 ?_
  refine lv_istore (lv' := [(4, .int v13), (0, .ref (ad a0)), (1, .int a1), (2, .int a2), (3, .int a3)]) hx hb dX12_reachesBy_6 hl (by decide) rfl (fun ls hl => ?_)
  refine lv_aload_n hx hb dX12_reachesBy_8 rfl (lv_at hl 1 rfl) ?_
  obtain ⟨r14, hr14, hf⟩ := ob hf
  refine r_gR hC hK hW cfX12 (by decide) wF_X12_28 rfl hr14 dX12_reachesBy_9 ?_
  refine lv_bipush (v := (7 : Int32)) hx hb dX12_reachesBy_12 (by decide) ?_
  refine lv_iload_n hx hb dX12_reachesBy_14 rfl (lv_at hl 3 rfl) ?_
  refine lv_iadd hx hb dX12_reachesBy_15 ?_
  obtain ⟨v15, hv15, hf⟩ := ob hf
  refine r_aI hC hK hW hv15 dX12_reachesBy_16 ?_
  refine lv_iload_n hx hb dX12_reachesBy_17 rfl (lv_at hl 4 rfl) ?_
  refine lv_iadd hx hb dX12_reachesBy_18 ?_
  refine lv_aload_n hx hb dX12_reachesBy_19 rfl (lv_at hl 1 rfl) ?_
  obtain ⟨r16, hr16, hf⟩ := ob hf
  refine r_gR hC hK hW cfX12 (by decide) wF_X12_28 rfl hr16 dX12_reachesBy_20 ?_
  refine lv_bipush (v := (13 : Int32)) hx hb dX12_reachesBy_23 (by decide) ?_
  refine lv_iload_n hx hb dX12_reachesBy_25 rfl (lv_at hl 2 rfl) ?_
  refine lv_iadd hx hb dX12_reachesBy_26 ?_
  obtain ⟨v17, hv17, hf⟩ := ob hf
  refine r_aI hC hK hW hv17 dX12_reachesBy_27 ?_
  refine lv_isub hx hb dX12_reachesBy_28 ?_
  refine lv_iconst (v := (2 : Int32)) hx hb dX12_reachesBy_29 (by decide) ?_
  refine lv_iload hx hb dX12_reachesBy_30 (lv_at hl 0 rfl) ?_
  refine lv_imul hx hb dX12_reachesBy_32 ?_
  refine lv_iadd hx hb dX12_reachesBy_33 ?_
  refine lv_iload hx hb dX12_reachesBy_34 (lv_at hl 0 rfl) ?_
  obtain ⟨v18, hv18, hf⟩ := ob hf
  refine r_rem hC hv18 dX12_reachesBy_36 ?_
  refine lv_istore (lv' := [(5, .int v18), (4, .int v13), (0, .ref (ad a0)), (1, .int a1), (2, .int a2), (3, .int a3)]) hx hb dX12_reachesBy_37 hl (by decide) rfl (fun ls hl => ?_)
  refine lv_iload hx hb dX12_reachesBy_39 (lv_at hl 0 rfl) ?_
  refine lv_aload_n hx hb dX12_reachesBy_41 rfl (lv_at hl 2 rfl) ?_
  obtain ⟨r19, hr19, hf⟩ := ob hf
  refine r_gR hC hK hW cfX12 (by decide) wF_X12_16 rfl hr19 dX12_reachesBy_42 ?_
  refine lv_iload_n hx hb dX12_reachesBy_45 rfl (lv_at hl 3 rfl) ?_
  obtain ⟨v20, hv20, hf⟩ := ob hf
  refine r_aI hC hK hW hv20 dX12_reachesBy_46 ?_
  refine lv_icmp_le (tgt := 64) hx hb dX12_reachesBy_47 (by decide) (fun c47 => ?_) (fun c47 => ?_)
  · have hf := it c47 hf
    exact J64  _ _ _ hW (lv_sub hl [] rfl) hf
  · have hf := ie c47 hf
    refine lv_iload hx hb dX12_reachesBy_50 (lv_at hl 1 rfl) ?_
    refine lv_iload hx hb dX12_reachesBy_52 (lv_at hl 0 rfl) ?_
    refine lv_isub hx hb dX12_reachesBy_54 ?_
    refine lv_aload_n hx hb dX12_reachesBy_55 rfl (lv_at hl 2 rfl) ?_
    obtain ⟨r21, hr21, hf⟩ := ob hf
    refine r_gR hC hK hW cfX12 (by decide) wF_X12_16 rfl hr21 dX12_reachesBy_56 ?_
    refine lv_iload_n hx hb dX12_reachesBy_59 rfl (lv_at hl 3 rfl) ?_
    obtain ⟨v22, hv22, hf⟩ := ob hf
    refine r_aI hC hK hW hv22 dX12_reachesBy_60 ?_
    refine lv_icmp_gt (tgt := 68) hx hb dX12_reachesBy_61 (by decide) (fun c61 => ?_) (fun c61 => ?_)
    · have hf := it c61 hf
      refine lv_iconst (v := (0 : Int32)) hx hb dX12_reachesBy_68 (by decide) ?_
      exact r_zretP hC hr hlk hW hf dX12_reachesBy_69
    · have hf := ie c61 hf
      exact J64  _ _ _ hW (lv_sub hl [] rfl) hf
set_option maxHeartbeats 4000000 in
set_option maxRecDepth 100000 in
theorem c_X12_whoReach (l : Launch) {D : va_G} {cA : Nat → ClassId} {ad : Nat → Nat} {A : Nat → Prop} (hAd : AdOk ad A) {a0 : Nat} {a1 : Int32} {a2 : Int32} {M0 : Mem} {q : Int32} (hf0 : f_X12_whoReach a0 a1 a2 M0 = some q) : Met l yX12_whoReach (wd yX12_whoReach cX12_whoReach 5 (some .int)) (rmD 1) (PcW D cA ad [.ref (ad a0), .int a1, .int a2] M0) (QI D cA ad A q M0) 0 0 A := by
  refine mk_met (own := RX12) (by decide +kernel) rfl (Nat.le_of_ble_eq_true rfl) ?_
  intro p e s m args below meth c hC hr hlk hK H locs ls hW hl
  have hx := hC.1
  have hb := hC.2.1
  have hl : lv_has ls 5 [(0, .ref (ad a0)), (1, .int a1), (2, .int a2)] := hl
  have B5 : ∀ (x0 : Nat) (x1 : Int32) (x2 : Int32) (x3 : Int32) (x4 : Int32)  (ag5 : Int32 × Int32 → Option Int32) (hg5 : ∀ (x3 : Int32) (x4 : Int32) (H : Heap) (locs : List Loc) (ls : Array Slot) (_ : Wd D cA ad A s M0 H locs) (_ : lv_has ls 5 [(0, .ref (ad x0)), (1, .int x1), (2, .int x2), (3, .int x3), (4, .int x4)]) (_ : ag5 (x3, x4) = some q), W p l e (rmD 1) s m args below meth c H locs 0 0 (MQ below (QI D cA ad A q M0) args s 0 0 A) (F0 m 5 ls [])) (H : Heap) (locs : List Loc) (ls : Array Slot) (hW : Wd D cA ad A s M0 H locs) (hl : lv_has ls 5 [(0, .ref (ad x0)), (1, .int x1), (2, .int x2), (3, .int x3), (4, .int x4)]) (hf : f_X12_whoReach_5b  x0 x1 x2 M0 ag5 x3 x4 = some q), W p l e (rmD 1) s m args below meth c H locs 0 0 (MQ below (QI D cA ad A q M0) args s 0 0 A) (F0 m 5 ls []) := by
    intro x0 x1 x2 x3 x4  ag5 hg5 H locs ls hW hl hf
    unfold f_X12_whoReach_5b at hf
    refine lv_iload hx hb dX12_whoReach_5 (lv_at hl 4 rfl) ?_
    refine lv_aload_n hx hb dX12_whoReach_7 rfl (lv_at hl 0 rfl) ?_
    obtain ⟨r4, hr4, hf⟩ := ob hf
    refine r_gR hC hK hW cfX12 (by decide) wF_X12_13 rfl hr4 dX12_whoReach_8 ?_
    refine lv_iconst (v := (1 : Int32)) hx hb dX12_whoReach_11 (by decide) ?_
    obtain ⟨v5, hv5, hf⟩ := ob hf
    refine r_aI hC hK hW hv5 dX12_whoReach_12 ?_
    refine lv_icmp_ge (tgt := 44) hx hb dX12_whoReach_13 (by decide) (fun c13 => ?_) (fun c13 => ?_)
    · have hf := it c13 hf
      refine lv_iload_n hx hb dX12_whoReach_44 rfl (lv_at hl 3 rfl) ?_
      exact r_iretP hC hr hlk hW hf dX12_whoReach_45
    · have hf := ie c13 hf
      refine lv_iload_n hx hb dX12_whoReach_16 rfl (lv_at hl 3 rfl) ?_
      refine lv_aload_n hx hb dX12_whoReach_17 rfl (lv_at hl 0 rfl) ?_
      refine lv_iload hx hb dX12_whoReach_18 (lv_at hl 4 rfl) ?_
      refine lv_iload_n hx hb dX12_whoReach_20 rfl (lv_at hl 1 rfl) ?_
      refine lv_iload_n hx hb dX12_whoReach_21 rfl (lv_at hl 2 rfl) ?_
      obtain ⟨q6, hq6, hf⟩ := ob hf
      refine k_vI hC hK hW cfX12 (c_X12_reachesBy l hAd (cv_s hq6).2) (cv_s hq6).1 my_X12_reachesBy wI_X12_reachesBy wQ_X12_reachesBy wM_X12_131 ⟨Nat.le_of_ble_eq_true rfl, Nat.le_of_ble_eq_true rfl⟩ rfl hl.1 rfl (Nat.le_of_ble_eq_true rfl) ⟨Nat.zero_le _, Nat.zero_le _⟩ dX12_whoReach_22 (fun H locs hW => ?_)
      refine lv_if_eq (tgt := 35) hx hb dX12_whoReach_25 (by decide) (fun c25 => ?_) (fun c25 => ?_)
      · have hf := it c25 hf
        refine lv_iconst (v := (0 : Int32)) hx hb dX12_whoReach_35 (by decide) ?_
        refine lv_ior hx hb dX12_whoReach_36 ?_
        refine lv_istore_n (lv' := [(3, .int (x3 ||| (0 : Int32))), (0, .ref (ad x0)), (1, .int x1), (2, .int x2), (4, .int x4)]) hx hb dX12_whoReach_37 rfl hl (by decide) rfl (fun ls hl => ?_)
        refine lv_iinc (v := (x4 + (1 : Int32))) (lv' := [(4, .int (x4 + (1 : Int32))), (3, .int (x3 ||| (0 : Int32))), (0, .ref (ad x0)), (1, .int x1), (2, .int x2)]) hx hb dX12_whoReach_38 hl (k := 4) rfl rfl (by decide) rfl (fun ls hl => ?_)
        refine lv_goto (tgt := 5) hx hb dX12_whoReach_41 (by decide) ?_
        exact hg5 (x3 ||| (0 : Int32)) (x4 + (1 : Int32)) _ _ _ hW (lv_sub hl [2, 3, 4, 1, 0] rfl) hf
      · have hf := ie c25 hf
        refine lv_iconst (v := (1 : Int32)) hx hb dX12_whoReach_28 (by decide) ?_
        refine lv_iload hx hb dX12_whoReach_29 (lv_at hl 4 rfl) ?_
        refine lv_ishl hx hb dX12_whoReach_31 ?_
        refine lv_goto (tgt := 36) hx hb dX12_whoReach_32 (by decide) ?_
        refine lv_ior hx hb dX12_whoReach_36 ?_
        refine lv_istore_n (lv' := [(3, .int (x3 ||| ((1 : Int32) <<< (x4 &&& 31)))), (0, .ref (ad x0)), (1, .int x1), (2, .int x2), (4, .int x4)]) hx hb dX12_whoReach_37 rfl hl (by decide) rfl (fun ls hl => ?_)
        refine lv_iinc (v := (x4 + (1 : Int32))) (lv' := [(4, .int (x4 + (1 : Int32))), (3, .int (x3 ||| ((1 : Int32) <<< (x4 &&& 31)))), (0, .ref (ad x0)), (1, .int x1), (2, .int x2)]) hx hb dX12_whoReach_38 hl (k := 4) rfl rfl (by decide) rfl (fun ls hl => ?_)
        refine lv_goto (tgt := 5) hx hb dX12_whoReach_41 (by decide) ?_
        exact hg5 (x3 ||| ((1 : Int32) <<< (x4 &&& 31))) (x4 + (1 : Int32)) _ _ _ hW (lv_sub hl [2, 3, 4, 1, 0] rfl) hf
  have J5 : ∀ (x0 : Nat) (x1 : Int32) (x2 : Int32) (x3 : Int32) (x4 : Int32)  (H : Heap) (locs : List Loc) (ls : Array Slot) (hW : Wd D cA ad A s M0 H locs) (hl : lv_has ls 5 [(0, .ref (ad x0)), (1, .int x1), (2, .int x2), (3, .int x3), (4, .int x4)]) (hf : f_X12_whoReach_5  x0 x1 x2 M0 x3 x4 = some q), W p l e (rmD 1) s m args below meth c H locs 0 0 (MQ below (QI D cA ad A q M0) args s 0 0 A) (F0 m 5 ls []) := by
    intro x0 x1 x2 x3 x4  H locs ls hW hl hf
    unfold f_X12_whoReach_5 at hf
    have key : ∀ (n : Nat) (x3 : Int32) (x4 : Int32) (H : Heap) (locs : List Loc) (ls : Array Slot) (hW : Wd D cA ad A s M0 H locs) (hl : lv_has ls 5 [(0, .ref (ad x0)), (1, .int x1), (2, .int x2), (3, .int x3), (4, .int x4)]) (hf : loopF (fun ag s => f_X12_whoReach_5b  x0 x1 x2 M0 ag s.1 s.2) n (x3, x4) = some q), W p l e (rmD 1) s m args below meth c H locs 0 0 (MQ below (QI D cA ad A q M0) args s 0 0 A) (F0 m 5 ls []) := by
      intro n
      induction n with
      | zero => intro x3 x4 H locs ls hW hl hf; exact nomatch (show (none : Option _) = some _ from hf)
      | succ n ih => intro x3 x4 H locs ls hW hl hf; exact B5 x0 x1 x2 x3 x4  _ ih H locs ls hW hl hf
    exact key FU x3 x4 H locs ls hW hl hf
  have hf := hf0
  unfold f_X12_whoReach at hf
  refine lv_iconst (v := (0 : Int32)) hx hb dX12_whoReach_0 (by decide) ?_
  refine lv_istore_n (lv' := [(3, .int (0 : Int32)), (0, .ref (ad a0)), (1, .int a1), (2, .int a2)]) hx hb dX12_whoReach_1 rfl hl (by decide) rfl (fun ls hl => ?_)
  refine lv_iconst (v := (0 : Int32)) hx hb dX12_whoReach_2 (by decide) ?_
  refine lv_istore (lv' := [(4, .int (0 : Int32)), (3, .int (0 : Int32)), (0, .ref (ad a0)), (1, .int a1), (2, .int a2)]) hx hb dX12_whoReach_3 hl (by decide) rfl (fun ls hl => ?_)
  exact J5 a0 a1 a2 (0 : Int32) (0 : Int32) _ _ _ hW (lv_sub hl [2, 3, 4, 1, 0] rfl) hf
set_option maxHeartbeats 4000000 in
set_option maxRecDepth 100000 in
theorem c_X12_dish (l : Launch) {D : va_G} {cA : Nat → ClassId} {ad : Nat → Nat} {A : Nat → Prop} (hAd : AdOk ad A) {a0 : Nat} {a1 : Int32} {a2 : Int32} {M0 : Mem} {q : (Int32 × Mem)} (hf0 : f_X12_dish a0 a1 a2 M0 = some q) : Met l yX12_dish (wd yX12_dish cX12_dish 3 (some .int)) (rmD 2) (PcW D cA ad [.ref (ad a0), .int a1, .int a2] M0) (QI D cA ad A q.1 q.2) 0 0 A := by
  refine mk_met (own := RX12) (by decide +kernel) rfl (Nat.le_of_ble_eq_true rfl) ?_
  intro p e s m args below meth c hC hr hlk hK H locs ls hW hl
  have hx := hC.1
  have hb := hC.2.1
  have hl : lv_has ls 3 [(0, .ref (ad a0)), (1, .int a1), (2, .int a2)] := hl
  have hf := hf0
  unfold f_X12_dish at hf
  refine lv_aload_n hx hb dX12_dish_0 rfl (lv_at hl 0 rfl) ?_
  refine lv_iconst (v := (0 : Int32)) hx hb dX12_dish_1 (by decide) ?_
  obtain ⟨M20, hM20, hf⟩ := ob hf
  refine r_pI hC hK hAd hW cfX12 (by decide) wF_X12_65 rfl rfl rfl hM20 dX12_dish_2 (fun H locs hW => ?_)
  refine lv_aload_n hx hb dX12_dish_5 rfl (lv_at hl 0 rfl) ?_
  refine lv_iload_n hx hb dX12_dish_6 rfl (lv_at hl 1 rfl) ?_
  obtain ⟨q21, hq21, hf⟩ := ob hf
  refine k_vI hC hK hW cfX12 (c_X12_isDish l hAd (cv_s hq21).2) (cv_s hq21).1 my_X12_isDish wI_X12_isDish wQ_X12_isDish wM_X12_143 ⟨Nat.le_of_ble_eq_true rfl, Nat.le_of_ble_eq_true rfl⟩ rfl hl.1 rfl (Nat.le_of_ble_eq_true rfl) ⟨Nat.zero_le _, Nat.zero_le _⟩ dX12_dish_7 (fun H locs hW => ?_)
  refine lv_if_eq (tgt := 22) hx hb dX12_dish_10 (by decide) (fun c10 => ?_) (fun c10 => ?_)
  · have hf := it c10 hf
    refine lv_iconst (v := (-1 : Int32)) hx hb dX12_dish_22 (by decide) ?_
    exact r_iret hC hr hlk hW hf dX12_dish_23
  · have hf := ie c10 hf
    refine lv_iload_n hx hb dX12_dish_13 rfl (lv_at hl 2 rfl) ?_
    refine lv_iconst (v := (0 : Int32)) hx hb dX12_dish_14 (by decide) ?_
    refine lv_iconst (v := (4 : Int32)) hx hb dX12_dish_15 (by decide) ?_
    obtain ⟨q22, hq22, hf⟩ := ob hf
    refine k_sI hC hK hW (c_X12_in l hAd hq22) my_X12_in wS_X12_in wM_X12_69 ⟨Nat.le_of_ble_eq_true rfl, Nat.le_of_ble_eq_true rfl⟩ rfl hl.1 rfl (Nat.le_of_ble_eq_true rfl) ⟨Nat.zero_le _, Nat.zero_le _⟩ dX12_dish_16 (fun H locs hW => ?_)
    refine lv_if_ne (tgt := 24) hx hb dX12_dish_19 (by decide) (fun c19 => ?_) (fun c19 => ?_)
    · have hf := ie c19 hf
      refine lv_iload_n hx hb dX12_dish_24 rfl (lv_at hl 2 rfl) ?_
      refine lv_iconst (v := (3 : Int32)) hx hb dX12_dish_25 (by decide) ?_
      refine lv_icmp_ge (tgt := 68) hx hb dX12_dish_26 (by decide) (fun c26 => ?_) (fun c26 => ?_)
      · have hf := it c26 hf
        refine lv_iload_n hx hb dX12_dish_68 rfl (lv_at hl 2 rfl) ?_
        refine lv_iconst (v := (3 : Int32)) hx hb dX12_dish_69 (by decide) ?_
        refine lv_icmp_ne (tgt := 99) hx hb dX12_dish_70 (by decide) (fun c70 => ?_) (fun c70 => ?_)
        · have hf := ie c70 hf
          refine lv_aload_n hx hb dX12_dish_99 rfl (lv_at hl 0 rfl) ?_
          refine lv_iload_n hx hb dX12_dish_100 rfl (lv_at hl 1 rfl) ?_
          refine lv_aload_n hx hb dX12_dish_101 rfl (lv_at hl 0 rfl) ?_
          obtain ⟨r23, hr23, hf⟩ := ob hf
          refine r_gR hC hK hW cfX12 (by decide) wF_X12_28 rfl hr23 dX12_dish_102 ?_
          refine lv_iconst (v := (0 : Int32)) hx hb dX12_dish_105 (by decide) ?_
          obtain ⟨v24, hv24, hf⟩ := ob hf
          refine r_aI hC hK hW hv24 dX12_dish_106 ?_
          obtain ⟨q25, hq25, hf⟩ := ob hf
          refine k_vI hC hK hW cfX12 (c_X12_whoReach l hAd (cv_s hq25).2) (cv_s hq25).1 my_X12_whoReach wI_X12_whoReach wQ_X12_whoReach wM_X12_146 ⟨Nat.le_of_ble_eq_true rfl, Nat.le_of_ble_eq_true rfl⟩ rfl hl.1 rfl (Nat.le_of_ble_eq_true rfl) ⟨Nat.zero_le _, Nat.zero_le _⟩ dX12_dish_107 (fun H locs hW => ?_)
          exact r_iret hC hr hlk hW hf dX12_dish_110
        · have hf := it c70 hf
          refine lv_aload_n hx hb dX12_dish_73 rfl (lv_at hl 0 rfl) ?_
          obtain ⟨r26, hr26, hf⟩ := ob hf
          refine r_gR hC hK hW cfX12 (by decide) wF_X12_28 rfl hr26 dX12_dish_74 ?_
          refine lv_bipush (v := (7 : Int32)) hx hb dX12_dish_77 (by decide) ?_
          refine lv_iload_n hx hb dX12_dish_79 rfl (lv_at hl 1 rfl) ?_
          refine lv_iadd hx hb dX12_dish_80 ?_
          obtain ⟨v27, hv27, hf⟩ := ob hf
          refine r_aI hC hK hW hv27 dX12_dish_81 ?_
          refine lv_aload_n hx hb dX12_dish_82 rfl (lv_at hl 0 rfl) ?_
          obtain ⟨r28, hr28, hf⟩ := ob hf
          refine r_gR hC hK hW cfX12 (by decide) wF_X12_28 rfl hr28 dX12_dish_83 ?_
          refine lv_iconst (v := (0 : Int32)) hx hb dX12_dish_86 (by decide) ?_
          obtain ⟨v29, hv29, hf⟩ := ob hf
          refine r_aI hC hK hW hv29 dX12_dish_87 ?_
          refine lv_iadd hx hb dX12_dish_88 ?_
          refine lv_aload_n hx hb dX12_dish_89 rfl (lv_at hl 0 rfl) ?_
          obtain ⟨r30, hr30, hf⟩ := ob hf
          refine r_gR hC hK hW cfX12 (by decide) wF_X12_13 rfl hr30 dX12_dish_90 ?_
          refine lv_iconst (v := (0 : Int32)) hx hb dX12_dish_93 (by decide) ?_
          obtain ⟨v31, hv31, hf⟩ := ob hf
          refine r_aI hC hK hW hv31 dX12_dish_94 ?_
          obtain ⟨v32, hv32, hf⟩ := ob hf
          refine r_rem hC hv32 dX12_dish_95 ?_
          refine lv_goto (tgt := 110) hx hb dX12_dish_96 (by decide) ?_
          exact r_iret hC hr hlk hW hf dX12_dish_110
      · have hf := ie c26 hf
        refine lv_iload_n hx hb dX12_dish_29 rfl (lv_at hl 2 rfl) ?_
        refine lv_if_ne (tgt := 45) hx hb dX12_dish_30 (by decide) (fun c30 => ?_) (fun c30 => ?_)
        · have hf := ie c30 hf
          refine lv_iload_n hx hb dX12_dish_45 rfl (lv_at hl 2 rfl) ?_
          refine lv_iconst (v := (1 : Int32)) hx hb dX12_dish_46 (by decide) ?_
          refine lv_icmp_ne (tgt := 61) hx hb dX12_dish_47 (by decide) (fun c47 => ?_) (fun c47 => ?_)
          · have hf := ie c47 hf
            refine lv_aload_n hx hb dX12_dish_61 rfl (lv_at hl 0 rfl) ?_
            obtain ⟨r33, hr33, hf⟩ := ob hf
            refine r_gR hC hK hW cfX12 (by decide) wF_X12_22 rfl hr33 dX12_dish_62 ?_
            refine lv_iload_n hx hb dX12_dish_65 rfl (lv_at hl 1 rfl) ?_
            obtain ⟨v34, hv34, hf⟩ := ob hf
            refine r_aI hC hK hW hv34 dX12_dish_66 ?_
            exact r_iret hC hr hlk hW hf dX12_dish_67
          · have hf := it c47 hf
            refine lv_aload_n hx hb dX12_dish_50 rfl (lv_at hl 0 rfl) ?_
            obtain ⟨r35, hr35, hf⟩ := ob hf
            refine r_gR hC hK hW cfX12 (by decide) wF_X12_28 rfl hr35 dX12_dish_51 ?_
            refine lv_iconst (v := (1 : Int32)) hx hb dX12_dish_54 (by decide) ?_
            refine lv_iload_n hx hb dX12_dish_55 rfl (lv_at hl 1 rfl) ?_
            refine lv_iadd hx hb dX12_dish_56 ?_
            obtain ⟨v36, hv36, hf⟩ := ob hf
            refine r_aI hC hK hW hv36 dX12_dish_57 ?_
            refine lv_goto (tgt := 67) hx hb dX12_dish_58 (by decide) ?_
            exact r_iret hC hr hlk hW hf dX12_dish_67
        · have hf := it c30 hf
          refine lv_aload_n hx hb dX12_dish_33 rfl (lv_at hl 0 rfl) ?_
          obtain ⟨r37, hr37, hf⟩ := ob hf
          refine r_gR hC hK hW cfX12 (by decide) wF_X12_28 rfl hr37 dX12_dish_34 ?_
          refine lv_bipush (v := (7 : Int32)) hx hb dX12_dish_37 (by decide) ?_
          refine lv_iload_n hx hb dX12_dish_39 rfl (lv_at hl 1 rfl) ?_
          refine lv_iadd hx hb dX12_dish_40 ?_
          obtain ⟨v38, hv38, hf⟩ := ob hf
          refine r_aI hC hK hW hv38 dX12_dish_41 ?_
          refine lv_goto (tgt := 67) hx hb dX12_dish_42 (by decide) ?_
          exact r_iret hC hr hlk hW hf dX12_dish_67
    · have hf := it c19 hf
      refine lv_iconst (v := (-1 : Int32)) hx hb dX12_dish_22 (by decide) ?_
      exact r_iret hC hr hlk hW hf dX12_dish_23
set_option maxHeartbeats 4000000 in
set_option maxRecDepth 100000 in
theorem c_X12_sevens (l : Launch) {D : va_G} {cA : Nat → ClassId} {ad : Nat → Nat} {A : Nat → Prop} (hAd : AdOk ad A) {a0 : Int32} {M0 : Mem} {q : Int32} (hf0 : f_X12_sevens a0 M0 = some q) : Met l yX12_sevens (wd yX12_sevens cX12_sevens 3 (some .int)) (rmD 0) (PcW D cA ad [.int a0] M0) (QI D cA ad A q M0) 0 0 A := by
  refine mk_met (own := RX12) (by decide +kernel) rfl (Nat.le_of_ble_eq_true rfl) ?_
  intro p e s m args below meth c hC hr hlk hK H locs ls hW hl
  have hx := hC.1
  have hb := hC.2.1
  have hl : lv_has ls 3 [(0, .int a0)] := hl
  have B4 : ∀ (x0 : Int32) (x1 : Int32) (x2 : Int32)  (ag4 : Int32 × Int32 → Option Int32) (hg4 : ∀ (x1 : Int32) (x2 : Int32) (H : Heap) (locs : List Loc) (ls : Array Slot) (_ : Wd D cA ad A s M0 H locs) (_ : lv_has ls 3 [(0, .int x0), (1, .int x1), (2, .int x2)]) (_ : ag4 (x1, x2) = some q), W p l e (rmD 0) s m args below meth c H locs 0 0 (MQ below (QI D cA ad A q M0) args s 0 0 A) (F0 m 4 ls [])) (H : Heap) (locs : List Loc) (ls : Array Slot) (hW : Wd D cA ad A s M0 H locs) (hl : lv_has ls 3 [(0, .int x0), (1, .int x1), (2, .int x2)]) (hf : f_X12_sevens_4b  x0 M0 ag4 x1 x2 = some q), W p l e (rmD 0) s m args below meth c H locs 0 0 (MQ below (QI D cA ad A q M0) args s 0 0 A) (F0 m 4 ls []) := by
    intro x0 x1 x2  ag4 hg4 H locs ls hW hl hf
    unfold f_X12_sevens_4b at hf
    refine lv_iload_n hx hb dX12_sevens_4 rfl (lv_at hl 2 rfl) ?_
    refine lv_iload_n hx hb dX12_sevens_5 rfl (lv_at hl 0 rfl) ?_
    refine lv_icmp_ge (tgt := 20) hx hb dX12_sevens_6 (by decide) (fun c6 => ?_) (fun c6 => ?_)
    · have hf := it c6 hf
      refine lv_iload_n hx hb dX12_sevens_20 rfl (lv_at hl 1 rfl) ?_
      exact r_iretP hC hr hlk hW hf dX12_sevens_21
    · have hf := ie c6 hf
      refine lv_iload_n hx hb dX12_sevens_9 rfl (lv_at hl 1 rfl) ?_
      refine lv_bipush (v := (7 : Int32)) hx hb dX12_sevens_10 (by decide) ?_
      refine lv_imul hx hb dX12_sevens_12 ?_
      refine lv_istore_n (lv' := [(1, .int (x1 * (7 : Int32))), (0, .int x0), (2, .int x2)]) hx hb dX12_sevens_13 rfl hl (by decide) rfl (fun ls hl => ?_)
      refine lv_iinc (v := (x2 + (1 : Int32))) (lv' := [(2, .int (x2 + (1 : Int32))), (1, .int (x1 * (7 : Int32))), (0, .int x0)]) hx hb dX12_sevens_14 hl (k := 2) rfl rfl (by decide) rfl (fun ls hl => ?_)
      refine lv_goto (tgt := 4) hx hb dX12_sevens_17 (by decide) ?_
      exact hg4 (x1 * (7 : Int32)) (x2 + (1 : Int32)) _ _ _ hW (lv_sub hl [2, 1, 0] rfl) hf
  have J4 : ∀ (x0 : Int32) (x1 : Int32) (x2 : Int32)  (H : Heap) (locs : List Loc) (ls : Array Slot) (hW : Wd D cA ad A s M0 H locs) (hl : lv_has ls 3 [(0, .int x0), (1, .int x1), (2, .int x2)]) (hf : f_X12_sevens_4  x0 M0 x1 x2 = some q), W p l e (rmD 0) s m args below meth c H locs 0 0 (MQ below (QI D cA ad A q M0) args s 0 0 A) (F0 m 4 ls []) := by
    intro x0 x1 x2  H locs ls hW hl hf
    unfold f_X12_sevens_4 at hf
    have key : ∀ (n : Nat) (x1 : Int32) (x2 : Int32) (H : Heap) (locs : List Loc) (ls : Array Slot) (hW : Wd D cA ad A s M0 H locs) (hl : lv_has ls 3 [(0, .int x0), (1, .int x1), (2, .int x2)]) (hf : loopF (fun ag s => f_X12_sevens_4b  x0 M0 ag s.1 s.2) n (x1, x2) = some q), W p l e (rmD 0) s m args below meth c H locs 0 0 (MQ below (QI D cA ad A q M0) args s 0 0 A) (F0 m 4 ls []) := by
      intro n
      induction n with
      | zero => intro x1 x2 H locs ls hW hl hf; exact nomatch (show (none : Option _) = some _ from hf)
      | succ n ih => intro x1 x2 H locs ls hW hl hf; exact B4 x0 x1 x2  _ ih H locs ls hW hl hf
    exact key FU x1 x2 H locs ls hW hl hf
  have hf := hf0
  unfold f_X12_sevens at hf
  refine lv_iconst (v := (1 : Int32)) hx hb dX12_sevens_0 (by decide) ?_
  refine lv_istore_n (lv' := [(1, .int (1 : Int32)), (0, .int a0)]) hx hb dX12_sevens_1 rfl hl (by decide) rfl (fun ls hl => ?_)
  refine lv_iconst (v := (0 : Int32)) hx hb dX12_sevens_2 (by decide) ?_
  refine lv_istore_n (lv' := [(2, .int (0 : Int32)), (1, .int (1 : Int32)), (0, .int a0)]) hx hb dX12_sevens_3 rfl hl (by decide) rfl (fun ls hl => ?_)
  exact J4 a0 (1 : Int32) (0 : Int32) _ _ _ hW (lv_sub hl [2, 1, 0] rfl) hf
set_option maxHeartbeats 4000000 in
set_option maxRecDepth 100000 in
theorem c_X12_needsOf (l : Launch) {D : va_G} {cA : Nat → ClassId} {ad : Nat → Nat} {A : Nat → Prop} (hAd : AdOk ad A) {a0 : Nat} {a1 : Int32} {M0 : Mem} {q : Int32} (hf0 : f_X12_needsOf a0 a1 M0 = some q) : Met l yX12_needsOf (wd yX12_needsOf cX12_needsOf 2 (some .int)) (rmD 0) (PcW D cA ad [.ref (ad a0), .int a1] M0) (QI D cA ad A q M0) 0 0 A := by
  refine mk_met (own := RX12) (by decide +kernel) rfl (Nat.le_of_ble_eq_true rfl) ?_
  intro p e s m args below meth c hC hr hlk hK H locs ls hW hl
  have hx := hC.1
  have hb := hC.2.1
  have hl : lv_has ls 2 [(0, .ref (ad a0)), (1, .int a1)] := hl
  have hf := hf0
  unfold f_X12_needsOf at hf
  refine lv_aload_n hx hb dX12_needsOf_0 rfl (lv_at hl 0 rfl) ?_
  obtain ⟨r7, hr7, hf⟩ := ob hf
  refine r_gR hC hK hW cfX12 (by decide) wF_X12_19 rfl hr7 dX12_needsOf_1 ?_
  refine lv_iload_n hx hb dX12_needsOf_4 rfl (lv_at hl 1 rfl) ?_
  obtain ⟨v8, hv8, hf⟩ := ob hf
  refine r_aI hC hK hW hv8 dX12_needsOf_5 ?_
  refine lv_iconst (v := (1 : Int32)) hx hb dX12_needsOf_6 (by decide) ?_
  refine lv_aload_n hx hb dX12_needsOf_7 rfl (lv_at hl 0 rfl) ?_
  obtain ⟨r9, hr9, hf⟩ := ob hf
  refine r_gR hC hK hW cfX12 (by decide) wF_X12_13 rfl hr9 dX12_needsOf_8 ?_
  refine lv_iconst (v := (2 : Int32)) hx hb dX12_needsOf_11 (by decide) ?_
  obtain ⟨v10, hv10, hf⟩ := ob hf
  refine r_aI hC hK hW hv10 dX12_needsOf_12 ?_
  refine lv_ishl hx hb dX12_needsOf_13 ?_
  refine lv_iconst (v := (1 : Int32)) hx hb dX12_needsOf_14 (by decide) ?_
  refine lv_isub hx hb dX12_needsOf_15 ?_
  refine lv_iand hx hb dX12_needsOf_16 ?_
  refine lv_aload_n hx hb dX12_needsOf_17 rfl (lv_at hl 0 rfl) ?_
  obtain ⟨r11, hr11, hf⟩ := ob hf
  refine r_gR hC hK hW cfX12 (by decide) wF_X12_28 rfl hr11 dX12_needsOf_18 ?_
  refine lv_bipush (v := (19 : Int32)) hx hb dX12_needsOf_21 (by decide) ?_
  refine lv_iload_n hx hb dX12_needsOf_23 rfl (lv_at hl 1 rfl) ?_
  refine lv_iadd hx hb dX12_needsOf_24 ?_
  obtain ⟨v12, hv12, hf⟩ := ob hf
  refine r_aI hC hK hW hv12 dX12_needsOf_25 ?_
  refine lv_iconst (v := (-1 : Int32)) hx hb dX12_needsOf_26 (by decide) ?_
  refine lv_ixor hx hb dX12_needsOf_27 ?_
  refine lv_iand hx hb dX12_needsOf_28 ?_
  exact r_iretP hC hr hlk hW hf dX12_needsOf_29
set_option maxHeartbeats 4000000 in
set_option maxRecDepth 100000 in
theorem c_X12_isOf (l : Launch) {D : va_G} {cA : Nat → ClassId} {ad : Nat → Nat} {A : Nat → Prop} (hAd : AdOk ad A) {a0 : Int32} {a1 : Int32} {M0 : Mem} {q : Int32} (hf0 : f_X12_isOf a0 a1 M0 = some q) : Met l yX12_isOf (wd yX12_isOf cX12_isOf 2 (some .boolean)) (rmD 0) (PcW D cA ad [.int a0, .int a1] M0) (QI D cA ad A q M0) 0 0 A := by
  refine mk_met (own := RX12) (by decide +kernel) rfl (Nat.le_of_ble_eq_true rfl) ?_
  intro p e s m args below meth c hC hr hlk hK H locs ls hW hl
  have hx := hC.1
  have hb := hC.2.1
  have hl : lv_has ls 2 [(0, .int a0), (1, .int a1)] := hl
  have hf := hf0
  unfold f_X12_isOf at hf
  refine lv_iload_n hx hb dX12_isOf_0 rfl (lv_at hl 0 rfl) ?_
  refine lv_iload_n hx hb dX12_isOf_1 rfl (lv_at hl 1 rfl) ?_
  refine lv_ishr hx hb dX12_isOf_2 ?_
  refine lv_iconst (v := (1 : Int32)) hx hb dX12_isOf_3 (by decide) ?_
  refine lv_iand hx hb dX12_isOf_4 ?_
  refine lv_iconst (v := (1 : Int32)) hx hb dX12_isOf_5 (by decide) ?_
  refine lv_icmp_ne (tgt := 13) hx hb dX12_isOf_6 (by decide) (fun c6 => ?_) (fun c6 => ?_)
  · have hf := ie c6 hf
    refine lv_iconst (v := (0 : Int32)) hx hb dX12_isOf_13 (by decide) ?_
    exact r_zretP hC hr hlk hW hf dX12_isOf_14
  · have hf := it c6 hf
    refine lv_iconst (v := (1 : Int32)) hx hb dX12_isOf_9 (by decide) ?_
    refine lv_goto (tgt := 14) hx hb dX12_isOf_10 (by decide) ?_
    exact r_zretP hC hr hlk hW hf dX12_isOf_14
set_option maxHeartbeats 4000000 in
set_option maxRecDepth 100000 in
theorem c_X12_havingBy (l : Launch) {D : va_G} {cA : Nat → ClassId} {ad : Nat → Nat} {A : Nat → Prop} (hAd : AdOk ad A) {a0 : Nat} {a1 : Int32} {M0 : Mem} {q : (Int32 × Mem)} (hf0 : f_X12_havingBy a0 a1 M0 = some q) : Met l yX12_havingBy (wd yX12_havingBy cX12_havingBy 6 (some .int)) (rmD 1) (PcW D cA ad [.ref (ad a0), .int a1] M0) (QI D cA ad A q.1 q.2) 0 0 A := by
  refine mk_met (own := RX12) (by decide +kernel) rfl (Nat.le_of_ble_eq_true rfl) ?_
  intro p e s m args below meth c hC hr hlk hK H locs ls hW hl
  have hx := hC.1
  have hb := hC.2.1
  have hl : lv_has ls 6 [(0, .ref (ad a0)), (1, .int a1)] := hl
  have B56 : ∀ (x0 : Nat) (x2 : Int32) (x3 : Int32) (x4 : Int32) (M : Mem)  (ag56 : Int32 × Int32 × Int32 × Mem → Option (Int32 × Mem)) (hg56 : ∀ (x2 : Int32) (x3 : Int32) (x4 : Int32) (M : Mem) (H : Heap) (locs : List Loc) (ls : Array Slot) (_ : Wd D cA ad A s M H locs) (_ : lv_has ls 6 [(0, .ref (ad x0)), (2, .int x2), (3, .int x3), (4, .int x4)]) (_ : ag56 (x2, x3, x4, M) = some q), W p l e (rmD 1) s m args below meth c H locs 0 0 (MQ below (QI D cA ad A q.1 q.2) args s 0 0 A) (F0 m 56 ls [])) (H : Heap) (locs : List Loc) (ls : Array Slot) (hW : Wd D cA ad A s M H locs) (hl : lv_has ls 6 [(0, .ref (ad x0)), (2, .int x2), (3, .int x3), (4, .int x4)]) (hf : f_X12_havingBy_56b  x0 ag56 x2 x3 x4 M = some q), W p l e (rmD 1) s m args below meth c H locs 0 0 (MQ below (QI D cA ad A q.1 q.2) args s 0 0 A) (F0 m 56 ls []) := by
    intro x0 x2 x3 x4 M  ag56 hg56 H locs ls hW hl hf
    unfold f_X12_havingBy_56b at hf
    refine lv_iload hx hb dX12_havingBy_56 (lv_at hl 3 rfl) ?_
    refine lv_if_lt (tgt := 135) hx hb dX12_havingBy_58 (by decide) (fun c58 => ?_) (fun c58 => ?_)
    · have hf := it c58 hf
      refine lv_iload_n hx hb dX12_havingBy_135 rfl (lv_at hl 2 rfl) ?_
      exact r_iret hC hr hlk hW hf dX12_havingBy_136
    · have hf := ie c58 hf
      refine lv_iload_n hx hb dX12_havingBy_61 rfl (lv_at hl 1 rfl) ?_
      refine lv_bipush (v := (7 : Int32)) hx hb dX12_havingBy_62 (by decide) ?_
      obtain ⟨v12, hv12, hf⟩ := ob hf
      refine r_rem hC hv12 dX12_havingBy_64 ?_
      refine lv_istore (lv' := [(5, .int v12), (0, .ref (ad x0)), (2, .int x2), (3, .int x3), (4, .int x4)]) hx hb dX12_havingBy_65 hl (by decide) rfl (fun ls hl => ?_)
      refine lv_iload_n hx hb dX12_havingBy_67 rfl (lv_at hl 2 rfl) ?_
      refine lv_bipush (v := (7 : Int32)) hx hb dX12_havingBy_68 (by decide) ?_
      obtain ⟨v13, hv13, hf⟩ := ob hf
      refine r_div hC hv13 dX12_havingBy_70 ?_
      refine lv_istore_n (lv' := [(2, .int v13), (5, .int v12), (0, .ref (ad x0)), (3, .int x3), (4, .int x4)]) hx hb dX12_havingBy_71 rfl hl (by decide) rfl (fun ls hl => ?_)
      refine lv_aload_n hx hb dX12_havingBy_72 rfl (lv_at hl 2 rfl) ?_
      obtain ⟨r14, hr14, hf⟩ := ob hf
      refine r_gR hC hK hW cfX12 (by decide) wF_X12_50 rfl hr14 dX12_havingBy_73 ?_
      refine lv_iload hx hb dX12_havingBy_76 (lv_at hl 4 rfl) ?_
      refine lv_iload hx hb dX12_havingBy_78 (lv_at hl 1 rfl) ?_
      obtain ⟨M15, hM15, hf⟩ := ob hf
      refine r_sI hC hK hAd hW hM15 dX12_havingBy_80 (fun H locs hW => ?_)
      refine lv_iload hx hb dX12_havingBy_81 (lv_at hl 1 rfl) ?_
      refine lv_bipush (v := (6 : Int32)) hx hb dX12_havingBy_83 (by decide) ?_
      refine lv_icmp_ge (tgt := 129) hx hb dX12_havingBy_85 (by decide) (fun c85 => ?_) (fun c85 => ?_)
      · have hf := it c85 hf
        refine lv_iinc (v := (x4 + (-1 : Int32))) (lv' := [(4, .int (x4 + (-1 : Int32))), (2, .int v13), (5, .int v12), (0, .ref (ad x0)), (3, .int x3)]) hx hb dX12_havingBy_129 hl (k := 4) rfl rfl (by decide) rfl (fun ls hl => ?_)
        refine lv_goto (tgt := 56) hx hb dX12_havingBy_132 (by decide) ?_
        exact hg56 v13 x3 (x4 + (-1 : Int32)) M15 _ _ _ hW (lv_sub hl [3, 1, 4, 0] rfl) hf
      · have hf := ie c85 hf
        refine lv_aload_n hx hb dX12_havingBy_88 rfl (lv_at hl 2 rfl) ?_
        refine lv_iload hx hb dX12_havingBy_89 (lv_at hl 4 rfl) ?_
        obtain ⟨q16, hq16, hf⟩ := ob hf
        refine k_vI hC hK hW cfX12 (c_X12_needsOf l hAd (cv_s hq16).2) (cv_s hq16).1 my_X12_needsOf wI_X12_needsOf wQ_X12_needsOf wM_X12_137 ⟨Nat.le_of_ble_eq_true rfl, Nat.le_of_ble_eq_true rfl⟩ rfl hl.1 rfl (Nat.le_of_ble_eq_true rfl) ⟨Nat.zero_le _, Nat.zero_le _⟩ dX12_havingBy_91 (fun H locs hW => ?_)
        refine lv_iload hx hb dX12_havingBy_94 (lv_at hl 1 rfl) ?_
        obtain ⟨q17, hq17, hf⟩ := ob hf
        refine k_sI hC hK hW (c_X12_isOf l hAd hq17) my_X12_isOf wS_X12_isOf wM_X12_149 ⟨Nat.le_of_ble_eq_true rfl, Nat.le_of_ble_eq_true rfl⟩ rfl hl.1 rfl (Nat.le_of_ble_eq_true rfl) ⟨Nat.zero_le _, Nat.zero_le _⟩ dX12_havingBy_96 (fun H locs hW => ?_)
        refine lv_if_eq (tgt := 112) hx hb dX12_havingBy_99 (by decide) (fun c99 => ?_) (fun c99 => ?_)
        · have hf := it c99 hf
          refine lv_bipush (v := (-9 : Int32)) hx hb dX12_havingBy_112 (by decide) ?_
          exact r_iret hC hr hlk hW hf dX12_havingBy_114
        · have hf := ie c99 hf
          refine lv_aload_n hx hb dX12_havingBy_102 rfl (lv_at hl 2 rfl) ?_
          obtain ⟨r18, hr18, hf⟩ := ob hf
          refine r_gR hC hK hW cfX12 (by decide) wF_X12_56 rfl hr18 dX12_havingBy_103 ?_
          refine lv_iload hx hb dX12_havingBy_106 (lv_at hl 1 rfl) ?_
          obtain ⟨v19, hv19, hf⟩ := ob hf
          refine r_aI hC hK hW hv19 dX12_havingBy_108 ?_
          refine lv_if_ne (tgt := 115) hx hb dX12_havingBy_109 (by decide) (fun c109 => ?_) (fun c109 => ?_)
          · have hf := ie c109 hf
            refine lv_aload_n hx hb dX12_havingBy_115 rfl (lv_at hl 2 rfl) ?_
            obtain ⟨r20, hr20, hf⟩ := ob hf
            refine r_gR hC hK hW cfX12 (by decide) wF_X12_56 rfl hr20 dX12_havingBy_116 ?_
            refine lv_iload hx hb dX12_havingBy_119 (lv_at hl 1 rfl) ?_
            refine lv_dup2_11 hx hb dX12_havingBy_121 rfl rfl ?_
            obtain ⟨v21, hv21, hf⟩ := ob hf
            refine r_aI hC hK hW hv21 dX12_havingBy_122 ?_
            refine lv_iconst (v := (1 : Int32)) hx hb dX12_havingBy_123 (by decide) ?_
            refine lv_isub hx hb dX12_havingBy_124 ?_
            obtain ⟨M22, hM22, hf⟩ := ob hf
            refine r_sI hC hK hAd hW hM22 dX12_havingBy_125 (fun H locs hW => ?_)
            refine lv_iinc (v := (x3 + (1 : Int32))) (lv' := [(3, .int (x3 + (1 : Int32))), (2, .int v13), (5, .int v12), (0, .ref (ad x0)), (4, .int x4)]) hx hb dX12_havingBy_126 hl (k := 3) rfl rfl (by decide) rfl (fun ls hl => ?_)
            refine lv_iinc (v := (x4 + (-1 : Int32))) (lv' := [(4, .int (x4 + (-1 : Int32))), (3, .int (x3 + (1 : Int32))), (2, .int v13), (5, .int v12), (0, .ref (ad x0))]) hx hb dX12_havingBy_129 hl (k := 4) rfl rfl (by decide) rfl (fun ls hl => ?_)
            refine lv_goto (tgt := 56) hx hb dX12_havingBy_132 (by decide) ?_
            exact hg56 v13 (x3 + (1 : Int32)) (x4 + (-1 : Int32)) M22 _ _ _ hW (lv_sub hl [4, 2, 1, 0] rfl) hf
          · have hf := it c109 hf
            refine lv_bipush (v := (-9 : Int32)) hx hb dX12_havingBy_112 (by decide) ?_
            exact r_iret hC hr hlk hW hf dX12_havingBy_114
  have J56 : ∀ (x0 : Nat) (x2 : Int32) (x3 : Int32) (x4 : Int32) (M : Mem)  (H : Heap) (locs : List Loc) (ls : Array Slot) (hW : Wd D cA ad A s M H locs) (hl : lv_has ls 6 [(0, .ref (ad x0)), (2, .int x2), (3, .int x3), (4, .int x4)]) (hf : f_X12_havingBy_56  x0 x2 x3 x4 M = some q), W p l e (rmD 1) s m args below meth c H locs 0 0 (MQ below (QI D cA ad A q.1 q.2) args s 0 0 A) (F0 m 56 ls []) := by
    intro x0 x2 x3 x4 M  H locs ls hW hl hf
    unfold f_X12_havingBy_56 at hf
    have key : ∀ (n : Nat) (x2 : Int32) (x3 : Int32) (x4 : Int32) (M : Mem) (H : Heap) (locs : List Loc) (ls : Array Slot) (hW : Wd D cA ad A s M H locs) (hl : lv_has ls 6 [(0, .ref (ad x0)), (2, .int x2), (3, .int x3), (4, .int x4)]) (hf : loopF (fun ag s => f_X12_havingBy_56b  x0 ag s.1 s.2.1 s.2.2.1 s.2.2.2) n (x2, x3, x4, M) = some q), W p l e (rmD 1) s m args below meth c H locs 0 0 (MQ below (QI D cA ad A q.1 q.2) args s 0 0 A) (F0 m 56 ls []) := by
      intro n
      induction n with
      | zero => intro x2 x3 x4 M H locs ls hW hl hf; exact nomatch (show (none : Option _) = some _ from hf)
      | succ n ih => intro x2 x3 x4 M H locs ls hW hl hf; exact B56 x0 x2 x3 x4 M  _ ih H locs ls hW hl hf
    exact key FU x2 x3 x4 M H locs ls hW hl hf
  have J35 : ∀ (x0 : Nat) (x1 : Int32) (x2 : Int32) (y0 : Nat) (y1 : Int32) (y2 : Int32) (M : Mem) (ag2 : Int32 × Mem → Option (Int32 × Mem)) (hg2 : ∀ (x2 : Int32) (M : Mem) (H : Heap) (locs : List Loc) (ls : Array Slot) (_ : Wd D cA ad A s M H locs) (_ : lv_has ls 6 [(0, .ref (ad x0)), (1, .int x1), (2, .int x2)]) (_ : ag2 (x2, M) = some q), W p l e (rmD 1) s m args below meth c H locs 0 0 (MQ below (QI D cA ad A q.1 q.2) args s 0 0 A) (F0 m 2 ls [])) (H : Heap) (locs : List Loc) (ls : Array Slot) (hW : Wd D cA ad A s M H locs) (hl : lv_has ls 6 [(0, .ref (ad x0)), (1, .int x1), (2, .int x2)]) (hf : f_X12_havingBy_35 ag2 x0 x1 x2 y0 y1 y2 M = some q), W p l e (rmD 1) s m args below meth c H locs 0 0 (MQ below (QI D cA ad A q.1 q.2) args s 0 0 A) (F0 m 35 ls [.int y2, .int y1, .ref (ad y0)]) := by
    intro x0 x1 x2 y0 y1 y2 M ag2 hg2 H locs ls hW hl hf
    unfold f_X12_havingBy_35 at hf
    obtain ⟨M24, hM24, hf⟩ := ob hf
    refine r_sI hC hK hAd hW hM24 dX12_havingBy_35 (fun H locs hW => ?_)
    refine lv_iinc (v := (x2 + (1 : Int32))) (lv' := [(2, .int (x2 + (1 : Int32))), (0, .ref (ad x0)), (1, .int x1)]) hx hb dX12_havingBy_36 hl (k := 2) rfl rfl (by decide) rfl (fun ls hl => ?_)
    refine lv_goto (tgt := 2) hx hb dX12_havingBy_39 (by decide) ?_
    exact hg2 (x2 + (1 : Int32)) M24 _ _ _ hW (lv_sub hl [1, 2, 0] rfl) hf
  have B2 : ∀ (x0 : Nat) (x1 : Int32) (x2 : Int32) (M : Mem)  (ag2 : Int32 × Mem → Option (Int32 × Mem)) (hg2 : ∀ (x2 : Int32) (M : Mem) (H : Heap) (locs : List Loc) (ls : Array Slot) (_ : Wd D cA ad A s M H locs) (_ : lv_has ls 6 [(0, .ref (ad x0)), (1, .int x1), (2, .int x2)]) (_ : ag2 (x2, M) = some q), W p l e (rmD 1) s m args below meth c H locs 0 0 (MQ below (QI D cA ad A q.1 q.2) args s 0 0 A) (F0 m 2 ls [])) (H : Heap) (locs : List Loc) (ls : Array Slot) (hW : Wd D cA ad A s M H locs) (hl : lv_has ls 6 [(0, .ref (ad x0)), (1, .int x1), (2, .int x2)]) (hf : f_X12_havingBy_2b  x0 x1 ag2 x2 M = some q), W p l e (rmD 1) s m args below meth c H locs 0 0 (MQ below (QI D cA ad A q.1 q.2) args s 0 0 A) (F0 m 2 ls []) := by
    intro x0 x1 x2 M  ag2 hg2 H locs ls hW hl hf
    unfold f_X12_havingBy_2b at hf
    refine lv_iload_n hx hb dX12_havingBy_2 rfl (lv_at hl 2 rfl) ?_
    refine lv_bipush (v := (6 : Int32)) hx hb dX12_havingBy_3 (by decide) ?_
    refine lv_icmp_ge (tgt := 42) hx hb dX12_havingBy_5 (by decide) (fun c5 => ?_) (fun c5 => ?_)
    · have hf := it c5 hf
      refine lv_iload_n hx hb dX12_havingBy_42 rfl (lv_at hl 1 rfl) ?_
      refine lv_istore_n (lv' := [(2, .int x1), (0, .ref (ad x0)), (1, .int x1)]) hx hb dX12_havingBy_43 rfl hl (by decide) rfl (fun ls hl => ?_)
      refine lv_iconst (v := (0 : Int32)) hx hb dX12_havingBy_44 (by decide) ?_
      refine lv_istore_n (lv' := [(3, .int (0 : Int32)), (2, .int x1), (0, .ref (ad x0)), (1, .int x1)]) hx hb dX12_havingBy_45 rfl hl (by decide) rfl (fun ls hl => ?_)
      refine lv_aload_n hx hb dX12_havingBy_46 rfl (lv_at hl 2 rfl) ?_
      obtain ⟨r32, hr32, hf⟩ := ob hf
      refine r_gR hC hK hW cfX12 (by decide) wF_X12_13 rfl hr32 dX12_havingBy_47 ?_
      refine lv_iconst (v := (1 : Int32)) hx hb dX12_havingBy_50 (by decide) ?_
      obtain ⟨v33, hv33, hf⟩ := ob hf
      refine r_aI hC hK hW hv33 dX12_havingBy_51 ?_
      refine lv_iconst (v := (1 : Int32)) hx hb dX12_havingBy_52 (by decide) ?_
      refine lv_isub hx hb dX12_havingBy_53 ?_
      refine lv_istore (lv' := [(4, .int (v33 - (1 : Int32))), (3, .int (0 : Int32)), (2, .int x1), (0, .ref (ad x0)), (1, .int x1)]) hx hb dX12_havingBy_54 hl (by decide) rfl (fun ls hl => ?_)
      exact J56 x0 x1 (0 : Int32) (v33 - (1 : Int32)) M _ _ _ hW (lv_sub hl [3, 2, 1, 0] rfl) hf
    · have hf := ie c5 hf
      refine lv_aload_n hx hb dX12_havingBy_8 rfl (lv_at hl 0 rfl) ?_
      obtain ⟨r34, hr34, hf⟩ := ob hf
      refine r_gR hC hK hW cfX12 (by decide) wF_X12_56 rfl hr34 dX12_havingBy_9 ?_
      refine lv_iload_n hx hb dX12_havingBy_12 rfl (lv_at hl 2 rfl) ?_
      refine lv_iload_n hx hb dX12_havingBy_13 rfl (lv_at hl 2 rfl) ?_
      refine lv_aload_n hx hb dX12_havingBy_14 rfl (lv_at hl 0 rfl) ?_
      obtain ⟨r35, hr35, hf⟩ := ob hf
      refine r_gR hC hK hW cfX12 (by decide) wF_X12_13 rfl hr35 dX12_havingBy_15 ?_
      refine lv_iconst (v := (2 : Int32)) hx hb dX12_havingBy_18 (by decide) ?_
      obtain ⟨v36, hv36, hf⟩ := ob hf
      refine r_aI hC hK hW hv36 dX12_havingBy_19 ?_
      refine lv_icmp_ge (tgt := 34) hx hb dX12_havingBy_20 (by decide) (fun c20 => ?_) (fun c20 => ?_)
      · have hf := it c20 hf
        refine lv_iconst (v := (0 : Int32)) hx hb dX12_havingBy_34 (by decide) ?_
        exact J35 x0 x1 x2 r34 x2 (0 : Int32) M ag2 hg2 _ _ _ hW (lv_sub hl [0, 1, 2] rfl) hf
      · have hf := ie c20 hf
        refine lv_aload_n hx hb dX12_havingBy_23 rfl (lv_at hl 0 rfl) ?_
        obtain ⟨r37, hr37, hf⟩ := ob hf
        refine r_gR hC hK hW cfX12 (by decide) wF_X12_28 rfl hr37 dX12_havingBy_24 ?_
        refine lv_iconst (v := (1 : Int32)) hx hb dX12_havingBy_27 (by decide) ?_
        refine lv_iload_n hx hb dX12_havingBy_28 rfl (lv_at hl 2 rfl) ?_
        refine lv_iadd hx hb dX12_havingBy_29 ?_
        obtain ⟨v38, hv38, hf⟩ := ob hf
        refine r_aI hC hK hW hv38 dX12_havingBy_30 ?_
        refine lv_goto (tgt := 35) hx hb dX12_havingBy_31 (by decide) ?_
        exact J35 x0 x1 x2 r34 x2 v38 M ag2 hg2 _ _ _ hW (lv_sub hl [0, 1, 2] rfl) hf
  have J2 : ∀ (x0 : Nat) (x1 : Int32) (x2 : Int32) (M : Mem)  (H : Heap) (locs : List Loc) (ls : Array Slot) (hW : Wd D cA ad A s M H locs) (hl : lv_has ls 6 [(0, .ref (ad x0)), (1, .int x1), (2, .int x2)]) (hf : f_X12_havingBy_2  x0 x1 x2 M = some q), W p l e (rmD 1) s m args below meth c H locs 0 0 (MQ below (QI D cA ad A q.1 q.2) args s 0 0 A) (F0 m 2 ls []) := by
    intro x0 x1 x2 M  H locs ls hW hl hf
    unfold f_X12_havingBy_2 at hf
    have key : ∀ (n : Nat) (x2 : Int32) (M : Mem) (H : Heap) (locs : List Loc) (ls : Array Slot) (hW : Wd D cA ad A s M H locs) (hl : lv_has ls 6 [(0, .ref (ad x0)), (1, .int x1), (2, .int x2)]) (hf : loopF (fun ag s => f_X12_havingBy_2b  x0 x1 ag s.1 s.2) n (x2, M) = some q), W p l e (rmD 1) s m args below meth c H locs 0 0 (MQ below (QI D cA ad A q.1 q.2) args s 0 0 A) (F0 m 2 ls []) := by
      intro n
      induction n with
      | zero => intro x2 M H locs ls hW hl hf; exact nomatch (show (none : Option _) = some _ from hf)
      | succ n ih => intro x2 M H locs ls hW hl hf; exact B2 x0 x1 x2 M  _ ih H locs ls hW hl hf
    exact key FU x2 M H locs ls hW hl hf
  have hf := hf0
  unfold f_X12_havingBy at hf
  refine lv_iconst (v := (0 : Int32)) hx hb dX12_havingBy_0 (by decide) ?_
  refine lv_istore_n (lv' := [(2, .int (0 : Int32)), (0, .ref (ad a0)), (1, .int a1)]) hx hb dX12_havingBy_1 rfl hl (by decide) rfl (fun ls hl => ?_)
  exact J2 a0 a1 (0 : Int32) M0 _ _ _ hW (lv_sub hl [1, 2, 0] rfl) hf
set_option maxHeartbeats 4000000 in
set_option maxRecDepth 100000 in
theorem c_X12_feeds (l : Launch) {D : va_G} {cA : Nat → ClassId} {ad : Nat → Nat} {A : Nat → Prop} (hAd : AdOk ad A) {a0 : Nat} {M0 : Mem} {q : (Int32 × Mem)} (hf0 : f_X12_feeds a0 M0 = some q) : Met l yX12_feeds (wd yX12_feeds cX12_feeds 6 (some .int)) (rmD 2) (PcW D cA ad [.ref (ad a0)] M0) (QI D cA ad A q.1 q.2) 0 0 A := by
  refine mk_met (own := RX12) (by decide +kernel) rfl (Nat.le_of_ble_eq_true rfl) ?_
  intro p e s m args below meth c hC hr hlk hK H locs ls hW hl
  have hx := hC.1
  have hb := hC.2.1
  have hl : lv_has ls 6 [(0, .ref (ad a0))] := hl
  have B48 : ∀ (x0 : Nat) (x1 : Int32) (x2 : Int32) (x3 : Int32) (x5 : Int32) (M : Mem) (ag14 : Int32 × Int32 × Mem → Option (Int32 × Mem)) (hg14 : ∀ (x1 : Int32) (x3 : Int32) (M : Mem) (H : Heap) (locs : List Loc) (ls : Array Slot) (_ : Wd D cA ad A s M H locs) (_ : lv_has ls 6 [(0, .ref (ad x0)), (1, .int x1), (2, .int x2), (3, .int x3)]) (_ : ag14 (x1, x3, M) = some q), W p l e (rmD 2) s m args below meth c H locs 0 0 (MQ below (QI D cA ad A q.1 q.2) args s 0 0 A) (F0 m 14 ls [])) (ag48 : Int32 × Mem → Option (Int32 × Mem)) (hg48 : ∀ (x5 : Int32) (M : Mem) (H : Heap) (locs : List Loc) (ls : Array Slot) (_ : Wd D cA ad A s M H locs) (_ : lv_has ls 6 [(0, .ref (ad x0)), (1, .int x1), (2, .int x2), (3, .int x3), (5, .int x5)]) (_ : ag48 (x5, M) = some q), W p l e (rmD 2) s m args below meth c H locs 0 0 (MQ below (QI D cA ad A q.1 q.2) args s 0 0 A) (F0 m 48 ls [])) (H : Heap) (locs : List Loc) (ls : Array Slot) (hW : Wd D cA ad A s M H locs) (hl : lv_has ls 6 [(0, .ref (ad x0)), (1, .int x1), (2, .int x2), (3, .int x3), (5, .int x5)]) (hf : f_X12_feeds_48b ag14 x0 x1 x2 x3 ag48 x5 M = some q), W p l e (rmD 2) s m args below meth c H locs 0 0 (MQ below (QI D cA ad A q.1 q.2) args s 0 0 A) (F0 m 48 ls []) := by
    intro x0 x1 x2 x3 x5 M ag14 hg14 ag48 hg48 H locs ls hW hl hf
    unfold f_X12_feeds_48b at hf
    refine lv_iload hx hb dX12_feeds_48 (lv_at hl 4 rfl) ?_
    refine lv_bipush (v := (6 : Int32)) hx hb dX12_feeds_50 (by decide) ?_
    refine lv_icmp_ge (tgt := 75) hx hb dX12_feeds_52 (by decide) (fun c52 => ?_) (fun c52 => ?_)
    · have hf := it c52 hf
      refine lv_iinc (v := (x3 + (1 : Int32))) (lv' := [(3, .int (x3 + (1 : Int32))), (0, .ref (ad x0)), (1, .int x1), (2, .int x2), (5, .int x5)]) hx hb dX12_feeds_75 hl (k := 3) rfl rfl (by decide) rfl (fun ls hl => ?_)
      refine lv_goto (tgt := 14) hx hb dX12_feeds_78 (by decide) ?_
      exact hg14 x1 (x3 + (1 : Int32)) M _ _ _ hW (lv_sub hl [1, 2, 3, 0] rfl) hf
    · have hf := ie c52 hf
      refine lv_aload_n hx hb dX12_feeds_55 rfl (lv_at hl 0 rfl) ?_
      obtain ⟨r5, hr5, hf⟩ := ob hf
      refine r_gR hC hK hW cfX12 (by decide) wF_X12_53 rfl hr5 dX12_feeds_56 ?_
      refine lv_iload hx hb dX12_feeds_59 (lv_at hl 4 rfl) ?_
      refine lv_aload_n hx hb dX12_feeds_61 rfl (lv_at hl 0 rfl) ?_
      obtain ⟨r6, hr6, hf⟩ := ob hf
      refine r_gR hC hK hW cfX12 (by decide) wF_X12_50 rfl hr6 dX12_feeds_62 ?_
      refine lv_iload hx hb dX12_feeds_65 (lv_at hl 4 rfl) ?_
      obtain ⟨v7, hv7, hf⟩ := ob hf
      refine r_aI hC hK hW hv7 dX12_feeds_67 ?_
      obtain ⟨M8, hM8, hf⟩ := ob hf
      refine r_sI hC hK hAd hW hM8 dX12_feeds_68 (fun H locs hW => ?_)
      refine lv_iinc (v := (x5 + (1 : Int32))) (lv' := [(5, .int (x5 + (1 : Int32))), (0, .ref (ad x0)), (1, .int x1), (2, .int x2), (3, .int x3)]) hx hb dX12_feeds_69 hl (k := 4) rfl rfl (by decide) rfl (fun ls hl => ?_)
      refine lv_goto (tgt := 48) hx hb dX12_feeds_72 (by decide) ?_
      exact hg48 (x5 + (1 : Int32)) M8 _ _ _ hW (lv_sub hl [1, 2, 3, 4, 0] rfl) hf
  have J48 : ∀ (x0 : Nat) (x1 : Int32) (x2 : Int32) (x3 : Int32) (x5 : Int32) (M : Mem) (ag14 : Int32 × Int32 × Mem → Option (Int32 × Mem)) (hg14 : ∀ (x1 : Int32) (x3 : Int32) (M : Mem) (H : Heap) (locs : List Loc) (ls : Array Slot) (_ : Wd D cA ad A s M H locs) (_ : lv_has ls 6 [(0, .ref (ad x0)), (1, .int x1), (2, .int x2), (3, .int x3)]) (_ : ag14 (x1, x3, M) = some q), W p l e (rmD 2) s m args below meth c H locs 0 0 (MQ below (QI D cA ad A q.1 q.2) args s 0 0 A) (F0 m 14 ls [])) (H : Heap) (locs : List Loc) (ls : Array Slot) (hW : Wd D cA ad A s M H locs) (hl : lv_has ls 6 [(0, .ref (ad x0)), (1, .int x1), (2, .int x2), (3, .int x3), (5, .int x5)]) (hf : f_X12_feeds_48 ag14 x0 x1 x2 x3 x5 M = some q), W p l e (rmD 2) s m args below meth c H locs 0 0 (MQ below (QI D cA ad A q.1 q.2) args s 0 0 A) (F0 m 48 ls []) := by
    intro x0 x1 x2 x3 x5 M ag14 hg14 H locs ls hW hl hf
    unfold f_X12_feeds_48 at hf
    have key : ∀ (n : Nat) (x5 : Int32) (M : Mem) (H : Heap) (locs : List Loc) (ls : Array Slot) (hW : Wd D cA ad A s M H locs) (hl : lv_has ls 6 [(0, .ref (ad x0)), (1, .int x1), (2, .int x2), (3, .int x3), (5, .int x5)]) (hf : loopF (fun ag s => f_X12_feeds_48b ag14 x0 x1 x2 x3 ag s.1 s.2) n (x5, M) = some q), W p l e (rmD 2) s m args below meth c H locs 0 0 (MQ below (QI D cA ad A q.1 q.2) args s 0 0 A) (F0 m 48 ls []) := by
      intro n
      induction n with
      | zero => intro x5 M H locs ls hW hl hf; exact nomatch (show (none : Option _) = some _ from hf)
      | succ n ih => intro x5 M H locs ls hW hl hf; exact B48 x0 x1 x2 x3 x5 M ag14 hg14 _ ih H locs ls hW hl hf
    exact key FU x5 M H locs ls hW hl hf
  have B14 : ∀ (x0 : Nat) (x2 : Int32) (x1 : Int32) (x3 : Int32) (M : Mem)  (ag14 : Int32 × Int32 × Mem → Option (Int32 × Mem)) (hg14 : ∀ (x1 : Int32) (x3 : Int32) (M : Mem) (H : Heap) (locs : List Loc) (ls : Array Slot) (_ : Wd D cA ad A s M H locs) (_ : lv_has ls 6 [(0, .ref (ad x0)), (1, .int x1), (2, .int x2), (3, .int x3)]) (_ : ag14 (x1, x3, M) = some q), W p l e (rmD 2) s m args below meth c H locs 0 0 (MQ below (QI D cA ad A q.1 q.2) args s 0 0 A) (F0 m 14 ls [])) (H : Heap) (locs : List Loc) (ls : Array Slot) (hW : Wd D cA ad A s M H locs) (hl : lv_has ls 6 [(0, .ref (ad x0)), (1, .int x1), (2, .int x2), (3, .int x3)]) (hf : f_X12_feeds_14b  x0 x2 ag14 x1 x3 M = some q), W p l e (rmD 2) s m args below meth c H locs 0 0 (MQ below (QI D cA ad A q.1 q.2) args s 0 0 A) (F0 m 14 ls []) := by
    intro x0 x2 x1 x3 M  ag14 hg14 H locs ls hW hl hf
    unfold f_X12_feeds_14b at hf
    refine lv_iload_n hx hb dX12_feeds_14 rfl (lv_at hl 3 rfl) ?_
    refine lv_iload_n hx hb dX12_feeds_15 rfl (lv_at hl 2 rfl) ?_
    refine lv_icmp_ge (tgt := 81) hx hb dX12_feeds_16 (by decide) (fun c16 => ?_) (fun c16 => ?_)
    · have hf := it c16 hf
      refine lv_iload_n hx hb dX12_feeds_81 rfl (lv_at hl 1 rfl) ?_
      exact r_iret hC hr hlk hW hf dX12_feeds_82
    · have hf := ie c16 hf
      refine lv_iload_n hx hb dX12_feeds_19 rfl (lv_at hl 1 rfl) ?_
      refine lv_aload_n hx hb dX12_feeds_20 rfl (lv_at hl 0 rfl) ?_
      obtain ⟨r12, hr12, hf⟩ := ob hf
      refine r_gR hC hK hW cfX12 (by decide) wF_X12_13 rfl hr12 dX12_feeds_21 ?_
      refine lv_iconst (v := (1 : Int32)) hx hb dX12_feeds_24 (by decide) ?_
      obtain ⟨v13, hv13, hf⟩ := ob hf
      refine r_aI hC hK hW hv13 dX12_feeds_25 ?_
      refine lv_icmp_ge (tgt := 81) hx hb dX12_feeds_26 (by decide) (fun c26 => ?_) (fun c26 => ?_)
      · have hf := it c26 hf
        refine lv_iload_n hx hb dX12_feeds_81 rfl (lv_at hl 1 rfl) ?_
        exact r_iret hC hr hlk hW hf dX12_feeds_82
      · have hf := ie c26 hf
        refine lv_aload_n hx hb dX12_feeds_29 rfl (lv_at hl 0 rfl) ?_
        refine lv_iload_n hx hb dX12_feeds_30 rfl (lv_at hl 3 rfl) ?_
        obtain ⟨q14, hq14, hf⟩ := ob hf
        refine k_vI hC hK hW cfX12 (c_X12_havingBy l hAd (cv_s hq14).2) (cv_s hq14).1 my_X12_havingBy wI_X12_havingBy wQ_X12_havingBy wM_X12_169 ⟨Nat.le_of_ble_eq_true rfl, Nat.le_of_ble_eq_true rfl⟩ rfl hl.1 rfl (Nat.le_of_ble_eq_true rfl) ⟨Nat.zero_le _, Nat.zero_le _⟩ dX12_feeds_31 (fun H locs hW => ?_)
        refine lv_istore (lv' := [(4, .int q14.1), (0, .ref (ad x0)), (1, .int x1), (2, .int x2), (3, .int x3)]) hx hb dX12_feeds_34 hl (by decide) rfl (fun ls hl => ?_)
        refine lv_iload hx hb dX12_feeds_36 (lv_at hl 0 rfl) ?_
        refine lv_iload_n hx hb dX12_feeds_38 rfl (lv_at hl 2 rfl) ?_
        refine lv_icmp_le (tgt := 75) hx hb dX12_feeds_39 (by decide) (fun c39 => ?_) (fun c39 => ?_)
        · have hf := it c39 hf
          refine lv_iinc (v := (x3 + (1 : Int32))) (lv' := [(3, .int (x3 + (1 : Int32))), (4, .int q14.1), (0, .ref (ad x0)), (1, .int x1), (2, .int x2)]) hx hb dX12_feeds_75 hl (k := 4) rfl rfl (by decide) rfl (fun ls hl => ?_)
          refine lv_goto (tgt := 14) hx hb dX12_feeds_78 (by decide) ?_
          exact hg14 x1 (x3 + (1 : Int32)) q14.2 _ _ _ hW (lv_sub hl [2, 3, 4, 0] rfl) hf
        · have hf := ie c39 hf
          refine lv_iload hx hb dX12_feeds_42 (lv_at hl 0 rfl) ?_
          refine lv_istore_n (lv' := [(1, .int q14.1), (4, .int q14.1), (0, .ref (ad x0)), (2, .int x2), (3, .int x3)]) hx hb dX12_feeds_44 rfl hl (by decide) rfl (fun ls hl => ?_)
          refine lv_iconst (v := (0 : Int32)) hx hb dX12_feeds_45 (by decide) ?_
          refine lv_istore (lv' := [(5, .int (0 : Int32)), (1, .int q14.1), (4, .int q14.1), (0, .ref (ad x0)), (2, .int x2), (3, .int x3)]) hx hb dX12_feeds_46 hl (by decide) rfl (fun ls hl => ?_)
          exact J48 x0 q14.1 x2 x3 (0 : Int32) q14.2 ag14 hg14 _ _ _ hW (lv_sub hl [3, 1, 4, 5, 0] rfl) hf
  have J14 : ∀ (x0 : Nat) (x2 : Int32) (x1 : Int32) (x3 : Int32) (M : Mem)  (H : Heap) (locs : List Loc) (ls : Array Slot) (hW : Wd D cA ad A s M H locs) (hl : lv_has ls 6 [(0, .ref (ad x0)), (1, .int x1), (2, .int x2), (3, .int x3)]) (hf : f_X12_feeds_14  x0 x2 x1 x3 M = some q), W p l e (rmD 2) s m args below meth c H locs 0 0 (MQ below (QI D cA ad A q.1 q.2) args s 0 0 A) (F0 m 14 ls []) := by
    intro x0 x2 x1 x3 M  H locs ls hW hl hf
    unfold f_X12_feeds_14 at hf
    have key : ∀ (n : Nat) (x1 : Int32) (x3 : Int32) (M : Mem) (H : Heap) (locs : List Loc) (ls : Array Slot) (hW : Wd D cA ad A s M H locs) (hl : lv_has ls 6 [(0, .ref (ad x0)), (1, .int x1), (2, .int x2), (3, .int x3)]) (hf : loopF (fun ag s => f_X12_feeds_14b  x0 x2 ag s.1 s.2.1 s.2.2) n (x1, x3, M) = some q), W p l e (rmD 2) s m args below meth c H locs 0 0 (MQ below (QI D cA ad A q.1 q.2) args s 0 0 A) (F0 m 14 ls []) := by
      intro n
      induction n with
      | zero => intro x1 x3 M H locs ls hW hl hf; exact nomatch (show (none : Option _) = some _ from hf)
      | succ n ih => intro x1 x3 M H locs ls hW hl hf; exact B14 x0 x2 x1 x3 M  _ ih H locs ls hW hl hf
    exact key FU x1 x3 M H locs ls hW hl hf
  have hf := hf0
  unfold f_X12_feeds at hf
  refine lv_iconst (v := (-1 : Int32)) hx hb dX12_feeds_0 (by decide) ?_
  refine lv_istore_n (lv' := [(1, .int (-1 : Int32)), (0, .ref (ad a0))]) hx hb dX12_feeds_1 rfl hl (by decide) rfl (fun ls hl => ?_)
  refine lv_aload_n hx hb dX12_feeds_2 rfl (lv_at hl 1 rfl) ?_
  obtain ⟨r18, hr18, hf⟩ := ob hf
  refine r_gR hC hK hW cfX12 (by decide) wF_X12_13 rfl hr18 dX12_feeds_3 ?_
  refine lv_iconst (v := (1 : Int32)) hx hb dX12_feeds_6 (by decide) ?_
  obtain ⟨v19, hv19, hf⟩ := ob hf
  refine r_aI hC hK hW hv19 dX12_feeds_7 ?_
  obtain ⟨q20, hq20, hf⟩ := ob hf
  refine k_sI hC hK hW (c_X12_sevens l hAd hq20) my_X12_sevens wS_X12_sevens wM_X12_166 ⟨Nat.le_of_ble_eq_true rfl, Nat.le_of_ble_eq_true rfl⟩ rfl hl.1 rfl (Nat.le_of_ble_eq_true rfl) ⟨Nat.zero_le _, Nat.zero_le _⟩ dX12_feeds_8 (fun H locs hW => ?_)
  refine lv_istore_n (lv' := [(2, .int q20), (1, .int (-1 : Int32)), (0, .ref (ad a0))]) hx hb dX12_feeds_11 rfl hl (by decide) rfl (fun ls hl => ?_)
  refine lv_iconst (v := (0 : Int32)) hx hb dX12_feeds_12 (by decide) ?_
  refine lv_istore_n (lv' := [(3, .int (0 : Int32)), (2, .int q20), (1, .int (-1 : Int32)), (0, .ref (ad a0))]) hx hb dX12_feeds_13 rfl hl (by decide) rfl (fun ls hl => ?_)
  exact J14 a0 q20 (-1 : Int32) (0 : Int32) M0 _ _ _ hW (lv_sub hl [3, 2, 1, 0] rfl) hf
set_option maxHeartbeats 4000000 in
set_option maxRecDepth 100000 in
theorem c_X12_fed (l : Launch) {D : va_G} {cA : Nat → ClassId} {ad : Nat → Nat} {A : Nat → Prop} (hAd : AdOk ad A) {a0 : Nat} {a1 : Int32} {M0 : Mem} {q : (Int32 × Mem)} (hf0 : f_X12_fed a0 a1 M0 = some q) : Met l yX12_fed (wd yX12_fed cX12_fed 2 (some .int)) (rmD 3) (PcW D cA ad [.ref (ad a0), .int a1] M0) (QI D cA ad A q.1 q.2) 0 0 A := by
  refine mk_met (own := RX12) (by decide +kernel) rfl (Nat.le_of_ble_eq_true rfl) ?_
  intro p e s m args below meth c hC hr hlk hK H locs ls hW hl
  have hx := hC.1
  have hb := hC.2.1
  have hl : lv_has ls 2 [(0, .ref (ad a0)), (1, .int a1)] := hl
  have hf := hf0
  unfold f_X12_fed at hf
  refine lv_aload_n hx hb dX12_fed_0 rfl (lv_at hl 0 rfl) ?_
  refine lv_iconst (v := (0 : Int32)) hx hb dX12_fed_1 (by decide) ?_
  obtain ⟨M8, hM8, hf⟩ := ob hf
  refine r_pI hC hK hAd hW cfX12 (by decide) wF_X12_65 rfl rfl rfl hM8 dX12_fed_2 (fun H locs hW => ?_)
  refine lv_aload_n hx hb dX12_fed_5 rfl (lv_at hl 0 rfl) ?_
  refine lv_iload_n hx hb dX12_fed_6 rfl (lv_at hl 1 rfl) ?_
  obtain ⟨q9, hq9, hf⟩ := ob hf
  refine k_vI hC hK hW cfX12 (c_X12_isGuest l hAd (cv_s hq9).2) (cv_s hq9).1 my_X12_isGuest wI_X12_isGuest wQ_X12_isGuest wM_X12_134 ⟨Nat.le_of_ble_eq_true rfl, Nat.le_of_ble_eq_true rfl⟩ rfl hl.1 rfl (Nat.le_of_ble_eq_true rfl) ⟨Nat.zero_le _, Nat.zero_le _⟩ dX12_fed_7 (fun H locs hW => ?_)
  refine lv_if_ne (tgt := 15) hx hb dX12_fed_10 (by decide) (fun c10 => ?_) (fun c10 => ?_)
  · have hf := ie c10 hf
    refine lv_aload_n hx hb dX12_fed_15 rfl (lv_at hl 0 rfl) ?_
    obtain ⟨q10, hq10, hf⟩ := ob hf
    refine k_vI hC hK hW cfX12 (c_X12_feeds l hAd (cv_s hq10).2) (cv_s hq10).1 my_X12_feeds wI_X12_feeds wQ_X12_feeds wM_X12_175 ⟨Nat.le_of_ble_eq_true rfl, Nat.le_of_ble_eq_true rfl⟩ rfl hl.1 rfl (Nat.le_of_ble_eq_true rfl) ⟨Nat.zero_le _, Nat.zero_le _⟩ dX12_fed_16 (fun H locs hW => ?_)
    refine lv_pop hx hb dX12_fed_19 rfl ?_
    refine lv_aload_n hx hb dX12_fed_20 rfl (lv_at hl 0 rfl) ?_
    obtain ⟨r11, hr11, hf⟩ := ob hf
    refine r_gR hC hK hW cfX12 (by decide) wF_X12_53 rfl hr11 dX12_fed_21 ?_
    refine lv_iload_n hx hb dX12_fed_24 rfl (lv_at hl 1 rfl) ?_
    obtain ⟨v12, hv12, hf⟩ := ob hf
    refine r_aI hC hK hW hv12 dX12_fed_25 ?_
    refine lv_bipush (v := (6 : Int32)) hx hb dX12_fed_26 (by decide) ?_
    refine lv_icmp_ne (tgt := 36) hx hb dX12_fed_28 (by decide) (fun c28 => ?_) (fun c28 => ?_)
    · have hf := ie c28 hf
      refine lv_aload_n hx hb dX12_fed_36 rfl (lv_at hl 0 rfl) ?_
      obtain ⟨r13, hr13, hf⟩ := ob hf
      refine r_gR hC hK hW cfX12 (by decide) wF_X12_53 rfl hr13 dX12_fed_37 ?_
      refine lv_iload_n hx hb dX12_fed_40 rfl (lv_at hl 1 rfl) ?_
      obtain ⟨v14, hv14, hf⟩ := ob hf
      refine r_aI hC hK hW hv14 dX12_fed_41 ?_
      exact r_iret hC hr hlk hW hf dX12_fed_42
    · have hf := it c28 hf
      refine lv_bipush (v := (-9 : Int32)) hx hb dX12_fed_31 (by decide) ?_
      refine lv_goto (tgt := 42) hx hb dX12_fed_33 (by decide) ?_
      exact r_iret hC hr hlk hW hf dX12_fed_42
  · have hf := it c10 hf
    refine lv_iconst (v := (-1 : Int32)) hx hb dX12_fed_13 (by decide) ?_
    exact r_iret hC hr hlk hW hf dX12_fed_14
set_option maxHeartbeats 4000000 in
set_option maxRecDepth 100000 in
theorem c_X12_forget (l : Launch) {D : va_G} {cA : Nat → ClassId} {ad : Nat → Nat} {A : Nat → Prop} (hAd : AdOk ad A) {a0 : Nat} {M0 : Mem} {q : (Int32 × Mem)} (hf0 : f_X12_forget a0 M0 = some q) : Met l yX12_forget (wd yX12_forget cX12_forget 2 (some .int)) (rmD 0) (PcW D cA ad [.ref (ad a0)] M0) (QI D cA ad A q.1 q.2) 0 0 A := by
  refine mk_met (own := RX12) (by decide +kernel) rfl (Nat.le_of_ble_eq_true rfl) ?_
  intro p e s m args below meth c hC hr hlk hK H locs ls hW hl
  have hx := hC.1
  have hb := hC.2.1
  have hl : lv_has ls 2 [(0, .ref (ad a0))] := hl
  have hf := hf0
  unfold f_X12_forget at hf
  refine lv_aload_n hx hb dX12_forget_0 rfl (lv_at hl 0 rfl) ?_
  refine lv_iconst (v := (0 : Int32)) hx hb dX12_forget_1 (by decide) ?_
  obtain ⟨M4, hM4, hf⟩ := ob hf
  refine r_pI hC hK hAd hW cfX12 (by decide) wF_X12_65 rfl rfl rfl hM4 dX12_forget_2 (fun H locs hW => ?_)
  refine lv_aload_n hx hb dX12_forget_5 rfl (lv_at hl 0 rfl) ?_
  obtain ⟨v5, hv5, hf⟩ := ob hf
  refine r_gI hC hK hW cfX12 (by decide) wF_X12_125 rfl hv5 dX12_forget_6 ?_
  refine lv_istore_n (lv' := [(1, .int v5), (0, .ref (ad a0))]) hx hb dX12_forget_9 rfl hl (by decide) rfl (fun ls hl => ?_)
  refine lv_aload_n hx hb dX12_forget_10 rfl (lv_at hl 1 rfl) ?_
  refine lv_iconst (v := (0 : Int32)) hx hb dX12_forget_11 (by decide) ?_
  obtain ⟨M6, hM6, hf⟩ := ob hf
  refine r_pI hC hK hAd hW cfX12 (by decide) wF_X12_125 rfl rfl rfl hM6 dX12_forget_12 (fun H locs hW => ?_)
  refine lv_iload_n hx hb dX12_forget_15 rfl (lv_at hl 0 rfl) ?_
  exact r_iret hC hr hlk hW hf dX12_forget_16
set_option maxHeartbeats 4000000 in
set_option maxRecDepth 100000 in
theorem c_X12_isWell (l : Launch) {D : va_G} {cA : Nat → ClassId} {ad : Nat → Nat} {A : Nat → Prop} (hAd : AdOk ad A) {a0 : Nat} {M0 : Mem} {q : Int32} (hf0 : f_X12_isWell a0 M0 = some q) : Met l yX12_isWell (wd yX12_isWell cX12_isWell 1 (some .boolean)) (rmD 0) (PcW D cA ad [.ref (ad a0)] M0) (QI D cA ad A q M0) 0 0 A := by
  refine mk_met (own := RX12) (by decide +kernel) rfl (Nat.le_of_ble_eq_true rfl) ?_
  intro p e s m args below meth c hC hr hlk hK H locs ls hW hl
  have hx := hC.1
  have hb := hC.2.1
  have hl : lv_has ls 1 [(0, .ref (ad a0))] := hl
  have hf := hf0
  unfold f_X12_isWell at hf
  refine lv_aload_n hx hb dX12_isWell_0 rfl (lv_at hl 0 rfl) ?_
  obtain ⟨v2, hv2, hf⟩ := ob hf
  refine r_gI hC hK hW cfX12 (by decide) wF_X12_92 rfl hv2 dX12_isWell_1 ?_
  refine lv_if_ge (tgt := 11) hx hb dX12_isWell_4 (by decide) (fun c4 => ?_) (fun c4 => ?_)
  · have hf := it c4 hf
    refine lv_iconst (v := (0 : Int32)) hx hb dX12_isWell_11 (by decide) ?_
    exact r_zretP hC hr hlk hW hf dX12_isWell_12
  · have hf := ie c4 hf
    refine lv_iconst (v := (1 : Int32)) hx hb dX12_isWell_7 (by decide) ?_
    refine lv_goto (tgt := 12) hx hb dX12_isWell_8 (by decide) ?_
    exact r_zretP hC hr hlk hW hf dX12_isWell_12
set_option maxHeartbeats 4000000 in
set_option maxRecDepth 100000 in
theorem c_X12_takesToken (l : Launch) {D : va_G} {cA : Nat → ClassId} {ad : Nat → Nat} {A : Nat → Prop} (hAd : AdOk ad A) {a0 : Nat} {a1 : Int32} {M0 : Mem} {q : (Int32 × Mem)} (hf0 : f_X12_takesToken a0 a1 M0 = some q) : Met l yX12_takesToken (wd yX12_takesToken cX12_takesToken 3 (some .int)) (rmD 2) (PcW D cA ad [.ref (ad a0), .int a1] M0) (QI D cA ad A q.1 q.2) 0 0 A := by
  refine mk_met (own := RX12) (by decide +kernel) rfl (Nat.le_of_ble_eq_true rfl) ?_
  intro p e s m args below meth c hC hr hlk hK H locs ls hW hl
  have hx := hC.1
  have hb := hC.2.1
  have hl : lv_has ls 3 [(0, .ref (ad a0)), (1, .int a1)] := hl
  have hf := hf0
  unfold f_X12_takesToken at hf
  refine lv_aload_n hx hb dX12_takesToken_0 rfl (lv_at hl 0 rfl) ?_
  obtain ⟨q6, hq6, hf⟩ := ob hf
  refine k_vI hC hK hW cfX12 (c_X12_isWell l hAd (cv_s hq6).2) (cv_s hq6).1 my_X12_isWell wI_X12_isWell wQ_X12_isWell wM_X12_95 ⟨Nat.le_of_ble_eq_true rfl, Nat.le_of_ble_eq_true rfl⟩ rfl hl.1 rfl (Nat.le_of_ble_eq_true rfl) ⟨Nat.zero_le _, Nat.zero_le _⟩ dX12_takesToken_1 (fun H locs hW => ?_)
  refine lv_if_ne (tgt := 9) hx hb dX12_takesToken_4 (by decide) (fun c4 => ?_) (fun c4 => ?_)
  · have hf := ie c4 hf
    refine lv_iload_n hx hb dX12_takesToken_9 rfl (lv_at hl 1 rfl) ?_
    refine lv_if_ne (tgt := 23) hx hb dX12_takesToken_10 (by decide) (fun c10 => ?_) (fun c10 => ?_)
    · have hf := ie c10 hf
      refine lv_aload_n hx hb dX12_takesToken_23 rfl (lv_at hl 0 rfl) ?_
      obtain ⟨v7, hv7, hf⟩ := ob hf
      refine r_gI hC hK hW cfX12 (by decide) wF_X12_86 rfl hv7 dX12_takesToken_24 ?_
      refine lv_istore_n (lv' := [(2, .int v7), (0, .ref (ad a0)), (1, .int a1)]) hx hb dX12_takesToken_27 rfl hl (by decide) rfl (fun ls hl => ?_)
      refine lv_aload_n hx hb dX12_takesToken_28 rfl (lv_at hl 1 rfl) ?_
      obtain ⟨q8, hq8, hf⟩ := ob hf
      refine k_vV hC hK hW cfX12 (c_X12_advances l hAd (cv_s hq8).2) (cv_s hq8).1 my_X12_advances wI_X12_advances wQ_X12_advances wM_X12_99 ⟨Nat.le_of_ble_eq_true rfl, Nat.le_of_ble_eq_true rfl⟩ rfl hl.1 rfl (Nat.le_of_ble_eq_true rfl) ⟨Nat.zero_le _, Nat.zero_le _⟩ dX12_takesToken_29 (fun H locs hW => ?_)
      refine lv_iload_n hx hb dX12_takesToken_32 rfl (lv_at hl 0 rfl) ?_
      exact r_iret hC hr hlk hW hf dX12_takesToken_33
    · have hf := it c10 hf
      refine lv_aload_n hx hb dX12_takesToken_13 rfl (lv_at hl 0 rfl) ?_
      refine lv_aload_n hx hb dX12_takesToken_14 rfl (lv_at hl 0 rfl) ?_
      obtain ⟨v9, hv9, hf⟩ := ob hf
      refine r_gI hC hK hW cfX12 (by decide) wF_X12_83 rfl hv9 dX12_takesToken_15 ?_
      obtain ⟨M10, hM10, hf⟩ := ob hf
      refine r_pI hC hK hAd hW cfX12 (by decide) wF_X12_92 rfl rfl rfl hM10 dX12_takesToken_18 (fun H locs hW => ?_)
      refine lv_iconst (v := (0 : Int32)) hx hb dX12_takesToken_21 (by decide) ?_
      exact r_iret hC hr hlk hW hf dX12_takesToken_22
  · have hf := it c4 hf
    refine lv_iconst (v := (0 : Int32)) hx hb dX12_takesToken_7 (by decide) ?_
    exact r_iret hC hr hlk hW hf dX12_takesToken_8
set_option maxHeartbeats 4000000 in
set_option maxRecDepth 100000 in
theorem c_X12_free (l : Launch) {D : va_G} {cA : Nat → ClassId} {ad : Nat → Nat} {A : Nat → Prop} (hAd : AdOk ad A) {a0 : Nat} {a1 : Int32} {a2 : Int32} {M0 : Mem} {q : (Int32 × Mem)} (hf0 : f_X12_free a0 a1 a2 M0 = some q) : Met l yX12_free (wd yX12_free cX12_free 5 (some .int)) (rmD 3) (PcW D cA ad [.ref (ad a0), .int a1, .int a2] M0) (QI D cA ad A q.1 q.2) 0 0 A := by
  refine mk_met (own := RX12) (by decide +kernel) rfl (Nat.le_of_ble_eq_true rfl) ?_
  intro p e s m args below meth c hC hr hlk hK H locs ls hW hl
  have hx := hC.1
  have hb := hC.2.1
  have hl : lv_has ls 5 [(0, .ref (ad a0)), (1, .int a1), (2, .int a2)] := hl
  have J74 : ∀ (x0 : Nat) (x3 : Int32)  (M : Mem)  (H : Heap) (locs : List Loc) (ls : Array Slot) (hW : Wd D cA ad A s M H locs) (hl : lv_has ls 5 [(0, .ref (ad x0)), (3, .int x3)]) (hf : f_X12_free_74  x0 x3  M = some q), W p l e (rmD 3) s m args below meth c H locs 0 0 (MQ below (QI D cA ad A q.1 q.2) args s 0 0 A) (F0 m 74 ls []) := by
    intro x0 x3  M  H locs ls hW hl hf
    unfold f_X12_free_74 at hf
    refine lv_aload_n hx hb dX12_free_74 rfl (lv_at hl 0 rfl) ?_
    refine lv_iload_n hx hb dX12_free_75 rfl (lv_at hl 1 rfl) ?_
    obtain ⟨q2, hq2, hf⟩ := ob hf
    refine k_vI hC hK hW cfX12 (c_X12_takesToken l hAd (cv_s hq2).2) (cv_s hq2).1 my_X12_takesToken wI_X12_takesToken wQ_X12_takesToken wM_X12_102 ⟨Nat.le_of_ble_eq_true rfl, Nat.le_of_ble_eq_true rfl⟩ rfl hl.1 rfl (Nat.le_of_ble_eq_true rfl) ⟨Nat.zero_le _, Nat.zero_le _⟩ dX12_free_76 (fun H locs hW => ?_)
    exact r_iret hC hr hlk hW hf dX12_free_79
  have B36 : ∀ (x0 : Nat) (x1 : Int32) (x2 : Int32) (M : Mem) (x3 : Int32) (x4 : Int32)  (ag36 : Int32 × Int32 → Option (Int32 × Mem)) (hg36 : ∀ (x3 : Int32) (x4 : Int32) (H : Heap) (locs : List Loc) (ls : Array Slot) (_ : Wd D cA ad A s M H locs) (_ : lv_has ls 5 [(0, .ref (ad x0)), (1, .int x1), (2, .int x2), (3, .int x3), (4, .int x4)]) (_ : ag36 (x3, x4) = some q), W p l e (rmD 3) s m args below meth c H locs 0 0 (MQ below (QI D cA ad A q.1 q.2) args s 0 0 A) (F0 m 36 ls [])) (H : Heap) (locs : List Loc) (ls : Array Slot) (hW : Wd D cA ad A s M H locs) (hl : lv_has ls 5 [(0, .ref (ad x0)), (1, .int x1), (2, .int x2), (3, .int x3), (4, .int x4)]) (hf : f_X12_free_36b  x0 x1 x2 M ag36 x3 x4 = some q), W p l e (rmD 3) s m args below meth c H locs 0 0 (MQ below (QI D cA ad A q.1 q.2) args s 0 0 A) (F0 m 36 ls []) := by
    intro x0 x1 x2 M x3 x4  ag36 hg36 H locs ls hW hl hf
    unfold f_X12_free_36b at hf
    refine lv_iload hx hb dX12_free_36 (lv_at hl 4 rfl) ?_
    refine lv_iload_n hx hb dX12_free_38 rfl (lv_at hl 2 rfl) ?_
    refine lv_icmp_ge (tgt := 74) hx hb dX12_free_39 (by decide) (fun c39 => ?_) (fun c39 => ?_)
    · have hf := it c39 hf
      exact J74 x0 x3 M _ _ _ hW (lv_sub hl [0, 3] rfl) hf
    · have hf := ie c39 hf
      refine lv_iload_n hx hb dX12_free_42 rfl (lv_at hl 3 rfl) ?_
      refine lv_if_eq (tgt := 74) hx hb dX12_free_43 (by decide) (fun c43 => ?_) (fun c43 => ?_)
      · have hf := it c43 hf
        exact J74 x0 x3 M _ _ _ hW (lv_sub hl [0, 3] rfl) hf
      · have hf := ie c43 hf
        refine lv_aload_n hx hb dX12_free_46 rfl (lv_at hl 0 rfl) ?_
        obtain ⟨r6, hr6, hf⟩ := ob hf
        refine r_gR hC hK hW cfX12 (by decide) wF_X12_25 rfl hr6 dX12_free_47 ?_
        refine lv_iload_n hx hb dX12_free_50 rfl (lv_at hl 1 rfl) ?_
        refine lv_iload hx hb dX12_free_51 (lv_at hl 4 rfl) ?_
        refine lv_iadd hx hb dX12_free_53 ?_
        obtain ⟨v7, hv7, hf⟩ := ob hf
        refine r_aI hC hK hW hv7 dX12_free_54 ?_
        refine lv_aload_n hx hb dX12_free_55 rfl (lv_at hl 0 rfl) ?_
        obtain ⟨v8, hv8, hf⟩ := ob hf
        refine r_gI hC hK hW cfX12 (by decide) wF_X12_86 rfl hv8 dX12_free_56 ?_
        refine lv_icmp_eq (tgt := 66) hx hb dX12_free_59 (by decide) (fun c59 => ?_) (fun c59 => ?_)
        · have hf := it c59 hf
          refine lv_iconst (v := (0 : Int32)) hx hb dX12_free_66 (by decide) ?_
          refine lv_istore_n (lv' := [(3, .int (0 : Int32)), (0, .ref (ad x0)), (1, .int x1), (2, .int x2), (4, .int x4)]) hx hb dX12_free_67 rfl hl (by decide) rfl (fun ls hl => ?_)
          refine lv_iinc (v := (x4 + (1 : Int32))) (lv' := [(4, .int (x4 + (1 : Int32))), (3, .int (0 : Int32)), (0, .ref (ad x0)), (1, .int x1), (2, .int x2)]) hx hb dX12_free_68 hl (k := 4) rfl rfl (by decide) rfl (fun ls hl => ?_)
          refine lv_goto (tgt := 36) hx hb dX12_free_71 (by decide) ?_
          exact hg36 (0 : Int32) (x4 + (1 : Int32)) _ _ _ hW (lv_sub hl [2, 3, 4, 1, 0] rfl) hf
        · have hf := ie c59 hf
          refine lv_iconst (v := (1 : Int32)) hx hb dX12_free_62 (by decide) ?_
          refine lv_goto (tgt := 67) hx hb dX12_free_63 (by decide) ?_
          refine lv_istore_n (lv' := [(3, .int (1 : Int32)), (0, .ref (ad x0)), (1, .int x1), (2, .int x2), (4, .int x4)]) hx hb dX12_free_67 rfl hl (by decide) rfl (fun ls hl => ?_)
          refine lv_iinc (v := (x4 + (1 : Int32))) (lv' := [(4, .int (x4 + (1 : Int32))), (3, .int (1 : Int32)), (0, .ref (ad x0)), (1, .int x1), (2, .int x2)]) hx hb dX12_free_68 hl (k := 4) rfl rfl (by decide) rfl (fun ls hl => ?_)
          refine lv_goto (tgt := 36) hx hb dX12_free_71 (by decide) ?_
          exact hg36 (1 : Int32) (x4 + (1 : Int32)) _ _ _ hW (lv_sub hl [2, 3, 4, 1, 0] rfl) hf
  have J36 : ∀ (x0 : Nat) (x1 : Int32) (x2 : Int32) (M : Mem) (x3 : Int32) (x4 : Int32)  (H : Heap) (locs : List Loc) (ls : Array Slot) (hW : Wd D cA ad A s M H locs) (hl : lv_has ls 5 [(0, .ref (ad x0)), (1, .int x1), (2, .int x2), (3, .int x3), (4, .int x4)]) (hf : f_X12_free_36  x0 x1 x2 M x3 x4 = some q), W p l e (rmD 3) s m args below meth c H locs 0 0 (MQ below (QI D cA ad A q.1 q.2) args s 0 0 A) (F0 m 36 ls []) := by
    intro x0 x1 x2 M x3 x4  H locs ls hW hl hf
    unfold f_X12_free_36 at hf
    have key : ∀ (n : Nat) (x3 : Int32) (x4 : Int32) (H : Heap) (locs : List Loc) (ls : Array Slot) (hW : Wd D cA ad A s M H locs) (hl : lv_has ls 5 [(0, .ref (ad x0)), (1, .int x1), (2, .int x2), (3, .int x3), (4, .int x4)]) (hf : loopF (fun ag s => f_X12_free_36b  x0 x1 x2 M ag s.1 s.2) n (x3, x4) = some q), W p l e (rmD 3) s m args below meth c H locs 0 0 (MQ below (QI D cA ad A q.1 q.2) args s 0 0 A) (F0 m 36 ls []) := by
      intro n
      induction n with
      | zero => intro x3 x4 H locs ls hW hl hf; exact nomatch (show (none : Option _) = some _ from hf)
      | succ n ih => intro x3 x4 H locs ls hW hl hf; exact B36 x0 x1 x2 M x3 x4  _ ih H locs ls hW hl hf
    exact key FU x3 x4 H locs ls hW hl hf
  have J31 : ∀ (x0 : Nat) (x1 : Int32) (x2 : Int32)  (M : Mem)  (H : Heap) (locs : List Loc) (ls : Array Slot) (hW : Wd D cA ad A s M H locs) (hl : lv_has ls 5 [(0, .ref (ad x0)), (1, .int x1), (2, .int x2)]) (hf : f_X12_free_31  x0 x1 x2  M = some q), W p l e (rmD 3) s m args below meth c H locs 0 0 (MQ below (QI D cA ad A q.1 q.2) args s 0 0 A) (F0 m 31 ls []) := by
    intro x0 x1 x2  M  H locs ls hW hl hf
    unfold f_X12_free_31 at hf
    refine lv_iconst (v := (0 : Int32)) hx hb dX12_free_31 (by decide) ?_
    refine lv_istore_n (lv' := [(3, .int (0 : Int32)), (0, .ref (ad x0)), (1, .int x1), (2, .int x2)]) hx hb dX12_free_32 rfl hl (by decide) rfl (fun ls hl => ?_)
    refine lv_iconst (v := (0 : Int32)) hx hb dX12_free_33 (by decide) ?_
    refine lv_istore (lv' := [(4, .int (0 : Int32)), (3, .int (0 : Int32)), (0, .ref (ad x0)), (1, .int x1), (2, .int x2)]) hx hb dX12_free_34 hl (by decide) rfl (fun ls hl => ?_)
    exact J36 x0 x1 x2 M (0 : Int32) (0 : Int32) _ _ _ hW (lv_sub hl [2, 3, 4, 1, 0] rfl) hf
  have hf := hf0
  unfold f_X12_free at hf
  refine lv_aload_n hx hb dX12_free_0 rfl (lv_at hl 0 rfl) ?_
  obtain ⟨v14, hv14, hf⟩ := ob hf
  refine r_gI hC hK hW cfX12 (by decide) wF_X12_89 rfl hv14 dX12_free_1 ?_
  refine lv_iconst (v := (2 : Int32)) hx hb dX12_free_4 (by decide) ?_
  refine lv_icmp_ne (tgt := 31) hx hb dX12_free_5 (by decide) (fun c5 => ?_) (fun c5 => ?_)
  · have hf := ie c5 hf
    exact J31 a0 a1 a2 M0 _ _ _ hW (lv_sub hl [0, 1, 2] rfl) hf
  · have hf := it c5 hf
    refine lv_aload_n hx hb dX12_free_8 rfl (lv_at hl 0 rfl) ?_
    obtain ⟨v15, hv15, hf⟩ := ob hf
    refine r_gI hC hK hW cfX12 (by decide) wF_X12_86 rfl hv15 dX12_free_9 ?_
    refine lv_iconst (v := (0 : Int32)) hx hb dX12_free_12 (by decide) ?_
    refine lv_aload_n hx hb dX12_free_13 rfl (lv_at hl 0 rfl) ?_
    obtain ⟨r16, hr16, hf⟩ := ob hf
    refine r_gR hC hK hW cfX12 (by decide) wF_X12_13 rfl hr16 dX12_free_14 ?_
    refine lv_iconst (v := (3 : Int32)) hx hb dX12_free_17 (by decide) ?_
    obtain ⟨v17, hv17, hf⟩ := ob hf
    refine r_aI hC hK hW hv17 dX12_free_18 ?_
    refine lv_iconst (v := (1 : Int32)) hx hb dX12_free_19 (by decide) ?_
    refine lv_isub hx hb dX12_free_20 ?_
    obtain ⟨q18, hq18, hf⟩ := ob hf
    refine k_sI hC hK hW (c_X12_in l hAd hq18) my_X12_in wS_X12_in wM_X12_69 ⟨Nat.le_of_ble_eq_true rfl, Nat.le_of_ble_eq_true rfl⟩ rfl hl.1 rfl (Nat.le_of_ble_eq_true rfl) ⟨Nat.zero_le _, Nat.zero_le _⟩ dX12_free_21 (fun H locs hW => ?_)
    refine lv_if_eq (tgt := 31) hx hb dX12_free_24 (by decide) (fun c24 => ?_) (fun c24 => ?_)
    · have hf := it c24 hf
      exact J31 a0 a1 a2 M0 _ _ _ hW (lv_sub hl [0, 1, 2] rfl) hf
    · have hf := ie c24 hf
      refine lv_iconst (v := (1 : Int32)) hx hb dX12_free_27 (by decide) ?_
      refine lv_goto (tgt := 32) hx hb dX12_free_28 (by decide) ?_
      refine lv_istore_n (lv' := [(3, .int (1 : Int32)), (0, .ref (ad a0)), (1, .int a1), (2, .int a2)]) hx hb dX12_free_32 rfl hl (by decide) rfl (fun ls hl => ?_)
      refine lv_iconst (v := (0 : Int32)) hx hb dX12_free_33 (by decide) ?_
      refine lv_istore (lv' := [(4, .int (0 : Int32)), (3, .int (1 : Int32)), (0, .ref (ad a0)), (1, .int a1), (2, .int a2)]) hx hb dX12_free_34 hl (by decide) rfl (fun ls hl => ?_)
      exact J36 a0 a1 a2 M0 (1 : Int32) (0 : Int32) _ _ _ hW (lv_sub hl [2, 3, 4, 1, 0] rfl) hf
set_option maxHeartbeats 4000000 in
set_option maxRecDepth 100000 in
theorem c_X12_gcd (l : Launch) {D : va_G} {cA : Nat → ClassId} {ad : Nat → Nat} {A : Nat → Prop} (hAd : AdOk ad A) {a0 : Int32} {a1 : Int32} {M0 : Mem} {q : Int32} (hf0 : f_X12_gcd a0 a1 M0 = some q) : Met l yX12_gcd (wd yX12_gcd cX12_gcd 5 (some .int)) (rmD 0) (PcW D cA ad [.int a0, .int a1] M0) (QI D cA ad A q M0) 0 0 A := by
  refine mk_met (own := RX12) (by decide +kernel) rfl (Nat.le_of_ble_eq_true rfl) ?_
  intro p e s m args below meth c hC hr hlk hK H locs ls hW hl
  have hx := hC.1
  have hb := hC.2.1
  have hl : lv_has ls 5 [(0, .int a0), (1, .int a1)] := hl
  have B4 : ∀  (x2 : Int32) (x3 : Int32)  (ag4 : Int32 × Int32 → Option Int32) (hg4 : ∀ (x2 : Int32) (x3 : Int32) (H : Heap) (locs : List Loc) (ls : Array Slot) (_ : Wd D cA ad A s M0 H locs) (_ : lv_has ls 5 [(2, .int x2), (3, .int x3)]) (_ : ag4 (x2, x3) = some q), W p l e (rmD 0) s m args below meth c H locs 0 0 (MQ below (QI D cA ad A q M0) args s 0 0 A) (F0 m 4 ls [])) (H : Heap) (locs : List Loc) (ls : Array Slot) (hW : Wd D cA ad A s M0 H locs) (hl : lv_has ls 5 [(2, .int x2), (3, .int x3)]) (hf : f_X12_gcd_4b   M0 ag4 x2 x3 = some q), W p l e (rmD 0) s m args below meth c H locs 0 0 (MQ below (QI D cA ad A q M0) args s 0 0 A) (F0 m 4 ls []) := by
    intro  x2 x3  ag4 hg4 H locs ls hW hl hf
    unfold f_X12_gcd_4b at hf
    refine lv_iload_n hx hb dX12_gcd_4 rfl (lv_at hl 1 rfl) ?_
    refine lv_if_eq (tgt := 21) hx hb dX12_gcd_5 (by decide) (fun c5 => ?_) (fun c5 => ?_)
    · have hf := it c5 hf
      refine lv_iload_n hx hb dX12_gcd_21 rfl (lv_at hl 0 rfl) ?_
      exact r_iretP hC hr hlk hW hf dX12_gcd_22
    · have hf := ie c5 hf
      refine lv_iload_n hx hb dX12_gcd_8 rfl (lv_at hl 0 rfl) ?_
      refine lv_iload_n hx hb dX12_gcd_9 rfl (lv_at hl 1 rfl) ?_
      obtain ⟨v2, hv2, hf⟩ := ob hf
      refine r_rem hC hv2 dX12_gcd_10 ?_
      refine lv_istore (lv' := [(4, .int v2), (2, .int x2), (3, .int x3)]) hx hb dX12_gcd_11 hl (by decide) rfl (fun ls hl => ?_)
      refine lv_iload_n hx hb dX12_gcd_13 rfl (lv_at hl 2 rfl) ?_
      refine lv_istore_n (lv' := [(2, .int x3), (4, .int v2), (3, .int x3)]) hx hb dX12_gcd_14 rfl hl (by decide) rfl (fun ls hl => ?_)
      refine lv_iload hx hb dX12_gcd_15 (lv_at hl 1 rfl) ?_
      refine lv_istore_n (lv' := [(3, .int v2), (2, .int x3), (4, .int v2)]) hx hb dX12_gcd_17 rfl hl (by decide) rfl (fun ls hl => ?_)
      refine lv_goto (tgt := 4) hx hb dX12_gcd_18 (by decide) ?_
      exact hg4 x3 v2 _ _ _ hW (lv_sub hl [1, 0] rfl) hf
  have J4 : ∀  (x2 : Int32) (x3 : Int32)  (H : Heap) (locs : List Loc) (ls : Array Slot) (hW : Wd D cA ad A s M0 H locs) (hl : lv_has ls 5 [(2, .int x2), (3, .int x3)]) (hf : f_X12_gcd_4   M0 x2 x3 = some q), W p l e (rmD 0) s m args below meth c H locs 0 0 (MQ below (QI D cA ad A q M0) args s 0 0 A) (F0 m 4 ls []) := by
    intro  x2 x3  H locs ls hW hl hf
    unfold f_X12_gcd_4 at hf
    have key : ∀ (n : Nat) (x2 : Int32) (x3 : Int32) (H : Heap) (locs : List Loc) (ls : Array Slot) (hW : Wd D cA ad A s M0 H locs) (hl : lv_has ls 5 [(2, .int x2), (3, .int x3)]) (hf : loopF (fun ag s => f_X12_gcd_4b   M0 ag s.1 s.2) n (x2, x3) = some q), W p l e (rmD 0) s m args below meth c H locs 0 0 (MQ below (QI D cA ad A q M0) args s 0 0 A) (F0 m 4 ls []) := by
      intro n
      induction n with
      | zero => intro x2 x3 H locs ls hW hl hf; exact nomatch (show (none : Option _) = some _ from hf)
      | succ n ih => intro x2 x3 H locs ls hW hl hf; exact B4  x2 x3  _ ih H locs ls hW hl hf
    exact key FU x2 x3 H locs ls hW hl hf
  have hf := hf0
  unfold f_X12_gcd at hf
  refine lv_iload_n hx hb dX12_gcd_0 rfl (lv_at hl 0 rfl) ?_
  refine lv_istore_n (lv' := [(2, .int a0), (0, .int a0), (1, .int a1)]) hx hb dX12_gcd_1 rfl hl (by decide) rfl (fun ls hl => ?_)
  refine lv_iload_n hx hb dX12_gcd_2 rfl (lv_at hl 2 rfl) ?_
  refine lv_istore_n (lv' := [(3, .int a1), (2, .int a0), (0, .int a0), (1, .int a1)]) hx hb dX12_gcd_3 rfl hl (by decide) rfl (fun ls hl => ?_)
  exact J4 a0 a1 _ _ _ hW (lv_sub hl [1, 0] rfl) hf
set_option maxHeartbeats 4000000 in
set_option maxRecDepth 100000 in
theorem c_X12_reachedBy (l : Launch) {D : va_G} {cA : Nat → ClassId} {ad : Nat → Nat} {A : Nat → Prop} (hAd : AdOk ad A) {a0 : Nat} {a1 : Int32} {M0 : Mem} {q : Int32} (hf0 : f_X12_reachedBy a0 a1 M0 = some q) : Met l yX12_reachedBy (wd yX12_reachedBy cX12_reachedBy 4 (some .int)) (rmD 1) (PcW D cA ad [.ref (ad a0), .int a1] M0) (QI D cA ad A q M0) 0 0 A := by
  refine mk_met (own := RX12) (by decide +kernel) rfl (Nat.le_of_ble_eq_true rfl) ?_
  intro p e s m args below meth c hC hr hlk hK H locs ls hW hl
  have hx := hC.1
  have hb := hC.2.1
  have hl : lv_has ls 4 [(0, .ref (ad a0)), (1, .int a1)] := hl
  have B4 : ∀ (x0 : Nat) (x1 : Int32) (x2 : Int32) (x3 : Int32)  (ag4 : Int32 × Int32 → Option Int32) (hg4 : ∀ (x2 : Int32) (x3 : Int32) (H : Heap) (locs : List Loc) (ls : Array Slot) (_ : Wd D cA ad A s M0 H locs) (_ : lv_has ls 4 [(0, .ref (ad x0)), (1, .int x1), (2, .int x2), (3, .int x3)]) (_ : ag4 (x2, x3) = some q), W p l e (rmD 1) s m args below meth c H locs 0 0 (MQ below (QI D cA ad A q M0) args s 0 0 A) (F0 m 4 ls [])) (H : Heap) (locs : List Loc) (ls : Array Slot) (hW : Wd D cA ad A s M0 H locs) (hl : lv_has ls 4 [(0, .ref (ad x0)), (1, .int x1), (2, .int x2), (3, .int x3)]) (hf : f_X12_reachedBy_4b  x0 x1 M0 ag4 x2 x3 = some q), W p l e (rmD 1) s m args below meth c H locs 0 0 (MQ below (QI D cA ad A q M0) args s 0 0 A) (F0 m 4 ls []) := by
    intro x0 x1 x2 x3  ag4 hg4 H locs ls hW hl hf
    unfold f_X12_reachedBy_4b at hf
    refine lv_iload_n hx hb dX12_reachedBy_4 rfl (lv_at hl 3 rfl) ?_
    refine lv_aload_n hx hb dX12_reachedBy_5 rfl (lv_at hl 0 rfl) ?_
    obtain ⟨r6, hr6, hf⟩ := ob hf
    refine r_gR hC hK hW cfX12 (by decide) wF_X12_13 rfl hr6 dX12_reachedBy_6 ?_
    refine lv_iconst (v := (2 : Int32)) hx hb dX12_reachedBy_9 (by decide) ?_
    obtain ⟨v7, hv7, hf⟩ := ob hf
    refine r_aI hC hK hW hv7 dX12_reachedBy_10 ?_
    refine lv_icmp_ge (tgt := 45) hx hb dX12_reachedBy_11 (by decide) (fun c11 => ?_) (fun c11 => ?_)
    · have hf := it c11 hf
      refine lv_iload_n hx hb dX12_reachedBy_45 rfl (lv_at hl 2 rfl) ?_
      exact r_iretP hC hr hlk hW hf dX12_reachedBy_46
    · have hf := ie c11 hf
      refine lv_iload_n hx hb dX12_reachedBy_14 rfl (lv_at hl 2 rfl) ?_
      refine lv_aload_n hx hb dX12_reachedBy_15 rfl (lv_at hl 0 rfl) ?_
      refine lv_iload_n hx hb dX12_reachedBy_16 rfl (lv_at hl 1 rfl) ?_
      refine lv_iload_n hx hb dX12_reachedBy_17 rfl (lv_at hl 3 rfl) ?_
      refine lv_aload_n hx hb dX12_reachedBy_18 rfl (lv_at hl 0 rfl) ?_
      obtain ⟨r8, hr8, hf⟩ := ob hf
      refine r_gR hC hK hW cfX12 (by decide) wF_X12_28 rfl hr8 dX12_reachedBy_19 ?_
      refine lv_iconst (v := (0 : Int32)) hx hb dX12_reachedBy_22 (by decide) ?_
      obtain ⟨v9, hv9, hf⟩ := ob hf
      refine r_aI hC hK hW hv9 dX12_reachedBy_23 ?_
      obtain ⟨q10, hq10, hf⟩ := ob hf
      refine k_vI hC hK hW cfX12 (c_X12_reachesBy l hAd (cv_s hq10).2) (cv_s hq10).1 my_X12_reachesBy wI_X12_reachesBy wQ_X12_reachesBy wM_X12_131 ⟨Nat.le_of_ble_eq_true rfl, Nat.le_of_ble_eq_true rfl⟩ rfl hl.1 rfl (Nat.le_of_ble_eq_true rfl) ⟨Nat.zero_le _, Nat.zero_le _⟩ dX12_reachedBy_24 (fun H locs hW => ?_)
      refine lv_if_eq (tgt := 36) hx hb dX12_reachedBy_27 (by decide) (fun c27 => ?_) (fun c27 => ?_)
      · have hf := it c27 hf
        refine lv_iconst (v := (0 : Int32)) hx hb dX12_reachedBy_36 (by decide) ?_
        refine lv_ior hx hb dX12_reachedBy_37 ?_
        refine lv_istore_n (lv' := [(2, .int (x2 ||| (0 : Int32))), (0, .ref (ad x0)), (1, .int x1), (3, .int x3)]) hx hb dX12_reachedBy_38 rfl hl (by decide) rfl (fun ls hl => ?_)
        refine lv_iinc (v := (x3 + (1 : Int32))) (lv' := [(3, .int (x3 + (1 : Int32))), (2, .int (x2 ||| (0 : Int32))), (0, .ref (ad x0)), (1, .int x1)]) hx hb dX12_reachedBy_39 hl (k := 3) rfl rfl (by decide) rfl (fun ls hl => ?_)
        refine lv_goto (tgt := 4) hx hb dX12_reachedBy_42 (by decide) ?_
        exact hg4 (x2 ||| (0 : Int32)) (x3 + (1 : Int32)) _ _ _ hW (lv_sub hl [2, 3, 1, 0] rfl) hf
      · have hf := ie c27 hf
        refine lv_iconst (v := (1 : Int32)) hx hb dX12_reachedBy_30 (by decide) ?_
        refine lv_iload_n hx hb dX12_reachedBy_31 rfl (lv_at hl 3 rfl) ?_
        refine lv_ishl hx hb dX12_reachedBy_32 ?_
        refine lv_goto (tgt := 37) hx hb dX12_reachedBy_33 (by decide) ?_
        refine lv_ior hx hb dX12_reachedBy_37 ?_
        refine lv_istore_n (lv' := [(2, .int (x2 ||| ((1 : Int32) <<< (x3 &&& 31)))), (0, .ref (ad x0)), (1, .int x1), (3, .int x3)]) hx hb dX12_reachedBy_38 rfl hl (by decide) rfl (fun ls hl => ?_)
        refine lv_iinc (v := (x3 + (1 : Int32))) (lv' := [(3, .int (x3 + (1 : Int32))), (2, .int (x2 ||| ((1 : Int32) <<< (x3 &&& 31)))), (0, .ref (ad x0)), (1, .int x1)]) hx hb dX12_reachedBy_39 hl (k := 3) rfl rfl (by decide) rfl (fun ls hl => ?_)
        refine lv_goto (tgt := 4) hx hb dX12_reachedBy_42 (by decide) ?_
        exact hg4 (x2 ||| ((1 : Int32) <<< (x3 &&& 31))) (x3 + (1 : Int32)) _ _ _ hW (lv_sub hl [2, 3, 1, 0] rfl) hf
  have J4 : ∀ (x0 : Nat) (x1 : Int32) (x2 : Int32) (x3 : Int32)  (H : Heap) (locs : List Loc) (ls : Array Slot) (hW : Wd D cA ad A s M0 H locs) (hl : lv_has ls 4 [(0, .ref (ad x0)), (1, .int x1), (2, .int x2), (3, .int x3)]) (hf : f_X12_reachedBy_4  x0 x1 M0 x2 x3 = some q), W p l e (rmD 1) s m args below meth c H locs 0 0 (MQ below (QI D cA ad A q M0) args s 0 0 A) (F0 m 4 ls []) := by
    intro x0 x1 x2 x3  H locs ls hW hl hf
    unfold f_X12_reachedBy_4 at hf
    have key : ∀ (n : Nat) (x2 : Int32) (x3 : Int32) (H : Heap) (locs : List Loc) (ls : Array Slot) (hW : Wd D cA ad A s M0 H locs) (hl : lv_has ls 4 [(0, .ref (ad x0)), (1, .int x1), (2, .int x2), (3, .int x3)]) (hf : loopF (fun ag s => f_X12_reachedBy_4b  x0 x1 M0 ag s.1 s.2) n (x2, x3) = some q), W p l e (rmD 1) s m args below meth c H locs 0 0 (MQ below (QI D cA ad A q M0) args s 0 0 A) (F0 m 4 ls []) := by
      intro n
      induction n with
      | zero => intro x2 x3 H locs ls hW hl hf; exact nomatch (show (none : Option _) = some _ from hf)
      | succ n ih => intro x2 x3 H locs ls hW hl hf; exact B4 x0 x1 x2 x3  _ ih H locs ls hW hl hf
    exact key FU x2 x3 H locs ls hW hl hf
  have hf := hf0
  unfold f_X12_reachedBy at hf
  refine lv_iconst (v := (0 : Int32)) hx hb dX12_reachedBy_0 (by decide) ?_
  refine lv_istore_n (lv' := [(2, .int (0 : Int32)), (0, .ref (ad a0)), (1, .int a1)]) hx hb dX12_reachedBy_1 rfl hl (by decide) rfl (fun ls hl => ?_)
  refine lv_iconst (v := (0 : Int32)) hx hb dX12_reachedBy_2 (by decide) ?_
  refine lv_istore_n (lv' := [(3, .int (0 : Int32)), (2, .int (0 : Int32)), (0, .ref (ad a0)), (1, .int a1)]) hx hb dX12_reachedBy_3 rfl hl (by decide) rfl (fun ls hl => ?_)
  exact J4 a0 a1 (0 : Int32) (0 : Int32) _ _ _ hW (lv_sub hl [2, 3, 1, 0] rfl) hf
set_option maxHeartbeats 4000000 in
set_option maxRecDepth 100000 in
theorem c_X12_guest (l : Launch) {D : va_G} {cA : Nat → ClassId} {ad : Nat → Nat} {A : Nat → Prop} (hAd : AdOk ad A) {a0 : Nat} {a1 : Int32} {a2 : Int32} {M0 : Mem} {q : (Int32 × Mem)} (hf0 : f_X12_guest a0 a1 a2 M0 = some q) : Met l yX12_guest (wd yX12_guest cX12_guest 3 (some .int)) (rmD 2) (PcW D cA ad [.ref (ad a0), .int a1, .int a2] M0) (QI D cA ad A q.1 q.2) 0 0 A := by
  refine mk_met (own := RX12) (by decide +kernel) rfl (Nat.le_of_ble_eq_true rfl) ?_
  intro p e s m args below meth c hC hr hlk hK H locs ls hW hl
  have hx := hC.1
  have hb := hC.2.1
  have hl : lv_has ls 3 [(0, .ref (ad a0)), (1, .int a1), (2, .int a2)] := hl
  have hf := hf0
  unfold f_X12_guest at hf
  refine lv_aload_n hx hb dX12_guest_0 rfl (lv_at hl 0 rfl) ?_
  refine lv_iconst (v := (0 : Int32)) hx hb dX12_guest_1 (by decide) ?_
  obtain ⟨M14, hM14, hf⟩ := ob hf
  refine r_pI hC hK hAd hW cfX12 (by decide) wF_X12_65 rfl rfl rfl hM14 dX12_guest_2 (fun H locs hW => ?_)
  refine lv_aload_n hx hb dX12_guest_5 rfl (lv_at hl 0 rfl) ?_
  refine lv_iload_n hx hb dX12_guest_6 rfl (lv_at hl 1 rfl) ?_
  obtain ⟨q15, hq15, hf⟩ := ob hf
  refine k_vI hC hK hW cfX12 (c_X12_isGuest l hAd (cv_s hq15).2) (cv_s hq15).1 my_X12_isGuest wI_X12_isGuest wQ_X12_isGuest wM_X12_134 ⟨Nat.le_of_ble_eq_true rfl, Nat.le_of_ble_eq_true rfl⟩ rfl hl.1 rfl (Nat.le_of_ble_eq_true rfl) ⟨Nat.zero_le _, Nat.zero_le _⟩ dX12_guest_7 (fun H locs hW => ?_)
  refine lv_if_eq (tgt := 22) hx hb dX12_guest_10 (by decide) (fun c10 => ?_) (fun c10 => ?_)
  · have hf := it c10 hf
    refine lv_iconst (v := (-1 : Int32)) hx hb dX12_guest_22 (by decide) ?_
    exact r_iret hC hr hlk hW hf dX12_guest_23
  · have hf := ie c10 hf
    refine lv_iload_n hx hb dX12_guest_13 rfl (lv_at hl 2 rfl) ?_
    refine lv_iconst (v := (0 : Int32)) hx hb dX12_guest_14 (by decide) ?_
    refine lv_iconst (v := (5 : Int32)) hx hb dX12_guest_15 (by decide) ?_
    obtain ⟨q16, hq16, hf⟩ := ob hf
    refine k_sI hC hK hW (c_X12_in l hAd hq16) my_X12_in wS_X12_in wM_X12_69 ⟨Nat.le_of_ble_eq_true rfl, Nat.le_of_ble_eq_true rfl⟩ rfl hl.1 rfl (Nat.le_of_ble_eq_true rfl) ⟨Nat.zero_le _, Nat.zero_le _⟩ dX12_guest_16 (fun H locs hW => ?_)
    refine lv_if_ne (tgt := 24) hx hb dX12_guest_19 (by decide) (fun c19 => ?_) (fun c19 => ?_)
    · have hf := ie c19 hf
      refine lv_iload_n hx hb dX12_guest_24 rfl (lv_at hl 2 rfl) ?_
      refine lv_iconst (v := (3 : Int32)) hx hb dX12_guest_25 (by decide) ?_
      refine lv_icmp_ge (tgt := 66) hx hb dX12_guest_26 (by decide) (fun c26 => ?_) (fun c26 => ?_)
      · have hf := it c26 hf
        refine lv_iload_n hx hb dX12_guest_66 rfl (lv_at hl 2 rfl) ?_
        refine lv_iconst (v := (3 : Int32)) hx hb dX12_guest_67 (by decide) ?_
        refine lv_icmp_ne (tgt := 83) hx hb dX12_guest_68 (by decide) (fun c68 => ?_) (fun c68 => ?_)
        · have hf := ie c68 hf
          refine lv_iload_n hx hb dX12_guest_83 rfl (lv_at hl 2 rfl) ?_
          refine lv_iconst (v := (4 : Int32)) hx hb dX12_guest_84 (by decide) ?_
          refine lv_icmp_ne (tgt := 96) hx hb dX12_guest_85 (by decide) (fun c85 => ?_) (fun c85 => ?_)
          · have hf := ie c85 hf
            refine lv_aload_n hx hb dX12_guest_96 rfl (lv_at hl 0 rfl) ?_
            refine lv_iload_n hx hb dX12_guest_97 rfl (lv_at hl 1 rfl) ?_
            obtain ⟨q17, hq17, hf⟩ := ob hf
            refine k_vI hC hK hW cfX12 (c_X12_reachedBy l hAd (cv_s hq17).2) (cv_s hq17).1 my_X12_reachedBy wI_X12_reachedBy wQ_X12_reachedBy wM_X12_140 ⟨Nat.le_of_ble_eq_true rfl, Nat.le_of_ble_eq_true rfl⟩ rfl hl.1 rfl (Nat.le_of_ble_eq_true rfl) ⟨Nat.zero_le _, Nat.zero_le _⟩ dX12_guest_98 (fun H locs hW => ?_)
            exact r_iret hC hr hlk hW hf dX12_guest_101
          · have hf := it c85 hf
            refine lv_aload_n hx hb dX12_guest_88 rfl (lv_at hl 0 rfl) ?_
            refine lv_iload_n hx hb dX12_guest_89 rfl (lv_at hl 1 rfl) ?_
            obtain ⟨q18, hq18, hf⟩ := ob hf
            refine k_vI hC hK hW cfX12 (c_X12_needsOf l hAd (cv_s hq18).2) (cv_s hq18).1 my_X12_needsOf wI_X12_needsOf wQ_X12_needsOf wM_X12_137 ⟨Nat.le_of_ble_eq_true rfl, Nat.le_of_ble_eq_true rfl⟩ rfl hl.1 rfl (Nat.le_of_ble_eq_true rfl) ⟨Nat.zero_le _, Nat.zero_le _⟩ dX12_guest_90 (fun H locs hW => ?_)
            refine lv_goto (tgt := 101) hx hb dX12_guest_93 (by decide) ?_
            exact r_iret hC hr hlk hW hf dX12_guest_101
        · have hf := it c68 hf
          refine lv_aload_n hx hb dX12_guest_71 rfl (lv_at hl 0 rfl) ?_
          obtain ⟨r19, hr19, hf⟩ := ob hf
          refine r_gR hC hK hW cfX12 (by decide) wF_X12_28 rfl hr19 dX12_guest_72 ?_
          refine lv_bipush (v := (19 : Int32)) hx hb dX12_guest_75 (by decide) ?_
          refine lv_iload_n hx hb dX12_guest_77 rfl (lv_at hl 1 rfl) ?_
          refine lv_iadd hx hb dX12_guest_78 ?_
          obtain ⟨v20, hv20, hf⟩ := ob hf
          refine r_aI hC hK hW hv20 dX12_guest_79 ?_
          refine lv_goto (tgt := 101) hx hb dX12_guest_80 (by decide) ?_
          exact r_iret hC hr hlk hW hf dX12_guest_101
      · have hf := ie c26 hf
        refine lv_iload_n hx hb dX12_guest_29 rfl (lv_at hl 2 rfl) ?_
        refine lv_if_ne (tgt := 45) hx hb dX12_guest_30 (by decide) (fun c30 => ?_) (fun c30 => ?_)
        · have hf := ie c30 hf
          refine lv_iload_n hx hb dX12_guest_45 rfl (lv_at hl 2 rfl) ?_
          refine lv_iconst (v := (1 : Int32)) hx hb dX12_guest_46 (by decide) ?_
          refine lv_icmp_ne (tgt := 59) hx hb dX12_guest_47 (by decide) (fun c47 => ?_) (fun c47 => ?_)
          · have hf := ie c47 hf
            refine lv_aload_n hx hb dX12_guest_59 rfl (lv_at hl 0 rfl) ?_
            obtain ⟨r21, hr21, hf⟩ := ob hf
            refine r_gR hC hK hW cfX12 (by decide) wF_X12_19 rfl hr21 dX12_guest_60 ?_
            refine lv_iload_n hx hb dX12_guest_63 rfl (lv_at hl 1 rfl) ?_
            obtain ⟨v22, hv22, hf⟩ := ob hf
            refine r_aI hC hK hW hv22 dX12_guest_64 ?_
            exact r_iret hC hr hlk hW hf dX12_guest_65
          · have hf := it c47 hf
            refine lv_aload_n hx hb dX12_guest_50 rfl (lv_at hl 0 rfl) ?_
            obtain ⟨r23, hr23, hf⟩ := ob hf
            refine r_gR hC hK hW cfX12 (by decide) wF_X12_16 rfl hr23 dX12_guest_51 ?_
            refine lv_iload_n hx hb dX12_guest_54 rfl (lv_at hl 1 rfl) ?_
            obtain ⟨v24, hv24, hf⟩ := ob hf
            refine r_aI hC hK hW hv24 dX12_guest_55 ?_
            refine lv_goto (tgt := 65) hx hb dX12_guest_56 (by decide) ?_
            exact r_iret hC hr hlk hW hf dX12_guest_65
        · have hf := it c30 hf
          refine lv_aload_n hx hb dX12_guest_33 rfl (lv_at hl 0 rfl) ?_
          obtain ⟨r25, hr25, hf⟩ := ob hf
          refine r_gR hC hK hW cfX12 (by decide) wF_X12_28 rfl hr25 dX12_guest_34 ?_
          refine lv_bipush (v := (13 : Int32)) hx hb dX12_guest_37 (by decide) ?_
          refine lv_iload_n hx hb dX12_guest_39 rfl (lv_at hl 1 rfl) ?_
          refine lv_iadd hx hb dX12_guest_40 ?_
          obtain ⟨v26, hv26, hf⟩ := ob hf
          refine r_aI hC hK hW hv26 dX12_guest_41 ?_
          refine lv_goto (tgt := 65) hx hb dX12_guest_42 (by decide) ?_
          exact r_iret hC hr hlk hW hf dX12_guest_65
    · have hf := it c19 hf
      refine lv_iconst (v := (-1 : Int32)) hx hb dX12_guest_22 (by decide) ?_
      exact r_iret hC hr hlk hW hf dX12_guest_23
set_option maxHeartbeats 4000000 in
set_option maxRecDepth 100000 in
theorem c_X12_isAll (l : Launch) {D : va_G} {cA : Nat → ClassId} {ad : Nat → Nat} {A : Nat → Prop} (hAd : AdOk ad A) {a0 : Nat} {a1 : Int32} {a2 : Int32} {M0 : Mem} {q : Int32} (hf0 : f_X12_isAll a0 a1 a2 M0 = some q) : Met l yX12_isAll (wd yX12_isAll cX12_isAll 7 (some .boolean)) (rmD 1) (PcW D cA ad [.ref (ad a0), .int a1, .int a2] M0) (QI D cA ad A q M0) 0 0 A := by
  refine mk_met (own := RX12) (by decide +kernel) rfl (Nat.le_of_ble_eq_true rfl) ?_
  intro p e s m args below meth c hC hr hlk hK H locs ls hW hl
  have hx := hC.1
  have hb := hC.2.1
  have hl : lv_has ls 7 [(0, .ref (ad a0)), (1, .int a1), (2, .int a2)] := hl
  have J94 : ∀ (x0 : Nat) (x1 : Int32) (x2 : Int32) (x3 : Int32) (x4 : Int32) (x6 : Int32)  (ag2 : Int32 → Option Int32) (hg2 : ∀ (x3 : Int32) (H : Heap) (locs : List Loc) (ls : Array Slot) (_ : Wd D cA ad A s M0 H locs) (_ : lv_has ls 7 [(0, .ref (ad x0)), (1, .int x1), (2, .int x2), (3, .int x3)]) (_ : ag2 x3 = some q), W p l e (rmD 1) s m args below meth c H locs 0 0 (MQ below (QI D cA ad A q M0) args s 0 0 A) (F0 m 2 ls [])) (ag15 : Int32 → Option Int32) (hg15 : ∀ (x4 : Int32) (H : Heap) (locs : List Loc) (ls : Array Slot) (_ : Wd D cA ad A s M0 H locs) (_ : lv_has ls 7 [(0, .ref (ad x0)), (1, .int x1), (2, .int x2), (3, .int x3), (4, .int x4)]) (_ : ag15 x4 = some q), W p l e (rmD 1) s m args below meth c H locs 0 0 (MQ below (QI D cA ad A q M0) args s 0 0 A) (F0 m 15 ls [])) (ag50 : Int32 × Int32 → Option Int32) (hg50 : ∀ (x5 : Int32) (x6 : Int32) (H : Heap) (locs : List Loc) (ls : Array Slot) (_ : Wd D cA ad A s M0 H locs) (_ : lv_has ls 7 [(0, .ref (ad x0)), (1, .int x1), (2, .int x2), (3, .int x3), (4, .int x4), (5, .int x5), (6, .int x6)]) (_ : ag50 (x5, x6) = some q), W p l e (rmD 1) s m args below meth c H locs 0 0 (MQ below (QI D cA ad A q M0) args s 0 0 A) (F0 m 50 ls [])) (H : Heap) (locs : List Loc) (ls : Array Slot) (hW : Wd D cA ad A s M0 H locs) (hl : lv_has ls 7 [(0, .ref (ad x0)), (1, .int x1), (2, .int x2), (3, .int x3), (4, .int x4), (6, .int x6)]) (hf : f_X12_isAll_94 ag2 ag15 ag50 x0 x1 x2 x3 x4 x6  M0 = some q), W p l e (rmD 1) s m args below meth c H locs 0 0 (MQ below (QI D cA ad A q M0) args s 0 0 A) (F0 m 94 ls []) := by
    intro x0 x1 x2 x3 x4 x6  ag2 hg2 ag15 hg15 ag50 hg50 H locs ls hW hl hf
    unfold f_X12_isAll_94 at hf
    refine lv_iconst (v := (1 : Int32)) hx hb dX12_isAll_94 (by decide) ?_
    refine lv_goto (tgt := 99) hx hb dX12_isAll_95 (by decide) ?_
    refine lv_istore (lv' := [(5, .int (1 : Int32)), (0, .ref (ad x0)), (1, .int x1), (2, .int x2), (3, .int x3), (4, .int x4), (6, .int x6)]) hx hb dX12_isAll_99 hl (by decide) rfl (fun ls hl => ?_)
    refine lv_iinc (v := (x6 + (1 : Int32))) (lv' := [(6, .int (x6 + (1 : Int32))), (5, .int (1 : Int32)), (0, .ref (ad x0)), (1, .int x1), (2, .int x2), (3, .int x3), (4, .int x4)]) hx hb dX12_isAll_101 hl (k := 6) rfl rfl (by decide) rfl (fun ls hl => ?_)
    refine lv_goto (tgt := 50) hx hb dX12_isAll_104 (by decide) ?_
    exact hg50 (1 : Int32) (x6 + (1 : Int32)) _ _ _ hW (lv_sub hl [2, 3, 4, 5, 6, 1, 0] rfl) hf
  have B50 : ∀ (x0 : Nat) (x1 : Int32) (x2 : Int32) (x3 : Int32) (x4 : Int32) (x5 : Int32) (x6 : Int32) (ag2 : Int32 → Option Int32) (hg2 : ∀ (x3 : Int32) (H : Heap) (locs : List Loc) (ls : Array Slot) (_ : Wd D cA ad A s M0 H locs) (_ : lv_has ls 7 [(0, .ref (ad x0)), (1, .int x1), (2, .int x2), (3, .int x3)]) (_ : ag2 x3 = some q), W p l e (rmD 1) s m args below meth c H locs 0 0 (MQ below (QI D cA ad A q M0) args s 0 0 A) (F0 m 2 ls [])) (ag15 : Int32 → Option Int32) (hg15 : ∀ (x4 : Int32) (H : Heap) (locs : List Loc) (ls : Array Slot) (_ : Wd D cA ad A s M0 H locs) (_ : lv_has ls 7 [(0, .ref (ad x0)), (1, .int x1), (2, .int x2), (3, .int x3), (4, .int x4)]) (_ : ag15 x4 = some q), W p l e (rmD 1) s m args below meth c H locs 0 0 (MQ below (QI D cA ad A q M0) args s 0 0 A) (F0 m 15 ls [])) (ag50 : Int32 × Int32 → Option Int32) (hg50 : ∀ (x5 : Int32) (x6 : Int32) (H : Heap) (locs : List Loc) (ls : Array Slot) (_ : Wd D cA ad A s M0 H locs) (_ : lv_has ls 7 [(0, .ref (ad x0)), (1, .int x1), (2, .int x2), (3, .int x3), (4, .int x4), (5, .int x5), (6, .int x6)]) (_ : ag50 (x5, x6) = some q), W p l e (rmD 1) s m args below meth c H locs 0 0 (MQ below (QI D cA ad A q M0) args s 0 0 A) (F0 m 50 ls [])) (H : Heap) (locs : List Loc) (ls : Array Slot) (hW : Wd D cA ad A s M0 H locs) (hl : lv_has ls 7 [(0, .ref (ad x0)), (1, .int x1), (2, .int x2), (3, .int x3), (4, .int x4), (5, .int x5), (6, .int x6)]) (hf : f_X12_isAll_50b ag2 ag15 x0 x1 x2 x3 x4 M0 ag50 x5 x6 = some q), W p l e (rmD 1) s m args below meth c H locs 0 0 (MQ below (QI D cA ad A q M0) args s 0 0 A) (F0 m 50 ls []) := by
    intro x0 x1 x2 x3 x4 x5 x6 ag2 hg2 ag15 hg15 ag50 hg50 H locs ls hW hl hf
    unfold f_X12_isAll_50b at hf
    refine lv_iload hx hb dX12_isAll_50 (lv_at hl 6 rfl) ?_
    refine lv_iload_n hx hb dX12_isAll_52 rfl (lv_at hl 2 rfl) ?_
    refine lv_icmp_gt (tgt := 107) hx hb dX12_isAll_53 (by decide) (fun c53 => ?_) (fun c53 => ?_)
    · have hf := it c53 hf
      refine lv_iload hx hb dX12_isAll_107 (lv_at hl 5 rfl) ?_
      refine lv_if_ne (tgt := 114) hx hb dX12_isAll_109 (by decide) (fun c109 => ?_) (fun c109 => ?_)
      · have hf := ie c109 hf
        refine lv_iinc (v := (x4 + (1 : Int32))) (lv' := [(4, .int (x4 + (1 : Int32))), (0, .ref (ad x0)), (1, .int x1), (2, .int x2), (3, .int x3), (5, .int x5), (6, .int x6)]) hx hb dX12_isAll_114 hl (k := 4) rfl rfl (by decide) rfl (fun ls hl => ?_)
        refine lv_goto (tgt := 15) hx hb dX12_isAll_117 (by decide) ?_
        exact hg15 (x4 + (1 : Int32)) _ _ _ hW (lv_sub hl [1, 2, 3, 4, 0] rfl) hf
      · have hf := it c109 hf
        refine lv_iconst (v := (0 : Int32)) hx hb dX12_isAll_112 (by decide) ?_
        exact r_zretP hC hr hlk hW hf dX12_isAll_113
    · have hf := ie c53 hf
      refine lv_iload hx hb dX12_isAll_56 (lv_at hl 5 rfl) ?_
      refine lv_if_ne (tgt := 94) hx hb dX12_isAll_58 (by decide) (fun c58 => ?_) (fun c58 => ?_)
      · have hf := ie c58 hf
        exact J94 x0 x1 x2 x3 x4 x6 ag2 hg2 ag15 hg15 ag50 hg50 _ _ _ hW (lv_sub hl [0, 1, 2, 3, 4, 6] rfl) hf
      · have hf := it c58 hf
        refine lv_aload_n hx hb dX12_isAll_61 rfl (lv_at hl 0 rfl) ?_
        refine lv_iload_n hx hb dX12_isAll_62 rfl (lv_at hl 3 rfl) ?_
        refine lv_iload hx hb dX12_isAll_63 (lv_at hl 4 rfl) ?_
        refine lv_aload_n hx hb dX12_isAll_65 rfl (lv_at hl 0 rfl) ?_
        obtain ⟨r9, hr9, hf⟩ := ob hf
        refine r_gR hC hK hW cfX12 (by decide) wF_X12_28 rfl hr9 dX12_isAll_66 ?_
        refine lv_iconst (v := (0 : Int32)) hx hb dX12_isAll_69 (by decide) ?_
        obtain ⟨v10, hv10, hf⟩ := ob hf
        refine r_aI hC hK hW hv10 dX12_isAll_70 ?_
        refine lv_iload hx hb dX12_isAll_71 (lv_at hl 6 rfl) ?_
        refine lv_iadd hx hb dX12_isAll_73 ?_
        refine lv_aload_n hx hb dX12_isAll_74 rfl (lv_at hl 0 rfl) ?_
        obtain ⟨r11, hr11, hf⟩ := ob hf
        refine r_gR hC hK hW cfX12 (by decide) wF_X12_13 rfl hr11 dX12_isAll_75 ?_
        refine lv_iconst (v := (0 : Int32)) hx hb dX12_isAll_78 (by decide) ?_
        obtain ⟨v12, hv12, hf⟩ := ob hf
        refine r_aI hC hK hW hv12 dX12_isAll_79 ?_
        refine lv_iadd hx hb dX12_isAll_80 ?_
        refine lv_aload_n hx hb dX12_isAll_81 rfl (lv_at hl 0 rfl) ?_
        obtain ⟨r13, hr13, hf⟩ := ob hf
        refine r_gR hC hK hW cfX12 (by decide) wF_X12_13 rfl hr13 dX12_isAll_82 ?_
        refine lv_iconst (v := (0 : Int32)) hx hb dX12_isAll_85 (by decide) ?_
        obtain ⟨v14, hv14, hf⟩ := ob hf
        refine r_aI hC hK hW hv14 dX12_isAll_86 ?_
        obtain ⟨v15, hv15, hf⟩ := ob hf
        refine r_rem hC hv15 dX12_isAll_87 ?_
        obtain ⟨q16, hq16, hf⟩ := ob hf
        refine k_vI hC hK hW cfX12 (c_X12_reachesBy l hAd (cv_s hq16).2) (cv_s hq16).1 my_X12_reachesBy wI_X12_reachesBy wQ_X12_reachesBy wM_X12_131 ⟨Nat.le_of_ble_eq_true rfl, Nat.le_of_ble_eq_true rfl⟩ rfl hl.1 rfl (Nat.le_of_ble_eq_true rfl) ⟨Nat.zero_le _, Nat.zero_le _⟩ dX12_isAll_88 (fun H locs hW => ?_)
        refine lv_if_eq (tgt := 98) hx hb dX12_isAll_91 (by decide) (fun c91 => ?_) (fun c91 => ?_)
        · have hf := it c91 hf
          refine lv_iconst (v := (0 : Int32)) hx hb dX12_isAll_98 (by decide) ?_
          refine lv_istore (lv' := [(5, .int (0 : Int32)), (0, .ref (ad x0)), (1, .int x1), (2, .int x2), (3, .int x3), (4, .int x4), (6, .int x6)]) hx hb dX12_isAll_99 hl (by decide) rfl (fun ls hl => ?_)
          refine lv_iinc (v := (x6 + (1 : Int32))) (lv' := [(6, .int (x6 + (1 : Int32))), (5, .int (0 : Int32)), (0, .ref (ad x0)), (1, .int x1), (2, .int x2), (3, .int x3), (4, .int x4)]) hx hb dX12_isAll_101 hl (k := 6) rfl rfl (by decide) rfl (fun ls hl => ?_)
          refine lv_goto (tgt := 50) hx hb dX12_isAll_104 (by decide) ?_
          exact hg50 (0 : Int32) (x6 + (1 : Int32)) _ _ _ hW (lv_sub hl [2, 3, 4, 5, 6, 1, 0] rfl) hf
        · have hf := ie c91 hf
          exact J94 x0 x1 x2 x3 x4 x6 ag2 hg2 ag15 hg15 ag50 hg50 _ _ _ hW (lv_sub hl [0, 1, 2, 3, 4, 6] rfl) hf
  have J50 : ∀ (x0 : Nat) (x1 : Int32) (x2 : Int32) (x3 : Int32) (x4 : Int32) (x5 : Int32) (x6 : Int32) (ag2 : Int32 → Option Int32) (hg2 : ∀ (x3 : Int32) (H : Heap) (locs : List Loc) (ls : Array Slot) (_ : Wd D cA ad A s M0 H locs) (_ : lv_has ls 7 [(0, .ref (ad x0)), (1, .int x1), (2, .int x2), (3, .int x3)]) (_ : ag2 x3 = some q), W p l e (rmD 1) s m args below meth c H locs 0 0 (MQ below (QI D cA ad A q M0) args s 0 0 A) (F0 m 2 ls [])) (ag15 : Int32 → Option Int32) (hg15 : ∀ (x4 : Int32) (H : Heap) (locs : List Loc) (ls : Array Slot) (_ : Wd D cA ad A s M0 H locs) (_ : lv_has ls 7 [(0, .ref (ad x0)), (1, .int x1), (2, .int x2), (3, .int x3), (4, .int x4)]) (_ : ag15 x4 = some q), W p l e (rmD 1) s m args below meth c H locs 0 0 (MQ below (QI D cA ad A q M0) args s 0 0 A) (F0 m 15 ls [])) (H : Heap) (locs : List Loc) (ls : Array Slot) (hW : Wd D cA ad A s M0 H locs) (hl : lv_has ls 7 [(0, .ref (ad x0)), (1, .int x1), (2, .int x2), (3, .int x3), (4, .int x4), (5, .int x5), (6, .int x6)]) (hf : f_X12_isAll_50 ag2 ag15 x0 x1 x2 x3 x4 M0 x5 x6 = some q), W p l e (rmD 1) s m args below meth c H locs 0 0 (MQ below (QI D cA ad A q M0) args s 0 0 A) (F0 m 50 ls []) := by
    intro x0 x1 x2 x3 x4 x5 x6 ag2 hg2 ag15 hg15 H locs ls hW hl hf
    unfold f_X12_isAll_50 at hf
    have key : ∀ (n : Nat) (x5 : Int32) (x6 : Int32) (H : Heap) (locs : List Loc) (ls : Array Slot) (hW : Wd D cA ad A s M0 H locs) (hl : lv_has ls 7 [(0, .ref (ad x0)), (1, .int x1), (2, .int x2), (3, .int x3), (4, .int x4), (5, .int x5), (6, .int x6)]) (hf : loopF (fun ag s => f_X12_isAll_50b ag2 ag15 x0 x1 x2 x3 x4 M0 ag s.1 s.2) n (x5, x6) = some q), W p l e (rmD 1) s m args below meth c H locs 0 0 (MQ below (QI D cA ad A q M0) args s 0 0 A) (F0 m 50 ls []) := by
      intro n
      induction n with
      | zero => intro x5 x6 H locs ls hW hl hf; exact nomatch (show (none : Option _) = some _ from hf)
      | succ n ih => intro x5 x6 H locs ls hW hl hf; exact B50 x0 x1 x2 x3 x4 x5 x6 ag2 hg2 ag15 hg15 _ ih H locs ls hW hl hf
    exact key FU x5 x6 H locs ls hW hl hf
  have B15 : ∀ (x0 : Nat) (x1 : Int32) (x2 : Int32) (x3 : Int32) (x4 : Int32) (ag2 : Int32 → Option Int32) (hg2 : ∀ (x3 : Int32) (H : Heap) (locs : List Loc) (ls : Array Slot) (_ : Wd D cA ad A s M0 H locs) (_ : lv_has ls 7 [(0, .ref (ad x0)), (1, .int x1), (2, .int x2), (3, .int x3)]) (_ : ag2 x3 = some q), W p l e (rmD 1) s m args below meth c H locs 0 0 (MQ below (QI D cA ad A q M0) args s 0 0 A) (F0 m 2 ls [])) (ag15 : Int32 → Option Int32) (hg15 : ∀ (x4 : Int32) (H : Heap) (locs : List Loc) (ls : Array Slot) (_ : Wd D cA ad A s M0 H locs) (_ : lv_has ls 7 [(0, .ref (ad x0)), (1, .int x1), (2, .int x2), (3, .int x3), (4, .int x4)]) (_ : ag15 x4 = some q), W p l e (rmD 1) s m args below meth c H locs 0 0 (MQ below (QI D cA ad A q M0) args s 0 0 A) (F0 m 15 ls [])) (H : Heap) (locs : List Loc) (ls : Array Slot) (hW : Wd D cA ad A s M0 H locs) (hl : lv_has ls 7 [(0, .ref (ad x0)), (1, .int x1), (2, .int x2), (3, .int x3), (4, .int x4)]) (hf : f_X12_isAll_15b ag2 x0 x1 x2 x3 M0 ag15 x4 = some q), W p l e (rmD 1) s m args below meth c H locs 0 0 (MQ below (QI D cA ad A q M0) args s 0 0 A) (F0 m 15 ls []) := by
    intro x0 x1 x2 x3 x4 ag2 hg2 ag15 hg15 H locs ls hW hl hf
    unfold f_X12_isAll_15b at hf
    refine lv_iload hx hb dX12_isAll_15 (lv_at hl 4 rfl) ?_
    refine lv_aload_n hx hb dX12_isAll_17 rfl (lv_at hl 0 rfl) ?_
    obtain ⟨r21, hr21, hf⟩ := ob hf
    refine r_gR hC hK hW cfX12 (by decide) wF_X12_13 rfl hr21 dX12_isAll_18 ?_
    refine lv_iconst (v := (2 : Int32)) hx hb dX12_isAll_21 (by decide) ?_
    obtain ⟨v22, hv22, hf⟩ := ob hf
    refine r_aI hC hK hW hv22 dX12_isAll_22 ?_
    refine lv_icmp_ge (tgt := 120) hx hb dX12_isAll_23 (by decide) (fun c23 => ?_) (fun c23 => ?_)
    · have hf := it c23 hf
      refine lv_iinc (v := (x3 + (1 : Int32))) (lv' := [(3, .int (x3 + (1 : Int32))), (0, .ref (ad x0)), (1, .int x1), (2, .int x2), (4, .int x4)]) hx hb dX12_isAll_120 hl (k := 3) rfl rfl (by decide) rfl (fun ls hl => ?_)
      refine lv_goto (tgt := 2) hx hb dX12_isAll_123 (by decide) ?_
      exact hg2 (x3 + (1 : Int32)) _ _ _ hW (lv_sub hl [1, 2, 3, 0] rfl) hf
    · have hf := ie c23 hf
      refine lv_aload_n hx hb dX12_isAll_26 rfl (lv_at hl 0 rfl) ?_
      refine lv_iload_n hx hb dX12_isAll_27 rfl (lv_at hl 3 rfl) ?_
      obtain ⟨q23, hq23, hf⟩ := ob hf
      refine k_vI hC hK hW cfX12 (c_X12_needsOf l hAd (cv_s hq23).2) (cv_s hq23).1 my_X12_needsOf wI_X12_needsOf wQ_X12_needsOf wM_X12_137 ⟨Nat.le_of_ble_eq_true rfl, Nat.le_of_ble_eq_true rfl⟩ rfl hl.1 rfl (Nat.le_of_ble_eq_true rfl) ⟨Nat.zero_le _, Nat.zero_le _⟩ dX12_isAll_28 (fun H locs hW => ?_)
      refine lv_iload hx hb dX12_isAll_31 (lv_at hl 4 rfl) ?_
      obtain ⟨q24, hq24, hf⟩ := ob hf
      refine k_sI hC hK hW (c_X12_isOf l hAd hq24) my_X12_isOf wS_X12_isOf wM_X12_149 ⟨Nat.le_of_ble_eq_true rfl, Nat.le_of_ble_eq_true rfl⟩ rfl hl.1 rfl (Nat.le_of_ble_eq_true rfl) ⟨Nat.zero_le _, Nat.zero_le _⟩ dX12_isAll_33 (fun H locs hW => ?_)
      refine lv_if_ne (tgt := 43) hx hb dX12_isAll_36 (by decide) (fun c36 => ?_) (fun c36 => ?_)
      · have hf := ie c36 hf
        refine lv_iconst (v := (0 : Int32)) hx hb dX12_isAll_43 (by decide) ?_
        refine lv_istore (lv' := [(5, .int (0 : Int32)), (0, .ref (ad x0)), (1, .int x1), (2, .int x2), (3, .int x3), (4, .int x4)]) hx hb dX12_isAll_44 hl (by decide) rfl (fun ls hl => ?_)
        refine lv_iload_n hx hb dX12_isAll_46 rfl (lv_at hl 2 rfl) ?_
        refine lv_ineg hx hb dX12_isAll_47 ?_
        refine lv_istore (lv' := [(6, .int (-x1)), (5, .int (0 : Int32)), (0, .ref (ad x0)), (1, .int x1), (2, .int x2), (3, .int x3), (4, .int x4)]) hx hb dX12_isAll_48 hl (by decide) rfl (fun ls hl => ?_)
        exact J50 x0 x1 x2 x3 x4 (0 : Int32) (-x1) ag2 hg2 ag15 hg15 _ _ _ hW (lv_sub hl [2, 3, 4, 5, 6, 1, 0] rfl) hf
      · have hf := it c36 hf
        refine lv_iconst (v := (1 : Int32)) hx hb dX12_isAll_39 (by decide) ?_
        refine lv_goto (tgt := 44) hx hb dX12_isAll_40 (by decide) ?_
        refine lv_istore (lv' := [(5, .int (1 : Int32)), (0, .ref (ad x0)), (1, .int x1), (2, .int x2), (3, .int x3), (4, .int x4)]) hx hb dX12_isAll_44 hl (by decide) rfl (fun ls hl => ?_)
        refine lv_iload_n hx hb dX12_isAll_46 rfl (lv_at hl 2 rfl) ?_
        refine lv_ineg hx hb dX12_isAll_47 ?_
        refine lv_istore (lv' := [(6, .int (-x1)), (5, .int (1 : Int32)), (0, .ref (ad x0)), (1, .int x1), (2, .int x2), (3, .int x3), (4, .int x4)]) hx hb dX12_isAll_48 hl (by decide) rfl (fun ls hl => ?_)
        exact J50 x0 x1 x2 x3 x4 (1 : Int32) (-x1) ag2 hg2 ag15 hg15 _ _ _ hW (lv_sub hl [2, 3, 4, 5, 6, 1, 0] rfl) hf
  have J15 : ∀ (x0 : Nat) (x1 : Int32) (x2 : Int32) (x3 : Int32) (x4 : Int32) (ag2 : Int32 → Option Int32) (hg2 : ∀ (x3 : Int32) (H : Heap) (locs : List Loc) (ls : Array Slot) (_ : Wd D cA ad A s M0 H locs) (_ : lv_has ls 7 [(0, .ref (ad x0)), (1, .int x1), (2, .int x2), (3, .int x3)]) (_ : ag2 x3 = some q), W p l e (rmD 1) s m args below meth c H locs 0 0 (MQ below (QI D cA ad A q M0) args s 0 0 A) (F0 m 2 ls [])) (H : Heap) (locs : List Loc) (ls : Array Slot) (hW : Wd D cA ad A s M0 H locs) (hl : lv_has ls 7 [(0, .ref (ad x0)), (1, .int x1), (2, .int x2), (3, .int x3), (4, .int x4)]) (hf : f_X12_isAll_15 ag2 x0 x1 x2 x3 M0 x4 = some q), W p l e (rmD 1) s m args below meth c H locs 0 0 (MQ below (QI D cA ad A q M0) args s 0 0 A) (F0 m 15 ls []) := by
    intro x0 x1 x2 x3 x4 ag2 hg2 H locs ls hW hl hf
    unfold f_X12_isAll_15 at hf
    have key : ∀ (n : Nat) (x4 : Int32) (H : Heap) (locs : List Loc) (ls : Array Slot) (hW : Wd D cA ad A s M0 H locs) (hl : lv_has ls 7 [(0, .ref (ad x0)), (1, .int x1), (2, .int x2), (3, .int x3), (4, .int x4)]) (hf : loopF (fun ag s => f_X12_isAll_15b ag2 x0 x1 x2 x3 M0 ag s) n x4 = some q), W p l e (rmD 1) s m args below meth c H locs 0 0 (MQ below (QI D cA ad A q M0) args s 0 0 A) (F0 m 15 ls []) := by
      intro n
      induction n with
      | zero => intro x4 H locs ls hW hl hf; exact nomatch (show (none : Option _) = some _ from hf)
      | succ n ih => intro x4 H locs ls hW hl hf; exact B15 x0 x1 x2 x3 x4 ag2 hg2 _ ih H locs ls hW hl hf
    exact key FU x4 H locs ls hW hl hf
  have B2 : ∀ (x0 : Nat) (x1 : Int32) (x2 : Int32) (x3 : Int32)  (ag2 : Int32 → Option Int32) (hg2 : ∀ (x3 : Int32) (H : Heap) (locs : List Loc) (ls : Array Slot) (_ : Wd D cA ad A s M0 H locs) (_ : lv_has ls 7 [(0, .ref (ad x0)), (1, .int x1), (2, .int x2), (3, .int x3)]) (_ : ag2 x3 = some q), W p l e (rmD 1) s m args below meth c H locs 0 0 (MQ below (QI D cA ad A q M0) args s 0 0 A) (F0 m 2 ls [])) (H : Heap) (locs : List Loc) (ls : Array Slot) (hW : Wd D cA ad A s M0 H locs) (hl : lv_has ls 7 [(0, .ref (ad x0)), (1, .int x1), (2, .int x2), (3, .int x3)]) (hf : f_X12_isAll_2b  x0 x1 x2 M0 ag2 x3 = some q), W p l e (rmD 1) s m args below meth c H locs 0 0 (MQ below (QI D cA ad A q M0) args s 0 0 A) (F0 m 2 ls []) := by
    intro x0 x1 x2 x3  ag2 hg2 H locs ls hW hl hf
    unfold f_X12_isAll_2b at hf
    refine lv_iload_n hx hb dX12_isAll_2 rfl (lv_at hl 3 rfl) ?_
    refine lv_aload_n hx hb dX12_isAll_3 rfl (lv_at hl 0 rfl) ?_
    obtain ⟨r27, hr27, hf⟩ := ob hf
    refine r_gR hC hK hW cfX12 (by decide) wF_X12_13 rfl hr27 dX12_isAll_4 ?_
    refine lv_iconst (v := (1 : Int32)) hx hb dX12_isAll_7 (by decide) ?_
    obtain ⟨v28, hv28, hf⟩ := ob hf
    refine r_aI hC hK hW hv28 dX12_isAll_8 ?_
    refine lv_icmp_ge (tgt := 126) hx hb dX12_isAll_9 (by decide) (fun c9 => ?_) (fun c9 => ?_)
    · have hf := it c9 hf
      refine lv_iconst (v := (1 : Int32)) hx hb dX12_isAll_126 (by decide) ?_
      exact r_zretP hC hr hlk hW hf dX12_isAll_127
    · have hf := ie c9 hf
      refine lv_iconst (v := (0 : Int32)) hx hb dX12_isAll_12 (by decide) ?_
      refine lv_istore (lv' := [(4, .int (0 : Int32)), (0, .ref (ad x0)), (1, .int x1), (2, .int x2), (3, .int x3)]) hx hb dX12_isAll_13 hl (by decide) rfl (fun ls hl => ?_)
      exact J15 x0 x1 x2 x3 (0 : Int32) ag2 hg2 _ _ _ hW (lv_sub hl [1, 2, 3, 4, 0] rfl) hf
  have J2 : ∀ (x0 : Nat) (x1 : Int32) (x2 : Int32) (x3 : Int32)  (H : Heap) (locs : List Loc) (ls : Array Slot) (hW : Wd D cA ad A s M0 H locs) (hl : lv_has ls 7 [(0, .ref (ad x0)), (1, .int x1), (2, .int x2), (3, .int x3)]) (hf : f_X12_isAll_2  x0 x1 x2 M0 x3 = some q), W p l e (rmD 1) s m args below meth c H locs 0 0 (MQ below (QI D cA ad A q M0) args s 0 0 A) (F0 m 2 ls []) := by
    intro x0 x1 x2 x3  H locs ls hW hl hf
    unfold f_X12_isAll_2 at hf
    have key : ∀ (n : Nat) (x3 : Int32) (H : Heap) (locs : List Loc) (ls : Array Slot) (hW : Wd D cA ad A s M0 H locs) (hl : lv_has ls 7 [(0, .ref (ad x0)), (1, .int x1), (2, .int x2), (3, .int x3)]) (hf : loopF (fun ag s => f_X12_isAll_2b  x0 x1 x2 M0 ag s) n x3 = some q), W p l e (rmD 1) s m args below meth c H locs 0 0 (MQ below (QI D cA ad A q M0) args s 0 0 A) (F0 m 2 ls []) := by
      intro n
      induction n with
      | zero => intro x3 H locs ls hW hl hf; exact nomatch (show (none : Option _) = some _ from hf)
      | succ n ih => intro x3 H locs ls hW hl hf; exact B2 x0 x1 x2 x3  _ ih H locs ls hW hl hf
    exact key FU x3 H locs ls hW hl hf
  have hf := hf0
  unfold f_X12_isAll at hf
  refine lv_iconst (v := (0 : Int32)) hx hb dX12_isAll_0 (by decide) ?_
  refine lv_istore_n (lv' := [(3, .int (0 : Int32)), (0, .ref (ad a0)), (1, .int a1), (2, .int a2)]) hx hb dX12_isAll_1 rfl hl (by decide) rfl (fun ls hl => ?_)
  exact J2 a0 a1 a2 (0 : Int32) _ _ _ hW (lv_sub hl [1, 2, 3, 0] rfl) hf
set_option maxHeartbeats 4000000 in
set_option maxRecDepth 100000 in
theorem c_X12_isEmpty (l : Launch) {D : va_G} {cA : Nat → ClassId} {ad : Nat → Nat} {A : Nat → Prop} (hAd : AdOk ad A) {a0 : Nat} {a1 : Int32} {M0 : Mem} {q : Int32} (hf0 : f_X12_isEmpty a0 a1 M0 = some q) : Met l yX12_isEmpty (wd yX12_isEmpty cX12_isEmpty 4 (some .boolean)) (rmD 0) (PcW D cA ad [.ref (ad a0), .int a1] M0) (QI D cA ad A q M0) 0 0 A := by
  refine mk_met (own := RX12) (by decide +kernel) rfl (Nat.le_of_ble_eq_true rfl) ?_
  intro p e s m args below meth c hC hr hlk hK H locs ls hW hl
  have hx := hC.1
  have hb := hC.2.1
  have hl : lv_has ls 4 [(0, .ref (ad a0)), (1, .int a1)] := hl
  have J35 : ∀ (x0 : Nat) (x1 : Int32) (x3 : Int32)  (ag4 : Int32 × Int32 → Option Int32) (hg4 : ∀ (x2 : Int32) (x3 : Int32) (H : Heap) (locs : List Loc) (ls : Array Slot) (_ : Wd D cA ad A s M0 H locs) (_ : lv_has ls 4 [(0, .ref (ad x0)), (1, .int x1), (2, .int x2), (3, .int x3)]) (_ : ag4 (x2, x3) = some q), W p l e (rmD 0) s m args below meth c H locs 0 0 (MQ below (QI D cA ad A q M0) args s 0 0 A) (F0 m 4 ls [])) (H : Heap) (locs : List Loc) (ls : Array Slot) (hW : Wd D cA ad A s M0 H locs) (hl : lv_has ls 4 [(0, .ref (ad x0)), (1, .int x1), (3, .int x3)]) (hf : f_X12_isEmpty_35 ag4 x0 x1 x3  M0 = some q), W p l e (rmD 0) s m args below meth c H locs 0 0 (MQ below (QI D cA ad A q M0) args s 0 0 A) (F0 m 35 ls []) := by
    intro x0 x1 x3  ag4 hg4 H locs ls hW hl hf
    unfold f_X12_isEmpty_35 at hf
    refine lv_iconst (v := (0 : Int32)) hx hb dX12_isEmpty_35 (by decide) ?_
    refine lv_istore_n (lv' := [(2, .int (0 : Int32)), (0, .ref (ad x0)), (1, .int x1), (3, .int x3)]) hx hb dX12_isEmpty_36 rfl hl (by decide) rfl (fun ls hl => ?_)
    refine lv_iinc (v := (x3 + (1 : Int32))) (lv' := [(3, .int (x3 + (1 : Int32))), (2, .int (0 : Int32)), (0, .ref (ad x0)), (1, .int x1)]) hx hb dX12_isEmpty_37 hl (k := 3) rfl rfl (by decide) rfl (fun ls hl => ?_)
    refine lv_goto (tgt := 4) hx hb dX12_isEmpty_40 (by decide) ?_
    exact hg4 (0 : Int32) (x3 + (1 : Int32)) _ _ _ hW (lv_sub hl [2, 3, 1, 0] rfl) hf
  have B4 : ∀ (x0 : Nat) (x1 : Int32) (x2 : Int32) (x3 : Int32)  (ag4 : Int32 × Int32 → Option Int32) (hg4 : ∀ (x2 : Int32) (x3 : Int32) (H : Heap) (locs : List Loc) (ls : Array Slot) (_ : Wd D cA ad A s M0 H locs) (_ : lv_has ls 4 [(0, .ref (ad x0)), (1, .int x1), (2, .int x2), (3, .int x3)]) (_ : ag4 (x2, x3) = some q), W p l e (rmD 0) s m args below meth c H locs 0 0 (MQ below (QI D cA ad A q M0) args s 0 0 A) (F0 m 4 ls [])) (H : Heap) (locs : List Loc) (ls : Array Slot) (hW : Wd D cA ad A s M0 H locs) (hl : lv_has ls 4 [(0, .ref (ad x0)), (1, .int x1), (2, .int x2), (3, .int x3)]) (hf : f_X12_isEmpty_4b  x0 x1 M0 ag4 x2 x3 = some q), W p l e (rmD 0) s m args below meth c H locs 0 0 (MQ below (QI D cA ad A q M0) args s 0 0 A) (F0 m 4 ls []) := by
    intro x0 x1 x2 x3  ag4 hg4 H locs ls hW hl hf
    unfold f_X12_isEmpty_4b at hf
    refine lv_iload_n hx hb dX12_isEmpty_4 rfl (lv_at hl 3 rfl) ?_
    refine lv_aload_n hx hb dX12_isEmpty_5 rfl (lv_at hl 0 rfl) ?_
    obtain ⟨r5, hr5, hf⟩ := ob hf
    refine r_gR hC hK hW cfX12 (by decide) wF_X12_13 rfl hr5 dX12_isEmpty_6 ?_
    refine lv_iconst (v := (2 : Int32)) hx hb dX12_isEmpty_9 (by decide) ?_
    obtain ⟨v6, hv6, hf⟩ := ob hf
    refine r_aI hC hK hW hv6 dX12_isEmpty_10 ?_
    refine lv_icmp_ge (tgt := 43) hx hb dX12_isEmpty_11 (by decide) (fun c11 => ?_) (fun c11 => ?_)
    · have hf := it c11 hf
      refine lv_iload_n hx hb dX12_isEmpty_43 rfl (lv_at hl 2 rfl) ?_
      exact r_zretP hC hr hlk hW hf dX12_isEmpty_44
    · have hf := ie c11 hf
      refine lv_iload_n hx hb dX12_isEmpty_14 rfl (lv_at hl 2 rfl) ?_
      refine lv_if_eq (tgt := 35) hx hb dX12_isEmpty_15 (by decide) (fun c15 => ?_) (fun c15 => ?_)
      · have hf := it c15 hf
        exact J35 x0 x1 x3 ag4 hg4 _ _ _ hW (lv_sub hl [0, 1, 3] rfl) hf
      · have hf := ie c15 hf
        refine lv_aload_n hx hb dX12_isEmpty_18 rfl (lv_at hl 0 rfl) ?_
        obtain ⟨r7, hr7, hf⟩ := ob hf
        refine r_gR hC hK hW cfX12 (by decide) wF_X12_28 rfl hr7 dX12_isEmpty_19 ?_
        refine lv_bipush (v := (7 : Int32)) hx hb dX12_isEmpty_22 (by decide) ?_
        refine lv_iload_n hx hb dX12_isEmpty_24 rfl (lv_at hl 3 rfl) ?_
        refine lv_iadd hx hb dX12_isEmpty_25 ?_
        obtain ⟨v8, hv8, hf⟩ := ob hf
        refine r_aI hC hK hW hv8 dX12_isEmpty_26 ?_
        refine lv_iload_n hx hb dX12_isEmpty_27 rfl (lv_at hl 1 rfl) ?_
        refine lv_icmp_eq (tgt := 35) hx hb dX12_isEmpty_28 (by decide) (fun c28 => ?_) (fun c28 => ?_)
        · have hf := it c28 hf
          exact J35 x0 x1 x3 ag4 hg4 _ _ _ hW (lv_sub hl [0, 1, 3] rfl) hf
        · have hf := ie c28 hf
          refine lv_iconst (v := (1 : Int32)) hx hb dX12_isEmpty_31 (by decide) ?_
          refine lv_goto (tgt := 36) hx hb dX12_isEmpty_32 (by decide) ?_
          refine lv_istore_n (lv' := [(2, .int (1 : Int32)), (0, .ref (ad x0)), (1, .int x1), (3, .int x3)]) hx hb dX12_isEmpty_36 rfl hl (by decide) rfl (fun ls hl => ?_)
          refine lv_iinc (v := (x3 + (1 : Int32))) (lv' := [(3, .int (x3 + (1 : Int32))), (2, .int (1 : Int32)), (0, .ref (ad x0)), (1, .int x1)]) hx hb dX12_isEmpty_37 hl (k := 3) rfl rfl (by decide) rfl (fun ls hl => ?_)
          refine lv_goto (tgt := 4) hx hb dX12_isEmpty_40 (by decide) ?_
          exact hg4 (1 : Int32) (x3 + (1 : Int32)) _ _ _ hW (lv_sub hl [2, 3, 1, 0] rfl) hf
  have J4 : ∀ (x0 : Nat) (x1 : Int32) (x2 : Int32) (x3 : Int32)  (H : Heap) (locs : List Loc) (ls : Array Slot) (hW : Wd D cA ad A s M0 H locs) (hl : lv_has ls 4 [(0, .ref (ad x0)), (1, .int x1), (2, .int x2), (3, .int x3)]) (hf : f_X12_isEmpty_4  x0 x1 M0 x2 x3 = some q), W p l e (rmD 0) s m args below meth c H locs 0 0 (MQ below (QI D cA ad A q M0) args s 0 0 A) (F0 m 4 ls []) := by
    intro x0 x1 x2 x3  H locs ls hW hl hf
    unfold f_X12_isEmpty_4 at hf
    have key : ∀ (n : Nat) (x2 : Int32) (x3 : Int32) (H : Heap) (locs : List Loc) (ls : Array Slot) (hW : Wd D cA ad A s M0 H locs) (hl : lv_has ls 4 [(0, .ref (ad x0)), (1, .int x1), (2, .int x2), (3, .int x3)]) (hf : loopF (fun ag s => f_X12_isEmpty_4b  x0 x1 M0 ag s.1 s.2) n (x2, x3) = some q), W p l e (rmD 0) s m args below meth c H locs 0 0 (MQ below (QI D cA ad A q M0) args s 0 0 A) (F0 m 4 ls []) := by
      intro n
      induction n with
      | zero => intro x2 x3 H locs ls hW hl hf; exact nomatch (show (none : Option _) = some _ from hf)
      | succ n ih => intro x2 x3 H locs ls hW hl hf; exact B4 x0 x1 x2 x3  _ ih H locs ls hW hl hf
    exact key FU x2 x3 H locs ls hW hl hf
  have hf := hf0
  unfold f_X12_isEmpty at hf
  refine lv_iconst (v := (1 : Int32)) hx hb dX12_isEmpty_0 (by decide) ?_
  refine lv_istore_n (lv' := [(2, .int (1 : Int32)), (0, .ref (ad a0)), (1, .int a1)]) hx hb dX12_isEmpty_1 rfl hl (by decide) rfl (fun ls hl => ?_)
  refine lv_iconst (v := (0 : Int32)) hx hb dX12_isEmpty_2 (by decide) ?_
  refine lv_istore_n (lv' := [(3, .int (0 : Int32)), (2, .int (1 : Int32)), (0, .ref (ad a0)), (1, .int a1)]) hx hb dX12_isEmpty_3 rfl hl (by decide) rfl (fun ls hl => ?_)
  exact J4 a0 a1 (1 : Int32) (0 : Int32) _ _ _ hW (lv_sub hl [2, 3, 1, 0] rfl) hf
set_option maxHeartbeats 4000000 in
set_option maxRecDepth 100000 in
theorem c_X12_isEnough (l : Launch) {D : va_G} {cA : Nat → ClassId} {ad : Nat → Nat} {A : Nat → Prop} (hAd : AdOk ad A) {a0 : Nat} {M0 : Mem} {q : Int32} (hf0 : f_X12_isEnough a0 M0 = some q) : Met l yX12_isEnough (wd yX12_isEnough cX12_isEnough 4 (some .boolean)) (rmD 1) (PcW D cA ad [.ref (ad a0)] M0) (QI D cA ad A q M0) 0 0 A := by
  refine mk_met (own := RX12) (by decide +kernel) rfl (Nat.le_of_ble_eq_true rfl) ?_
  intro p e s m args below meth c hC hr hlk hK H locs ls hW hl
  have hx := hC.1
  have hb := hC.2.1
  have hl : lv_has ls 4 [(0, .ref (ad a0))] := hl
  have B16 : ∀ (x0 : Nat) (x1 : Int32) (x2 : Int32) (x3 : Int32) (ag2 : Int32 → Option Int32) (hg2 : ∀ (x1 : Int32) (H : Heap) (locs : List Loc) (ls : Array Slot) (_ : Wd D cA ad A s M0 H locs) (_ : lv_has ls 4 [(0, .ref (ad x0)), (1, .int x1)]) (_ : ag2 x1 = some q), W p l e (rmD 1) s m args below meth c H locs 0 0 (MQ below (QI D cA ad A q M0) args s 0 0 A) (F0 m 2 ls [])) (ag16 : Int32 × Int32 → Option Int32) (hg16 : ∀ (x2 : Int32) (x3 : Int32) (H : Heap) (locs : List Loc) (ls : Array Slot) (_ : Wd D cA ad A s M0 H locs) (_ : lv_has ls 4 [(0, .ref (ad x0)), (1, .int x1), (2, .int x2), (3, .int x3)]) (_ : ag16 (x2, x3) = some q), W p l e (rmD 1) s m args below meth c H locs 0 0 (MQ below (QI D cA ad A q M0) args s 0 0 A) (F0 m 16 ls [])) (H : Heap) (locs : List Loc) (ls : Array Slot) (hW : Wd D cA ad A s M0 H locs) (hl : lv_has ls 4 [(0, .ref (ad x0)), (1, .int x1), (2, .int x2), (3, .int x3)]) (hf : f_X12_isEnough_16b ag2 x0 x1 M0 ag16 x2 x3 = some q), W p l e (rmD 1) s m args below meth c H locs 0 0 (MQ below (QI D cA ad A q M0) args s 0 0 A) (F0 m 16 ls []) := by
    intro x0 x1 x2 x3 ag2 hg2 ag16 hg16 H locs ls hW hl hf
    unfold f_X12_isEnough_16b at hf
    refine lv_iload_n hx hb dX12_isEnough_16 rfl (lv_at hl 3 rfl) ?_
    refine lv_aload_n hx hb dX12_isEnough_17 rfl (lv_at hl 0 rfl) ?_
    obtain ⟨r7, hr7, hf⟩ := ob hf
    refine r_gR hC hK hW cfX12 (by decide) wF_X12_13 rfl hr7 dX12_isEnough_18 ?_
    refine lv_iconst (v := (1 : Int32)) hx hb dX12_isEnough_21 (by decide) ?_
    obtain ⟨v8, hv8, hf⟩ := ob hf
    refine r_aI hC hK hW hv8 dX12_isEnough_22 ?_
    refine lv_icmp_ge (tgt := 52) hx hb dX12_isEnough_23 (by decide) (fun c23 => ?_) (fun c23 => ?_)
    · have hf := it c23 hf
      refine lv_iload_n hx hb dX12_isEnough_52 rfl (lv_at hl 2 rfl) ?_
      refine lv_aload_n hx hb dX12_isEnough_53 rfl (lv_at hl 0 rfl) ?_
      obtain ⟨r9, hr9, hf⟩ := ob hf
      refine r_gR hC hK hW cfX12 (by decide) wF_X12_28 rfl hr9 dX12_isEnough_54 ?_
      refine lv_iconst (v := (1 : Int32)) hx hb dX12_isEnough_57 (by decide) ?_
      refine lv_iload_n hx hb dX12_isEnough_58 rfl (lv_at hl 1 rfl) ?_
      refine lv_iadd hx hb dX12_isEnough_59 ?_
      obtain ⟨v10, hv10, hf⟩ := ob hf
      refine r_aI hC hK hW hv10 dX12_isEnough_60 ?_
      refine lv_icmp_le (tgt := 66) hx hb dX12_isEnough_61 (by decide) (fun c61 => ?_) (fun c61 => ?_)
      · have hf := it c61 hf
        refine lv_iinc (v := (x1 + (1 : Int32))) (lv' := [(1, .int (x1 + (1 : Int32))), (0, .ref (ad x0)), (2, .int x2), (3, .int x3)]) hx hb dX12_isEnough_66 hl (k := 1) rfl rfl (by decide) rfl (fun ls hl => ?_)
        refine lv_goto (tgt := 2) hx hb dX12_isEnough_69 (by decide) ?_
        exact hg2 (x1 + (1 : Int32)) _ _ _ hW (lv_sub hl [1, 0] rfl) hf
      · have hf := ie c61 hf
        refine lv_iconst (v := (0 : Int32)) hx hb dX12_isEnough_64 (by decide) ?_
        exact r_zretP hC hr hlk hW hf dX12_isEnough_65
    · have hf := ie c23 hf
      refine lv_iload_n hx hb dX12_isEnough_26 rfl (lv_at hl 2 rfl) ?_
      refine lv_aload_n hx hb dX12_isEnough_27 rfl (lv_at hl 0 rfl) ?_
      refine lv_iload_n hx hb dX12_isEnough_28 rfl (lv_at hl 3 rfl) ?_
      obtain ⟨q11, hq11, hf⟩ := ob hf
      refine k_vI hC hK hW cfX12 (c_X12_needsOf l hAd (cv_s hq11).2) (cv_s hq11).1 my_X12_needsOf wI_X12_needsOf wQ_X12_needsOf wM_X12_137 ⟨Nat.le_of_ble_eq_true rfl, Nat.le_of_ble_eq_true rfl⟩ rfl hl.1 rfl (Nat.le_of_ble_eq_true rfl) ⟨Nat.zero_le _, Nat.zero_le _⟩ dX12_isEnough_29 (fun H locs hW => ?_)
      refine lv_iload_n hx hb dX12_isEnough_32 rfl (lv_at hl 1 rfl) ?_
      obtain ⟨q12, hq12, hf⟩ := ob hf
      refine k_sI hC hK hW (c_X12_isOf l hAd hq12) my_X12_isOf wS_X12_isOf wM_X12_149 ⟨Nat.le_of_ble_eq_true rfl, Nat.le_of_ble_eq_true rfl⟩ rfl hl.1 rfl (Nat.le_of_ble_eq_true rfl) ⟨Nat.zero_le _, Nat.zero_le _⟩ dX12_isEnough_33 (fun H locs hW => ?_)
      refine lv_if_eq (tgt := 43) hx hb dX12_isEnough_36 (by decide) (fun c36 => ?_) (fun c36 => ?_)
      · have hf := it c36 hf
        refine lv_iconst (v := (0 : Int32)) hx hb dX12_isEnough_43 (by decide) ?_
        refine lv_iadd hx hb dX12_isEnough_44 ?_
        refine lv_istore_n (lv' := [(2, .int (x2 + (0 : Int32))), (0, .ref (ad x0)), (1, .int x1), (3, .int x3)]) hx hb dX12_isEnough_45 rfl hl (by decide) rfl (fun ls hl => ?_)
        refine lv_iinc (v := (x3 + (1 : Int32))) (lv' := [(3, .int (x3 + (1 : Int32))), (2, .int (x2 + (0 : Int32))), (0, .ref (ad x0)), (1, .int x1)]) hx hb dX12_isEnough_46 hl (k := 3) rfl rfl (by decide) rfl (fun ls hl => ?_)
        refine lv_goto (tgt := 16) hx hb dX12_isEnough_49 (by decide) ?_
        exact hg16 (x2 + (0 : Int32)) (x3 + (1 : Int32)) _ _ _ hW (lv_sub hl [2, 3, 1, 0] rfl) hf
      · have hf := ie c36 hf
        refine lv_iconst (v := (1 : Int32)) hx hb dX12_isEnough_39 (by decide) ?_
        refine lv_goto (tgt := 44) hx hb dX12_isEnough_40 (by decide) ?_
        refine lv_iadd hx hb dX12_isEnough_44 ?_
        refine lv_istore_n (lv' := [(2, .int (x2 + (1 : Int32))), (0, .ref (ad x0)), (1, .int x1), (3, .int x3)]) hx hb dX12_isEnough_45 rfl hl (by decide) rfl (fun ls hl => ?_)
        refine lv_iinc (v := (x3 + (1 : Int32))) (lv' := [(3, .int (x3 + (1 : Int32))), (2, .int (x2 + (1 : Int32))), (0, .ref (ad x0)), (1, .int x1)]) hx hb dX12_isEnough_46 hl (k := 3) rfl rfl (by decide) rfl (fun ls hl => ?_)
        refine lv_goto (tgt := 16) hx hb dX12_isEnough_49 (by decide) ?_
        exact hg16 (x2 + (1 : Int32)) (x3 + (1 : Int32)) _ _ _ hW (lv_sub hl [2, 3, 1, 0] rfl) hf
  have J16 : ∀ (x0 : Nat) (x1 : Int32) (x2 : Int32) (x3 : Int32) (ag2 : Int32 → Option Int32) (hg2 : ∀ (x1 : Int32) (H : Heap) (locs : List Loc) (ls : Array Slot) (_ : Wd D cA ad A s M0 H locs) (_ : lv_has ls 4 [(0, .ref (ad x0)), (1, .int x1)]) (_ : ag2 x1 = some q), W p l e (rmD 1) s m args below meth c H locs 0 0 (MQ below (QI D cA ad A q M0) args s 0 0 A) (F0 m 2 ls [])) (H : Heap) (locs : List Loc) (ls : Array Slot) (hW : Wd D cA ad A s M0 H locs) (hl : lv_has ls 4 [(0, .ref (ad x0)), (1, .int x1), (2, .int x2), (3, .int x3)]) (hf : f_X12_isEnough_16 ag2 x0 x1 M0 x2 x3 = some q), W p l e (rmD 1) s m args below meth c H locs 0 0 (MQ below (QI D cA ad A q M0) args s 0 0 A) (F0 m 16 ls []) := by
    intro x0 x1 x2 x3 ag2 hg2 H locs ls hW hl hf
    unfold f_X12_isEnough_16 at hf
    have key : ∀ (n : Nat) (x2 : Int32) (x3 : Int32) (H : Heap) (locs : List Loc) (ls : Array Slot) (hW : Wd D cA ad A s M0 H locs) (hl : lv_has ls 4 [(0, .ref (ad x0)), (1, .int x1), (2, .int x2), (3, .int x3)]) (hf : loopF (fun ag s => f_X12_isEnough_16b ag2 x0 x1 M0 ag s.1 s.2) n (x2, x3) = some q), W p l e (rmD 1) s m args below meth c H locs 0 0 (MQ below (QI D cA ad A q M0) args s 0 0 A) (F0 m 16 ls []) := by
      intro n
      induction n with
      | zero => intro x2 x3 H locs ls hW hl hf; exact nomatch (show (none : Option _) = some _ from hf)
      | succ n ih => intro x2 x3 H locs ls hW hl hf; exact B16 x0 x1 x2 x3 ag2 hg2 _ ih H locs ls hW hl hf
    exact key FU x2 x3 H locs ls hW hl hf
  have B2 : ∀ (x0 : Nat) (x1 : Int32)  (ag2 : Int32 → Option Int32) (hg2 : ∀ (x1 : Int32) (H : Heap) (locs : List Loc) (ls : Array Slot) (_ : Wd D cA ad A s M0 H locs) (_ : lv_has ls 4 [(0, .ref (ad x0)), (1, .int x1)]) (_ : ag2 x1 = some q), W p l e (rmD 1) s m args below meth c H locs 0 0 (MQ below (QI D cA ad A q M0) args s 0 0 A) (F0 m 2 ls [])) (H : Heap) (locs : List Loc) (ls : Array Slot) (hW : Wd D cA ad A s M0 H locs) (hl : lv_has ls 4 [(0, .ref (ad x0)), (1, .int x1)]) (hf : f_X12_isEnough_2b  x0 M0 ag2 x1 = some q), W p l e (rmD 1) s m args below meth c H locs 0 0 (MQ below (QI D cA ad A q M0) args s 0 0 A) (F0 m 2 ls []) := by
    intro x0 x1  ag2 hg2 H locs ls hW hl hf
    unfold f_X12_isEnough_2b at hf
    refine lv_iload_n hx hb dX12_isEnough_2 rfl (lv_at hl 1 rfl) ?_
    refine lv_aload_n hx hb dX12_isEnough_3 rfl (lv_at hl 0 rfl) ?_
    obtain ⟨r15, hr15, hf⟩ := ob hf
    refine r_gR hC hK hW cfX12 (by decide) wF_X12_13 rfl hr15 dX12_isEnough_4 ?_
    refine lv_iconst (v := (2 : Int32)) hx hb dX12_isEnough_7 (by decide) ?_
    obtain ⟨v16, hv16, hf⟩ := ob hf
    refine r_aI hC hK hW hv16 dX12_isEnough_8 ?_
    refine lv_icmp_ge (tgt := 72) hx hb dX12_isEnough_9 (by decide) (fun c9 => ?_) (fun c9 => ?_)
    · have hf := it c9 hf
      refine lv_iconst (v := (1 : Int32)) hx hb dX12_isEnough_72 (by decide) ?_
      exact r_zretP hC hr hlk hW hf dX12_isEnough_73
    · have hf := ie c9 hf
      refine lv_iconst (v := (0 : Int32)) hx hb dX12_isEnough_12 (by decide) ?_
      refine lv_istore_n (lv' := [(2, .int (0 : Int32)), (0, .ref (ad x0)), (1, .int x1)]) hx hb dX12_isEnough_13 rfl hl (by decide) rfl (fun ls hl => ?_)
      refine lv_iconst (v := (0 : Int32)) hx hb dX12_isEnough_14 (by decide) ?_
      refine lv_istore_n (lv' := [(3, .int (0 : Int32)), (2, .int (0 : Int32)), (0, .ref (ad x0)), (1, .int x1)]) hx hb dX12_isEnough_15 rfl hl (by decide) rfl (fun ls hl => ?_)
      exact J16 x0 x1 (0 : Int32) (0 : Int32) ag2 hg2 _ _ _ hW (lv_sub hl [2, 3, 1, 0] rfl) hf
  have J2 : ∀ (x0 : Nat) (x1 : Int32)  (H : Heap) (locs : List Loc) (ls : Array Slot) (hW : Wd D cA ad A s M0 H locs) (hl : lv_has ls 4 [(0, .ref (ad x0)), (1, .int x1)]) (hf : f_X12_isEnough_2  x0 M0 x1 = some q), W p l e (rmD 1) s m args below meth c H locs 0 0 (MQ below (QI D cA ad A q M0) args s 0 0 A) (F0 m 2 ls []) := by
    intro x0 x1  H locs ls hW hl hf
    unfold f_X12_isEnough_2 at hf
    have key : ∀ (n : Nat) (x1 : Int32) (H : Heap) (locs : List Loc) (ls : Array Slot) (hW : Wd D cA ad A s M0 H locs) (hl : lv_has ls 4 [(0, .ref (ad x0)), (1, .int x1)]) (hf : loopF (fun ag s => f_X12_isEnough_2b  x0 M0 ag s) n x1 = some q), W p l e (rmD 1) s m args below meth c H locs 0 0 (MQ below (QI D cA ad A q M0) args s 0 0 A) (F0 m 2 ls []) := by
      intro n
      induction n with
      | zero => intro x1 H locs ls hW hl hf; exact nomatch (show (none : Option _) = some _ from hf)
      | succ n ih => intro x1 H locs ls hW hl hf; exact B2 x0 x1  _ ih H locs ls hW hl hf
    exact key FU x1 H locs ls hW hl hf
  have hf := hf0
  unfold f_X12_isEnough at hf
  refine lv_iconst (v := (0 : Int32)) hx hb dX12_isEnough_0 (by decide) ?_
  refine lv_istore_n (lv' := [(1, .int (0 : Int32)), (0, .ref (ad a0))]) hx hb dX12_isEnough_1 rfl hl (by decide) rfl (fun ls hl => ?_)
  exact J2 a0 (0 : Int32) _ _ _ hW (lv_sub hl [1, 0] rfl) hf
set_option maxHeartbeats 4000000 in
set_option maxRecDepth 100000 in
theorem c_X12_isSeat (l : Launch) {D : va_G} {cA : Nat → ClassId} {ad : Nat → Nat} {A : Nat → Prop} (hAd : AdOk ad A) {a0 : Nat} {a1 : Int32} {M0 : Mem} {q : Int32} (hf0 : f_X12_isSeat a0 a1 M0 = some q) : Met l yX12_isSeat (wd yX12_isSeat cX12_isSeat 2 (some .boolean)) (rmD 1) (PcW D cA ad [.ref (ad a0), .int a1] M0) (QI D cA ad A q M0) 0 0 A := by
  refine mk_met (own := RX12) (by decide +kernel) rfl (Nat.le_of_ble_eq_true rfl) ?_
  intro p e s m args below meth c hC hr hlk hK H locs ls hW hl
  have hx := hC.1
  have hb := hC.2.1
  have hl : lv_has ls 2 [(0, .ref (ad a0)), (1, .int a1)] := hl
  have hf := hf0
  unfold f_X12_isSeat at hf
  refine lv_iload_n hx hb dX12_isSeat_0 rfl (lv_at hl 1 rfl) ?_
  refine lv_iconst (v := (0 : Int32)) hx hb dX12_isSeat_1 (by decide) ?_
  refine lv_aload_n hx hb dX12_isSeat_2 rfl (lv_at hl 0 rfl) ?_
  obtain ⟨r4, hr4, hf⟩ := ob hf
  refine r_gR hC hK hW cfX12 (by decide) wF_X12_13 rfl hr4 dX12_isSeat_3 ?_
  refine lv_iconst (v := (0 : Int32)) hx hb dX12_isSeat_6 (by decide) ?_
  obtain ⟨v5, hv5, hf⟩ := ob hf
  refine r_aI hC hK hW hv5 dX12_isSeat_7 ?_
  refine lv_iconst (v := (1 : Int32)) hx hb dX12_isSeat_8 (by decide) ?_
  refine lv_isub hx hb dX12_isSeat_9 ?_
  obtain ⟨q6, hq6, hf⟩ := ob hf
  refine k_sI hC hK hW (c_X12_in l hAd hq6) my_X12_in wS_X12_in wM_X12_69 ⟨Nat.le_of_ble_eq_true rfl, Nat.le_of_ble_eq_true rfl⟩ rfl hl.1 rfl (Nat.le_of_ble_eq_true rfl) ⟨Nat.zero_le _, Nat.zero_le _⟩ dX12_isSeat_10 (fun H locs hW => ?_)
  exact r_zretP hC hr hlk hW hf dX12_isSeat_13
set_option maxHeartbeats 4000000 in
set_option maxRecDepth 100000 in
theorem c_X12_keep (l : Launch) {D : va_G} {cA : Nat → ClassId} {ad : Nat → Nat} {A : Nat → Prop} (hAd : AdOk ad A) {a0 : Nat} {a1 : Int32} {M0 : Mem} {q : (Int32 × Mem)} (hf0 : f_X12_keep a0 a1 M0 = some q) : Met l yX12_keep (wd yX12_keep cX12_keep 3 (some .int)) (rmD 1) (PcW D cA ad [.ref (ad a0), .int a1] M0) (QI D cA ad A q.1 q.2) 0 0 A := by
  refine mk_met (own := RX12) (by decide +kernel) rfl (Nat.le_of_ble_eq_true rfl) ?_
  intro p e s m args below meth c hC hr hlk hK H locs ls hW hl
  have hx := hC.1
  have hb := hC.2.1
  have hl : lv_has ls 3 [(0, .ref (ad a0)), (1, .int a1)] := hl
  have B18 : ∀ (x0 : Nat) (x1 : Int32) (x2 : Int32) (M : Mem)  (ag18 : Int32 × Mem → Option (Int32 × Mem)) (hg18 : ∀ (x2 : Int32) (M : Mem) (H : Heap) (locs : List Loc) (ls : Array Slot) (_ : Wd D cA ad A s M H locs) (_ : lv_has ls 3 [(0, .ref (ad x0)), (1, .int x1), (2, .int x2)]) (_ : ag18 (x2, M) = some q), W p l e (rmD 1) s m args below meth c H locs 0 0 (MQ below (QI D cA ad A q.1 q.2) args s 0 0 A) (F0 m 18 ls [])) (H : Heap) (locs : List Loc) (ls : Array Slot) (hW : Wd D cA ad A s M H locs) (hl : lv_has ls 3 [(0, .ref (ad x0)), (1, .int x1), (2, .int x2)]) (hf : f_X12_keep_18b  x0 x1 ag18 x2 M = some q), W p l e (rmD 1) s m args below meth c H locs 0 0 (MQ below (QI D cA ad A q.1 q.2) args s 0 0 A) (F0 m 18 ls []) := by
    intro x0 x1 x2 M  ag18 hg18 H locs ls hW hl hf
    unfold f_X12_keep_18b at hf
    refine lv_iload_n hx hb dX12_keep_18 rfl (lv_at hl 2 rfl) ?_
    refine lv_bipush (v := (25 : Int32)) hx hb dX12_keep_19 (by decide) ?_
    refine lv_icmp_ge (tgt := 47) hx hb dX12_keep_21 (by decide) (fun c21 => ?_) (fun c21 => ?_)
    · have hf := it c21 hf
      refine lv_aload_n hx hb dX12_keep_47 rfl (lv_at hl 0 rfl) ?_
      obtain ⟨r9, hr9, hf⟩ := ob hf
      refine r_gR hC hK hW cfX12 (by decide) wF_X12_34 rfl hr9 dX12_keep_48 ?_
      refine lv_iload_n hx hb dX12_keep_51 rfl (lv_at hl 1 rfl) ?_
      refine lv_iconst (v := (1 : Int32)) hx hb dX12_keep_52 (by decide) ?_
      obtain ⟨M10, hM10, hf⟩ := ob hf
      refine r_sZ hC hK hAd hW hM10 dX12_keep_53 (fun H locs hW => ?_)
      refine lv_aload_n hx hb dX12_keep_54 rfl (lv_at hl 0 rfl) ?_
      obtain ⟨r11, hr11, hf⟩ := ob hf
      refine r_gR hC hK hW cfX12 (by decide) wF_X12_28 rfl hr11 dX12_keep_55 ?_
      refine lv_iconst (v := (0 : Int32)) hx hb dX12_keep_58 (by decide) ?_
      obtain ⟨v12, hv12, hf⟩ := ob hf
      refine r_aI hC hK hW hv12 dX12_keep_59 ?_
      exact r_iret hC hr hlk hW hf dX12_keep_60
    · have hf := ie c21 hf
      refine lv_aload_n hx hb dX12_keep_24 rfl (lv_at hl 0 rfl) ?_
      obtain ⟨r13, hr13, hf⟩ := ob hf
      refine r_gR hC hK hW cfX12 (by decide) wF_X12_31 rfl hr13 dX12_keep_25 ?_
      refine lv_bipush (v := (25 : Int32)) hx hb dX12_keep_28 (by decide) ?_
      refine lv_iload_n hx hb dX12_keep_30 rfl (lv_at hl 1 rfl) ?_
      refine lv_imul hx hb dX12_keep_31 ?_
      refine lv_iload_n hx hb dX12_keep_32 rfl (lv_at hl 2 rfl) ?_
      refine lv_iadd hx hb dX12_keep_33 ?_
      refine lv_aload_n hx hb dX12_keep_34 rfl (lv_at hl 0 rfl) ?_
      obtain ⟨r14, hr14, hf⟩ := ob hf
      refine r_gR hC hK hW cfX12 (by decide) wF_X12_28 rfl hr14 dX12_keep_35 ?_
      refine lv_iload_n hx hb dX12_keep_38 rfl (lv_at hl 2 rfl) ?_
      obtain ⟨v15, hv15, hf⟩ := ob hf
      refine r_aI hC hK hW hv15 dX12_keep_39 ?_
      obtain ⟨M16, hM16, hf⟩ := ob hf
      refine r_sI hC hK hAd hW hM16 dX12_keep_40 (fun H locs hW => ?_)
      refine lv_iinc (v := (x2 + (1 : Int32))) (lv' := [(2, .int (x2 + (1 : Int32))), (0, .ref (ad x0)), (1, .int x1)]) hx hb dX12_keep_41 hl (k := 2) rfl rfl (by decide) rfl (fun ls hl => ?_)
      refine lv_goto (tgt := 18) hx hb dX12_keep_44 (by decide) ?_
      exact hg18 (x2 + (1 : Int32)) M16 _ _ _ hW (lv_sub hl [1, 2, 0] rfl) hf
  have J18 : ∀ (x0 : Nat) (x1 : Int32) (x2 : Int32) (M : Mem)  (H : Heap) (locs : List Loc) (ls : Array Slot) (hW : Wd D cA ad A s M H locs) (hl : lv_has ls 3 [(0, .ref (ad x0)), (1, .int x1), (2, .int x2)]) (hf : f_X12_keep_18  x0 x1 x2 M = some q), W p l e (rmD 1) s m args below meth c H locs 0 0 (MQ below (QI D cA ad A q.1 q.2) args s 0 0 A) (F0 m 18 ls []) := by
    intro x0 x1 x2 M  H locs ls hW hl hf
    unfold f_X12_keep_18 at hf
    have key : ∀ (n : Nat) (x2 : Int32) (M : Mem) (H : Heap) (locs : List Loc) (ls : Array Slot) (hW : Wd D cA ad A s M H locs) (hl : lv_has ls 3 [(0, .ref (ad x0)), (1, .int x1), (2, .int x2)]) (hf : loopF (fun ag s => f_X12_keep_18b  x0 x1 ag s.1 s.2) n (x2, M) = some q), W p l e (rmD 1) s m args below meth c H locs 0 0 (MQ below (QI D cA ad A q.1 q.2) args s 0 0 A) (F0 m 18 ls []) := by
      intro n
      induction n with
      | zero => intro x2 M H locs ls hW hl hf; exact nomatch (show (none : Option _) = some _ from hf)
      | succ n ih => intro x2 M H locs ls hW hl hf; exact B18 x0 x1 x2 M  _ ih H locs ls hW hl hf
    exact key FU x2 M H locs ls hW hl hf
  have hf := hf0
  unfold f_X12_keep at hf
  refine lv_aload_n hx hb dX12_keep_0 rfl (lv_at hl 0 rfl) ?_
  refine lv_iconst (v := (0 : Int32)) hx hb dX12_keep_1 (by decide) ?_
  obtain ⟨M19, hM19, hf⟩ := ob hf
  refine r_pI hC hK hAd hW cfX12 (by decide) wF_X12_65 rfl rfl rfl hM19 dX12_keep_2 (fun H locs hW => ?_)
  refine lv_iload_n hx hb dX12_keep_5 rfl (lv_at hl 1 rfl) ?_
  refine lv_iconst (v := (0 : Int32)) hx hb dX12_keep_6 (by decide) ?_
  refine lv_iconst (v := (1 : Int32)) hx hb dX12_keep_7 (by decide) ?_
  obtain ⟨q20, hq20, hf⟩ := ob hf
  refine k_sI hC hK hW (c_X12_in l hAd hq20) my_X12_in wS_X12_in wM_X12_69 ⟨Nat.le_of_ble_eq_true rfl, Nat.le_of_ble_eq_true rfl⟩ rfl hl.1 rfl (Nat.le_of_ble_eq_true rfl) ⟨Nat.zero_le _, Nat.zero_le _⟩ dX12_keep_8 (fun H locs hW => ?_)
  refine lv_if_ne (tgt := 16) hx hb dX12_keep_11 (by decide) (fun c11 => ?_) (fun c11 => ?_)
  · have hf := ie c11 hf
    refine lv_iconst (v := (0 : Int32)) hx hb dX12_keep_16 (by decide) ?_
    refine lv_istore_n (lv' := [(2, .int (0 : Int32)), (0, .ref (ad a0)), (1, .int a1)]) hx hb dX12_keep_17 rfl hl (by decide) rfl (fun ls hl => ?_)
    exact J18 a0 a1 (0 : Int32) M19 _ _ _ hW (lv_sub hl [1, 2, 0] rfl) hf
  · have hf := it c11 hf
    refine lv_iconst (v := (-1 : Int32)) hx hb dX12_keep_14 (by decide) ?_
    exact r_iret hC hr hlk hW hf dX12_keep_15
set_option maxHeartbeats 4000000 in
set_option maxRecDepth 100000 in
theorem c_X12_lettersRow (l : Launch) {D : va_G} {cA : Nat → ClassId} {ad : Nat → Nat} {A : Nat → Prop} (hAd : AdOk ad A) {a0 : Nat} {M0 : Mem} {q : (Int32 × Mem)} (hf0 : f_X12_lettersRow a0 M0 = some q) : Met l yX12_lettersRow (wd yX12_lettersRow cX12_lettersRow 6 (some .int)) (rmD 3) (PcW D cA ad [.ref (ad a0)] M0) (QI D cA ad A q.1 q.2) 0 0 A := by
  refine mk_met (own := RX12) (by decide +kernel) rfl (Nat.le_of_ble_eq_true rfl) ?_
  intro p e s m args below meth c hC hr hlk hK H locs ls hW hl
  have hx := hC.1
  have hb := hC.2.1
  have hl : lv_has ls 6 [(0, .ref (ad a0))] := hl
  have J103 : ∀ (x0 : Nat) (x2 : Int32) (x3 : Int32)  (M : Mem)  (H : Heap) (locs : List Loc) (ls : Array Slot) (hW : Wd D cA ad A s M H locs) (hl : lv_has ls 6 [(0, .ref (ad x0)), (2, .int x2), (3, .int x3)]) (hf : f_X12_lettersRow_103  x0 x2 x3  M = some q), W p l e (rmD 3) s m args below meth c H locs 0 0 (MQ below (QI D cA ad A q.1 q.2) args s 0 0 A) (F0 m 103 ls []) := by
    intro x0 x2 x3  M  H locs ls hW hl hf
    unfold f_X12_lettersRow_103 at hf
    refine lv_aload_n hx hb dX12_lettersRow_103 rfl (lv_at hl 0 rfl) ?_
    refine lv_iload_n hx hb dX12_lettersRow_104 rfl (lv_at hl 1 rfl) ?_
    obtain ⟨q2, hq2, hf⟩ := ob hf
    refine k_vI hC hK hW cfX12 (c_X12_takesToken l hAd (cv_s hq2).2) (cv_s hq2).1 my_X12_takesToken wI_X12_takesToken wQ_X12_takesToken wM_X12_102 ⟨Nat.le_of_ble_eq_true rfl, Nat.le_of_ble_eq_true rfl⟩ rfl hl.1 rfl (Nat.le_of_ble_eq_true rfl) ⟨Nat.zero_le _, Nat.zero_le _⟩ dX12_lettersRow_105 (fun H locs hW => ?_)
    refine lv_pop hx hb dX12_lettersRow_108 rfl ?_
    refine lv_iload_n hx hb dX12_lettersRow_109 rfl (lv_at hl 2 rfl) ?_
    exact r_iret hC hr hlk hW hf dX12_lettersRow_110
  have B46 : ∀ (x0 : Nat) (x1 : Int32) (M : Mem) (x2 : Int32) (x3 : Int32) (x4 : Int32)  (ag46 : Int32 × Int32 × Int32 → Option (Int32 × Mem)) (hg46 : ∀ (x2 : Int32) (x3 : Int32) (x4 : Int32) (H : Heap) (locs : List Loc) (ls : Array Slot) (_ : Wd D cA ad A s M H locs) (_ : lv_has ls 6 [(0, .ref (ad x0)), (1, .int x1), (2, .int x2), (3, .int x3), (4, .int x4)]) (_ : ag46 (x2, x3, x4) = some q), W p l e (rmD 3) s m args below meth c H locs 0 0 (MQ below (QI D cA ad A q.1 q.2) args s 0 0 A) (F0 m 46 ls [])) (H : Heap) (locs : List Loc) (ls : Array Slot) (hW : Wd D cA ad A s M H locs) (hl : lv_has ls 6 [(0, .ref (ad x0)), (1, .int x1), (2, .int x2), (3, .int x3), (4, .int x4)]) (hf : f_X12_lettersRow_46b  x0 x1 M ag46 x2 x3 x4 = some q), W p l e (rmD 3) s m args below meth c H locs 0 0 (MQ below (QI D cA ad A q.1 q.2) args s 0 0 A) (F0 m 46 ls []) := by
    intro x0 x1 M x2 x3 x4  ag46 hg46 H locs ls hW hl hf
    unfold f_X12_lettersRow_46b at hf
    refine lv_iload hx hb dX12_lettersRow_46 (lv_at hl 4 rfl) ?_
    refine lv_iload_n hx hb dX12_lettersRow_48 rfl (lv_at hl 1 rfl) ?_
    refine lv_icmp_ge (tgt := 103) hx hb dX12_lettersRow_49 (by decide) (fun c49 => ?_) (fun c49 => ?_)
    · have hf := it c49 hf
      exact J103 x0 x2 x3 M _ _ _ hW (lv_sub hl [0, 2, 3] rfl) hf
    · have hf := ie c49 hf
      refine lv_iload_n hx hb dX12_lettersRow_52 rfl (lv_at hl 2 rfl) ?_
      refine lv_if_eq (tgt := 103) hx hb dX12_lettersRow_53 (by decide) (fun c53 => ?_) (fun c53 => ?_)
      · have hf := it c53 hf
        exact J103 x0 x2 x3 M _ _ _ hW (lv_sub hl [0, 2, 3] rfl) hf
      · have hf := ie c53 hf
        refine lv_aload_n hx hb dX12_lettersRow_56 rfl (lv_at hl 0 rfl) ?_
        refine lv_aload_n hx hb dX12_lettersRow_57 rfl (lv_at hl 0 rfl) ?_
        obtain ⟨v6, hv6, hf⟩ := ob hf
        refine r_gI hC hK hW cfX12 (by decide) wF_X12_83 rfl hv6 dX12_lettersRow_58 ?_
        refine lv_iload hx hb dX12_lettersRow_61 (lv_at hl 4 rfl) ?_
        refine lv_iadd hx hb dX12_lettersRow_63 ?_
        obtain ⟨q7, hq7, hf⟩ := ob hf
        refine k_vI hC hK hW cfX12 (c_X12_letterAt l hAd (cv_s hq7).2) (cv_s hq7).1 my_X12_letterAt wI_X12_letterAt wQ_X12_letterAt wM_X12_79 ⟨Nat.le_of_ble_eq_true rfl, Nat.le_of_ble_eq_true rfl⟩ rfl hl.1 rfl (Nat.le_of_ble_eq_true rfl) ⟨Nat.zero_le _, Nat.zero_le _⟩ dX12_lettersRow_64 (fun H locs hW => ?_)
        refine lv_istore (lv' := [(5, .int q7), (0, .ref (ad x0)), (1, .int x1), (2, .int x2), (3, .int x3), (4, .int x4)]) hx hb dX12_lettersRow_67 hl (by decide) rfl (fun ls hl => ?_)
        refine lv_iload hx hb dX12_lettersRow_69 (lv_at hl 0 rfl) ?_
        refine lv_bipush (v := (97 : Int32)) hx hb dX12_lettersRow_71 (by decide) ?_
        refine lv_bipush (v := (102 : Int32)) hx hb dX12_lettersRow_73 (by decide) ?_
        obtain ⟨q8, hq8, hf⟩ := ob hf
        refine k_sI hC hK hW (c_X12_in l hAd hq8) my_X12_in wS_X12_in wM_X12_69 ⟨Nat.le_of_ble_eq_true rfl, Nat.le_of_ble_eq_true rfl⟩ rfl hl.1 rfl (Nat.le_of_ble_eq_true rfl) ⟨Nat.zero_le _, Nat.zero_le _⟩ dX12_lettersRow_75 (fun H locs hW => ?_)
        refine lv_istore_n (lv' := [(2, .int q8), (5, .int q7), (0, .ref (ad x0)), (1, .int x1), (3, .int x3), (4, .int x4)]) hx hb dX12_lettersRow_78 rfl hl (by decide) rfl (fun ls hl => ?_)
        refine lv_iload_n hx hb dX12_lettersRow_79 rfl (lv_at hl 4 rfl) ?_
        refine lv_iload_n hx hb dX12_lettersRow_80 rfl (lv_at hl 0 rfl) ?_
        refine lv_if_eq (tgt := 94) hx hb dX12_lettersRow_81 (by decide) (fun c81 => ?_) (fun c81 => ?_)
        · have hf := it c81 hf
          refine lv_iconst (v := (0 : Int32)) hx hb dX12_lettersRow_94 (by decide) ?_
          refine lv_ior hx hb dX12_lettersRow_95 ?_
          refine lv_istore_n (lv' := [(3, .int (x3 ||| (0 : Int32))), (2, .int q8), (5, .int q7), (0, .ref (ad x0)), (1, .int x1), (4, .int x4)]) hx hb dX12_lettersRow_96 rfl hl (by decide) rfl (fun ls hl => ?_)
          refine lv_iinc (v := (x4 + (1 : Int32))) (lv' := [(4, .int (x4 + (1 : Int32))), (3, .int (x3 ||| (0 : Int32))), (2, .int q8), (5, .int q7), (0, .ref (ad x0)), (1, .int x1)]) hx hb dX12_lettersRow_97 hl (k := 5) rfl rfl (by decide) rfl (fun ls hl => ?_)
          refine lv_goto (tgt := 46) hx hb dX12_lettersRow_100 (by decide) ?_
          exact hg46 q8 (x3 ||| (0 : Int32)) (x4 + (1 : Int32)) _ _ _ hW (lv_sub hl [4, 5, 2, 1, 0] rfl) hf
        · have hf := ie c81 hf
          refine lv_iconst (v := (1 : Int32)) hx hb dX12_lettersRow_84 (by decide) ?_
          refine lv_iload hx hb dX12_lettersRow_85 (lv_at hl 1 rfl) ?_
          refine lv_bipush (v := (97 : Int32)) hx hb dX12_lettersRow_87 (by decide) ?_
          refine lv_isub hx hb dX12_lettersRow_89 ?_
          refine lv_ishl hx hb dX12_lettersRow_90 ?_
          refine lv_goto (tgt := 95) hx hb dX12_lettersRow_91 (by decide) ?_
          refine lv_ior hx hb dX12_lettersRow_95 ?_
          refine lv_istore_n (lv' := [(3, .int (x3 ||| ((1 : Int32) <<< ((q7 - (97 : Int32)) &&& 31)))), (2, .int q8), (5, .int q7), (0, .ref (ad x0)), (1, .int x1), (4, .int x4)]) hx hb dX12_lettersRow_96 rfl hl (by decide) rfl (fun ls hl => ?_)
          refine lv_iinc (v := (x4 + (1 : Int32))) (lv' := [(4, .int (x4 + (1 : Int32))), (3, .int (x3 ||| ((1 : Int32) <<< ((q7 - (97 : Int32)) &&& 31)))), (2, .int q8), (5, .int q7), (0, .ref (ad x0)), (1, .int x1)]) hx hb dX12_lettersRow_97 hl (k := 5) rfl rfl (by decide) rfl (fun ls hl => ?_)
          refine lv_goto (tgt := 46) hx hb dX12_lettersRow_100 (by decide) ?_
          exact hg46 q8 (x3 ||| ((1 : Int32) <<< ((q7 - (97 : Int32)) &&& 31))) (x4 + (1 : Int32)) _ _ _ hW (lv_sub hl [4, 5, 2, 1, 0] rfl) hf
  have J46 : ∀ (x0 : Nat) (x1 : Int32) (M : Mem) (x2 : Int32) (x3 : Int32) (x4 : Int32)  (H : Heap) (locs : List Loc) (ls : Array Slot) (hW : Wd D cA ad A s M H locs) (hl : lv_has ls 6 [(0, .ref (ad x0)), (1, .int x1), (2, .int x2), (3, .int x3), (4, .int x4)]) (hf : f_X12_lettersRow_46  x0 x1 M x2 x3 x4 = some q), W p l e (rmD 3) s m args below meth c H locs 0 0 (MQ below (QI D cA ad A q.1 q.2) args s 0 0 A) (F0 m 46 ls []) := by
    intro x0 x1 M x2 x3 x4  H locs ls hW hl hf
    unfold f_X12_lettersRow_46 at hf
    have key : ∀ (n : Nat) (x2 : Int32) (x3 : Int32) (x4 : Int32) (H : Heap) (locs : List Loc) (ls : Array Slot) (hW : Wd D cA ad A s M H locs) (hl : lv_has ls 6 [(0, .ref (ad x0)), (1, .int x1), (2, .int x2), (3, .int x3), (4, .int x4)]) (hf : loopF (fun ag s => f_X12_lettersRow_46b  x0 x1 M ag s.1 s.2.1 s.2.2) n (x2, x3, x4) = some q), W p l e (rmD 3) s m args below meth c H locs 0 0 (MQ below (QI D cA ad A q.1 q.2) args s 0 0 A) (F0 m 46 ls []) := by
      intro n
      induction n with
      | zero => intro x2 x3 x4 H locs ls hW hl hf; exact nomatch (show (none : Option _) = some _ from hf)
      | succ n ih => intro x2 x3 x4 H locs ls hW hl hf; exact B46 x0 x1 M x2 x3 x4  _ ih H locs ls hW hl hf
    exact key FU x2 x3 x4 H locs ls hW hl hf
  have J39 : ∀ (x0 : Nat) (x1 : Int32)  (M : Mem)  (H : Heap) (locs : List Loc) (ls : Array Slot) (hW : Wd D cA ad A s M H locs) (hl : lv_has ls 6 [(0, .ref (ad x0)), (1, .int x1)]) (hf : f_X12_lettersRow_39  x0 x1  M = some q), W p l e (rmD 3) s m args below meth c H locs 0 0 (MQ below (QI D cA ad A q.1 q.2) args s 0 0 A) (F0 m 39 ls []) := by
    intro x0 x1  M  H locs ls hW hl hf
    unfold f_X12_lettersRow_39 at hf
    refine lv_iconst (v := (0 : Int32)) hx hb dX12_lettersRow_39 (by decide) ?_
    refine lv_istore_n (lv' := [(2, .int (0 : Int32)), (0, .ref (ad x0)), (1, .int x1)]) hx hb dX12_lettersRow_40 rfl hl (by decide) rfl (fun ls hl => ?_)
    refine lv_iconst (v := (0 : Int32)) hx hb dX12_lettersRow_41 (by decide) ?_
    refine lv_istore_n (lv' := [(3, .int (0 : Int32)), (2, .int (0 : Int32)), (0, .ref (ad x0)), (1, .int x1)]) hx hb dX12_lettersRow_42 rfl hl (by decide) rfl (fun ls hl => ?_)
    refine lv_iconst (v := (0 : Int32)) hx hb dX12_lettersRow_43 (by decide) ?_
    refine lv_istore (lv' := [(4, .int (0 : Int32)), (3, .int (0 : Int32)), (2, .int (0 : Int32)), (0, .ref (ad x0)), (1, .int x1)]) hx hb dX12_lettersRow_44 hl (by decide) rfl (fun ls hl => ?_)
    exact J46 x0 x1 M (0 : Int32) (0 : Int32) (0 : Int32) _ _ _ hW (lv_sub hl [3, 4, 2, 1, 0] rfl) hf
  have hf := hf0
  unfold f_X12_lettersRow at hf
  refine lv_aload_n hx hb dX12_lettersRow_0 rfl (lv_at hl 0 rfl) ?_
  obtain ⟨v14, hv14, hf⟩ := ob hf
  refine r_gI hC hK hW cfX12 (by decide) wF_X12_76 rfl hv14 dX12_lettersRow_1 ?_
  refine lv_aload_n hx hb dX12_lettersRow_4 rfl (lv_at hl 0 rfl) ?_
  obtain ⟨v15, hv15, hf⟩ := ob hf
  refine r_gI hC hK hW cfX12 (by decide) wF_X12_83 rfl hv15 dX12_lettersRow_5 ?_
  refine lv_isub hx hb dX12_lettersRow_8 ?_
  refine lv_istore_n (lv' := [(1, .int (v14 - v15)), (0, .ref (ad a0))]) hx hb dX12_lettersRow_9 rfl hl (by decide) rfl (fun ls hl => ?_)
  refine lv_aload_n hx hb dX12_lettersRow_10 rfl (lv_at hl 1 rfl) ?_
  obtain ⟨q16, hq16, hf⟩ := ob hf
  refine k_vI hC hK hW cfX12 (c_X12_isWell l hAd (cv_s hq16).2) (cv_s hq16).1 my_X12_isWell wI_X12_isWell wQ_X12_isWell wM_X12_95 ⟨Nat.le_of_ble_eq_true rfl, Nat.le_of_ble_eq_true rfl⟩ rfl hl.1 rfl (Nat.le_of_ble_eq_true rfl) ⟨Nat.zero_le _, Nat.zero_le _⟩ dX12_lettersRow_11 (fun H locs hW => ?_)
  refine lv_if_eq (tgt := 39) hx hb dX12_lettersRow_14 (by decide) (fun c14 => ?_) (fun c14 => ?_)
  · have hf := it c14 hf
    exact J39 a0 (v14 - v15) M0 _ _ _ hW (lv_sub hl [1, 0] rfl) hf
  · have hf := ie c14 hf
    refine lv_aload_n hx hb dX12_lettersRow_17 rfl (lv_at hl 1 rfl) ?_
    obtain ⟨v17, hv17, hf⟩ := ob hf
    refine r_gI hC hK hW cfX12 (by decide) wF_X12_89 rfl hv17 dX12_lettersRow_18 ?_
    refine lv_iconst (v := (1 : Int32)) hx hb dX12_lettersRow_21 (by decide) ?_
    refine lv_icmp_ne (tgt := 39) hx hb dX12_lettersRow_22 (by decide) (fun c22 => ?_) (fun c22 => ?_)
    · have hf := ie c22 hf
      exact J39 a0 (v14 - v15) M0 _ _ _ hW (lv_sub hl [1, 0] rfl) hf
    · have hf := it c22 hf
      refine lv_iload_n hx hb dX12_lettersRow_25 rfl (lv_at hl 0 rfl) ?_
      refine lv_iconst (v := (1 : Int32)) hx hb dX12_lettersRow_26 (by decide) ?_
      refine lv_bipush (v := (6 : Int32)) hx hb dX12_lettersRow_27 (by decide) ?_
      obtain ⟨q18, hq18, hf⟩ := ob hf
      refine k_sI hC hK hW (c_X12_in l hAd hq18) my_X12_in wS_X12_in wM_X12_69 ⟨Nat.le_of_ble_eq_true rfl, Nat.le_of_ble_eq_true rfl⟩ rfl hl.1 rfl (Nat.le_of_ble_eq_true rfl) ⟨Nat.zero_le _, Nat.zero_le _⟩ dX12_lettersRow_29 (fun H locs hW => ?_)
      refine lv_if_eq (tgt := 39) hx hb dX12_lettersRow_32 (by decide) (fun c32 => ?_) (fun c32 => ?_)
      · have hf := it c32 hf
        exact J39 a0 (v14 - v15) M0 _ _ _ hW (lv_sub hl [1, 0] rfl) hf
      · have hf := ie c32 hf
        refine lv_iconst (v := (1 : Int32)) hx hb dX12_lettersRow_35 (by decide) ?_
        refine lv_goto (tgt := 40) hx hb dX12_lettersRow_36 (by decide) ?_
        refine lv_istore_n (lv' := [(2, .int (1 : Int32)), (1, .int (v14 - v15)), (0, .ref (ad a0))]) hx hb dX12_lettersRow_40 rfl hl (by decide) rfl (fun ls hl => ?_)
        refine lv_iconst (v := (0 : Int32)) hx hb dX12_lettersRow_41 (by decide) ?_
        refine lv_istore_n (lv' := [(3, .int (0 : Int32)), (2, .int (1 : Int32)), (1, .int (v14 - v15)), (0, .ref (ad a0))]) hx hb dX12_lettersRow_42 rfl hl (by decide) rfl (fun ls hl => ?_)
        refine lv_iconst (v := (0 : Int32)) hx hb dX12_lettersRow_43 (by decide) ?_
        refine lv_istore (lv' := [(4, .int (0 : Int32)), (3, .int (0 : Int32)), (2, .int (1 : Int32)), (1, .int (v14 - v15)), (0, .ref (ad a0))]) hx hb dX12_lettersRow_44 hl (by decide) rfl (fun ls hl => ?_)
        exact J46 a0 (v14 - v15) M0 (1 : Int32) (0 : Int32) (0 : Int32) _ _ _ hW (lv_sub hl [4, 3, 2, 1, 0] rfl) hf
set_option maxHeartbeats 4000000 in
set_option maxRecDepth 100000 in
theorem c_X12_whoCan (l : Launch) {D : va_G} {cA : Nat → ClassId} {ad : Nat → Nat} {A : Nat → Prop} (hAd : AdOk ad A) {a0 : Nat} {M0 : Mem} {q : Int32} (hf0 : f_X12_whoCan a0 M0 = some q) : Met l yX12_whoCan (wd yX12_whoCan cX12_whoCan 4 (some .int)) (rmD 2) (PcW D cA ad [.ref (ad a0)] M0) (QI D cA ad A q M0) 0 0 A := by
  refine mk_met (own := RX12) (by decide +kernel) rfl (Nat.le_of_ble_eq_true rfl) ?_
  intro p e s m args below meth c hC hr hlk hK H locs ls hW hl
  have hx := hC.1
  have hb := hC.2.1
  have hl : lv_has ls 4 [(0, .ref (ad a0))] := hl
  have B13 : ∀ (x0 : Nat) (x1 : Int32) (x2 : Int32)  (ag13 : Int32 × Int32 → Option Int32) (hg13 : ∀ (x1 : Int32) (x2 : Int32) (H : Heap) (locs : List Loc) (ls : Array Slot) (_ : Wd D cA ad A s M0 H locs) (_ : lv_has ls 4 [(0, .ref (ad x0)), (1, .int x1), (2, .int x2)]) (_ : ag13 (x1, x2) = some q), W p l e (rmD 2) s m args below meth c H locs 0 0 (MQ below (QI D cA ad A q M0) args s 0 0 A) (F0 m 13 ls [])) (H : Heap) (locs : List Loc) (ls : Array Slot) (hW : Wd D cA ad A s M0 H locs) (hl : lv_has ls 4 [(0, .ref (ad x0)), (1, .int x1), (2, .int x2)]) (hf : f_X12_whoCan_13b  x0 M0 ag13 x1 x2 = some q), W p l e (rmD 2) s m args below meth c H locs 0 0 (MQ below (QI D cA ad A q M0) args s 0 0 A) (F0 m 13 ls []) := by
    intro x0 x1 x2  ag13 hg13 H locs ls hW hl hf
    unfold f_X12_whoCan_13b at hf
    refine lv_iload_n hx hb dX12_whoCan_13 rfl (lv_at hl 2 rfl) ?_
    refine lv_aload_n hx hb dX12_whoCan_14 rfl (lv_at hl 0 rfl) ?_
    obtain ⟨v9, hv9, hf⟩ := ob hf
    refine r_gI hC hK hW cfX12 (by decide) wF_X12_125 rfl hv9 dX12_whoCan_15 ?_
    refine lv_icmp_ge (tgt := 64) hx hb dX12_whoCan_18 (by decide) (fun c18 => ?_) (fun c18 => ?_)
    · have hf := it c18 hf
      refine lv_iload_n hx hb dX12_whoCan_64 rfl (lv_at hl 1 rfl) ?_
      exact r_iretP hC hr hlk hW hf dX12_whoCan_65
    · have hf := ie c18 hf
      refine lv_aload_n hx hb dX12_whoCan_21 rfl (lv_at hl 0 rfl) ?_
      refine lv_aload_n hx hb dX12_whoCan_22 rfl (lv_at hl 0 rfl) ?_
      obtain ⟨r10, hr10, hf⟩ := ob hf
      refine r_gR hC hK hW cfX12 (by decide) wF_X12_41 rfl hr10 dX12_whoCan_23 ?_
      refine lv_iload_n hx hb dX12_whoCan_26 rfl (lv_at hl 2 rfl) ?_
      obtain ⟨v11, hv11, hf⟩ := ob hf
      refine r_aI hC hK hW hv11 dX12_whoCan_27 ?_
      refine lv_aload_n hx hb dX12_whoCan_28 rfl (lv_at hl 0 rfl) ?_
      obtain ⟨r12, hr12, hf⟩ := ob hf
      refine r_gR hC hK hW cfX12 (by decide) wF_X12_44 rfl hr12 dX12_whoCan_29 ?_
      refine lv_iload_n hx hb dX12_whoCan_32 rfl (lv_at hl 2 rfl) ?_
      obtain ⟨v13, hv13, hf⟩ := ob hf
      refine r_aI hC hK hW hv13 dX12_whoCan_33 ?_
      obtain ⟨q14, hq14, hf⟩ := ob hf
      refine k_vI hC hK hW cfX12 (c_X12_whoReach l hAd (cv_s hq14).2) (cv_s hq14).1 my_X12_whoReach wI_X12_whoReach wQ_X12_whoReach wM_X12_146 ⟨Nat.le_of_ble_eq_true rfl, Nat.le_of_ble_eq_true rfl⟩ rfl hl.1 rfl (Nat.le_of_ble_eq_true rfl) ⟨Nat.zero_le _, Nat.zero_le _⟩ dX12_whoCan_34 (fun H locs hW => ?_)
      refine lv_istore_n (lv' := [(3, .int q14), (0, .ref (ad x0)), (1, .int x1), (2, .int x2)]) hx hb dX12_whoCan_37 rfl hl (by decide) rfl (fun ls hl => ?_)
      refine lv_iload_n hx hb dX12_whoCan_38 rfl (lv_at hl 2 rfl) ?_
      refine lv_aload_n hx hb dX12_whoCan_39 rfl (lv_at hl 1 rfl) ?_
      obtain ⟨r15, hr15, hf⟩ := ob hf
      refine r_gR hC hK hW cfX12 (by decide) wF_X12_47 rfl hr15 dX12_whoCan_40 ?_
      refine lv_iload_n hx hb dX12_whoCan_43 rfl (lv_at hl 3 rfl) ?_
      obtain ⟨v16, hv16, hf⟩ := ob hf
      refine r_aI hC hK hW hv16 dX12_whoCan_44 ?_
      refine lv_iconst (v := (1 : Int32)) hx hb dX12_whoCan_45 (by decide) ?_
      refine lv_icmp_ne (tgt := 53) hx hb dX12_whoCan_46 (by decide) (fun c46 => ?_) (fun c46 => ?_)
      · have hf := ie c46 hf
        refine lv_iload_n hx hb dX12_whoCan_53 rfl (lv_at hl 0 rfl) ?_
        refine lv_iconst (v := (-1 : Int32)) hx hb dX12_whoCan_54 (by decide) ?_
        refine lv_ixor hx hb dX12_whoCan_55 ?_
        refine lv_iand hx hb dX12_whoCan_56 ?_
        refine lv_istore_n (lv' := [(1, .int (x1 &&& (q14 ^^^ (-1 : Int32)))), (3, .int q14), (0, .ref (ad x0)), (2, .int x2)]) hx hb dX12_whoCan_57 rfl hl (by decide) rfl (fun ls hl => ?_)
        refine lv_iinc (v := (x2 + (1 : Int32))) (lv' := [(2, .int (x2 + (1 : Int32))), (1, .int (x1 &&& (q14 ^^^ (-1 : Int32)))), (3, .int q14), (0, .ref (ad x0))]) hx hb dX12_whoCan_58 hl (k := 3) rfl rfl (by decide) rfl (fun ls hl => ?_)
        refine lv_goto (tgt := 13) hx hb dX12_whoCan_61 (by decide) ?_
        exact hg13 (x1 &&& (q14 ^^^ (-1 : Int32))) (x2 + (1 : Int32)) _ _ _ hW (lv_sub hl [3, 1, 0] rfl) hf
      · have hf := it c46 hf
        refine lv_iload_n hx hb dX12_whoCan_49 rfl (lv_at hl 0 rfl) ?_
        refine lv_goto (tgt := 56) hx hb dX12_whoCan_50 (by decide) ?_
        refine lv_iand hx hb dX12_whoCan_56 ?_
        refine lv_istore_n (lv' := [(1, .int (x1 &&& q14)), (3, .int q14), (0, .ref (ad x0)), (2, .int x2)]) hx hb dX12_whoCan_57 rfl hl (by decide) rfl (fun ls hl => ?_)
        refine lv_iinc (v := (x2 + (1 : Int32))) (lv' := [(2, .int (x2 + (1 : Int32))), (1, .int (x1 &&& q14)), (3, .int q14), (0, .ref (ad x0))]) hx hb dX12_whoCan_58 hl (k := 3) rfl rfl (by decide) rfl (fun ls hl => ?_)
        refine lv_goto (tgt := 13) hx hb dX12_whoCan_61 (by decide) ?_
        exact hg13 (x1 &&& q14) (x2 + (1 : Int32)) _ _ _ hW (lv_sub hl [3, 1, 0] rfl) hf
  have J13 : ∀ (x0 : Nat) (x1 : Int32) (x2 : Int32)  (H : Heap) (locs : List Loc) (ls : Array Slot) (hW : Wd D cA ad A s M0 H locs) (hl : lv_has ls 4 [(0, .ref (ad x0)), (1, .int x1), (2, .int x2)]) (hf : f_X12_whoCan_13  x0 M0 x1 x2 = some q), W p l e (rmD 2) s m args below meth c H locs 0 0 (MQ below (QI D cA ad A q M0) args s 0 0 A) (F0 m 13 ls []) := by
    intro x0 x1 x2  H locs ls hW hl hf
    unfold f_X12_whoCan_13 at hf
    have key : ∀ (n : Nat) (x1 : Int32) (x2 : Int32) (H : Heap) (locs : List Loc) (ls : Array Slot) (hW : Wd D cA ad A s M0 H locs) (hl : lv_has ls 4 [(0, .ref (ad x0)), (1, .int x1), (2, .int x2)]) (hf : loopF (fun ag s => f_X12_whoCan_13b  x0 M0 ag s.1 s.2) n (x1, x2) = some q), W p l e (rmD 2) s m args below meth c H locs 0 0 (MQ below (QI D cA ad A q M0) args s 0 0 A) (F0 m 13 ls []) := by
      intro n
      induction n with
      | zero => intro x1 x2 H locs ls hW hl hf; exact nomatch (show (none : Option _) = some _ from hf)
      | succ n ih => intro x1 x2 H locs ls hW hl hf; exact B13 x0 x1 x2  _ ih H locs ls hW hl hf
    exact key FU x1 x2 H locs ls hW hl hf
  have hf := hf0
  unfold f_X12_whoCan at hf
  refine lv_iconst (v := (1 : Int32)) hx hb dX12_whoCan_0 (by decide) ?_
  refine lv_aload_n hx hb dX12_whoCan_1 rfl (lv_at hl 0 rfl) ?_
  obtain ⟨r19, hr19, hf⟩ := ob hf
  refine r_gR hC hK hW cfX12 (by decide) wF_X12_13 rfl hr19 dX12_whoCan_2 ?_
  refine lv_iconst (v := (1 : Int32)) hx hb dX12_whoCan_5 (by decide) ?_
  obtain ⟨v20, hv20, hf⟩ := ob hf
  refine r_aI hC hK hW hv20 dX12_whoCan_6 ?_
  refine lv_ishl hx hb dX12_whoCan_7 ?_
  refine lv_iconst (v := (1 : Int32)) hx hb dX12_whoCan_8 (by decide) ?_
  refine lv_isub hx hb dX12_whoCan_9 ?_
  refine lv_istore_n (lv' := [(1, .int (((1 : Int32) <<< (v20 &&& 31)) - (1 : Int32))), (0, .ref (ad a0))]) hx hb dX12_whoCan_10 rfl hl (by decide) rfl (fun ls hl => ?_)
  refine lv_iconst (v := (0 : Int32)) hx hb dX12_whoCan_11 (by decide) ?_
  refine lv_istore_n (lv' := [(2, .int (0 : Int32)), (1, .int (((1 : Int32) <<< (v20 &&& 31)) - (1 : Int32))), (0, .ref (ad a0))]) hx hb dX12_whoCan_12 rfl hl (by decide) rfl (fun ls hl => ?_)
  exact J13 a0 (((1 : Int32) <<< (v20 &&& 31)) - (1 : Int32)) (0 : Int32) _ _ _ hW (lv_sub hl [2, 1, 0] rfl) hf
set_option maxHeartbeats 4000000 in
set_option maxRecDepth 100000 in
theorem c_X12_ones (l : Launch) {D : va_G} {cA : Nat → ClassId} {ad : Nat → Nat} {A : Nat → Prop} (hAd : AdOk ad A) {a0 : Int32} {M0 : Mem} {q : Int32} (hf0 : f_X12_ones a0 M0 = some q) : Met l yX12_ones (wd yX12_ones cX12_ones 3 (some .int)) (rmD 0) (PcW D cA ad [.int a0] M0) (QI D cA ad A q M0) 0 0 A := by
  refine mk_met (own := RX12) (by decide +kernel) rfl (Nat.le_of_ble_eq_true rfl) ?_
  intro p e s m args below meth c hC hr hlk hK H locs ls hW hl
  have hx := hC.1
  have hb := hC.2.1
  have hl : lv_has ls 3 [(0, .int a0)] := hl
  have B4 : ∀ (x0 : Int32) (x1 : Int32) (x2 : Int32)  (ag4 : Int32 × Int32 → Option Int32) (hg4 : ∀ (x1 : Int32) (x2 : Int32) (H : Heap) (locs : List Loc) (ls : Array Slot) (_ : Wd D cA ad A s M0 H locs) (_ : lv_has ls 3 [(0, .int x0), (1, .int x1), (2, .int x2)]) (_ : ag4 (x1, x2) = some q), W p l e (rmD 0) s m args below meth c H locs 0 0 (MQ below (QI D cA ad A q M0) args s 0 0 A) (F0 m 4 ls [])) (H : Heap) (locs : List Loc) (ls : Array Slot) (hW : Wd D cA ad A s M0 H locs) (hl : lv_has ls 3 [(0, .int x0), (1, .int x1), (2, .int x2)]) (hf : f_X12_ones_4b  x0 M0 ag4 x1 x2 = some q), W p l e (rmD 0) s m args below meth c H locs 0 0 (MQ below (QI D cA ad A q M0) args s 0 0 A) (F0 m 4 ls []) := by
    intro x0 x1 x2  ag4 hg4 H locs ls hW hl hf
    unfold f_X12_ones_4b at hf
    refine lv_iload_n hx hb dX12_ones_4 rfl (lv_at hl 2 rfl) ?_
    refine lv_bipush (v := (6 : Int32)) hx hb dX12_ones_5 (by decide) ?_
    refine lv_icmp_ge (tgt := 24) hx hb dX12_ones_7 (by decide) (fun c7 => ?_) (fun c7 => ?_)
    · have hf := it c7 hf
      refine lv_iload_n hx hb dX12_ones_24 rfl (lv_at hl 1 rfl) ?_
      exact r_iretP hC hr hlk hW hf dX12_ones_25
    · have hf := ie c7 hf
      refine lv_iload_n hx hb dX12_ones_10 rfl (lv_at hl 1 rfl) ?_
      refine lv_iload_n hx hb dX12_ones_11 rfl (lv_at hl 0 rfl) ?_
      refine lv_iload_n hx hb dX12_ones_12 rfl (lv_at hl 2 rfl) ?_
      refine lv_ishr hx hb dX12_ones_13 ?_
      refine lv_iconst (v := (1 : Int32)) hx hb dX12_ones_14 (by decide) ?_
      refine lv_iand hx hb dX12_ones_15 ?_
      refine lv_iadd hx hb dX12_ones_16 ?_
      refine lv_istore_n (lv' := [(1, .int (x1 + ((x0 >>> (x2 &&& 31)) &&& (1 : Int32)))), (0, .int x0), (2, .int x2)]) hx hb dX12_ones_17 rfl hl (by decide) rfl (fun ls hl => ?_)
      refine lv_iinc (v := (x2 + (1 : Int32))) (lv' := [(2, .int (x2 + (1 : Int32))), (1, .int (x1 + ((x0 >>> (x2 &&& 31)) &&& (1 : Int32)))), (0, .int x0)]) hx hb dX12_ones_18 hl (k := 2) rfl rfl (by decide) rfl (fun ls hl => ?_)
      refine lv_goto (tgt := 4) hx hb dX12_ones_21 (by decide) ?_
      exact hg4 (x1 + ((x0 >>> (x2 &&& 31)) &&& (1 : Int32))) (x2 + (1 : Int32)) _ _ _ hW (lv_sub hl [2, 1, 0] rfl) hf
  have J4 : ∀ (x0 : Int32) (x1 : Int32) (x2 : Int32)  (H : Heap) (locs : List Loc) (ls : Array Slot) (hW : Wd D cA ad A s M0 H locs) (hl : lv_has ls 3 [(0, .int x0), (1, .int x1), (2, .int x2)]) (hf : f_X12_ones_4  x0 M0 x1 x2 = some q), W p l e (rmD 0) s m args below meth c H locs 0 0 (MQ below (QI D cA ad A q M0) args s 0 0 A) (F0 m 4 ls []) := by
    intro x0 x1 x2  H locs ls hW hl hf
    unfold f_X12_ones_4 at hf
    have key : ∀ (n : Nat) (x1 : Int32) (x2 : Int32) (H : Heap) (locs : List Loc) (ls : Array Slot) (hW : Wd D cA ad A s M0 H locs) (hl : lv_has ls 3 [(0, .int x0), (1, .int x1), (2, .int x2)]) (hf : loopF (fun ag s => f_X12_ones_4b  x0 M0 ag s.1 s.2) n (x1, x2) = some q), W p l e (rmD 0) s m args below meth c H locs 0 0 (MQ below (QI D cA ad A q M0) args s 0 0 A) (F0 m 4 ls []) := by
      intro n
      induction n with
      | zero => intro x1 x2 H locs ls hW hl hf; exact nomatch (show (none : Option _) = some _ from hf)
      | succ n ih => intro x1 x2 H locs ls hW hl hf; exact B4 x0 x1 x2  _ ih H locs ls hW hl hf
    exact key FU x1 x2 H locs ls hW hl hf
  have hf := hf0
  unfold f_X12_ones at hf
  refine lv_iconst (v := (0 : Int32)) hx hb dX12_ones_0 (by decide) ?_
  refine lv_istore_n (lv' := [(1, .int (0 : Int32)), (0, .int a0)]) hx hb dX12_ones_1 rfl hl (by decide) rfl (fun ls hl => ?_)
  refine lv_iconst (v := (0 : Int32)) hx hb dX12_ones_2 (by decide) ?_
  refine lv_istore_n (lv' := [(2, .int (0 : Int32)), (1, .int (0 : Int32)), (0, .int a0)]) hx hb dX12_ones_3 rfl hl (by decide) rfl (fun ls hl => ?_)
  exact J4 a0 (0 : Int32) (0 : Int32) _ _ _ hW (lv_sub hl [2, 1, 0] rfl) hf
set_option maxHeartbeats 4000000 in
set_option maxRecDepth 100000 in
theorem c_X12_look (l : Launch) {D : va_G} {cA : Nat → ClassId} {ad : Nat → Nat} {A : Nat → Prop} (hAd : AdOk ad A) {a0 : Nat} {a1 : Int32} {M0 : Mem} {q : (Int32 × Mem)} (hf0 : f_X12_look a0 a1 M0 = some q) : Met l yX12_look (wd yX12_look cX12_look 8 (some .int)) (rmD 3) (PcW D cA ad [.ref (ad a0), .int a1] M0) (QI D cA ad A q.1 q.2) 0 0 A := by
  refine mk_met (own := RX12) (by decide +kernel) rfl (Nat.le_of_ble_eq_true rfl) ?_
  intro p e s m args below meth c hC hr hlk hK H locs ls hW hl
  have hx := hC.1
  have hb := hC.2.1
  have hl : lv_has ls 8 [(0, .ref (ad a0)), (1, .int a1)] := hl
  have J99 : ∀ (x0 : Nat) (x1 : Int32) (x2 : Int32) (x4 : Int32) (x5 : Int32) (x7 : Int32) (y0 : Int32) (M : Mem) (ag33 : Int32 × Int32 × Int32 → Option (Int32 × Mem)) (hg33 : ∀ (x3 : Int32) (x4 : Int32) (x5 : Int32) (H : Heap) (locs : List Loc) (ls : Array Slot) (_ : Wd D cA ad A s M H locs) (_ : lv_has ls 8 [(0, .ref (ad x0)), (1, .int x1), (2, .int x2), (3, .int x3), (4, .int x4), (5, .int x5)]) (_ : ag33 (x3, x4, x5) = some q), W p l e (rmD 3) s m args below meth c H locs 0 0 (MQ below (QI D cA ad A q.1 q.2) args s 0 0 A) (F0 m 33 ls [])) (H : Heap) (locs : List Loc) (ls : Array Slot) (hW : Wd D cA ad A s M H locs) (hl : lv_has ls 8 [(0, .ref (ad x0)), (1, .int x1), (2, .int x2), (4, .int x4), (5, .int x5), (7, .int x7)]) (hf : f_X12_look_99 ag33 x0 x1 x2 x4 x5 x7 y0 M = some q), W p l e (rmD 3) s m args below meth c H locs 0 0 (MQ below (QI D cA ad A q.1 q.2) args s 0 0 A) (F0 m 99 ls [.int y0]) := by
    intro x0 x1 x2 x4 x5 x7 y0 M ag33 hg33 H locs ls hW hl hf
    unfold f_X12_look_99 at hf
    refine lv_istore_n (lv' := [(3, .int y0), (0, .ref (ad x0)), (1, .int x1), (2, .int x2), (4, .int x4), (5, .int x5), (7, .int x7)]) hx hb dX12_look_99 rfl hl (by decide) rfl (fun ls hl => ?_)
    refine lv_iload hx hb dX12_look_100 (lv_at hl 6 rfl) ?_
    refine lv_iload hx hb dX12_look_102 (lv_at hl 4 rfl) ?_
    refine lv_icmp_ge (tgt := 112) hx hb dX12_look_104 (by decide) (fun c104 => ?_) (fun c104 => ?_)
    · have hf := it c104 hf
      refine lv_iload hx hb dX12_look_112 (lv_at hl 4 rfl) ?_
      refine lv_istore (lv' := [(4, .int x4), (3, .int y0), (0, .ref (ad x0)), (1, .int x1), (2, .int x2), (5, .int x5), (7, .int x7)]) hx hb dX12_look_114 hl (by decide) rfl (fun ls hl => ?_)
      refine lv_iinc (v := (x5 + (1 : Int32))) (lv' := [(5, .int (x5 + (1 : Int32))), (4, .int x4), (3, .int y0), (0, .ref (ad x0)), (1, .int x1), (2, .int x2), (7, .int x7)]) hx hb dX12_look_116 hl (k := 5) rfl rfl (by decide) rfl (fun ls hl => ?_)
      refine lv_goto (tgt := 33) hx hb dX12_look_119 (by decide) ?_
      exact hg33 y0 x4 (x5 + (1 : Int32)) _ _ _ hW (lv_sub hl [3, 4, 5, 2, 1, 0] rfl) hf
    · have hf := ie c104 hf
      refine lv_iload hx hb dX12_look_107 (lv_at hl 6 rfl) ?_
      refine lv_goto (tgt := 114) hx hb dX12_look_109 (by decide) ?_
      refine lv_istore (lv' := [(4, .int x7), (3, .int y0), (0, .ref (ad x0)), (1, .int x1), (2, .int x2), (5, .int x5), (7, .int x7)]) hx hb dX12_look_114 hl (by decide) rfl (fun ls hl => ?_)
      refine lv_iinc (v := (x5 + (1 : Int32))) (lv' := [(5, .int (x5 + (1 : Int32))), (4, .int x7), (3, .int y0), (0, .ref (ad x0)), (1, .int x1), (2, .int x2), (7, .int x7)]) hx hb dX12_look_116 hl (k := 5) rfl rfl (by decide) rfl (fun ls hl => ?_)
      refine lv_goto (tgt := 33) hx hb dX12_look_119 (by decide) ?_
      exact hg33 y0 x7 (x5 + (1 : Int32)) _ _ _ hW (lv_sub hl [3, 4, 5, 2, 1, 0] rfl) hf
  have J84 : ∀ (x0 : Nat) (x1 : Int32) (x2 : Int32) (x3 : Int32) (x4 : Int32) (x5 : Int32) (y0 : Int32) (M : Mem) (ag33 : Int32 × Int32 × Int32 → Option (Int32 × Mem)) (hg33 : ∀ (x3 : Int32) (x4 : Int32) (x5 : Int32) (H : Heap) (locs : List Loc) (ls : Array Slot) (_ : Wd D cA ad A s M H locs) (_ : lv_has ls 8 [(0, .ref (ad x0)), (1, .int x1), (2, .int x2), (3, .int x3), (4, .int x4), (5, .int x5)]) (_ : ag33 (x3, x4, x5) = some q), W p l e (rmD 3) s m args below meth c H locs 0 0 (MQ below (QI D cA ad A q.1 q.2) args s 0 0 A) (F0 m 33 ls [])) (H : Heap) (locs : List Loc) (ls : Array Slot) (hW : Wd D cA ad A s M H locs) (hl : lv_has ls 8 [(0, .ref (ad x0)), (1, .int x1), (2, .int x2), (3, .int x3), (4, .int x4), (5, .int x5)]) (hf : f_X12_look_84 ag33 x0 x1 x2 x3 x4 x5 y0 M = some q), W p l e (rmD 3) s m args below meth c H locs 0 0 (MQ below (QI D cA ad A q.1 q.2) args s 0 0 A) (F0 m 84 ls [.int y0]) := by
    intro x0 x1 x2 x3 x4 x5 y0 M ag33 hg33 H locs ls hW hl hf
    unfold f_X12_look_84 at hf
    refine lv_istore (lv' := [(7, .int y0), (0, .ref (ad x0)), (1, .int x1), (2, .int x2), (3, .int x3), (4, .int x4), (5, .int x5)]) hx hb dX12_look_84 hl (by decide) rfl (fun ls hl => ?_)
    refine lv_iload hx hb dX12_look_86 (lv_at hl 0 rfl) ?_
    refine lv_iload hx hb dX12_look_88 (lv_at hl 5 rfl) ?_
    refine lv_icmp_ge (tgt := 98) hx hb dX12_look_90 (by decide) (fun c90 => ?_) (fun c90 => ?_)
    · have hf := it c90 hf
      refine lv_iload_n hx hb dX12_look_98 rfl (lv_at hl 4 rfl) ?_
      exact J99 x0 x1 x2 x4 x5 y0 x3 M ag33 hg33 _ _ _ hW (lv_sub hl [1, 2, 3, 5, 6, 0] rfl) hf
    · have hf := ie c90 hf
      refine lv_iload hx hb dX12_look_93 (lv_at hl 6 rfl) ?_
      refine lv_goto (tgt := 99) hx hb dX12_look_95 (by decide) ?_
      exact J99 x0 x1 x2 x4 x5 y0 x5 M ag33 hg33 _ _ _ hW (lv_sub hl [1, 2, 3, 5, 6, 0] rfl) hf
  have B33 : ∀ (x0 : Nat) (x1 : Int32) (x2 : Int32) (M : Mem) (x3 : Int32) (x4 : Int32) (x5 : Int32)  (ag33 : Int32 × Int32 × Int32 → Option (Int32 × Mem)) (hg33 : ∀ (x3 : Int32) (x4 : Int32) (x5 : Int32) (H : Heap) (locs : List Loc) (ls : Array Slot) (_ : Wd D cA ad A s M H locs) (_ : lv_has ls 8 [(0, .ref (ad x0)), (1, .int x1), (2, .int x2), (3, .int x3), (4, .int x4), (5, .int x5)]) (_ : ag33 (x3, x4, x5) = some q), W p l e (rmD 3) s m args below meth c H locs 0 0 (MQ below (QI D cA ad A q.1 q.2) args s 0 0 A) (F0 m 33 ls [])) (H : Heap) (locs : List Loc) (ls : Array Slot) (hW : Wd D cA ad A s M H locs) (hl : lv_has ls 8 [(0, .ref (ad x0)), (1, .int x1), (2, .int x2), (3, .int x3), (4, .int x4), (5, .int x5)]) (hf : f_X12_look_33b  x0 x1 x2 M ag33 x3 x4 x5 = some q), W p l e (rmD 3) s m args below meth c H locs 0 0 (MQ below (QI D cA ad A q.1 q.2) args s 0 0 A) (F0 m 33 ls []) := by
    intro x0 x1 x2 M x3 x4 x5  ag33 hg33 H locs ls hW hl hf
    unfold f_X12_look_33b at hf
    refine lv_iload hx hb dX12_look_33 (lv_at hl 5 rfl) ?_
    refine lv_aload_n hx hb dX12_look_35 rfl (lv_at hl 0 rfl) ?_
    obtain ⟨r6, hr6, hf⟩ := ob hf
    refine r_gR hC hK hW cfX12 (by decide) wF_X12_13 rfl hr6 dX12_look_36 ?_
    refine lv_iconst (v := (0 : Int32)) hx hb dX12_look_39 (by decide) ?_
    obtain ⟨v7, hv7, hf⟩ := ob hf
    refine r_aI hC hK hW hv7 dX12_look_40 ?_
    refine lv_icmp_ge (tgt := 122) hx hb dX12_look_41 (by decide) (fun c41 => ?_) (fun c41 => ?_)
    · have hf := it c41 hf
      refine lv_iload_n hx hb dX12_look_122 rfl (lv_at hl 3 rfl) ?_
      exact r_iret hC hr hlk hW hf dX12_look_123
    · have hf := ie c41 hf
      refine lv_iload_n hx hb dX12_look_44 rfl (lv_at hl 2 rfl) ?_
      refine lv_iconst (v := (1 : Int32)) hx hb dX12_look_45 (by decide) ?_
      refine lv_icmp_le (tgt := 122) hx hb dX12_look_46 (by decide) (fun c46 => ?_) (fun c46 => ?_)
      · have hf := it c46 hf
        refine lv_iload_n hx hb dX12_look_122 rfl (lv_at hl 3 rfl) ?_
        exact r_iret hC hr hlk hW hf dX12_look_123
      · have hf := ie c46 hf
        refine lv_aload_n hx hb dX12_look_49 rfl (lv_at hl 0 rfl) ?_
        obtain ⟨q8, hq8, hf⟩ := ob hf
        refine k_vI hC hK hW cfX12 (c_X12_whoCan l hAd (cv_s hq8).2) (cv_s hq8).1 my_X12_whoCan wI_X12_whoCan wQ_X12_whoCan wM_X12_196 ⟨Nat.le_of_ble_eq_true rfl, Nat.le_of_ble_eq_true rfl⟩ rfl hl.1 rfl (Nat.le_of_ble_eq_true rfl) ⟨Nat.zero_le _, Nat.zero_le _⟩ dX12_look_50 (fun H locs hW => ?_)
        refine lv_aload_n hx hb dX12_look_53 rfl (lv_at hl 0 rfl) ?_
        refine lv_iload_n hx hb dX12_look_54 rfl (lv_at hl 1 rfl) ?_
        refine lv_iload hx hb dX12_look_55 (lv_at hl 5 rfl) ?_
        obtain ⟨q9, hq9, hf⟩ := ob hf
        refine k_vI hC hK hW cfX12 (c_X12_whoReach l hAd (cv_s hq9).2) (cv_s hq9).1 my_X12_whoReach wI_X12_whoReach wQ_X12_whoReach wM_X12_146 ⟨Nat.le_of_ble_eq_true rfl, Nat.le_of_ble_eq_true rfl⟩ rfl hl.1 rfl (Nat.le_of_ble_eq_true rfl) ⟨Nat.zero_le _, Nat.zero_le _⟩ dX12_look_57 (fun H locs hW => ?_)
        refine lv_iand hx hb dX12_look_60 ?_
        obtain ⟨q10, hq10, hf⟩ := ob hf
        refine k_sI hC hK hW (c_X12_ones l hAd hq10) my_X12_ones wS_X12_ones wM_X12_187 ⟨Nat.le_of_ble_eq_true rfl, Nat.le_of_ble_eq_true rfl⟩ rfl hl.1 rfl (Nat.le_of_ble_eq_true rfl) ⟨Nat.zero_le _, Nat.zero_le _⟩ dX12_look_61 (fun H locs hW => ?_)
        refine lv_istore (lv' := [(6, .int q10), (0, .ref (ad x0)), (1, .int x1), (2, .int x2), (3, .int x3), (4, .int x4), (5, .int x5)]) hx hb dX12_look_64 hl (by decide) rfl (fun ls hl => ?_)
        refine lv_iload hx hb dX12_look_66 (lv_at hl 0 rfl) ?_
        refine lv_iload_n hx hb dX12_look_68 rfl (lv_at hl 3 rfl) ?_
        refine lv_iload hx hb dX12_look_69 (lv_at hl 0 rfl) ?_
        refine lv_isub hx hb dX12_look_71 ?_
        refine lv_icmp_le (tgt := 80) hx hb dX12_look_72 (by decide) (fun c72 => ?_) (fun c72 => ?_)
        · have hf := it c72 hf
          refine lv_iload_n hx hb dX12_look_80 rfl (lv_at hl 3 rfl) ?_
          refine lv_iload hx hb dX12_look_81 (lv_at hl 0 rfl) ?_
          refine lv_isub hx hb dX12_look_83 ?_
          exact J84 x0 x1 x2 x3 x4 x5 (x2 - q10) M ag33 hg33 _ _ _ hW (lv_sub hl [1, 2, 3, 4, 5, 6] rfl) hf
        · have hf := ie c72 hf
          refine lv_iload hx hb dX12_look_75 (lv_at hl 0 rfl) ?_
          refine lv_goto (tgt := 84) hx hb dX12_look_77 (by decide) ?_
          exact J84 x0 x1 x2 x3 x4 x5 q10 M ag33 hg33 _ _ _ hW (lv_sub hl [1, 2, 3, 4, 5, 6] rfl) hf
  have J33 : ∀ (x0 : Nat) (x1 : Int32) (x2 : Int32) (M : Mem) (x3 : Int32) (x4 : Int32) (x5 : Int32)  (H : Heap) (locs : List Loc) (ls : Array Slot) (hW : Wd D cA ad A s M H locs) (hl : lv_has ls 8 [(0, .ref (ad x0)), (1, .int x1), (2, .int x2), (3, .int x3), (4, .int x4), (5, .int x5)]) (hf : f_X12_look_33  x0 x1 x2 M x3 x4 x5 = some q), W p l e (rmD 3) s m args below meth c H locs 0 0 (MQ below (QI D cA ad A q.1 q.2) args s 0 0 A) (F0 m 33 ls []) := by
    intro x0 x1 x2 M x3 x4 x5  H locs ls hW hl hf
    unfold f_X12_look_33 at hf
    have key : ∀ (n : Nat) (x3 : Int32) (x4 : Int32) (x5 : Int32) (H : Heap) (locs : List Loc) (ls : Array Slot) (hW : Wd D cA ad A s M H locs) (hl : lv_has ls 8 [(0, .ref (ad x0)), (1, .int x1), (2, .int x2), (3, .int x3), (4, .int x4), (5, .int x5)]) (hf : loopF (fun ag s => f_X12_look_33b  x0 x1 x2 M ag s.1 s.2.1 s.2.2) n (x3, x4, x5) = some q), W p l e (rmD 3) s m args below meth c H locs 0 0 (MQ below (QI D cA ad A q.1 q.2) args s 0 0 A) (F0 m 33 ls []) := by
      intro n
      induction n with
      | zero => intro x3 x4 x5 H locs ls hW hl hf; exact nomatch (show (none : Option _) = some _ from hf)
      | succ n ih => intro x3 x4 x5 H locs ls hW hl hf; exact B33 x0 x1 x2 M x3 x4 x5  _ ih H locs ls hW hl hf
    exact key FU x3 x4 x5 H locs ls hW hl hf
  have hf := hf0
  unfold f_X12_look at hf
  refine lv_aload_n hx hb dX12_look_0 rfl (lv_at hl 0 rfl) ?_
  refine lv_iconst (v := (0 : Int32)) hx hb dX12_look_1 (by decide) ?_
  obtain ⟨M15, hM15, hf⟩ := ob hf
  refine r_pI hC hK hAd hW cfX12 (by decide) wF_X12_65 rfl rfl rfl hM15 dX12_look_2 (fun H locs hW => ?_)
  refine lv_aload_n hx hb dX12_look_5 rfl (lv_at hl 0 rfl) ?_
  refine lv_iload_n hx hb dX12_look_6 rfl (lv_at hl 1 rfl) ?_
  obtain ⟨q16, hq16, hf⟩ := ob hf
  refine k_vI hC hK hW cfX12 (c_X12_isDish l hAd (cv_s hq16).2) (cv_s hq16).1 my_X12_isDish wI_X12_isDish wQ_X12_isDish wM_X12_143 ⟨Nat.le_of_ble_eq_true rfl, Nat.le_of_ble_eq_true rfl⟩ rfl hl.1 rfl (Nat.le_of_ble_eq_true rfl) ⟨Nat.zero_le _, Nat.zero_le _⟩ dX12_look_7 (fun H locs hW => ?_)
  refine lv_if_ne (tgt := 15) hx hb dX12_look_10 (by decide) (fun c10 => ?_) (fun c10 => ?_)
  · have hf := ie c10 hf
    refine lv_aload_n hx hb dX12_look_15 rfl (lv_at hl 0 rfl) ?_
    obtain ⟨q17, hq17, hf⟩ := ob hf
    refine k_vI hC hK hW cfX12 (c_X12_whoCan l hAd (cv_s hq17).2) (cv_s hq17).1 my_X12_whoCan wI_X12_whoCan wQ_X12_whoCan wM_X12_196 ⟨Nat.le_of_ble_eq_true rfl, Nat.le_of_ble_eq_true rfl⟩ rfl hl.1 rfl (Nat.le_of_ble_eq_true rfl) ⟨Nat.zero_le _, Nat.zero_le _⟩ dX12_look_16 (fun H locs hW => ?_)
    obtain ⟨q18, hq18, hf⟩ := ob hf
    refine k_sI hC hK hW (c_X12_ones l hAd hq18) my_X12_ones wS_X12_ones wM_X12_187 ⟨Nat.le_of_ble_eq_true rfl, Nat.le_of_ble_eq_true rfl⟩ rfl hl.1 rfl (Nat.le_of_ble_eq_true rfl) ⟨Nat.zero_le _, Nat.zero_le _⟩ dX12_look_19 (fun H locs hW => ?_)
    refine lv_istore_n (lv' := [(2, .int q18), (0, .ref (ad a0)), (1, .int a1)]) hx hb dX12_look_22 rfl hl (by decide) rfl (fun ls hl => ?_)
    refine lv_bipush (v := (-9 : Int32)) hx hb dX12_look_23 (by decide) ?_
    refine lv_istore_n (lv' := [(3, .int (-9 : Int32)), (2, .int q18), (0, .ref (ad a0)), (1, .int a1)]) hx hb dX12_look_25 rfl hl (by decide) rfl (fun ls hl => ?_)
    refine lv_bipush (v := (99 : Int32)) hx hb dX12_look_26 (by decide) ?_
    refine lv_istore (lv' := [(4, .int (99 : Int32)), (3, .int (-9 : Int32)), (2, .int q18), (0, .ref (ad a0)), (1, .int a1)]) hx hb dX12_look_28 hl (by decide) rfl (fun ls hl => ?_)
    refine lv_iconst (v := (0 : Int32)) hx hb dX12_look_30 (by decide) ?_
    refine lv_istore (lv' := [(5, .int (0 : Int32)), (4, .int (99 : Int32)), (3, .int (-9 : Int32)), (2, .int q18), (0, .ref (ad a0)), (1, .int a1)]) hx hb dX12_look_31 hl (by decide) rfl (fun ls hl => ?_)
    exact J33 a0 a1 q18 M15 (-9 : Int32) (99 : Int32) (0 : Int32) _ _ _ hW (lv_sub hl [4, 5, 3, 2, 1, 0] rfl) hf
  · have hf := it c10 hf
    refine lv_iconst (v := (-1 : Int32)) hx hb dX12_look_13 (by decide) ?_
    exact r_iret hC hr hlk hW hf dX12_look_14
set_option maxHeartbeats 4000000 in
set_option maxRecDepth 100000 in
theorem c_X12_mayBegin (l : Launch) {D : va_G} {cA : Nat → ClassId} {ad : Nat → Nat} {A : Nat → Prop} (hAd : AdOk ad A) {a0 : Nat} {a1 : Int32} {M0 : Mem} {q : Int32} (hf0 : f_X12_mayBegin a0 a1 M0 = some q) : Met l yX12_mayBegin (wd yX12_mayBegin cX12_mayBegin 2 (some .boolean)) (rmD 0) (PcW D cA ad [.ref (ad a0), .int a1] M0) (QI D cA ad A q M0) 0 0 A := by
  refine mk_met (own := RX12) (by decide +kernel) rfl (Nat.le_of_ble_eq_true rfl) ?_
  intro p e s m args below meth c hC hr hlk hK H locs ls hW hl
  have hx := hC.1
  have hb := hC.2.1
  have hl : lv_has ls 2 [(0, .ref (ad a0)), (1, .int a1)] := hl
  have J73 : ∀    (H : Heap) (locs : List Loc) (ls : Array Slot) (hW : Wd D cA ad A s M0 H locs) (hl : lv_has ls 2 []) (hf : f_X12_mayBegin_73    M0 = some q), W p l e (rmD 0) s m args below meth c H locs 0 0 (MQ below (QI D cA ad A q M0) args s 0 0 A) (F0 m 73 ls []) := by
    intro    H locs ls hW hl hf
    unfold f_X12_mayBegin_73 at hf
    refine lv_iconst (v := (0 : Int32)) hx hb dX12_mayBegin_73 (by decide) ?_
    exact r_zretP hC hr hlk hW hf dX12_mayBegin_74
  have hf := hf0
  unfold f_X12_mayBegin at hf
  refine lv_aload_n hx hb dX12_mayBegin_0 rfl (lv_at hl 0 rfl) ?_
  obtain ⟨v8, hv8, hf⟩ := ob hf
  refine r_gI hC hK hW cfX12 (by decide) wF_X12_86 rfl hv8 dX12_mayBegin_1 ?_
  refine lv_bipush (v := (110 : Int32)) hx hb dX12_mayBegin_4 (by decide) ?_
  refine lv_icmp_ne (tgt := 21) hx hb dX12_mayBegin_6 (by decide) (fun c6 => ?_) (fun c6 => ?_)
  · have hf := ie c6 hf
    refine lv_aload_n hx hb dX12_mayBegin_21 rfl (lv_at hl 0 rfl) ?_
    obtain ⟨v9, hv9, hf⟩ := ob hf
    refine r_gI hC hK hW cfX12 (by decide) wF_X12_86 rfl hv9 dX12_mayBegin_22 ?_
    refine lv_bipush (v := (103 : Int32)) hx hb dX12_mayBegin_25 (by decide) ?_
    refine lv_icmp_ne (tgt := 49) hx hb dX12_mayBegin_27 (by decide) (fun c27 => ?_) (fun c27 => ?_)
    · have hf := ie c27 hf
      refine lv_aload_n hx hb dX12_mayBegin_49 rfl (lv_at hl 0 rfl) ?_
      obtain ⟨v10, hv10, hf⟩ := ob hf
      refine r_gI hC hK hW cfX12 (by decide) wF_X12_86 rfl hv10 dX12_mayBegin_50 ?_
      refine lv_bipush (v := (100 : Int32)) hx hb dX12_mayBegin_53 (by decide) ?_
      refine lv_icmp_ne (tgt := 73) hx hb dX12_mayBegin_55 (by decide) (fun c55 => ?_) (fun c55 => ?_)
      · have hf := ie c55 hf
        exact J73  _ _ _ hW (lv_sub hl [] rfl) hf
      · have hf := it c55 hf
        refine lv_aload_n hx hb dX12_mayBegin_58 rfl (lv_at hl 0 rfl) ?_
        obtain ⟨r11, hr11, hf⟩ := ob hf
        refine r_gR hC hK hW cfX12 (by decide) wF_X12_13 rfl hr11 dX12_mayBegin_59 ?_
        refine lv_iconst (v := (5 : Int32)) hx hb dX12_mayBegin_62 (by decide) ?_
        obtain ⟨v12, hv12, hf⟩ := ob hf
        refine r_aI hC hK hW hv12 dX12_mayBegin_63 ?_
        refine lv_bipush (v := (6 : Int32)) hx hb dX12_mayBegin_64 (by decide) ?_
        refine lv_icmp_ge (tgt := 73) hx hb dX12_mayBegin_66 (by decide) (fun c66 => ?_) (fun c66 => ?_)
        · have hf := it c66 hf
          exact J73  _ _ _ hW (lv_sub hl [] rfl) hf
        · have hf := ie c66 hf
          refine lv_iconst (v := (1 : Int32)) hx hb dX12_mayBegin_69 (by decide) ?_
          refine lv_goto (tgt := 74) hx hb dX12_mayBegin_70 (by decide) ?_
          exact r_zretP hC hr hlk hW hf dX12_mayBegin_74
    · have hf := it c27 hf
      refine lv_aload_n hx hb dX12_mayBegin_30 rfl (lv_at hl 0 rfl) ?_
      obtain ⟨r13, hr13, hf⟩ := ob hf
      refine r_gR hC hK hW cfX12 (by decide) wF_X12_13 rfl hr13 dX12_mayBegin_31 ?_
      refine lv_iconst (v := (4 : Int32)) hx hb dX12_mayBegin_34 (by decide) ?_
      obtain ⟨v14, hv14, hf⟩ := ob hf
      refine r_aI hC hK hW hv14 dX12_mayBegin_35 ?_
      refine lv_bipush (v := (6 : Int32)) hx hb dX12_mayBegin_36 (by decide) ?_
      refine lv_icmp_ge (tgt := 45) hx hb dX12_mayBegin_38 (by decide) (fun c38 => ?_) (fun c38 => ?_)
      · have hf := it c38 hf
        refine lv_iconst (v := (0 : Int32)) hx hb dX12_mayBegin_45 (by decide) ?_
        refine lv_goto (tgt := 74) hx hb dX12_mayBegin_46 (by decide) ?_
        exact r_zretP hC hr hlk hW hf dX12_mayBegin_74
      · have hf := ie c38 hf
        refine lv_iconst (v := (1 : Int32)) hx hb dX12_mayBegin_41 (by decide) ?_
        refine lv_goto (tgt := 74) hx hb dX12_mayBegin_42 (by decide) ?_
        exact r_zretP hC hr hlk hW hf dX12_mayBegin_74
  · have hf := it c6 hf
    refine lv_iload_n hx hb dX12_mayBegin_9 rfl (lv_at hl 1 rfl) ?_
    refine lv_if_ne (tgt := 17) hx hb dX12_mayBegin_10 (by decide) (fun c10 => ?_) (fun c10 => ?_)
    · have hf := ie c10 hf
      refine lv_iconst (v := (0 : Int32)) hx hb dX12_mayBegin_17 (by decide) ?_
      refine lv_goto (tgt := 74) hx hb dX12_mayBegin_18 (by decide) ?_
      exact r_zretP hC hr hlk hW hf dX12_mayBegin_74
    · have hf := it c10 hf
      refine lv_iconst (v := (1 : Int32)) hx hb dX12_mayBegin_13 (by decide) ?_
      refine lv_goto (tgt := 74) hx hb dX12_mayBegin_14 (by decide) ?_
      exact r_zretP hC hr hlk hW hf dX12_mayBegin_74
set_option maxHeartbeats 4000000 in
set_option maxRecDepth 100000 in
theorem c_X12_moves (l : Launch) {D : va_G} {cA : Nat → ClassId} {ad : Nat → Nat} {A : Nat → Prop} (hAd : AdOk ad A) {a0 : Nat} {a1 : Int32} {a2 : Int32} {M0 : Mem} {q : (Int32 × Mem)} (hf0 : f_X12_moves a0 a1 a2 M0 = some q) : Met l yX12_moves (wd yX12_moves cX12_moves 4 (some .int)) (rmD 2) (PcW D cA ad [.ref (ad a0), .int a1, .int a2] M0) (QI D cA ad A q.1 q.2) 0 0 A := by
  refine mk_met (own := RX12) (by decide +kernel) rfl (Nat.le_of_ble_eq_true rfl) ?_
  intro p e s m args below meth c hC hr hlk hK H locs ls hW hl
  have hx := hC.1
  have hb := hC.2.1
  have hl : lv_has ls 4 [(0, .ref (ad a0)), (1, .int a1), (2, .int a2)] := hl
  have hf := hf0
  unfold f_X12_moves at hf
  refine lv_aload_n hx hb dX12_moves_0 rfl (lv_at hl 0 rfl) ?_
  refine lv_iconst (v := (0 : Int32)) hx hb dX12_moves_1 (by decide) ?_
  obtain ⟨M10, hM10, hf⟩ := ob hf
  refine r_pI hC hK hAd hW cfX12 (by decide) wF_X12_65 rfl rfl rfl hM10 dX12_moves_2 (fun H locs hW => ?_)
  refine lv_aload_n hx hb dX12_moves_5 rfl (lv_at hl 0 rfl) ?_
  refine lv_iload_n hx hb dX12_moves_6 rfl (lv_at hl 1 rfl) ?_
  obtain ⟨q11, hq11, hf⟩ := ob hf
  refine k_vI hC hK hW cfX12 (c_X12_isDish l hAd (cv_s hq11).2) (cv_s hq11).1 my_X12_isDish wI_X12_isDish wQ_X12_isDish wM_X12_143 ⟨Nat.le_of_ble_eq_true rfl, Nat.le_of_ble_eq_true rfl⟩ rfl hl.1 rfl (Nat.le_of_ble_eq_true rfl) ⟨Nat.zero_le _, Nat.zero_le _⟩ dX12_moves_7 (fun H locs hW => ?_)
  refine lv_if_eq (tgt := 21) hx hb dX12_moves_10 (by decide) (fun c10 => ?_) (fun c10 => ?_)
  · have hf := it c10 hf
    refine lv_iconst (v := (-1 : Int32)) hx hb dX12_moves_21 (by decide) ?_
    exact r_iret hC hr hlk hW hf dX12_moves_22
  · have hf := ie c10 hf
    refine lv_aload_n hx hb dX12_moves_13 rfl (lv_at hl 0 rfl) ?_
    refine lv_iload_n hx hb dX12_moves_14 rfl (lv_at hl 2 rfl) ?_
    obtain ⟨q12, hq12, hf⟩ := ob hf
    refine k_vI hC hK hW cfX12 (c_X12_isSeat l hAd (cv_s hq12).2) (cv_s hq12).1 my_X12_isSeat wI_X12_isSeat wQ_X12_isSeat wM_X12_181 ⟨Nat.le_of_ble_eq_true rfl, Nat.le_of_ble_eq_true rfl⟩ rfl hl.1 rfl (Nat.le_of_ble_eq_true rfl) ⟨Nat.zero_le _, Nat.zero_le _⟩ dX12_moves_15 (fun H locs hW => ?_)
    refine lv_if_ne (tgt := 23) hx hb dX12_moves_18 (by decide) (fun c18 => ?_) (fun c18 => ?_)
    · have hf := ie c18 hf
      refine lv_aload_n hx hb dX12_moves_23 rfl (lv_at hl 0 rfl) ?_
      refine lv_iload_n hx hb dX12_moves_24 rfl (lv_at hl 2 rfl) ?_
      obtain ⟨q13, hq13, hf⟩ := ob hf
      refine k_vI hC hK hW cfX12 (c_X12_isEmpty l hAd (cv_s hq13).2) (cv_s hq13).1 my_X12_isEmpty wI_X12_isEmpty wQ_X12_isEmpty wM_X12_184 ⟨Nat.le_of_ble_eq_true rfl, Nat.le_of_ble_eq_true rfl⟩ rfl hl.1 rfl (Nat.le_of_ble_eq_true rfl) ⟨Nat.zero_le _, Nat.zero_le _⟩ dX12_moves_25 (fun H locs hW => ?_)
      refine lv_if_ne (tgt := 34) hx hb dX12_moves_28 (by decide) (fun c28 => ?_) (fun c28 => ?_)
      · have hf := ie c28 hf
        refine lv_aload_n hx hb dX12_moves_34 rfl (lv_at hl 0 rfl) ?_
        obtain ⟨q14, hq14, hf⟩ := ob hf
        refine k_vV hC hK hW cfX12 (c_X12_notes l hAd (cv_s hq14).2) (cv_s hq14).1 my_X12_notes wI_X12_notes wQ_X12_notes wM_X12_178 ⟨Nat.le_of_ble_eq_true rfl, Nat.le_of_ble_eq_true rfl⟩ rfl hl.1 rfl (Nat.le_of_ble_eq_true rfl) ⟨Nat.zero_le _, Nat.zero_le _⟩ dX12_moves_35 (fun H locs hW => ?_)
        refine lv_aload_n hx hb dX12_moves_38 rfl (lv_at hl 0 rfl) ?_
        obtain ⟨r15, hr15, hf⟩ := ob hf
        refine r_gR hC hK hW cfX12 (by decide) wF_X12_28 rfl hr15 dX12_moves_39 ?_
        refine lv_bipush (v := (7 : Int32)) hx hb dX12_moves_42 (by decide) ?_
        refine lv_iload_n hx hb dX12_moves_44 rfl (lv_at hl 1 rfl) ?_
        refine lv_iadd hx hb dX12_moves_45 ?_
        obtain ⟨v16, hv16, hf⟩ := ob hf
        refine r_aI hC hK hW hv16 dX12_moves_46 ?_
        refine lv_istore_n (lv' := [(3, .int v16), (0, .ref (ad a0)), (1, .int a1), (2, .int a2)]) hx hb dX12_moves_47 rfl hl (by decide) rfl (fun ls hl => ?_)
        refine lv_aload_n hx hb dX12_moves_48 rfl (lv_at hl 1 rfl) ?_
        obtain ⟨r17, hr17, hf⟩ := ob hf
        refine r_gR hC hK hW cfX12 (by decide) wF_X12_28 rfl hr17 dX12_moves_49 ?_
        refine lv_bipush (v := (7 : Int32)) hx hb dX12_moves_52 (by decide) ?_
        refine lv_iload_n hx hb dX12_moves_54 rfl (lv_at hl 2 rfl) ?_
        refine lv_iadd hx hb dX12_moves_55 ?_
        refine lv_iload_n hx hb dX12_moves_56 rfl (lv_at hl 3 rfl) ?_
        obtain ⟨M18, hM18, hf⟩ := ob hf
        refine r_sI hC hK hAd hW hM18 dX12_moves_57 (fun H locs hW => ?_)
        refine lv_iload_n hx hb dX12_moves_58 rfl (lv_at hl 0 rfl) ?_
        exact r_iret hC hr hlk hW hf dX12_moves_59
      · have hf := it c28 hf
        refine lv_bipush (v := (-2 : Int32)) hx hb dX12_moves_31 (by decide) ?_
        exact r_iret hC hr hlk hW hf dX12_moves_33
    · have hf := it c18 hf
      refine lv_iconst (v := (-1 : Int32)) hx hb dX12_moves_21 (by decide) ?_
      exact r_iret hC hr hlk hW hf dX12_moves_22
set_option maxHeartbeats 4000000 in
set_option maxRecDepth 100000 in
theorem c_X12_tourOf (l : Launch) {D : va_G} {cA : Nat → ClassId} {ad : Nat → Nat} {A : Nat → Prop} (hAd : AdOk ad A) {a0 : Nat} {M0 : Mem} {q : Int32} (hf0 : f_X12_tourOf a0 M0 = some q) : Met l yX12_tourOf (wd yX12_tourOf cX12_tourOf 5 (some .int)) (rmD 2) (PcW D cA ad [.ref (ad a0)] M0) (QI D cA ad A q M0) 0 0 A := by
  refine mk_met (own := RX12) (by decide +kernel) rfl (Nat.le_of_ble_eq_true rfl) ?_
  intro p e s m args below meth c hC hr hlk hK H locs ls hW hl
  have hx := hC.1
  have hb := hC.2.1
  have hl : lv_has ls 5 [(0, .ref (ad a0))] := hl
  have J75 : ∀ (x0 : Nat) (x1 : Int32) (x2 : Int32) (x3 : Int32)  (ag15 : Int32 × Int32 → Option Int32) (hg15 : ∀ (x1 : Int32) (x2 : Int32) (H : Heap) (locs : List Loc) (ls : Array Slot) (_ : Wd D cA ad A s M0 H locs) (_ : lv_has ls 5 [(0, .ref (ad x0)), (1, .int x1), (2, .int x2)]) (_ : ag15 (x1, x2) = some q), W p l e (rmD 2) s m args below meth c H locs 0 0 (MQ below (QI D cA ad A q M0) args s 0 0 A) (F0 m 15 ls [])) (ag27 : Int32 × Int32 → Option Int32) (hg27 : ∀ (x1 : Int32) (x3 : Int32) (H : Heap) (locs : List Loc) (ls : Array Slot) (_ : Wd D cA ad A s M0 H locs) (_ : lv_has ls 5 [(0, .ref (ad x0)), (1, .int x1), (2, .int x2), (3, .int x3)]) (_ : ag27 (x1, x3) = some q), W p l e (rmD 2) s m args below meth c H locs 0 0 (MQ below (QI D cA ad A q M0) args s 0 0 A) (F0 m 27 ls [])) (H : Heap) (locs : List Loc) (ls : Array Slot) (hW : Wd D cA ad A s M0 H locs) (hl : lv_has ls 5 [(0, .ref (ad x0)), (1, .int x1), (2, .int x2), (3, .int x3)]) (hf : f_X12_tourOf_75 ag15 ag27 x0 x1 x2 x3  M0 = some q), W p l e (rmD 2) s m args below meth c H locs 0 0 (MQ below (QI D cA ad A q M0) args s 0 0 A) (F0 m 75 ls []) := by
    intro x0 x1 x2 x3  ag15 hg15 ag27 hg27 H locs ls hW hl hf
    unfold f_X12_tourOf_75 at hf
    refine lv_iload_n hx hb dX12_tourOf_75 rfl (lv_at hl 1 rfl) ?_
    refine lv_istore_n (lv' := [(1, .int x1), (0, .ref (ad x0)), (2, .int x2), (3, .int x3)]) hx hb dX12_tourOf_76 rfl hl (by decide) rfl (fun ls hl => ?_)
    refine lv_iinc (v := (x3 + (1 : Int32))) (lv' := [(3, .int (x3 + (1 : Int32))), (1, .int x1), (0, .ref (ad x0)), (2, .int x2)]) hx hb dX12_tourOf_77 hl (k := 3) rfl rfl (by decide) rfl (fun ls hl => ?_)
    refine lv_goto (tgt := 27) hx hb dX12_tourOf_80 (by decide) ?_
    exact hg27 x1 (x3 + (1 : Int32)) _ _ _ hW (lv_sub hl [2, 1, 3, 0] rfl) hf
  have J52 : ∀ (x0 : Nat) (x1 : Int32) (x2 : Int32) (x3 : Int32) (y0 : Int32) (y1 : Int32) (ag15 : Int32 × Int32 → Option Int32) (hg15 : ∀ (x1 : Int32) (x2 : Int32) (H : Heap) (locs : List Loc) (ls : Array Slot) (_ : Wd D cA ad A s M0 H locs) (_ : lv_has ls 5 [(0, .ref (ad x0)), (1, .int x1), (2, .int x2)]) (_ : ag15 (x1, x2) = some q), W p l e (rmD 2) s m args below meth c H locs 0 0 (MQ below (QI D cA ad A q M0) args s 0 0 A) (F0 m 15 ls [])) (ag27 : Int32 × Int32 → Option Int32) (hg27 : ∀ (x1 : Int32) (x3 : Int32) (H : Heap) (locs : List Loc) (ls : Array Slot) (_ : Wd D cA ad A s M0 H locs) (_ : lv_has ls 5 [(0, .ref (ad x0)), (1, .int x1), (2, .int x2), (3, .int x3)]) (_ : ag27 (x1, x3) = some q), W p l e (rmD 2) s m args below meth c H locs 0 0 (MQ below (QI D cA ad A q M0) args s 0 0 A) (F0 m 27 ls [])) (H : Heap) (locs : List Loc) (ls : Array Slot) (hW : Wd D cA ad A s M0 H locs) (hl : lv_has ls 5 [(0, .ref (ad x0)), (1, .int x1), (2, .int x2), (3, .int x3)]) (hf : f_X12_tourOf_52 ag15 ag27 x0 x1 x2 x3 y0 y1 M0 = some q), W p l e (rmD 2) s m args below meth c H locs 0 0 (MQ below (QI D cA ad A q M0) args s 0 0 A) (F0 m 52 ls [.int y1, .int y0]) := by
    intro x0 x1 x2 x3 y0 y1 ag15 hg15 ag27 hg27 H locs ls hW hl hf
    unfold f_X12_tourOf_52 at hf
    refine lv_iadd hx hb dX12_tourOf_52 ?_
    refine lv_istore (lv' := [(4, .int (y0 + y1)), (0, .ref (ad x0)), (1, .int x1), (2, .int x2), (3, .int x3)]) hx hb dX12_tourOf_53 hl (by decide) rfl (fun ls hl => ?_)
    refine lv_iload hx hb dX12_tourOf_55 (lv_at hl 0 rfl) ?_
    refine lv_iload_n hx hb dX12_tourOf_57 rfl (lv_at hl 2 rfl) ?_
    refine lv_icmp_ge (tgt := 75) hx hb dX12_tourOf_58 (by decide) (fun c58 => ?_) (fun c58 => ?_)
    · have hf := it c58 hf
      exact J75 x0 x1 x2 x3 ag15 hg15 ag27 hg27 _ _ _ hW (lv_sub hl [1, 2, 3, 4] rfl) hf
    · have hf := ie c58 hf
      refine lv_aload_n hx hb dX12_tourOf_61 rfl (lv_at hl 1 rfl) ?_
      refine lv_iload_n hx hb dX12_tourOf_62 rfl (lv_at hl 3 rfl) ?_
      refine lv_iload_n hx hb dX12_tourOf_63 rfl (lv_at hl 4 rfl) ?_
      obtain ⟨q2, hq2, hf⟩ := ob hf
      refine k_vI hC hK hW cfX12 (c_X12_isAll l hAd (cv_s hq2).2) (cv_s hq2).1 my_X12_isAll wI_X12_isAll wQ_X12_isAll wM_X12_156 ⟨Nat.le_of_ble_eq_true rfl, Nat.le_of_ble_eq_true rfl⟩ rfl hl.1 rfl (Nat.le_of_ble_eq_true rfl) ⟨Nat.zero_le _, Nat.zero_le _⟩ dX12_tourOf_64 (fun H locs hW => ?_)
      refine lv_if_eq (tgt := 75) hx hb dX12_tourOf_67 (by decide) (fun c67 => ?_) (fun c67 => ?_)
      · have hf := it c67 hf
        exact J75 x0 x1 x2 x3 ag15 hg15 ag27 hg27 _ _ _ hW (lv_sub hl [1, 2, 3, 4] rfl) hf
      · have hf := ie c67 hf
        refine lv_iload hx hb dX12_tourOf_70 (lv_at hl 0 rfl) ?_
        refine lv_goto (tgt := 76) hx hb dX12_tourOf_72 (by decide) ?_
        refine lv_istore_n (lv' := [(1, .int (y0 + y1)), (4, .int (y0 + y1)), (0, .ref (ad x0)), (2, .int x2), (3, .int x3)]) hx hb dX12_tourOf_76 rfl hl (by decide) rfl (fun ls hl => ?_)
        refine lv_iinc (v := (x3 + (1 : Int32))) (lv' := [(3, .int (x3 + (1 : Int32))), (1, .int (y0 + y1)), (4, .int (y0 + y1)), (0, .ref (ad x0)), (2, .int x2)]) hx hb dX12_tourOf_77 hl (k := 4) rfl rfl (by decide) rfl (fun ls hl => ?_)
        refine lv_goto (tgt := 27) hx hb dX12_tourOf_80 (by decide) ?_
        exact hg27 (y0 + y1) (x3 + (1 : Int32)) _ _ _ hW (lv_sub hl [3, 1, 4, 0] rfl) hf
  have B27 : ∀ (x0 : Nat) (x2 : Int32) (x1 : Int32) (x3 : Int32) (ag15 : Int32 × Int32 → Option Int32) (hg15 : ∀ (x1 : Int32) (x2 : Int32) (H : Heap) (locs : List Loc) (ls : Array Slot) (_ : Wd D cA ad A s M0 H locs) (_ : lv_has ls 5 [(0, .ref (ad x0)), (1, .int x1), (2, .int x2)]) (_ : ag15 (x1, x2) = some q), W p l e (rmD 2) s m args below meth c H locs 0 0 (MQ below (QI D cA ad A q M0) args s 0 0 A) (F0 m 15 ls [])) (ag27 : Int32 × Int32 → Option Int32) (hg27 : ∀ (x1 : Int32) (x3 : Int32) (H : Heap) (locs : List Loc) (ls : Array Slot) (_ : Wd D cA ad A s M0 H locs) (_ : lv_has ls 5 [(0, .ref (ad x0)), (1, .int x1), (2, .int x2), (3, .int x3)]) (_ : ag27 (x1, x3) = some q), W p l e (rmD 2) s m args below meth c H locs 0 0 (MQ below (QI D cA ad A q M0) args s 0 0 A) (F0 m 27 ls [])) (H : Heap) (locs : List Loc) (ls : Array Slot) (hW : Wd D cA ad A s M0 H locs) (hl : lv_has ls 5 [(0, .ref (ad x0)), (1, .int x1), (2, .int x2), (3, .int x3)]) (hf : f_X12_tourOf_27b ag15 x0 x2 M0 ag27 x1 x3 = some q), W p l e (rmD 2) s m args below meth c H locs 0 0 (MQ below (QI D cA ad A q M0) args s 0 0 A) (F0 m 27 ls []) := by
    intro x0 x2 x1 x3 ag15 hg15 ag27 hg27 H locs ls hW hl hf
    unfold f_X12_tourOf_27b at hf
    refine lv_iload_n hx hb dX12_tourOf_27 rfl (lv_at hl 2 rfl) ?_
    refine lv_iload_n hx hb dX12_tourOf_28 rfl (lv_at hl 3 rfl) ?_
    refine lv_iadd hx hb dX12_tourOf_29 ?_
    refine lv_aload_n hx hb dX12_tourOf_30 rfl (lv_at hl 0 rfl) ?_
    obtain ⟨r5, hr5, hf⟩ := ob hf
    refine r_gR hC hK hW cfX12 (by decide) wF_X12_13 rfl hr5 dX12_tourOf_31 ?_
    refine lv_iconst (v := (0 : Int32)) hx hb dX12_tourOf_34 (by decide) ?_
    obtain ⟨v6, hv6, hf⟩ := ob hf
    refine r_aI hC hK hW hv6 dX12_tourOf_35 ?_
    refine lv_icmp_ge (tgt := 83) hx hb dX12_tourOf_36 (by decide) (fun c36 => ?_) (fun c36 => ?_)
    · have hf := it c36 hf
      refine lv_iinc (v := (x2 + (1 : Int32))) (lv' := [(2, .int (x2 + (1 : Int32))), (0, .ref (ad x0)), (1, .int x1), (3, .int x3)]) hx hb dX12_tourOf_83 hl (k := 2) rfl rfl (by decide) rfl (fun ls hl => ?_)
      refine lv_goto (tgt := 15) hx hb dX12_tourOf_86 (by decide) ?_
      exact hg15 x1 (x2 + (1 : Int32)) _ _ _ hW (lv_sub hl [1, 2, 0] rfl) hf
    · have hf := ie c36 hf
      refine lv_iload_n hx hb dX12_tourOf_39 rfl (lv_at hl 2 rfl) ?_
      refine lv_iload_n hx hb dX12_tourOf_40 rfl (lv_at hl 3 rfl) ?_
      refine lv_iadd hx hb dX12_tourOf_41 ?_
      refine lv_iload_n hx hb dX12_tourOf_42 rfl (lv_at hl 2 rfl) ?_
      refine lv_iload_n hx hb dX12_tourOf_43 rfl (lv_at hl 3 rfl) ?_
      refine lv_icmp_ge (tgt := 51) hx hb dX12_tourOf_44 (by decide) (fun c44 => ?_) (fun c44 => ?_)
      · have hf := it c44 hf
        refine lv_iload_n hx hb dX12_tourOf_51 rfl (lv_at hl 3 rfl) ?_
        exact J52 x0 x1 x2 x3 (x2 + x3) x3 ag15 hg15 ag27 hg27 _ _ _ hW (lv_sub hl [0, 1, 2, 3] rfl) hf
      · have hf := ie c44 hf
        refine lv_iload_n hx hb dX12_tourOf_47 rfl (lv_at hl 2 rfl) ?_
        refine lv_goto (tgt := 52) hx hb dX12_tourOf_48 (by decide) ?_
        exact J52 x0 x1 x2 x3 (x2 + x3) x2 ag15 hg15 ag27 hg27 _ _ _ hW (lv_sub hl [0, 1, 2, 3] rfl) hf
  have J27 : ∀ (x0 : Nat) (x2 : Int32) (x1 : Int32) (x3 : Int32) (ag15 : Int32 × Int32 → Option Int32) (hg15 : ∀ (x1 : Int32) (x2 : Int32) (H : Heap) (locs : List Loc) (ls : Array Slot) (_ : Wd D cA ad A s M0 H locs) (_ : lv_has ls 5 [(0, .ref (ad x0)), (1, .int x1), (2, .int x2)]) (_ : ag15 (x1, x2) = some q), W p l e (rmD 2) s m args below meth c H locs 0 0 (MQ below (QI D cA ad A q M0) args s 0 0 A) (F0 m 15 ls [])) (H : Heap) (locs : List Loc) (ls : Array Slot) (hW : Wd D cA ad A s M0 H locs) (hl : lv_has ls 5 [(0, .ref (ad x0)), (1, .int x1), (2, .int x2), (3, .int x3)]) (hf : f_X12_tourOf_27 ag15 x0 x2 M0 x1 x3 = some q), W p l e (rmD 2) s m args below meth c H locs 0 0 (MQ below (QI D cA ad A q M0) args s 0 0 A) (F0 m 27 ls []) := by
    intro x0 x2 x1 x3 ag15 hg15 H locs ls hW hl hf
    unfold f_X12_tourOf_27 at hf
    have key : ∀ (n : Nat) (x1 : Int32) (x3 : Int32) (H : Heap) (locs : List Loc) (ls : Array Slot) (hW : Wd D cA ad A s M0 H locs) (hl : lv_has ls 5 [(0, .ref (ad x0)), (1, .int x1), (2, .int x2), (3, .int x3)]) (hf : loopF (fun ag s => f_X12_tourOf_27b ag15 x0 x2 M0 ag s.1 s.2) n (x1, x3) = some q), W p l e (rmD 2) s m args below meth c H locs 0 0 (MQ below (QI D cA ad A q M0) args s 0 0 A) (F0 m 27 ls []) := by
      intro n
      induction n with
      | zero => intro x1 x3 H locs ls hW hl hf; exact nomatch (show (none : Option _) = some _ from hf)
      | succ n ih => intro x1 x3 H locs ls hW hl hf; exact B27 x0 x2 x1 x3 ag15 hg15 _ ih H locs ls hW hl hf
    exact key FU x1 x3 H locs ls hW hl hf
  have B15 : ∀ (x0 : Nat) (x1 : Int32) (x2 : Int32)  (ag15 : Int32 × Int32 → Option Int32) (hg15 : ∀ (x1 : Int32) (x2 : Int32) (H : Heap) (locs : List Loc) (ls : Array Slot) (_ : Wd D cA ad A s M0 H locs) (_ : lv_has ls 5 [(0, .ref (ad x0)), (1, .int x1), (2, .int x2)]) (_ : ag15 (x1, x2) = some q), W p l e (rmD 2) s m args below meth c H locs 0 0 (MQ below (QI D cA ad A q M0) args s 0 0 A) (F0 m 15 ls [])) (H : Heap) (locs : List Loc) (ls : Array Slot) (hW : Wd D cA ad A s M0 H locs) (hl : lv_has ls 5 [(0, .ref (ad x0)), (1, .int x1), (2, .int x2)]) (hf : f_X12_tourOf_15b  x0 M0 ag15 x1 x2 = some q), W p l e (rmD 2) s m args below meth c H locs 0 0 (MQ below (QI D cA ad A q M0) args s 0 0 A) (F0 m 15 ls []) := by
    intro x0 x1 x2  ag15 hg15 H locs ls hW hl hf
    unfold f_X12_tourOf_15b at hf
    refine lv_iload_n hx hb dX12_tourOf_15 rfl (lv_at hl 2 rfl) ?_
    refine lv_aload_n hx hb dX12_tourOf_16 rfl (lv_at hl 0 rfl) ?_
    obtain ⟨r9, hr9, hf⟩ := ob hf
    refine r_gR hC hK hW cfX12 (by decide) wF_X12_13 rfl hr9 dX12_tourOf_17 ?_
    refine lv_iconst (v := (0 : Int32)) hx hb dX12_tourOf_20 (by decide) ?_
    obtain ⟨v10, hv10, hf⟩ := ob hf
    refine r_aI hC hK hW hv10 dX12_tourOf_21 ?_
    refine lv_icmp_ge (tgt := 89) hx hb dX12_tourOf_22 (by decide) (fun c22 => ?_) (fun c22 => ?_)
    · have hf := it c22 hf
      refine lv_iload_n hx hb dX12_tourOf_89 rfl (lv_at hl 1 rfl) ?_
      exact r_iretP hC hr hlk hW hf dX12_tourOf_90
    · have hf := ie c22 hf
      refine lv_iconst (v := (0 : Int32)) hx hb dX12_tourOf_25 (by decide) ?_
      refine lv_istore_n (lv' := [(3, .int (0 : Int32)), (0, .ref (ad x0)), (1, .int x1), (2, .int x2)]) hx hb dX12_tourOf_26 rfl hl (by decide) rfl (fun ls hl => ?_)
      exact J27 x0 x2 x1 (0 : Int32) ag15 hg15 _ _ _ hW (lv_sub hl [1, 2, 3, 0] rfl) hf
  have J15 : ∀ (x0 : Nat) (x1 : Int32) (x2 : Int32)  (H : Heap) (locs : List Loc) (ls : Array Slot) (hW : Wd D cA ad A s M0 H locs) (hl : lv_has ls 5 [(0, .ref (ad x0)), (1, .int x1), (2, .int x2)]) (hf : f_X12_tourOf_15  x0 M0 x1 x2 = some q), W p l e (rmD 2) s m args below meth c H locs 0 0 (MQ below (QI D cA ad A q M0) args s 0 0 A) (F0 m 15 ls []) := by
    intro x0 x1 x2  H locs ls hW hl hf
    unfold f_X12_tourOf_15 at hf
    have key : ∀ (n : Nat) (x1 : Int32) (x2 : Int32) (H : Heap) (locs : List Loc) (ls : Array Slot) (hW : Wd D cA ad A s M0 H locs) (hl : lv_has ls 5 [(0, .ref (ad x0)), (1, .int x1), (2, .int x2)]) (hf : loopF (fun ag s => f_X12_tourOf_15b  x0 M0 ag s.1 s.2) n (x1, x2) = some q), W p l e (rmD 2) s m args below meth c H locs 0 0 (MQ below (QI D cA ad A q M0) args s 0 0 A) (F0 m 15 ls []) := by
      intro n
      induction n with
      | zero => intro x1 x2 H locs ls hW hl hf; exact nomatch (show (none : Option _) = some _ from hf)
      | succ n ih => intro x1 x2 H locs ls hW hl hf; exact B15 x0 x1 x2  _ ih H locs ls hW hl hf
    exact key FU x1 x2 H locs ls hW hl hf
  have hf := hf0
  unfold f_X12_tourOf at hf
  refine lv_aload_n hx hb dX12_tourOf_0 rfl (lv_at hl 0 rfl) ?_
  obtain ⟨q12, hq12, hf⟩ := ob hf
  refine k_vI hC hK hW cfX12 (c_X12_isEnough l hAd (cv_s hq12).2) (cv_s hq12).1 my_X12_isEnough wI_X12_isEnough wQ_X12_isEnough wM_X12_153 ⟨Nat.le_of_ble_eq_true rfl, Nat.le_of_ble_eq_true rfl⟩ rfl hl.1 rfl (Nat.le_of_ble_eq_true rfl) ⟨Nat.zero_le _, Nat.zero_le _⟩ dX12_tourOf_1 (fun H locs hW => ?_)
  refine lv_if_ne (tgt := 10) hx hb dX12_tourOf_4 (by decide) (fun c4 => ?_) (fun c4 => ?_)
  · have hf := ie c4 hf
    refine lv_bipush (v := (99 : Int32)) hx hb dX12_tourOf_10 (by decide) ?_
    refine lv_istore_n (lv' := [(1, .int (99 : Int32)), (0, .ref (ad a0))]) hx hb dX12_tourOf_12 rfl hl (by decide) rfl (fun ls hl => ?_)
    refine lv_iconst (v := (0 : Int32)) hx hb dX12_tourOf_13 (by decide) ?_
    refine lv_istore_n (lv' := [(2, .int (0 : Int32)), (1, .int (99 : Int32)), (0, .ref (ad a0))]) hx hb dX12_tourOf_14 rfl hl (by decide) rfl (fun ls hl => ?_)
    exact J15 a0 (99 : Int32) (0 : Int32) _ _ _ hW (lv_sub hl [2, 1, 0] rfl) hf
  · have hf := it c4 hf
    refine lv_bipush (v := (-9 : Int32)) hx hb dX12_tourOf_7 (by decide) ?_
    exact r_iretP hC hr hlk hW hf dX12_tourOf_9
set_option maxHeartbeats 4000000 in
set_option maxRecDepth 100000 in
theorem c_X12_swapOf (l : Launch) {D : va_G} {cA : Nat → ClassId} {ad : Nat → Nat} {A : Nat → Prop} (hAd : AdOk ad A) {a0 : Nat} {M0 : Mem} {q : (Int32 × Mem)} (hf0 : f_X12_swapOf a0 M0 = some q) : Met l yX12_swapOf (wd yX12_swapOf cX12_swapOf 6 (some .int)) (rmD 3) (PcW D cA ad [.ref (ad a0)] M0) (QI D cA ad A q.1 q.2) 0 0 A := by
  refine mk_met (own := RX12) (by decide +kernel) rfl (Nat.le_of_ble_eq_true rfl) ?_
  intro p e s m args below meth c hC hr hlk hK H locs ls hW hl
  have hx := hC.1
  have hb := hC.2.1
  have hl : lv_has ls 6 [(0, .ref (ad a0))] := hl
  have J85 : ∀ (x0 : Nat) (x1 : Int32) (x3 : Int32) (x4 : Int32) (y0 : Int32) (M : Mem) (ag10 : Int32 × Int32 × Int32 × Mem → Option (Int32 × Mem)) (hg10 : ∀ (x1 : Int32) (x2 : Int32) (x3 : Int32) (M : Mem) (H : Heap) (locs : List Loc) (ls : Array Slot) (_ : Wd D cA ad A s M H locs) (_ : lv_has ls 6 [(0, .ref (ad x0)), (1, .int x1), (2, .int x2), (3, .int x3)]) (_ : ag10 (x1, x2, x3, M) = some q), W p l e (rmD 3) s m args below meth c H locs 0 0 (MQ below (QI D cA ad A q.1 q.2) args s 0 0 A) (F0 m 10 ls [])) (ag31 : Int32 × Int32 × Int32 × Mem → Option (Int32 × Mem)) (hg31 : ∀ (x1 : Int32) (x2 : Int32) (x4 : Int32) (M : Mem) (H : Heap) (locs : List Loc) (ls : Array Slot) (_ : Wd D cA ad A s M H locs) (_ : lv_has ls 6 [(0, .ref (ad x0)), (1, .int x1), (2, .int x2), (3, .int x3), (4, .int x4)]) (_ : ag31 (x1, x2, x4, M) = some q), W p l e (rmD 3) s m args below meth c H locs 0 0 (MQ below (QI D cA ad A q.1 q.2) args s 0 0 A) (F0 m 31 ls [])) (H : Heap) (locs : List Loc) (ls : Array Slot) (hW : Wd D cA ad A s M H locs) (hl : lv_has ls 6 [(0, .ref (ad x0)), (1, .int x1), (3, .int x3), (4, .int x4)]) (hf : f_X12_swapOf_85 ag10 ag31 x0 x1 x3 x4 y0 M = some q), W p l e (rmD 3) s m args below meth c H locs 0 0 (MQ below (QI D cA ad A q.1 q.2) args s 0 0 A) (F0 m 85 ls [.int y0]) := by
    intro x0 x1 x3 x4 y0 M ag10 hg10 ag31 hg31 H locs ls hW hl hf
    unfold f_X12_swapOf_85 at hf
    refine lv_istore_n (lv' := [(2, .int y0), (0, .ref (ad x0)), (1, .int x1), (3, .int x3), (4, .int x4)]) hx hb dX12_swapOf_85 rfl hl (by decide) rfl (fun ls hl => ?_)
    refine lv_aload_n hx hb dX12_swapOf_86 rfl (lv_at hl 1 rfl) ?_
    refine lv_iload_n hx hb dX12_swapOf_87 rfl (lv_at hl 3 rfl) ?_
    refine lv_iload hx hb dX12_swapOf_88 (lv_at hl 4 rfl) ?_
    obtain ⟨q2, hq2, hf⟩ := ob hf
    refine k_vV hC hK hW cfX12 (c_X12_trades l hAd (cv_s hq2).2) (cv_s hq2).1 my_X12_trades wI_X12_trades wQ_X12_trades wM_X12_162 ⟨Nat.le_of_ble_eq_true rfl, Nat.le_of_ble_eq_true rfl⟩ rfl hl.1 rfl (Nat.le_of_ble_eq_true rfl) ⟨Nat.zero_le _, Nat.zero_le _⟩ dX12_swapOf_90 (fun H locs hW => ?_)
    refine lv_iinc (v := (x4 + (1 : Int32))) (lv' := [(4, .int (x4 + (1 : Int32))), (2, .int y0), (0, .ref (ad x0)), (1, .int x1), (3, .int x3)]) hx hb dX12_swapOf_93 hl (k := 4) rfl rfl (by decide) rfl (fun ls hl => ?_)
    refine lv_goto (tgt := 31) hx hb dX12_swapOf_96 (by decide) ?_
    exact hg31 x1 y0 (x4 + (1 : Int32)) q2 _ _ _ hW (lv_sub hl [2, 3, 1, 4, 0] rfl) hf
  have J72 : ∀ (x0 : Nat) (x2 : Int32) (x3 : Int32) (x4 : Int32) (x5 : Int32) (y0 : Int32) (M : Mem) (ag10 : Int32 × Int32 × Int32 × Mem → Option (Int32 × Mem)) (hg10 : ∀ (x1 : Int32) (x2 : Int32) (x3 : Int32) (M : Mem) (H : Heap) (locs : List Loc) (ls : Array Slot) (_ : Wd D cA ad A s M H locs) (_ : lv_has ls 6 [(0, .ref (ad x0)), (1, .int x1), (2, .int x2), (3, .int x3)]) (_ : ag10 (x1, x2, x3, M) = some q), W p l e (rmD 3) s m args below meth c H locs 0 0 (MQ below (QI D cA ad A q.1 q.2) args s 0 0 A) (F0 m 10 ls [])) (ag31 : Int32 × Int32 × Int32 × Mem → Option (Int32 × Mem)) (hg31 : ∀ (x1 : Int32) (x2 : Int32) (x4 : Int32) (M : Mem) (H : Heap) (locs : List Loc) (ls : Array Slot) (_ : Wd D cA ad A s M H locs) (_ : lv_has ls 6 [(0, .ref (ad x0)), (1, .int x1), (2, .int x2), (3, .int x3), (4, .int x4)]) (_ : ag31 (x1, x2, x4, M) = some q), W p l e (rmD 3) s m args below meth c H locs 0 0 (MQ below (QI D cA ad A q.1 q.2) args s 0 0 A) (F0 m 31 ls [])) (H : Heap) (locs : List Loc) (ls : Array Slot) (hW : Wd D cA ad A s M H locs) (hl : lv_has ls 6 [(0, .ref (ad x0)), (2, .int x2), (3, .int x3), (4, .int x4), (5, .int x5)]) (hf : f_X12_swapOf_72 ag10 ag31 x0 x2 x3 x4 x5 y0 M = some q), W p l e (rmD 3) s m args below meth c H locs 0 0 (MQ below (QI D cA ad A q.1 q.2) args s 0 0 A) (F0 m 72 ls [.int y0]) := by
    intro x0 x2 x3 x4 x5 y0 M ag10 hg10 ag31 hg31 H locs ls hW hl hf
    unfold f_X12_swapOf_72 at hf
    refine lv_istore_n (lv' := [(1, .int y0), (0, .ref (ad x0)), (2, .int x2), (3, .int x3), (4, .int x4), (5, .int x5)]) hx hb dX12_swapOf_72 rfl hl (by decide) rfl (fun ls hl => ?_)
    refine lv_iload hx hb dX12_swapOf_73 (lv_at hl 5 rfl) ?_
    refine lv_iload_n hx hb dX12_swapOf_75 rfl (lv_at hl 2 rfl) ?_
    refine lv_icmp_ge (tgt := 84) hx hb dX12_swapOf_76 (by decide) (fun c76 => ?_) (fun c76 => ?_)
    · have hf := it c76 hf
      refine lv_iload_n hx hb dX12_swapOf_84 rfl (lv_at hl 2 rfl) ?_
      exact J85 x0 y0 x3 x4 x2 M ag10 hg10 ag31 hg31 _ _ _ hW (lv_sub hl [1, 0, 3, 4] rfl) hf
    · have hf := ie c76 hf
      refine lv_iload hx hb dX12_swapOf_79 (lv_at hl 5 rfl) ?_
      refine lv_goto (tgt := 85) hx hb dX12_swapOf_81 (by decide) ?_
      exact J85 x0 y0 x3 x4 x5 M ag10 hg10 ag31 hg31 _ _ _ hW (lv_sub hl [1, 0, 3, 4] rfl) hf
  have B31 : ∀ (x0 : Nat) (x3 : Int32) (x1 : Int32) (x2 : Int32) (x4 : Int32) (M : Mem) (ag10 : Int32 × Int32 × Int32 × Mem → Option (Int32 × Mem)) (hg10 : ∀ (x1 : Int32) (x2 : Int32) (x3 : Int32) (M : Mem) (H : Heap) (locs : List Loc) (ls : Array Slot) (_ : Wd D cA ad A s M H locs) (_ : lv_has ls 6 [(0, .ref (ad x0)), (1, .int x1), (2, .int x2), (3, .int x3)]) (_ : ag10 (x1, x2, x3, M) = some q), W p l e (rmD 3) s m args below meth c H locs 0 0 (MQ below (QI D cA ad A q.1 q.2) args s 0 0 A) (F0 m 10 ls [])) (ag31 : Int32 × Int32 × Int32 × Mem → Option (Int32 × Mem)) (hg31 : ∀ (x1 : Int32) (x2 : Int32) (x4 : Int32) (M : Mem) (H : Heap) (locs : List Loc) (ls : Array Slot) (_ : Wd D cA ad A s M H locs) (_ : lv_has ls 6 [(0, .ref (ad x0)), (1, .int x1), (2, .int x2), (3, .int x3), (4, .int x4)]) (_ : ag31 (x1, x2, x4, M) = some q), W p l e (rmD 3) s m args below meth c H locs 0 0 (MQ below (QI D cA ad A q.1 q.2) args s 0 0 A) (F0 m 31 ls [])) (H : Heap) (locs : List Loc) (ls : Array Slot) (hW : Wd D cA ad A s M H locs) (hl : lv_has ls 6 [(0, .ref (ad x0)), (1, .int x1), (2, .int x2), (3, .int x3), (4, .int x4)]) (hf : f_X12_swapOf_31b ag10 x0 x3 ag31 x1 x2 x4 M = some q), W p l e (rmD 3) s m args below meth c H locs 0 0 (MQ below (QI D cA ad A q.1 q.2) args s 0 0 A) (F0 m 31 ls []) := by
    intro x0 x3 x1 x2 x4 M ag10 hg10 ag31 hg31 H locs ls hW hl hf
    unfold f_X12_swapOf_31b at hf
    refine lv_iload hx hb dX12_swapOf_31 (lv_at hl 4 rfl) ?_
    refine lv_aload_n hx hb dX12_swapOf_33 rfl (lv_at hl 0 rfl) ?_
    obtain ⟨r7, hr7, hf⟩ := ob hf
    refine r_gR hC hK hW cfX12 (by decide) wF_X12_13 rfl hr7 dX12_swapOf_34 ?_
    refine lv_iconst (v := (1 : Int32)) hx hb dX12_swapOf_37 (by decide) ?_
    obtain ⟨v8, hv8, hf⟩ := ob hf
    refine r_aI hC hK hW hv8 dX12_swapOf_38 ?_
    refine lv_icmp_ge (tgt := 99) hx hb dX12_swapOf_39 (by decide) (fun c39 => ?_) (fun c39 => ?_)
    · have hf := it c39 hf
      refine lv_iinc (v := (x3 + (1 : Int32))) (lv' := [(3, .int (x3 + (1 : Int32))), (0, .ref (ad x0)), (1, .int x1), (2, .int x2), (4, .int x4)]) hx hb dX12_swapOf_99 hl (k := 3) rfl rfl (by decide) rfl (fun ls hl => ?_)
      refine lv_goto (tgt := 10) hx hb dX12_swapOf_102 (by decide) ?_
      exact hg10 x1 x2 (x3 + (1 : Int32)) M _ _ _ hW (lv_sub hl [1, 2, 3, 0] rfl) hf
    · have hf := ie c39 hf
      refine lv_aload_n hx hb dX12_swapOf_42 rfl (lv_at hl 0 rfl) ?_
      refine lv_iload_n hx hb dX12_swapOf_43 rfl (lv_at hl 3 rfl) ?_
      refine lv_iload hx hb dX12_swapOf_44 (lv_at hl 4 rfl) ?_
      obtain ⟨q9, hq9, hf⟩ := ob hf
      refine k_vV hC hK hW cfX12 (c_X12_trades l hAd (cv_s hq9).2) (cv_s hq9).1 my_X12_trades wI_X12_trades wQ_X12_trades wM_X12_162 ⟨Nat.le_of_ble_eq_true rfl, Nat.le_of_ble_eq_true rfl⟩ rfl hl.1 rfl (Nat.le_of_ble_eq_true rfl) ⟨Nat.zero_le _, Nat.zero_le _⟩ dX12_swapOf_46 (fun H locs hW => ?_)
      refine lv_aload_n hx hb dX12_swapOf_49 rfl (lv_at hl 0 rfl) ?_
      obtain ⟨q10, hq10, hf⟩ := ob hf
      refine k_vI hC hK hW cfX12 (c_X12_tourOf l hAd (cv_s hq10).2) (cv_s hq10).1 my_X12_tourOf wI_X12_tourOf wQ_X12_tourOf wM_X12_159 ⟨Nat.le_of_ble_eq_true rfl, Nat.le_of_ble_eq_true rfl⟩ rfl hl.1 rfl (Nat.le_of_ble_eq_true rfl) ⟨Nat.zero_le _, Nat.zero_le _⟩ dX12_swapOf_50 (fun H locs hW => ?_)
      refine lv_istore (lv' := [(5, .int q10), (0, .ref (ad x0)), (1, .int x1), (2, .int x2), (3, .int x3), (4, .int x4)]) hx hb dX12_swapOf_53 hl (by decide) rfl (fun ls hl => ?_)
      refine lv_iload hx hb dX12_swapOf_55 (lv_at hl 0 rfl) ?_
      refine lv_iload_n hx hb dX12_swapOf_57 rfl (lv_at hl 3 rfl) ?_
      refine lv_icmp_ge (tgt := 71) hx hb dX12_swapOf_58 (by decide) (fun c58 => ?_) (fun c58 => ?_)
      · have hf := it c58 hf
        refine lv_iload_n hx hb dX12_swapOf_71 rfl (lv_at hl 2 rfl) ?_
        exact J72 x0 x2 x3 x4 q10 x1 q9 ag10 hg10 ag31 hg31 _ _ _ hW (lv_sub hl [1, 3, 4, 5, 0] rfl) hf
      · have hf := ie c58 hf
        refine lv_bipush (v := (10 : Int32)) hx hb dX12_swapOf_61 (by decide) ?_
        refine lv_iload_n hx hb dX12_swapOf_63 rfl (lv_at hl 4 rfl) ?_
        refine lv_imul hx hb dX12_swapOf_64 ?_
        refine lv_iload hx hb dX12_swapOf_65 (lv_at hl 5 rfl) ?_
        refine lv_iadd hx hb dX12_swapOf_67 ?_
        refine lv_goto (tgt := 72) hx hb dX12_swapOf_68 (by decide) ?_
        exact J72 x0 x2 x3 x4 q10 (((10 : Int32) * x3) + x4) q9 ag10 hg10 ag31 hg31 _ _ _ hW (lv_sub hl [1, 3, 4, 5, 0] rfl) hf
  have J31 : ∀ (x0 : Nat) (x3 : Int32) (x1 : Int32) (x2 : Int32) (x4 : Int32) (M : Mem) (ag10 : Int32 × Int32 × Int32 × Mem → Option (Int32 × Mem)) (hg10 : ∀ (x1 : Int32) (x2 : Int32) (x3 : Int32) (M : Mem) (H : Heap) (locs : List Loc) (ls : Array Slot) (_ : Wd D cA ad A s M H locs) (_ : lv_has ls 6 [(0, .ref (ad x0)), (1, .int x1), (2, .int x2), (3, .int x3)]) (_ : ag10 (x1, x2, x3, M) = some q), W p l e (rmD 3) s m args below meth c H locs 0 0 (MQ below (QI D cA ad A q.1 q.2) args s 0 0 A) (F0 m 10 ls [])) (H : Heap) (locs : List Loc) (ls : Array Slot) (hW : Wd D cA ad A s M H locs) (hl : lv_has ls 6 [(0, .ref (ad x0)), (1, .int x1), (2, .int x2), (3, .int x3), (4, .int x4)]) (hf : f_X12_swapOf_31 ag10 x0 x3 x1 x2 x4 M = some q), W p l e (rmD 3) s m args below meth c H locs 0 0 (MQ below (QI D cA ad A q.1 q.2) args s 0 0 A) (F0 m 31 ls []) := by
    intro x0 x3 x1 x2 x4 M ag10 hg10 H locs ls hW hl hf
    unfold f_X12_swapOf_31 at hf
    have key : ∀ (n : Nat) (x1 : Int32) (x2 : Int32) (x4 : Int32) (M : Mem) (H : Heap) (locs : List Loc) (ls : Array Slot) (hW : Wd D cA ad A s M H locs) (hl : lv_has ls 6 [(0, .ref (ad x0)), (1, .int x1), (2, .int x2), (3, .int x3), (4, .int x4)]) (hf : loopF (fun ag s => f_X12_swapOf_31b ag10 x0 x3 ag s.1 s.2.1 s.2.2.1 s.2.2.2) n (x1, x2, x4, M) = some q), W p l e (rmD 3) s m args below meth c H locs 0 0 (MQ below (QI D cA ad A q.1 q.2) args s 0 0 A) (F0 m 31 ls []) := by
      intro n
      induction n with
      | zero => intro x1 x2 x4 M H locs ls hW hl hf; exact nomatch (show (none : Option _) = some _ from hf)
      | succ n ih => intro x1 x2 x4 M H locs ls hW hl hf; exact B31 x0 x3 x1 x2 x4 M ag10 hg10 _ ih H locs ls hW hl hf
    exact key FU x1 x2 x4 M H locs ls hW hl hf
  have B10 : ∀ (x0 : Nat) (x1 : Int32) (x2 : Int32) (x3 : Int32) (M : Mem)  (ag10 : Int32 × Int32 × Int32 × Mem → Option (Int32 × Mem)) (hg10 : ∀ (x1 : Int32) (x2 : Int32) (x3 : Int32) (M : Mem) (H : Heap) (locs : List Loc) (ls : Array Slot) (_ : Wd D cA ad A s M H locs) (_ : lv_has ls 6 [(0, .ref (ad x0)), (1, .int x1), (2, .int x2), (3, .int x3)]) (_ : ag10 (x1, x2, x3, M) = some q), W p l e (rmD 3) s m args below meth c H locs 0 0 (MQ below (QI D cA ad A q.1 q.2) args s 0 0 A) (F0 m 10 ls [])) (H : Heap) (locs : List Loc) (ls : Array Slot) (hW : Wd D cA ad A s M H locs) (hl : lv_has ls 6 [(0, .ref (ad x0)), (1, .int x1), (2, .int x2), (3, .int x3)]) (hf : f_X12_swapOf_10b  x0 ag10 x1 x2 x3 M = some q), W p l e (rmD 3) s m args below meth c H locs 0 0 (MQ below (QI D cA ad A q.1 q.2) args s 0 0 A) (F0 m 10 ls []) := by
    intro x0 x1 x2 x3 M  ag10 hg10 H locs ls hW hl hf
    unfold f_X12_swapOf_10b at hf
    refine lv_iload_n hx hb dX12_swapOf_10 rfl (lv_at hl 3 rfl) ?_
    refine lv_aload_n hx hb dX12_swapOf_11 rfl (lv_at hl 0 rfl) ?_
    obtain ⟨r13, hr13, hf⟩ := ob hf
    refine r_gR hC hK hW cfX12 (by decide) wF_X12_13 rfl hr13 dX12_swapOf_12 ?_
    refine lv_iconst (v := (1 : Int32)) hx hb dX12_swapOf_15 (by decide) ?_
    obtain ⟨v14, hv14, hf⟩ := ob hf
    refine r_aI hC hK hW hv14 dX12_swapOf_16 ?_
    refine lv_icmp_ge (tgt := 105) hx hb dX12_swapOf_17 (by decide) (fun c17 => ?_) (fun c17 => ?_)
    · have hf := it c17 hf
      refine lv_iload_n hx hb dX12_swapOf_105 rfl (lv_at hl 1 rfl) ?_
      exact r_iret hC hr hlk hW hf dX12_swapOf_106
    · have hf := ie c17 hf
      refine lv_iload_n hx hb dX12_swapOf_20 rfl (lv_at hl 2 rfl) ?_
      refine lv_bipush (v := (-9 : Int32)) hx hb dX12_swapOf_21 (by decide) ?_
      refine lv_icmp_eq (tgt := 105) hx hb dX12_swapOf_23 (by decide) (fun c23 => ?_) (fun c23 => ?_)
      · have hf := it c23 hf
        refine lv_iload_n hx hb dX12_swapOf_105 rfl (lv_at hl 1 rfl) ?_
        exact r_iret hC hr hlk hW hf dX12_swapOf_106
      · have hf := ie c23 hf
        refine lv_iload_n hx hb dX12_swapOf_26 rfl (lv_at hl 3 rfl) ?_
        refine lv_iconst (v := (1 : Int32)) hx hb dX12_swapOf_27 (by decide) ?_
        refine lv_iadd hx hb dX12_swapOf_28 ?_
        refine lv_istore (lv' := [(4, .int (x3 + (1 : Int32))), (0, .ref (ad x0)), (1, .int x1), (2, .int x2), (3, .int x3)]) hx hb dX12_swapOf_29 hl (by decide) rfl (fun ls hl => ?_)
        exact J31 x0 x3 x1 x2 (x3 + (1 : Int32)) M ag10 hg10 _ _ _ hW (lv_sub hl [1, 2, 3, 4, 0] rfl) hf
  have J10 : ∀ (x0 : Nat) (x1 : Int32) (x2 : Int32) (x3 : Int32) (M : Mem)  (H : Heap) (locs : List Loc) (ls : Array Slot) (hW : Wd D cA ad A s M H locs) (hl : lv_has ls 6 [(0, .ref (ad x0)), (1, .int x1), (2, .int x2), (3, .int x3)]) (hf : f_X12_swapOf_10  x0 x1 x2 x3 M = some q), W p l e (rmD 3) s m args below meth c H locs 0 0 (MQ below (QI D cA ad A q.1 q.2) args s 0 0 A) (F0 m 10 ls []) := by
    intro x0 x1 x2 x3 M  H locs ls hW hl hf
    unfold f_X12_swapOf_10 at hf
    have key : ∀ (n : Nat) (x1 : Int32) (x2 : Int32) (x3 : Int32) (M : Mem) (H : Heap) (locs : List Loc) (ls : Array Slot) (hW : Wd D cA ad A s M H locs) (hl : lv_has ls 6 [(0, .ref (ad x0)), (1, .int x1), (2, .int x2), (3, .int x3)]) (hf : loopF (fun ag s => f_X12_swapOf_10b  x0 ag s.1 s.2.1 s.2.2.1 s.2.2.2) n (x1, x2, x3, M) = some q), W p l e (rmD 3) s m args below meth c H locs 0 0 (MQ below (QI D cA ad A q.1 q.2) args s 0 0 A) (F0 m 10 ls []) := by
      intro n
      induction n with
      | zero => intro x1 x2 x3 M H locs ls hW hl hf; exact nomatch (show (none : Option _) = some _ from hf)
      | succ n ih => intro x1 x2 x3 M H locs ls hW hl hf; exact B10 x0 x1 x2 x3 M  _ ih H locs ls hW hl hf
    exact key FU x1 x2 x3 M H locs ls hW hl hf
  have hf := hf0
  unfold f_X12_swapOf at hf
  refine lv_bipush (v := (-9 : Int32)) hx hb dX12_swapOf_0 (by decide) ?_
  refine lv_istore_n (lv' := [(1, .int (-9 : Int32)), (0, .ref (ad a0))]) hx hb dX12_swapOf_2 rfl hl (by decide) rfl (fun ls hl => ?_)
  refine lv_aload_n hx hb dX12_swapOf_3 rfl (lv_at hl 1 rfl) ?_
  obtain ⟨q16, hq16, hf⟩ := ob hf
  refine k_vI hC hK hW cfX12 (c_X12_tourOf l hAd (cv_s hq16).2) (cv_s hq16).1 my_X12_tourOf wI_X12_tourOf wQ_X12_tourOf wM_X12_159 ⟨Nat.le_of_ble_eq_true rfl, Nat.le_of_ble_eq_true rfl⟩ rfl hl.1 rfl (Nat.le_of_ble_eq_true rfl) ⟨Nat.zero_le _, Nat.zero_le _⟩ dX12_swapOf_4 (fun H locs hW => ?_)
  refine lv_istore_n (lv' := [(2, .int q16), (1, .int (-9 : Int32)), (0, .ref (ad a0))]) hx hb dX12_swapOf_7 rfl hl (by decide) rfl (fun ls hl => ?_)
  refine lv_iconst (v := (0 : Int32)) hx hb dX12_swapOf_8 (by decide) ?_
  refine lv_istore_n (lv' := [(3, .int (0 : Int32)), (2, .int q16), (1, .int (-9 : Int32)), (0, .ref (ad a0))]) hx hb dX12_swapOf_9 rfl hl (by decide) rfl (fun ls hl => ?_)
  exact J10 a0 (-9 : Int32) q16 (0 : Int32) M0 _ _ _ hW (lv_sub hl [3, 2, 1, 0] rfl) hf
set_option maxHeartbeats 4000000 in
set_option maxRecDepth 100000 in
theorem c_X12_now (l : Launch) {D : va_G} {cA : Nat → ClassId} {ad : Nat → Nat} {A : Nat → Prop} (hAd : AdOk ad A) {a0 : Nat} {a1 : Int32} {M0 : Mem} {q : (Int32 × Mem)} (hf0 : f_X12_now a0 a1 M0 = some q) : Met l yX12_now (wd yX12_now cX12_now 4 (some .int)) (rmD 4) (PcW D cA ad [.ref (ad a0), .int a1] M0) (QI D cA ad A q.1 q.2) 0 0 A := by
  refine mk_met (own := RX12) (by decide +kernel) rfl (Nat.le_of_ble_eq_true rfl) ?_
  intro p e s m args below meth c hC hr hlk hK H locs ls hW hl
  have hx := hC.1
  have hb := hC.2.1
  have hl : lv_has ls 4 [(0, .ref (ad a0)), (1, .int a1)] := hl
  have B25 : ∀ (x0 : Nat) (x1 : Int32) (M : Mem) (x2 : Int32) (x3 : Int32)  (ag25 : Int32 × Int32 → Option (Int32 × Mem)) (hg25 : ∀ (x2 : Int32) (x3 : Int32) (H : Heap) (locs : List Loc) (ls : Array Slot) (_ : Wd D cA ad A s M H locs) (_ : lv_has ls 4 [(0, .ref (ad x0)), (1, .int x1), (2, .int x2), (3, .int x3)]) (_ : ag25 (x2, x3) = some q), W p l e (rmD 4) s m args below meth c H locs 0 0 (MQ below (QI D cA ad A q.1 q.2) args s 0 0 A) (F0 m 25 ls [])) (H : Heap) (locs : List Loc) (ls : Array Slot) (hW : Wd D cA ad A s M H locs) (hl : lv_has ls 4 [(0, .ref (ad x0)), (1, .int x1), (2, .int x2), (3, .int x3)]) (hf : f_X12_now_25b  x0 x1 M ag25 x2 x3 = some q), W p l e (rmD 4) s m args below meth c H locs 0 0 (MQ below (QI D cA ad A q.1 q.2) args s 0 0 A) (F0 m 25 ls []) := by
    intro x0 x1 M x2 x3  ag25 hg25 H locs ls hW hl hf
    unfold f_X12_now_25b at hf
    refine lv_iload_n hx hb dX12_now_25 rfl (lv_at hl 3 rfl) ?_
    refine lv_aload_n hx hb dX12_now_26 rfl (lv_at hl 0 rfl) ?_
    obtain ⟨r7, hr7, hf⟩ := ob hf
    refine r_gR hC hK hW cfX12 (by decide) wF_X12_13 rfl hr7 dX12_now_27 ?_
    refine lv_iconst (v := (2 : Int32)) hx hb dX12_now_30 (by decide) ?_
    obtain ⟨v8, hv8, hf⟩ := ob hf
    refine r_aI hC hK hW hv8 dX12_now_31 ?_
    refine lv_icmp_ge (tgt := 52) hx hb dX12_now_32 (by decide) (fun c32 => ?_) (fun c32 => ?_)
    · have hf := it c32 hf
      refine lv_iload_n hx hb dX12_now_52 rfl (lv_at hl 1 rfl) ?_
      refine lv_if_ne (tgt := 65) hx hb dX12_now_53 (by decide) (fun c53 => ?_) (fun c53 => ?_)
      · have hf := ie c53 hf
        refine lv_iload_n hx hb dX12_now_65 rfl (lv_at hl 2 rfl) ?_
        exact r_iret hC hr hlk hW hf dX12_now_66
      · have hf := it c53 hf
        refine lv_aload_n hx hb dX12_now_56 rfl (lv_at hl 0 rfl) ?_
        obtain ⟨r9, hr9, hf⟩ := ob hf
        refine r_gR hC hK hW cfX12 (by decide) wF_X12_28 rfl hr9 dX12_now_57 ?_
        refine lv_iconst (v := (0 : Int32)) hx hb dX12_now_60 (by decide) ?_
        obtain ⟨v10, hv10, hf⟩ := ob hf
        refine r_aI hC hK hW hv10 dX12_now_61 ?_
        refine lv_goto (tgt := 66) hx hb dX12_now_62 (by decide) ?_
        exact r_iret hC hr hlk hW hf dX12_now_66
    · have hf := ie c32 hf
      refine lv_iload_n hx hb dX12_now_35 rfl (lv_at hl 2 rfl) ?_
      refine lv_aload_n hx hb dX12_now_36 rfl (lv_at hl 0 rfl) ?_
      obtain ⟨r11, hr11, hf⟩ := ob hf
      refine r_gR hC hK hW cfX12 (by decide) wF_X12_28 rfl hr11 dX12_now_37 ?_
      refine lv_iconst (v := (1 : Int32)) hx hb dX12_now_40 (by decide) ?_
      refine lv_iload_n hx hb dX12_now_41 rfl (lv_at hl 3 rfl) ?_
      refine lv_iadd hx hb dX12_now_42 ?_
      obtain ⟨v12, hv12, hf⟩ := ob hf
      refine r_aI hC hK hW hv12 dX12_now_43 ?_
      refine lv_iadd hx hb dX12_now_44 ?_
      refine lv_istore_n (lv' := [(2, .int (x2 + v12)), (0, .ref (ad x0)), (1, .int x1), (3, .int x3)]) hx hb dX12_now_45 rfl hl (by decide) rfl (fun ls hl => ?_)
      refine lv_iinc (v := (x3 + (1 : Int32))) (lv' := [(3, .int (x3 + (1 : Int32))), (2, .int (x2 + v12)), (0, .ref (ad x0)), (1, .int x1)]) hx hb dX12_now_46 hl (k := 3) rfl rfl (by decide) rfl (fun ls hl => ?_)
      refine lv_goto (tgt := 25) hx hb dX12_now_49 (by decide) ?_
      exact hg25 (x2 + v12) (x3 + (1 : Int32)) _ _ _ hW (lv_sub hl [2, 3, 1, 0] rfl) hf
  have J25 : ∀ (x0 : Nat) (x1 : Int32) (M : Mem) (x2 : Int32) (x3 : Int32)  (H : Heap) (locs : List Loc) (ls : Array Slot) (hW : Wd D cA ad A s M H locs) (hl : lv_has ls 4 [(0, .ref (ad x0)), (1, .int x1), (2, .int x2), (3, .int x3)]) (hf : f_X12_now_25  x0 x1 M x2 x3 = some q), W p l e (rmD 4) s m args below meth c H locs 0 0 (MQ below (QI D cA ad A q.1 q.2) args s 0 0 A) (F0 m 25 ls []) := by
    intro x0 x1 M x2 x3  H locs ls hW hl hf
    unfold f_X12_now_25 at hf
    have key : ∀ (n : Nat) (x2 : Int32) (x3 : Int32) (H : Heap) (locs : List Loc) (ls : Array Slot) (hW : Wd D cA ad A s M H locs) (hl : lv_has ls 4 [(0, .ref (ad x0)), (1, .int x1), (2, .int x2), (3, .int x3)]) (hf : loopF (fun ag s => f_X12_now_25b  x0 x1 M ag s.1 s.2) n (x2, x3) = some q), W p l e (rmD 4) s m args below meth c H locs 0 0 (MQ below (QI D cA ad A q.1 q.2) args s 0 0 A) (F0 m 25 ls []) := by
      intro n
      induction n with
      | zero => intro x2 x3 H locs ls hW hl hf; exact nomatch (show (none : Option _) = some _ from hf)
      | succ n ih => intro x2 x3 H locs ls hW hl hf; exact B25 x0 x1 M x2 x3  _ ih H locs ls hW hl hf
    exact key FU x2 x3 H locs ls hW hl hf
  have hf := hf0
  unfold f_X12_now at hf
  refine lv_aload_n hx hb dX12_now_0 rfl (lv_at hl 0 rfl) ?_
  refine lv_iconst (v := (0 : Int32)) hx hb dX12_now_1 (by decide) ?_
  obtain ⟨M19, hM19, hf⟩ := ob hf
  refine r_pI hC hK hAd hW cfX12 (by decide) wF_X12_65 rfl rfl rfl hM19 dX12_now_2 (fun H locs hW => ?_)
  refine lv_iload_n hx hb dX12_now_5 rfl (lv_at hl 1 rfl) ?_
  refine lv_iconst (v := (0 : Int32)) hx hb dX12_now_6 (by decide) ?_
  refine lv_iconst (v := (5 : Int32)) hx hb dX12_now_7 (by decide) ?_
  obtain ⟨q20, hq20, hf⟩ := ob hf
  refine k_sI hC hK hW (c_X12_in l hAd hq20) my_X12_in wS_X12_in wM_X12_69 ⟨Nat.le_of_ble_eq_true rfl, Nat.le_of_ble_eq_true rfl⟩ rfl hl.1 rfl (Nat.le_of_ble_eq_true rfl) ⟨Nat.zero_le _, Nat.zero_le _⟩ dX12_now_8 (fun H locs hW => ?_)
  refine lv_if_ne (tgt := 16) hx hb dX12_now_11 (by decide) (fun c11 => ?_) (fun c11 => ?_)
  · have hf := ie c11 hf
    refine lv_iload_n hx hb dX12_now_16 rfl (lv_at hl 1 rfl) ?_
    refine lv_iconst (v := (2 : Int32)) hx hb dX12_now_17 (by decide) ?_
    refine lv_icmp_ge (tgt := 67) hx hb dX12_now_18 (by decide) (fun c18 => ?_) (fun c18 => ?_)
    · have hf := it c18 hf
      refine lv_iload_n hx hb dX12_now_67 rfl (lv_at hl 1 rfl) ?_
      refine lv_iconst (v := (2 : Int32)) hx hb dX12_now_68 (by decide) ?_
      refine lv_icmp_ne (tgt := 79) hx hb dX12_now_69 (by decide) (fun c69 => ?_) (fun c69 => ?_)
      · have hf := ie c69 hf
        refine lv_iload_n hx hb dX12_now_79 rfl (lv_at hl 1 rfl) ?_
        refine lv_iconst (v := (3 : Int32)) hx hb dX12_now_80 (by decide) ?_
        refine lv_icmp_ne (tgt := 91) hx hb dX12_now_81 (by decide) (fun c81 => ?_) (fun c81 => ?_)
        · have hf := ie c81 hf
          refine lv_iload_n hx hb dX12_now_91 rfl (lv_at hl 1 rfl) ?_
          refine lv_iconst (v := (4 : Int32)) hx hb dX12_now_92 (by decide) ?_
          refine lv_icmp_ne (tgt := 103) hx hb dX12_now_93 (by decide) (fun c93 => ?_) (fun c93 => ?_)
          · have hf := ie c93 hf
            refine lv_aload_n hx hb dX12_now_103 rfl (lv_at hl 0 rfl) ?_
            obtain ⟨v21, hv21, hf⟩ := ob hf
            refine r_gI hC hK hW cfX12 (by decide) wF_X12_128 rfl hv21 dX12_now_104 ?_
            exact r_iret hC hr hlk hW hf dX12_now_107
          · have hf := it c93 hf
            refine lv_aload_n hx hb dX12_now_96 rfl (lv_at hl 0 rfl) ?_
            obtain ⟨q22, hq22, hf⟩ := ob hf
            refine k_vI hC hK hW cfX12 (c_X12_feeds l hAd (cv_s hq22).2) (cv_s hq22).1 my_X12_feeds wI_X12_feeds wQ_X12_feeds wM_X12_175 ⟨Nat.le_of_ble_eq_true rfl, Nat.le_of_ble_eq_true rfl⟩ rfl hl.1 rfl (Nat.le_of_ble_eq_true rfl) ⟨Nat.zero_le _, Nat.zero_le _⟩ dX12_now_97 (fun H locs hW => ?_)
            refine lv_goto (tgt := 107) hx hb dX12_now_100 (by decide) ?_
            exact r_iret hC hr hlk hW hf dX12_now_107
        · have hf := it c81 hf
          refine lv_aload_n hx hb dX12_now_84 rfl (lv_at hl 0 rfl) ?_
          obtain ⟨q23, hq23, hf⟩ := ob hf
          refine k_vI hC hK hW cfX12 (c_X12_swapOf l hAd (cv_s hq23).2) (cv_s hq23).1 my_X12_swapOf wI_X12_swapOf wQ_X12_swapOf wM_X12_172 ⟨Nat.le_of_ble_eq_true rfl, Nat.le_of_ble_eq_true rfl⟩ rfl hl.1 rfl (Nat.le_of_ble_eq_true rfl) ⟨Nat.zero_le _, Nat.zero_le _⟩ dX12_now_85 (fun H locs hW => ?_)
          refine lv_goto (tgt := 107) hx hb dX12_now_88 (by decide) ?_
          exact r_iret hC hr hlk hW hf dX12_now_107
      · have hf := it c69 hf
        refine lv_aload_n hx hb dX12_now_72 rfl (lv_at hl 0 rfl) ?_
        obtain ⟨q24, hq24, hf⟩ := ob hf
        refine k_vI hC hK hW cfX12 (c_X12_tourOf l hAd (cv_s hq24).2) (cv_s hq24).1 my_X12_tourOf wI_X12_tourOf wQ_X12_tourOf wM_X12_159 ⟨Nat.le_of_ble_eq_true rfl, Nat.le_of_ble_eq_true rfl⟩ rfl hl.1 rfl (Nat.le_of_ble_eq_true rfl) ⟨Nat.zero_le _, Nat.zero_le _⟩ dX12_now_73 (fun H locs hW => ?_)
        refine lv_goto (tgt := 107) hx hb dX12_now_76 (by decide) ?_
        exact r_iret hC hr hlk hW hf dX12_now_107
    · have hf := ie c18 hf
      refine lv_iconst (v := (0 : Int32)) hx hb dX12_now_21 (by decide) ?_
      refine lv_istore_n (lv' := [(2, .int (0 : Int32)), (0, .ref (ad a0)), (1, .int a1)]) hx hb dX12_now_22 rfl hl (by decide) rfl (fun ls hl => ?_)
      refine lv_iconst (v := (0 : Int32)) hx hb dX12_now_23 (by decide) ?_
      refine lv_istore_n (lv' := [(3, .int (0 : Int32)), (2, .int (0 : Int32)), (0, .ref (ad a0)), (1, .int a1)]) hx hb dX12_now_24 rfl hl (by decide) rfl (fun ls hl => ?_)
      exact J25 a0 a1 M19 (0 : Int32) (0 : Int32) _ _ _ hW (lv_sub hl [2, 3, 1, 0] rfl) hf
  · have hf := it c11 hf
    refine lv_iconst (v := (-1 : Int32)) hx hb dX12_now_14 (by decide) ?_
    exact r_iret hC hr hlk hW hf dX12_now_15
set_option maxHeartbeats 4000000 in
set_option maxRecDepth 100000 in
theorem c_X12_number (l : Launch) {D : va_G} {cA : Nat → ClassId} {ad : Nat → Nat} {A : Nat → Prop} (hAd : AdOk ad A) {a0 : Nat} {a1 : Int32} {a2 : Int32} {M0 : Mem} {q : (Int32 × Mem)} (hf0 : f_X12_number a0 a1 a2 M0 = some q) : Met l yX12_number (wd yX12_number cX12_number 3 (some .int)) (rmD 3) (PcW D cA ad [.ref (ad a0), .int a1, .int a2] M0) (QI D cA ad A q.1 q.2) 0 0 A := by
  refine mk_met (own := RX12) (by decide +kernel) rfl (Nat.le_of_ble_eq_true rfl) ?_
  intro p e s m args below meth c hC hr hlk hK H locs ls hW hl
  have hx := hC.1
  have hb := hC.2.1
  have hl : lv_has ls 3 [(0, .ref (ad a0)), (1, .int a1), (2, .int a2)] := hl
  have J26 : ∀  (y0 : Nat) (y1 : Int32) (M : Mem)  (H : Heap) (locs : List Loc) (ls : Array Slot) (hW : Wd D cA ad A s M H locs) (hl : lv_has ls 3 []) (hf : f_X12_number_26   y0 y1 M = some q), W p l e (rmD 3) s m args below meth c H locs 0 0 (MQ below (QI D cA ad A q.1 q.2) args s 0 0 A) (F0 m 26 ls [.int y1, .ref (ad y0)]) := by
    intro  y0 y1 M  H locs ls hW hl hf
    unfold f_X12_number_26 at hf
    obtain ⟨q2, hq2, hf⟩ := ob hf
    refine k_vI hC hK hW cfX12 (c_X12_takesToken l hAd (cv_s hq2).2) (cv_s hq2).1 my_X12_takesToken wI_X12_takesToken wQ_X12_takesToken wM_X12_102 ⟨Nat.le_of_ble_eq_true rfl, Nat.le_of_ble_eq_true rfl⟩ rfl hl.1 rfl (Nat.le_of_ble_eq_true rfl) ⟨Nat.zero_le _, Nat.zero_le _⟩ dX12_number_26 (fun H locs hW => ?_)
    exact r_iret hC hr hlk hW hf dX12_number_29
  have J25 : ∀  (y0 : Nat) (M : Mem)  (H : Heap) (locs : List Loc) (ls : Array Slot) (hW : Wd D cA ad A s M H locs) (hl : lv_has ls 3 []) (hf : f_X12_number_25   y0 M = some q), W p l e (rmD 3) s m args below meth c H locs 0 0 (MQ below (QI D cA ad A q.1 q.2) args s 0 0 A) (F0 m 25 ls [.ref (ad y0)]) := by
    intro  y0 M  H locs ls hW hl hf
    unfold f_X12_number_25 at hf
    refine lv_iconst (v := (0 : Int32)) hx hb dX12_number_25 (by decide) ?_
    exact J26 y0 (0 : Int32) M _ _ _ hW (lv_sub hl [] rfl) hf
  have hf := hf0
  unfold f_X12_number at hf
  refine lv_aload_n hx hb dX12_number_0 rfl (lv_at hl 0 rfl) ?_
  refine lv_aload_n hx hb dX12_number_1 rfl (lv_at hl 0 rfl) ?_
  obtain ⟨v6, hv6, hf⟩ := ob hf
  refine r_gI hC hK hW cfX12 (by decide) wF_X12_89 rfl hv6 dX12_number_2 ?_
  refine lv_iconst (v := (2 : Int32)) hx hb dX12_number_5 (by decide) ?_
  refine lv_icmp_ne (tgt := 25) hx hb dX12_number_6 (by decide) (fun c6 => ?_) (fun c6 => ?_)
  · have hf := ie c6 hf
    exact J25 a0 M0 _ _ _ hW (lv_sub hl [] rfl) hf
  · have hf := it c6 hf
    refine lv_aload_n hx hb dX12_number_9 rfl (lv_at hl 0 rfl) ?_
    obtain ⟨v7, hv7, hf⟩ := ob hf
    refine r_gI hC hK hW cfX12 (by decide) wF_X12_86 rfl hv7 dX12_number_10 ?_
    refine lv_iload_n hx hb dX12_number_13 rfl (lv_at hl 1 rfl) ?_
    refine lv_iload_n hx hb dX12_number_14 rfl (lv_at hl 2 rfl) ?_
    obtain ⟨q8, hq8, hf⟩ := ob hf
    refine k_sI hC hK hW (c_X12_in l hAd hq8) my_X12_in wS_X12_in wM_X12_69 ⟨Nat.le_of_ble_eq_true rfl, Nat.le_of_ble_eq_true rfl⟩ rfl hl.1 rfl (Nat.le_of_ble_eq_true rfl) ⟨Nat.zero_le _, Nat.zero_le _⟩ dX12_number_15 (fun H locs hW => ?_)
    refine lv_if_eq (tgt := 25) hx hb dX12_number_18 (by decide) (fun c18 => ?_) (fun c18 => ?_)
    · have hf := it c18 hf
      exact J25 a0 M0 _ _ _ hW (lv_sub hl [] rfl) hf
    · have hf := ie c18 hf
      refine lv_iconst (v := (1 : Int32)) hx hb dX12_number_21 (by decide) ?_
      refine lv_goto (tgt := 26) hx hb dX12_number_22 (by decide) ?_
      exact J26 a0 (1 : Int32) M0 _ _ _ hW (lv_sub hl [] rfl) hf
set_option maxHeartbeats 4000000 in
set_option maxRecDepth 100000 in
theorem c_X12_power (l : Launch) {D : va_G} {cA : Nat → ClassId} {ad : Nat → Nat} {A : Nat → Prop} (hAd : AdOk ad A) {a0 : Int32} {a1 : Int32} {M0 : Mem} {q : Int32} (hf0 : f_X12_power a0 a1 M0 = some q) : Met l yX12_power (wd yX12_power cX12_power 4 (some .int)) (rmD 0) (PcW D cA ad [.int a0, .int a1] M0) (QI D cA ad A q M0) 0 0 A := by
  refine mk_met (own := RX12) (by decide +kernel) rfl (Nat.le_of_ble_eq_true rfl) ?_
  intro p e s m args below meth c hC hr hlk hK H locs ls hW hl
  have hx := hC.1
  have hb := hC.2.1
  have hl : lv_has ls 4 [(0, .int a0), (1, .int a1)] := hl
  have B4 : ∀ (x0 : Int32) (x1 : Int32) (x2 : Int32) (x3 : Int32)  (ag4 : Int32 × Int32 → Option Int32) (hg4 : ∀ (x2 : Int32) (x3 : Int32) (H : Heap) (locs : List Loc) (ls : Array Slot) (_ : Wd D cA ad A s M0 H locs) (_ : lv_has ls 4 [(0, .int x0), (1, .int x1), (2, .int x2), (3, .int x3)]) (_ : ag4 (x2, x3) = some q), W p l e (rmD 0) s m args below meth c H locs 0 0 (MQ below (QI D cA ad A q M0) args s 0 0 A) (F0 m 4 ls [])) (H : Heap) (locs : List Loc) (ls : Array Slot) (hW : Wd D cA ad A s M0 H locs) (hl : lv_has ls 4 [(0, .int x0), (1, .int x1), (2, .int x2), (3, .int x3)]) (hf : f_X12_power_4b  x0 x1 M0 ag4 x2 x3 = some q), W p l e (rmD 0) s m args below meth c H locs 0 0 (MQ below (QI D cA ad A q M0) args s 0 0 A) (F0 m 4 ls []) := by
    intro x0 x1 x2 x3  ag4 hg4 H locs ls hW hl hf
    unfold f_X12_power_4b at hf
    refine lv_iload_n hx hb dX12_power_4 rfl (lv_at hl 3 rfl) ?_
    refine lv_iload_n hx hb dX12_power_5 rfl (lv_at hl 1 rfl) ?_
    refine lv_icmp_ge (tgt := 19) hx hb dX12_power_6 (by decide) (fun c6 => ?_) (fun c6 => ?_)
    · have hf := it c6 hf
      refine lv_iload_n hx hb dX12_power_19 rfl (lv_at hl 2 rfl) ?_
      exact r_iretP hC hr hlk hW hf dX12_power_20
    · have hf := ie c6 hf
      refine lv_iload_n hx hb dX12_power_9 rfl (lv_at hl 2 rfl) ?_
      refine lv_iload_n hx hb dX12_power_10 rfl (lv_at hl 0 rfl) ?_
      refine lv_imul hx hb dX12_power_11 ?_
      refine lv_istore_n (lv' := [(2, .int (x2 * x0)), (0, .int x0), (1, .int x1), (3, .int x3)]) hx hb dX12_power_12 rfl hl (by decide) rfl (fun ls hl => ?_)
      refine lv_iinc (v := (x3 + (1 : Int32))) (lv' := [(3, .int (x3 + (1 : Int32))), (2, .int (x2 * x0)), (0, .int x0), (1, .int x1)]) hx hb dX12_power_13 hl (k := 3) rfl rfl (by decide) rfl (fun ls hl => ?_)
      refine lv_goto (tgt := 4) hx hb dX12_power_16 (by decide) ?_
      exact hg4 (x2 * x0) (x3 + (1 : Int32)) _ _ _ hW (lv_sub hl [2, 3, 1, 0] rfl) hf
  have J4 : ∀ (x0 : Int32) (x1 : Int32) (x2 : Int32) (x3 : Int32)  (H : Heap) (locs : List Loc) (ls : Array Slot) (hW : Wd D cA ad A s M0 H locs) (hl : lv_has ls 4 [(0, .int x0), (1, .int x1), (2, .int x2), (3, .int x3)]) (hf : f_X12_power_4  x0 x1 M0 x2 x3 = some q), W p l e (rmD 0) s m args below meth c H locs 0 0 (MQ below (QI D cA ad A q M0) args s 0 0 A) (F0 m 4 ls []) := by
    intro x0 x1 x2 x3  H locs ls hW hl hf
    unfold f_X12_power_4 at hf
    have key : ∀ (n : Nat) (x2 : Int32) (x3 : Int32) (H : Heap) (locs : List Loc) (ls : Array Slot) (hW : Wd D cA ad A s M0 H locs) (hl : lv_has ls 4 [(0, .int x0), (1, .int x1), (2, .int x2), (3, .int x3)]) (hf : loopF (fun ag s => f_X12_power_4b  x0 x1 M0 ag s.1 s.2) n (x2, x3) = some q), W p l e (rmD 0) s m args below meth c H locs 0 0 (MQ below (QI D cA ad A q M0) args s 0 0 A) (F0 m 4 ls []) := by
      intro n
      induction n with
      | zero => intro x2 x3 H locs ls hW hl hf; exact nomatch (show (none : Option _) = some _ from hf)
      | succ n ih => intro x2 x3 H locs ls hW hl hf; exact B4 x0 x1 x2 x3  _ ih H locs ls hW hl hf
    exact key FU x2 x3 H locs ls hW hl hf
  have hf := hf0
  unfold f_X12_power at hf
  refine lv_iconst (v := (1 : Int32)) hx hb dX12_power_0 (by decide) ?_
  refine lv_istore_n (lv' := [(2, .int (1 : Int32)), (0, .int a0), (1, .int a1)]) hx hb dX12_power_1 rfl hl (by decide) rfl (fun ls hl => ?_)
  refine lv_iconst (v := (0 : Int32)) hx hb dX12_power_2 (by decide) ?_
  refine lv_istore_n (lv' := [(3, .int (0 : Int32)), (2, .int (1 : Int32)), (0, .int a0), (1, .int a1)]) hx hb dX12_power_3 rfl hl (by decide) rfl (fun ls hl => ?_)
  exact J4 a0 a1 (1 : Int32) (0 : Int32) _ _ _ hW (lv_sub hl [2, 3, 1, 0] rfl) hf
set_option maxHeartbeats 4000000 in
set_option maxRecDepth 100000 in
theorem c_X12_odds (l : Launch) {D : va_G} {cA : Nat → ClassId} {ad : Nat → Nat} {A : Nat → Prop} (hAd : AdOk ad A) {a0 : Nat} {a1 : Int32} {a2 : Int32} {a3 : Int32} {M0 : Mem} {q : (Int32 × Mem)} (hf0 : f_X12_odds a0 a1 a2 a3 M0 = some q) : Met l yX12_odds (wd yX12_odds cX12_odds 8 (some .int)) (rmD 2) (PcW D cA ad [.ref (ad a0), .int a1, .int a2, .int a3] M0) (QI D cA ad A q.1 q.2) 0 0 A := by
  refine mk_met (own := RX12) (by decide +kernel) rfl (Nat.le_of_ble_eq_true rfl) ?_
  intro p e s m args below meth c hC hr hlk hK H locs ls hW hl
  have hx := hC.1
  have hb := hC.2.1
  have hl : lv_has ls 8 [(0, .ref (ad a0)), (1, .int a1), (2, .int a2), (3, .int a3)] := hl
  have J85 : ∀ (x0 : Nat) (x1 : Int32) (x2 : Int32) (x3 : Int32) (x4 : Int32) (x5 : Int32) (x6 : Int32) (y0 : Int32) (M : Mem) (ag48 : Int32 × Int32 → Option (Int32 × Mem)) (hg48 : ∀ (x5 : Int32) (x6 : Int32) (H : Heap) (locs : List Loc) (ls : Array Slot) (_ : Wd D cA ad A s M H locs) (_ : lv_has ls 8 [(0, .ref (ad x0)), (1, .int x1), (2, .int x2), (3, .int x3), (4, .int x4), (5, .int x5), (6, .int x6)]) (_ : ag48 (x5, x6) = some q), W p l e (rmD 2) s m args below meth c H locs 0 0 (MQ below (QI D cA ad A q.1 q.2) args s 0 0 A) (F0 m 48 ls [])) (H : Heap) (locs : List Loc) (ls : Array Slot) (hW : Wd D cA ad A s M H locs) (hl : lv_has ls 8 [(0, .ref (ad x0)), (1, .int x1), (2, .int x2), (3, .int x3), (4, .int x4), (5, .int x5), (6, .int x6)]) (hf : f_X12_odds_85 ag48 x0 x1 x2 x3 x4 x5 x6 y0 M = some q), W p l e (rmD 2) s m args below meth c H locs 0 0 (MQ below (QI D cA ad A q.1 q.2) args s 0 0 A) (F0 m 85 ls [.int y0]) := by
    intro x0 x1 x2 x3 x4 x5 x6 y0 M ag48 hg48 H locs ls hW hl hf
    unfold f_X12_odds_85 at hf
    refine lv_istore (lv' := [(7, .int y0), (0, .ref (ad x0)), (1, .int x1), (2, .int x2), (3, .int x3), (4, .int x4), (5, .int x5), (6, .int x6)]) hx hb dX12_odds_85 hl (by decide) rfl (fun ls hl => ?_)
    refine lv_iload hx hb dX12_odds_87 (lv_at hl 6 rfl) ?_
    refine lv_iload hx hb dX12_odds_89 (lv_at hl 0 rfl) ?_
    refine lv_if_eq (tgt := 122) hx hb dX12_odds_91 (by decide) (fun c91 => ?_) (fun c91 => ?_)
    · have hf := it c91 hf
      refine lv_iconst (v := (0 : Int32)) hx hb dX12_odds_122 (by decide) ?_
      refine lv_iadd hx hb dX12_odds_123 ?_
      refine lv_istore (lv' := [(5, .int (x5 + (0 : Int32))), (7, .int y0), (0, .ref (ad x0)), (1, .int x1), (2, .int x2), (3, .int x3), (4, .int x4), (6, .int x6)]) hx hb dX12_odds_124 hl (by decide) rfl (fun ls hl => ?_)
      refine lv_iinc (v := (x6 + (1 : Int32))) (lv' := [(6, .int (x6 + (1 : Int32))), (5, .int (x5 + (0 : Int32))), (7, .int y0), (0, .ref (ad x0)), (1, .int x1), (2, .int x2), (3, .int x3), (4, .int x4)]) hx hb dX12_odds_126 hl (k := 7) rfl rfl (by decide) rfl (fun ls hl => ?_)
      refine lv_goto (tgt := 48) hx hb dX12_odds_129 (by decide) ?_
      exact hg48 (x5 + (0 : Int32)) (x6 + (1 : Int32)) _ _ _ hW (lv_sub hl [3, 4, 5, 6, 7, 1, 0] rfl) hf
    · have hf := ie c91 hf
      refine lv_iload_n hx hb dX12_odds_94 rfl (lv_at hl 2 rfl) ?_
      refine lv_iload hx hb dX12_odds_95 (lv_at hl 7 rfl) ?_
      obtain ⟨q5, hq5, hf⟩ := ob hf
      refine k_sI hC hK hW (c_X12_ones l hAd hq5) my_X12_ones wS_X12_ones wM_X12_187 ⟨Nat.le_of_ble_eq_true rfl, Nat.le_of_ble_eq_true rfl⟩ rfl hl.1 rfl (Nat.le_of_ble_eq_true rfl) ⟨Nat.zero_le _, Nat.zero_le _⟩ dX12_odds_97 (fun H locs hW => ?_)
      obtain ⟨q6, hq6, hf⟩ := ob hf
      refine k_sI hC hK hW (c_X12_power l hAd hq6) my_X12_power wS_X12_power wM_X12_190 ⟨Nat.le_of_ble_eq_true rfl, Nat.le_of_ble_eq_true rfl⟩ rfl hl.1 rfl (Nat.le_of_ble_eq_true rfl) ⟨Nat.zero_le _, Nat.zero_le _⟩ dX12_odds_100 (fun H locs hW => ?_)
      refine lv_bipush (v := (10 : Int32)) hx hb dX12_odds_103 (by decide) ?_
      refine lv_iload_n hx hb dX12_odds_105 rfl (lv_at hl 2 rfl) ?_
      refine lv_isub hx hb dX12_odds_106 ?_
      refine lv_iload hx hb dX12_odds_107 (lv_at hl 5 rfl) ?_
      refine lv_iload hx hb dX12_odds_109 (lv_at hl 7 rfl) ?_
      obtain ⟨q7, hq7, hf⟩ := ob hf
      refine k_sI hC hK hW (c_X12_ones l hAd hq7) my_X12_ones wS_X12_ones wM_X12_187 ⟨Nat.le_of_ble_eq_true rfl, Nat.le_of_ble_eq_true rfl⟩ rfl hl.1 rfl (Nat.le_of_ble_eq_true rfl) ⟨Nat.zero_le _, Nat.zero_le _⟩ dX12_odds_111 (fun H locs hW => ?_)
      refine lv_isub hx hb dX12_odds_114 ?_
      obtain ⟨q8, hq8, hf⟩ := ob hf
      refine k_sI hC hK hW (c_X12_power l hAd hq8) my_X12_power wS_X12_power wM_X12_190 ⟨Nat.le_of_ble_eq_true rfl, Nat.le_of_ble_eq_true rfl⟩ rfl hl.1 rfl (Nat.le_of_ble_eq_true rfl) ⟨Nat.zero_le _, Nat.zero_le _⟩ dX12_odds_115 (fun H locs hW => ?_)
      refine lv_imul hx hb dX12_odds_118 ?_
      refine lv_goto (tgt := 123) hx hb dX12_odds_119 (by decide) ?_
      refine lv_iadd hx hb dX12_odds_123 ?_
      refine lv_istore (lv' := [(5, .int (x5 + (q6 * q8))), (7, .int y0), (0, .ref (ad x0)), (1, .int x1), (2, .int x2), (3, .int x3), (4, .int x4), (6, .int x6)]) hx hb dX12_odds_124 hl (by decide) rfl (fun ls hl => ?_)
      refine lv_iinc (v := (x6 + (1 : Int32))) (lv' := [(6, .int (x6 + (1 : Int32))), (5, .int (x5 + (q6 * q8))), (7, .int y0), (0, .ref (ad x0)), (1, .int x1), (2, .int x2), (3, .int x3), (4, .int x4)]) hx hb dX12_odds_126 hl (k := 7) rfl rfl (by decide) rfl (fun ls hl => ?_)
      refine lv_goto (tgt := 48) hx hb dX12_odds_129 (by decide) ?_
      exact hg48 (x5 + (q6 * q8)) (x6 + (1 : Int32)) _ _ _ hW (lv_sub hl [3, 4, 5, 6, 7, 1, 0] rfl) hf
  have B48 : ∀ (x0 : Nat) (x1 : Int32) (x2 : Int32) (x3 : Int32) (x4 : Int32) (M : Mem) (x5 : Int32) (x6 : Int32)  (ag48 : Int32 × Int32 → Option (Int32 × Mem)) (hg48 : ∀ (x5 : Int32) (x6 : Int32) (H : Heap) (locs : List Loc) (ls : Array Slot) (_ : Wd D cA ad A s M H locs) (_ : lv_has ls 8 [(0, .ref (ad x0)), (1, .int x1), (2, .int x2), (3, .int x3), (4, .int x4), (5, .int x5), (6, .int x6)]) (_ : ag48 (x5, x6) = some q), W p l e (rmD 2) s m args below meth c H locs 0 0 (MQ below (QI D cA ad A q.1 q.2) args s 0 0 A) (F0 m 48 ls [])) (H : Heap) (locs : List Loc) (ls : Array Slot) (hW : Wd D cA ad A s M H locs) (hl : lv_has ls 8 [(0, .ref (ad x0)), (1, .int x1), (2, .int x2), (3, .int x3), (4, .int x4), (5, .int x5), (6, .int x6)]) (hf : f_X12_odds_48b  x0 x1 x2 x3 x4 M ag48 x5 x6 = some q), W p l e (rmD 2) s m args below meth c H locs 0 0 (MQ below (QI D cA ad A q.1 q.2) args s 0 0 A) (F0 m 48 ls []) := by
    intro x0 x1 x2 x3 x4 M x5 x6  ag48 hg48 H locs ls hW hl hf
    unfold f_X12_odds_48b at hf
    refine lv_iload hx hb dX12_odds_48 (lv_at hl 6 rfl) ?_
    refine lv_iconst (v := (1 : Int32)) hx hb dX12_odds_50 (by decide) ?_
    refine lv_iload hx hb dX12_odds_51 (lv_at hl 4 rfl) ?_
    refine lv_ishl hx hb dX12_odds_53 ?_
    refine lv_icmp_ge (tgt := 132) hx hb dX12_odds_54 (by decide) (fun c54 => ?_) (fun c54 => ?_)
    · have hf := it c54 hf
      refine lv_bipush (v := (10 : Int32)) hx hb dX12_odds_132 (by decide) ?_
      refine lv_iload hx hb dX12_odds_134 (lv_at hl 4 rfl) ?_
      obtain ⟨q19, hq19, hf⟩ := ob hf
      refine k_sI hC hK hW (c_X12_power l hAd hq19) my_X12_power wS_X12_power wM_X12_190 ⟨Nat.le_of_ble_eq_true rfl, Nat.le_of_ble_eq_true rfl⟩ rfl hl.1 rfl (Nat.le_of_ble_eq_true rfl) ⟨Nat.zero_le _, Nat.zero_le _⟩ dX12_odds_136 (fun H locs hW => ?_)
      refine lv_istore (lv' := [(6, .int q19), (0, .ref (ad x0)), (1, .int x1), (2, .int x2), (3, .int x3), (4, .int x4), (5, .int x5)]) hx hb dX12_odds_139 hl (by decide) rfl (fun ls hl => ?_)
      refine lv_iload hx hb dX12_odds_141 (lv_at hl 6 rfl) ?_
      refine lv_iload hx hb dX12_odds_143 (lv_at hl 0 rfl) ?_
      obtain ⟨q20, hq20, hf⟩ := ob hf
      refine k_sI hC hK hW (c_X12_gcd l hAd hq20) my_X12_gcd wS_X12_gcd wM_X12_193 ⟨Nat.le_of_ble_eq_true rfl, Nat.le_of_ble_eq_true rfl⟩ rfl hl.1 rfl (Nat.le_of_ble_eq_true rfl) ⟨Nat.zero_le _, Nat.zero_le _⟩ dX12_odds_145 (fun H locs hW => ?_)
      refine lv_istore (lv' := [(7, .int q20), (6, .int q19), (0, .ref (ad x0)), (1, .int x1), (2, .int x2), (3, .int x3), (4, .int x4), (5, .int x5)]) hx hb dX12_odds_148 hl (by decide) rfl (fun ls hl => ?_)
      refine lv_iload_n hx hb dX12_odds_150 rfl (lv_at hl 5 rfl) ?_
      refine lv_if_ne (tgt := 162) hx hb dX12_odds_151 (by decide) (fun c151 => ?_) (fun c151 => ?_)
      · have hf := ie c151 hf
        refine lv_iload hx hb dX12_odds_162 (lv_at hl 1 rfl) ?_
        refine lv_iload hx hb dX12_odds_164 (lv_at hl 0 rfl) ?_
        obtain ⟨v21, hv21, hf⟩ := ob hf
        refine r_div hC hv21 dX12_odds_166 ?_
        exact r_iret hC hr hlk hW hf dX12_odds_167
      · have hf := it c151 hf
        refine lv_iload hx hb dX12_odds_154 (lv_at hl 7 rfl) ?_
        refine lv_iload hx hb dX12_odds_156 (lv_at hl 0 rfl) ?_
        obtain ⟨v22, hv22, hf⟩ := ob hf
        refine r_div hC hv22 dX12_odds_158 ?_
        refine lv_goto (tgt := 167) hx hb dX12_odds_159 (by decide) ?_
        exact r_iret hC hr hlk hW hf dX12_odds_167
    · have hf := ie c54 hf
      refine lv_aload_n hx hb dX12_odds_57 rfl (lv_at hl 0 rfl) ?_
      obtain ⟨r23, hr23, hf⟩ := ob hf
      refine r_gR hC hK hW cfX12 (by decide) wF_X12_28 rfl hr23 dX12_odds_58 ?_
      refine lv_iconst (v := (0 : Int32)) hx hb dX12_odds_61 (by decide) ?_
      obtain ⟨v24, hv24, hf⟩ := ob hf
      refine r_aI hC hK hW hv24 dX12_odds_62 ?_
      refine lv_iload hx hb dX12_odds_63 (lv_at hl 6 rfl) ?_
      obtain ⟨q25, hq25, hf⟩ := ob hf
      refine k_sI hC hK hW (c_X12_ones l hAd hq25) my_X12_ones wS_X12_ones wM_X12_187 ⟨Nat.le_of_ble_eq_true rfl, Nat.le_of_ble_eq_true rfl⟩ rfl hl.1 rfl (Nat.le_of_ble_eq_true rfl) ⟨Nat.zero_le _, Nat.zero_le _⟩ dX12_odds_65 (fun H locs hW => ?_)
      refine lv_iadd hx hb dX12_odds_68 ?_
      refine lv_aload_n hx hb dX12_odds_69 rfl (lv_at hl 0 rfl) ?_
      obtain ⟨r26, hr26, hf⟩ := ob hf
      refine r_gR hC hK hW cfX12 (by decide) wF_X12_13 rfl hr26 dX12_odds_70 ?_
      refine lv_iconst (v := (0 : Int32)) hx hb dX12_odds_73 (by decide) ?_
      obtain ⟨v27, hv27, hf⟩ := ob hf
      refine r_aI hC hK hW hv27 dX12_odds_74 ?_
      obtain ⟨v28, hv28, hf⟩ := ob hf
      refine r_rem hC hv28 dX12_odds_75 ?_
      refine lv_iload_n hx hb dX12_odds_76 rfl (lv_at hl 2 rfl) ?_
      refine lv_icmp_ne (tgt := 84) hx hb dX12_odds_77 (by decide) (fun c77 => ?_) (fun c77 => ?_)
      · have hf := ie c77 hf
        refine lv_iconst (v := (0 : Int32)) hx hb dX12_odds_84 (by decide) ?_
        exact J85 x0 x1 x2 x3 x4 x5 x6 (0 : Int32) M ag48 hg48 _ _ _ hW (lv_sub hl [0, 1, 2, 3, 4, 5, 6] rfl) hf
      · have hf := it c77 hf
        refine lv_iconst (v := (1 : Int32)) hx hb dX12_odds_80 (by decide) ?_
        refine lv_goto (tgt := 85) hx hb dX12_odds_81 (by decide) ?_
        exact J85 x0 x1 x2 x3 x4 x5 x6 (1 : Int32) M ag48 hg48 _ _ _ hW (lv_sub hl [0, 1, 2, 3, 4, 5, 6] rfl) hf
  have J48 : ∀ (x0 : Nat) (x1 : Int32) (x2 : Int32) (x3 : Int32) (x4 : Int32) (M : Mem) (x5 : Int32) (x6 : Int32)  (H : Heap) (locs : List Loc) (ls : Array Slot) (hW : Wd D cA ad A s M H locs) (hl : lv_has ls 8 [(0, .ref (ad x0)), (1, .int x1), (2, .int x2), (3, .int x3), (4, .int x4), (5, .int x5), (6, .int x6)]) (hf : f_X12_odds_48  x0 x1 x2 x3 x4 M x5 x6 = some q), W p l e (rmD 2) s m args below meth c H locs 0 0 (MQ below (QI D cA ad A q.1 q.2) args s 0 0 A) (F0 m 48 ls []) := by
    intro x0 x1 x2 x3 x4 M x5 x6  H locs ls hW hl hf
    unfold f_X12_odds_48 at hf
    have key : ∀ (n : Nat) (x5 : Int32) (x6 : Int32) (H : Heap) (locs : List Loc) (ls : Array Slot) (hW : Wd D cA ad A s M H locs) (hl : lv_has ls 8 [(0, .ref (ad x0)), (1, .int x1), (2, .int x2), (3, .int x3), (4, .int x4), (5, .int x5), (6, .int x6)]) (hf : loopF (fun ag s => f_X12_odds_48b  x0 x1 x2 x3 x4 M ag s.1 s.2) n (x5, x6) = some q), W p l e (rmD 2) s m args below meth c H locs 0 0 (MQ below (QI D cA ad A q.1 q.2) args s 0 0 A) (F0 m 48 ls []) := by
      intro n
      induction n with
      | zero => intro x5 x6 H locs ls hW hl hf; exact nomatch (show (none : Option _) = some _ from hf)
      | succ n ih => intro x5 x6 H locs ls hW hl hf; exact B48 x0 x1 x2 x3 x4 M x5 x6  _ ih H locs ls hW hl hf
    exact key FU x5 x6 H locs ls hW hl hf
  have hf := hf0
  unfold f_X12_odds at hf
  refine lv_aload_n hx hb dX12_odds_0 rfl (lv_at hl 0 rfl) ?_
  refine lv_iconst (v := (0 : Int32)) hx hb dX12_odds_1 (by decide) ?_
  obtain ⟨M35, hM35, hf⟩ := ob hf
  refine r_pI hC hK hAd hW cfX12 (by decide) wF_X12_65 rfl rfl rfl hM35 dX12_odds_2 (fun H locs hW => ?_)
  refine lv_iload_n hx hb dX12_odds_5 rfl (lv_at hl 1 rfl) ?_
  refine lv_iconst (v := (0 : Int32)) hx hb dX12_odds_6 (by decide) ?_
  refine lv_bipush (v := (10 : Int32)) hx hb dX12_odds_7 (by decide) ?_
  obtain ⟨q36, hq36, hf⟩ := ob hf
  refine k_sI hC hK hW (c_X12_in l hAd hq36) my_X12_in wS_X12_in wM_X12_69 ⟨Nat.le_of_ble_eq_true rfl, Nat.le_of_ble_eq_true rfl⟩ rfl hl.1 rfl (Nat.le_of_ble_eq_true rfl) ⟨Nat.zero_le _, Nat.zero_le _⟩ dX12_odds_9 (fun H locs hW => ?_)
  refine lv_if_eq (tgt := 32) hx hb dX12_odds_12 (by decide) (fun c12 => ?_) (fun c12 => ?_)
  · have hf := it c12 hf
    refine lv_iconst (v := (-1 : Int32)) hx hb dX12_odds_32 (by decide) ?_
    exact r_iret hC hr hlk hW hf dX12_odds_33
  · have hf := ie c12 hf
    refine lv_aload_n hx hb dX12_odds_15 rfl (lv_at hl 0 rfl) ?_
    refine lv_iload_n hx hb dX12_odds_16 rfl (lv_at hl 2 rfl) ?_
    obtain ⟨q37, hq37, hf⟩ := ob hf
    refine k_vI hC hK hW cfX12 (c_X12_isSeat l hAd (cv_s hq37).2) (cv_s hq37).1 my_X12_isSeat wI_X12_isSeat wQ_X12_isSeat wM_X12_181 ⟨Nat.le_of_ble_eq_true rfl, Nat.le_of_ble_eq_true rfl⟩ rfl hl.1 rfl (Nat.le_of_ble_eq_true rfl) ⟨Nat.zero_le _, Nat.zero_le _⟩ dX12_odds_17 (fun H locs hW => ?_)
    refine lv_if_eq (tgt := 32) hx hb dX12_odds_20 (by decide) (fun c20 => ?_) (fun c20 => ?_)
    · have hf := it c20 hf
      refine lv_iconst (v := (-1 : Int32)) hx hb dX12_odds_32 (by decide) ?_
      exact r_iret hC hr hlk hW hf dX12_odds_33
    · have hf := ie c20 hf
      refine lv_iload_n hx hb dX12_odds_23 rfl (lv_at hl 3 rfl) ?_
      refine lv_iconst (v := (0 : Int32)) hx hb dX12_odds_24 (by decide) ?_
      refine lv_iconst (v := (1 : Int32)) hx hb dX12_odds_25 (by decide) ?_
      obtain ⟨q38, hq38, hf⟩ := ob hf
      refine k_sI hC hK hW (c_X12_in l hAd hq38) my_X12_in wS_X12_in wM_X12_69 ⟨Nat.le_of_ble_eq_true rfl, Nat.le_of_ble_eq_true rfl⟩ rfl hl.1 rfl (Nat.le_of_ble_eq_true rfl) ⟨Nat.zero_le _, Nat.zero_le _⟩ dX12_odds_26 (fun H locs hW => ?_)
      refine lv_if_ne (tgt := 34) hx hb dX12_odds_29 (by decide) (fun c29 => ?_) (fun c29 => ?_)
      · have hf := ie c29 hf
        refine lv_aload_n hx hb dX12_odds_34 rfl (lv_at hl 0 rfl) ?_
        obtain ⟨r39, hr39, hf⟩ := ob hf
        refine r_gR hC hK hW cfX12 (by decide) wF_X12_13 rfl hr39 dX12_odds_35 ?_
        refine lv_iconst (v := (1 : Int32)) hx hb dX12_odds_38 (by decide) ?_
        obtain ⟨v40, hv40, hf⟩ := ob hf
        refine r_aI hC hK hW hv40 dX12_odds_39 ?_
        refine lv_istore (lv' := [(4, .int v40), (0, .ref (ad a0)), (1, .int a1), (2, .int a2), (3, .int a3)]) hx hb dX12_odds_40 hl (by decide) rfl (fun ls hl => ?_)
        refine lv_iconst (v := (0 : Int32)) hx hb dX12_odds_42 (by decide) ?_
        refine lv_istore (lv' := [(5, .int (0 : Int32)), (4, .int v40), (0, .ref (ad a0)), (1, .int a1), (2, .int a2), (3, .int a3)]) hx hb dX12_odds_43 hl (by decide) rfl (fun ls hl => ?_)
        refine lv_iconst (v := (0 : Int32)) hx hb dX12_odds_45 (by decide) ?_
        refine lv_istore (lv' := [(6, .int (0 : Int32)), (5, .int (0 : Int32)), (4, .int v40), (0, .ref (ad a0)), (1, .int a1), (2, .int a2), (3, .int a3)]) hx hb dX12_odds_46 hl (by decide) rfl (fun ls hl => ?_)
        exact J48 a0 a1 a2 a3 v40 M35 (0 : Int32) (0 : Int32) _ _ _ hW (lv_sub hl [3, 4, 5, 6, 2, 1, 0] rfl) hf
      · have hf := it c29 hf
        refine lv_iconst (v := (-1 : Int32)) hx hb dX12_odds_32 (by decide) ?_
        exact r_iret hC hr hlk hW hf dX12_odds_33
set_option maxHeartbeats 4000000 in
set_option maxRecDepth 100000 in
theorem c_X12_puts (l : Launch) {D : va_G} {cA : Nat → ClassId} {ad : Nat → Nat} {A : Nat → Prop} (hAd : AdOk ad A) {a0 : Nat} {a1 : Int32} {M0 : Mem} {q : (Int32 × Mem)} (hf0 : f_X12_puts a0 a1 M0 = some q) : Met l yX12_puts (wd yX12_puts cX12_puts 7 (some .int)) (rmD 3) (PcW D cA ad [.ref (ad a0), .int a1] M0) (QI D cA ad A q.1 q.2) 0 0 A := by
  refine mk_met (own := RX12) (by decide +kernel) rfl (Nat.le_of_ble_eq_true rfl) ?_
  intro p e s m args below meth c hC hr hlk hK H locs ls hW hl
  have hx := hC.1
  have hb := hC.2.1
  have hl : lv_has ls 7 [(0, .ref (ad a0)), (1, .int a1)] := hl
  have J120 : ∀ (x0 : Nat) (x1 : Int32) (x2 : Int32) (x3 : Int32) (x5 : Int32) (y0 : Int32) (M : Mem) (ag35 : Int32 × Int32 × Int32 × Mem → Option (Int32 × Mem)) (hg35 : ∀ (x3 : Int32) (x4 : Int32) (x5 : Int32) (M : Mem) (H : Heap) (locs : List Loc) (ls : Array Slot) (_ : Wd D cA ad A s M H locs) (_ : lv_has ls 7 [(0, .ref (ad x0)), (1, .int x1), (2, .int x2), (3, .int x3), (4, .int x4), (5, .int x5)]) (_ : ag35 (x3, x4, x5, M) = some q), W p l e (rmD 3) s m args below meth c H locs 0 0 (MQ below (QI D cA ad A q.1 q.2) args s 0 0 A) (F0 m 35 ls [])) (H : Heap) (locs : List Loc) (ls : Array Slot) (hW : Wd D cA ad A s M H locs) (hl : lv_has ls 7 [(0, .ref (ad x0)), (1, .int x1), (2, .int x2), (3, .int x3), (5, .int x5)]) (hf : f_X12_puts_120 ag35 x0 x1 x2 x3 x5 y0 M = some q), W p l e (rmD 3) s m args below meth c H locs 0 0 (MQ below (QI D cA ad A q.1 q.2) args s 0 0 A) (F0 m 120 ls [.int y0]) := by
    intro x0 x1 x2 x3 x5 y0 M ag35 hg35 H locs ls hW hl hf
    unfold f_X12_puts_120 at hf
    refine lv_istore (lv' := [(4, .int y0), (0, .ref (ad x0)), (1, .int x1), (2, .int x2), (3, .int x3), (5, .int x5)]) hx hb dX12_puts_120 hl (by decide) rfl (fun ls hl => ?_)
    refine lv_aload_n hx hb dX12_puts_122 rfl (lv_at hl 1 rfl) ?_
    obtain ⟨r3, hr3, hf⟩ := ob hf
    refine r_gR hC hK hW cfX12 (by decide) wF_X12_28 rfl hr3 dX12_puts_123 ?_
    refine lv_bipush (v := (7 : Int32)) hx hb dX12_puts_126 (by decide) ?_
    refine lv_iload_n hx hb dX12_puts_128 rfl (lv_at hl 2 rfl) ?_
    refine lv_iadd hx hb dX12_puts_129 ?_
    refine lv_iload_n hx hb dX12_puts_130 rfl (lv_at hl 3 rfl) ?_
    obtain ⟨M4, hM4, hf⟩ := ob hf
    refine r_sI hC hK hAd hW hM4 dX12_puts_131 (fun H locs hW => ?_)
    refine lv_iinc (v := (x5 + (1 : Int32))) (lv' := [(5, .int (x5 + (1 : Int32))), (4, .int y0), (0, .ref (ad x0)), (1, .int x1), (2, .int x2), (3, .int x3)]) hx hb dX12_puts_132 hl (k := 5) rfl rfl (by decide) rfl (fun ls hl => ?_)
    refine lv_goto (tgt := 35) hx hb dX12_puts_135 (by decide) ?_
    exact hg35 x3 y0 (x5 + (1 : Int32)) M4 _ _ _ hW (lv_sub hl [2, 3, 4, 5, 1, 0] rfl) hf
  have J118 : ∀ (x0 : Nat) (x1 : Int32) (x2 : Int32) (x3 : Int32) (x4 : Int32) (x5 : Int32)  (M : Mem) (ag35 : Int32 × Int32 × Int32 × Mem → Option (Int32 × Mem)) (hg35 : ∀ (x3 : Int32) (x4 : Int32) (x5 : Int32) (M : Mem) (H : Heap) (locs : List Loc) (ls : Array Slot) (_ : Wd D cA ad A s M H locs) (_ : lv_has ls 7 [(0, .ref (ad x0)), (1, .int x1), (2, .int x2), (3, .int x3), (4, .int x4), (5, .int x5)]) (_ : ag35 (x3, x4, x5, M) = some q), W p l e (rmD 3) s m args below meth c H locs 0 0 (MQ below (QI D cA ad A q.1 q.2) args s 0 0 A) (F0 m 35 ls [])) (H : Heap) (locs : List Loc) (ls : Array Slot) (hW : Wd D cA ad A s M H locs) (hl : lv_has ls 7 [(0, .ref (ad x0)), (1, .int x1), (2, .int x2), (3, .int x3), (4, .int x4), (5, .int x5)]) (hf : f_X12_puts_118 ag35 x0 x1 x2 x3 x4 x5  M = some q), W p l e (rmD 3) s m args below meth c H locs 0 0 (MQ below (QI D cA ad A q.1 q.2) args s 0 0 A) (F0 m 118 ls []) := by
    intro x0 x1 x2 x3 x4 x5  M ag35 hg35 H locs ls hW hl hf
    unfold f_X12_puts_118 at hf
    refine lv_iload hx hb dX12_puts_118 (lv_at hl 4 rfl) ?_
    exact J120 x0 x1 x2 x3 x5 x4 M ag35 hg35 _ _ _ hW (lv_sub hl [0, 1, 2, 3, 5] rfl) hf
  have J98 : ∀ (x0 : Nat) (x1 : Int32) (x2 : Int32) (x4 : Int32) (x5 : Int32) (x6 : Int32) (y0 : Int32) (M : Mem) (ag35 : Int32 × Int32 × Int32 × Mem → Option (Int32 × Mem)) (hg35 : ∀ (x3 : Int32) (x4 : Int32) (x5 : Int32) (M : Mem) (H : Heap) (locs : List Loc) (ls : Array Slot) (_ : Wd D cA ad A s M H locs) (_ : lv_has ls 7 [(0, .ref (ad x0)), (1, .int x1), (2, .int x2), (3, .int x3), (4, .int x4), (5, .int x5)]) (_ : ag35 (x3, x4, x5, M) = some q), W p l e (rmD 3) s m args below meth c H locs 0 0 (MQ below (QI D cA ad A q.1 q.2) args s 0 0 A) (F0 m 35 ls [])) (H : Heap) (locs : List Loc) (ls : Array Slot) (hW : Wd D cA ad A s M H locs) (hl : lv_has ls 7 [(0, .ref (ad x0)), (1, .int x1), (2, .int x2), (4, .int x4), (5, .int x5), (6, .int x6)]) (hf : f_X12_puts_98 ag35 x0 x1 x2 x4 x5 x6 y0 M = some q), W p l e (rmD 3) s m args below meth c H locs 0 0 (MQ below (QI D cA ad A q.1 q.2) args s 0 0 A) (F0 m 98 ls [.int y0]) := by
    intro x0 x1 x2 x4 x5 x6 y0 M ag35 hg35 H locs ls hW hl hf
    unfold f_X12_puts_98 at hf
    refine lv_istore_n (lv' := [(3, .int y0), (0, .ref (ad x0)), (1, .int x1), (2, .int x2), (4, .int x4), (5, .int x5), (6, .int x6)]) hx hb dX12_puts_98 rfl hl (by decide) rfl (fun ls hl => ?_)
    refine lv_iload hx hb dX12_puts_99 (lv_at hl 6 rfl) ?_
    refine lv_bipush (v := (-9 : Int32)) hx hb dX12_puts_101 (by decide) ?_
    refine lv_icmp_eq (tgt := 118) hx hb dX12_puts_103 (by decide) (fun c103 => ?_) (fun c103 => ?_)
    · have hf := it c103 hf
      exact J118 x0 x1 x2 y0 x4 x5 M ag35 hg35 _ _ _ hW (lv_sub hl [1, 2, 3, 0, 4, 5] rfl) hf
    · have hf := ie c103 hf
      refine lv_iload hx hb dX12_puts_106 (lv_at hl 6 rfl) ?_
      refine lv_iload hx hb dX12_puts_108 (lv_at hl 4 rfl) ?_
      refine lv_icmp_ge (tgt := 118) hx hb dX12_puts_110 (by decide) (fun c110 => ?_) (fun c110 => ?_)
      · have hf := it c110 hf
        exact J118 x0 x1 x2 y0 x4 x5 M ag35 hg35 _ _ _ hW (lv_sub hl [1, 2, 3, 0, 4, 5] rfl) hf
      · have hf := ie c110 hf
        refine lv_iload hx hb dX12_puts_113 (lv_at hl 6 rfl) ?_
        refine lv_goto (tgt := 120) hx hb dX12_puts_115 (by decide) ?_
        exact J120 x0 x1 x2 y0 x5 x6 M ag35 hg35 _ _ _ hW (lv_sub hl [1, 2, 3, 0, 5] rfl) hf
  have J97 : ∀ (x0 : Nat) (x1 : Int32) (x2 : Int32) (x3 : Int32) (x4 : Int32) (x5 : Int32) (x6 : Int32)  (M : Mem) (ag35 : Int32 × Int32 × Int32 × Mem → Option (Int32 × Mem)) (hg35 : ∀ (x3 : Int32) (x4 : Int32) (x5 : Int32) (M : Mem) (H : Heap) (locs : List Loc) (ls : Array Slot) (_ : Wd D cA ad A s M H locs) (_ : lv_has ls 7 [(0, .ref (ad x0)), (1, .int x1), (2, .int x2), (3, .int x3), (4, .int x4), (5, .int x5)]) (_ : ag35 (x3, x4, x5, M) = some q), W p l e (rmD 3) s m args below meth c H locs 0 0 (MQ below (QI D cA ad A q.1 q.2) args s 0 0 A) (F0 m 35 ls [])) (H : Heap) (locs : List Loc) (ls : Array Slot) (hW : Wd D cA ad A s M H locs) (hl : lv_has ls 7 [(0, .ref (ad x0)), (1, .int x1), (2, .int x2), (3, .int x3), (4, .int x4), (5, .int x5), (6, .int x6)]) (hf : f_X12_puts_97 ag35 x0 x1 x2 x3 x4 x5 x6  M = some q), W p l e (rmD 3) s m args below meth c H locs 0 0 (MQ below (QI D cA ad A q.1 q.2) args s 0 0 A) (F0 m 97 ls []) := by
    intro x0 x1 x2 x3 x4 x5 x6  M ag35 hg35 H locs ls hW hl hf
    unfold f_X12_puts_97 at hf
    refine lv_iload_n hx hb dX12_puts_97 rfl (lv_at hl 3 rfl) ?_
    exact J98 x0 x1 x2 x4 x5 x6 x3 M ag35 hg35 _ _ _ hW (lv_sub hl [0, 1, 2, 4, 5, 6] rfl) hf
  have J61 : ∀ (x0 : Nat) (x1 : Int32) (x2 : Int32) (x3 : Int32) (x4 : Int32) (x5 : Int32)  (M : Mem) (ag35 : Int32 × Int32 × Int32 × Mem → Option (Int32 × Mem)) (hg35 : ∀ (x3 : Int32) (x4 : Int32) (x5 : Int32) (M : Mem) (H : Heap) (locs : List Loc) (ls : Array Slot) (_ : Wd D cA ad A s M H locs) (_ : lv_has ls 7 [(0, .ref (ad x0)), (1, .int x1), (2, .int x2), (3, .int x3), (4, .int x4), (5, .int x5)]) (_ : ag35 (x3, x4, x5, M) = some q), W p l e (rmD 3) s m args below meth c H locs 0 0 (MQ below (QI D cA ad A q.1 q.2) args s 0 0 A) (F0 m 35 ls [])) (H : Heap) (locs : List Loc) (ls : Array Slot) (hW : Wd D cA ad A s M H locs) (hl : lv_has ls 7 [(0, .ref (ad x0)), (1, .int x1), (2, .int x2), (3, .int x3), (4, .int x4), (5, .int x5)]) (hf : f_X12_puts_61 ag35 x0 x1 x2 x3 x4 x5  M = some q), W p l e (rmD 3) s m args below meth c H locs 0 0 (MQ below (QI D cA ad A q.1 q.2) args s 0 0 A) (F0 m 61 ls []) := by
    intro x0 x1 x2 x3 x4 x5  M ag35 hg35 H locs ls hW hl hf
    unfold f_X12_puts_61 at hf
    refine lv_aload_n hx hb dX12_puts_61 rfl (lv_at hl 0 rfl) ?_
    obtain ⟨r8, hr8, hf⟩ := ob hf
    refine r_gR hC hK hW cfX12 (by decide) wF_X12_28 rfl hr8 dX12_puts_62 ?_
    refine lv_bipush (v := (7 : Int32)) hx hb dX12_puts_65 (by decide) ?_
    refine lv_iload_n hx hb dX12_puts_67 rfl (lv_at hl 1 rfl) ?_
    refine lv_iadd hx hb dX12_puts_68 ?_
    refine lv_iload hx hb dX12_puts_69 (lv_at hl 5 rfl) ?_
    obtain ⟨M9, hM9, hf⟩ := ob hf
    refine r_sI hC hK hAd hW hM9 dX12_puts_71 (fun H locs hW => ?_)
    refine lv_aload_n hx hb dX12_puts_72 rfl (lv_at hl 0 rfl) ?_
    obtain ⟨q10, hq10, hf⟩ := ob hf
    refine k_vI hC hK hW cfX12 (c_X12_tourOf l hAd (cv_s hq10).2) (cv_s hq10).1 my_X12_tourOf wI_X12_tourOf wQ_X12_tourOf wM_X12_159 ⟨Nat.le_of_ble_eq_true rfl, Nat.le_of_ble_eq_true rfl⟩ rfl hl.1 rfl (Nat.le_of_ble_eq_true rfl) ⟨Nat.zero_le _, Nat.zero_le _⟩ dX12_puts_73 (fun H locs hW => ?_)
    refine lv_istore (lv' := [(6, .int q10), (0, .ref (ad x0)), (1, .int x1), (2, .int x2), (3, .int x3), (4, .int x4), (5, .int x5)]) hx hb dX12_puts_76 hl (by decide) rfl (fun ls hl => ?_)
    refine lv_iload hx hb dX12_puts_78 (lv_at hl 0 rfl) ?_
    refine lv_bipush (v := (-9 : Int32)) hx hb dX12_puts_80 (by decide) ?_
    refine lv_icmp_eq (tgt := 97) hx hb dX12_puts_82 (by decide) (fun c82 => ?_) (fun c82 => ?_)
    · have hf := it c82 hf
      exact J97 x0 x1 x2 x3 x4 x5 q10 M9 ag35 hg35 _ _ _ hW (lv_sub hl [1, 2, 3, 4, 5, 6, 0] rfl) hf
    · have hf := ie c82 hf
      refine lv_iload hx hb dX12_puts_85 (lv_at hl 0 rfl) ?_
      refine lv_iload hx hb dX12_puts_87 (lv_at hl 5 rfl) ?_
      refine lv_icmp_ge (tgt := 97) hx hb dX12_puts_89 (by decide) (fun c89 => ?_) (fun c89 => ?_)
      · have hf := it c89 hf
        exact J97 x0 x1 x2 x3 x4 x5 q10 M9 ag35 hg35 _ _ _ hW (lv_sub hl [1, 2, 3, 4, 5, 6, 0] rfl) hf
      · have hf := ie c89 hf
        refine lv_iload hx hb dX12_puts_92 (lv_at hl 6 rfl) ?_
        refine lv_goto (tgt := 98) hx hb dX12_puts_94 (by decide) ?_
        exact J98 x0 x1 x2 x4 x5 q10 x5 M9 ag35 hg35 _ _ _ hW (lv_sub hl [1, 2, 3, 5, 6, 0] rfl) hf
  have B35 : ∀ (x0 : Nat) (x1 : Int32) (x2 : Int32) (x3 : Int32) (x4 : Int32) (x5 : Int32) (M : Mem)  (ag35 : Int32 × Int32 × Int32 × Mem → Option (Int32 × Mem)) (hg35 : ∀ (x3 : Int32) (x4 : Int32) (x5 : Int32) (M : Mem) (H : Heap) (locs : List Loc) (ls : Array Slot) (_ : Wd D cA ad A s M H locs) (_ : lv_has ls 7 [(0, .ref (ad x0)), (1, .int x1), (2, .int x2), (3, .int x3), (4, .int x4), (5, .int x5)]) (_ : ag35 (x3, x4, x5, M) = some q), W p l e (rmD 3) s m args below meth c H locs 0 0 (MQ below (QI D cA ad A q.1 q.2) args s 0 0 A) (F0 m 35 ls [])) (H : Heap) (locs : List Loc) (ls : Array Slot) (hW : Wd D cA ad A s M H locs) (hl : lv_has ls 7 [(0, .ref (ad x0)), (1, .int x1), (2, .int x2), (3, .int x3), (4, .int x4), (5, .int x5)]) (hf : f_X12_puts_35b  x0 x1 x2 ag35 x3 x4 x5 M = some q), W p l e (rmD 3) s m args below meth c H locs 0 0 (MQ below (QI D cA ad A q.1 q.2) args s 0 0 A) (F0 m 35 ls []) := by
    intro x0 x1 x2 x3 x4 x5 M  ag35 hg35 H locs ls hW hl hf
    unfold f_X12_puts_35b at hf
    refine lv_iload hx hb dX12_puts_35 (lv_at hl 5 rfl) ?_
    refine lv_aload_n hx hb dX12_puts_37 rfl (lv_at hl 0 rfl) ?_
    obtain ⟨r14, hr14, hf⟩ := ob hf
    refine r_gR hC hK hW cfX12 (by decide) wF_X12_13 rfl hr14 dX12_puts_38 ?_
    refine lv_iconst (v := (0 : Int32)) hx hb dX12_puts_41 (by decide) ?_
    obtain ⟨v15, hv15, hf⟩ := ob hf
    refine r_aI hC hK hW hv15 dX12_puts_42 ?_
    refine lv_icmp_ge (tgt := 138) hx hb dX12_puts_43 (by decide) (fun c43 => ?_) (fun c43 => ?_)
    · have hf := it c43 hf
      refine lv_iload_n hx hb dX12_puts_138 rfl (lv_at hl 3 rfl) ?_
      exact r_iret hC hr hlk hW hf dX12_puts_139
    · have hf := ie c43 hf
      refine lv_iload hx hb dX12_puts_46 (lv_at hl 5 rfl) ?_
      refine lv_iload_n hx hb dX12_puts_48 rfl (lv_at hl 2 rfl) ?_
      refine lv_icmp_eq (tgt := 61) hx hb dX12_puts_49 (by decide) (fun c49 => ?_) (fun c49 => ?_)
      · have hf := it c49 hf
        exact J61 x0 x1 x2 x3 x4 x5 M ag35 hg35 _ _ _ hW (lv_sub hl [0, 1, 2, 3, 4, 5] rfl) hf
      · have hf := ie c49 hf
        refine lv_aload_n hx hb dX12_puts_52 rfl (lv_at hl 0 rfl) ?_
        refine lv_iload hx hb dX12_puts_53 (lv_at hl 5 rfl) ?_
        obtain ⟨q16, hq16, hf⟩ := ob hf
        refine k_vI hC hK hW cfX12 (c_X12_isEmpty l hAd (cv_s hq16).2) (cv_s hq16).1 my_X12_isEmpty wI_X12_isEmpty wQ_X12_isEmpty wM_X12_184 ⟨Nat.le_of_ble_eq_true rfl, Nat.le_of_ble_eq_true rfl⟩ rfl hl.1 rfl (Nat.le_of_ble_eq_true rfl) ⟨Nat.zero_le _, Nat.zero_le _⟩ dX12_puts_55 (fun H locs hW => ?_)
        refine lv_if_eq (tgt := 132) hx hb dX12_puts_58 (by decide) (fun c58 => ?_) (fun c58 => ?_)
        · have hf := it c58 hf
          refine lv_iinc (v := (x5 + (1 : Int32))) (lv' := [(5, .int (x5 + (1 : Int32))), (0, .ref (ad x0)), (1, .int x1), (2, .int x2), (3, .int x3), (4, .int x4)]) hx hb dX12_puts_132 hl (k := 5) rfl rfl (by decide) rfl (fun ls hl => ?_)
          refine lv_goto (tgt := 35) hx hb dX12_puts_135 (by decide) ?_
          exact hg35 x3 x4 (x5 + (1 : Int32)) M _ _ _ hW (lv_sub hl [1, 2, 3, 4, 5, 0] rfl) hf
        · have hf := ie c58 hf
          exact J61 x0 x1 x2 x3 x4 x5 M ag35 hg35 _ _ _ hW (lv_sub hl [0, 1, 2, 3, 4, 5] rfl) hf
  have J35 : ∀ (x0 : Nat) (x1 : Int32) (x2 : Int32) (x3 : Int32) (x4 : Int32) (x5 : Int32) (M : Mem)  (H : Heap) (locs : List Loc) (ls : Array Slot) (hW : Wd D cA ad A s M H locs) (hl : lv_has ls 7 [(0, .ref (ad x0)), (1, .int x1), (2, .int x2), (3, .int x3), (4, .int x4), (5, .int x5)]) (hf : f_X12_puts_35  x0 x1 x2 x3 x4 x5 M = some q), W p l e (rmD 3) s m args below meth c H locs 0 0 (MQ below (QI D cA ad A q.1 q.2) args s 0 0 A) (F0 m 35 ls []) := by
    intro x0 x1 x2 x3 x4 x5 M  H locs ls hW hl hf
    unfold f_X12_puts_35 at hf
    have key : ∀ (n : Nat) (x3 : Int32) (x4 : Int32) (x5 : Int32) (M : Mem) (H : Heap) (locs : List Loc) (ls : Array Slot) (hW : Wd D cA ad A s M H locs) (hl : lv_has ls 7 [(0, .ref (ad x0)), (1, .int x1), (2, .int x2), (3, .int x3), (4, .int x4), (5, .int x5)]) (hf : loopF (fun ag s => f_X12_puts_35b  x0 x1 x2 ag s.1 s.2.1 s.2.2.1 s.2.2.2) n (x3, x4, x5, M) = some q), W p l e (rmD 3) s m args below meth c H locs 0 0 (MQ below (QI D cA ad A q.1 q.2) args s 0 0 A) (F0 m 35 ls []) := by
      intro n
      induction n with
      | zero => intro x3 x4 x5 M H locs ls hW hl hf; exact nomatch (show (none : Option _) = some _ from hf)
      | succ n ih => intro x3 x4 x5 M H locs ls hW hl hf; exact B35 x0 x1 x2 x3 x4 x5 M  _ ih H locs ls hW hl hf
    exact key FU x3 x4 x5 M H locs ls hW hl hf
  have hf := hf0
  unfold f_X12_puts at hf
  refine lv_aload_n hx hb dX12_puts_0 rfl (lv_at hl 0 rfl) ?_
  refine lv_iconst (v := (0 : Int32)) hx hb dX12_puts_1 (by decide) ?_
  obtain ⟨M21, hM21, hf⟩ := ob hf
  refine r_pI hC hK hAd hW cfX12 (by decide) wF_X12_65 rfl rfl rfl hM21 dX12_puts_2 (fun H locs hW => ?_)
  refine lv_aload_n hx hb dX12_puts_5 rfl (lv_at hl 0 rfl) ?_
  refine lv_iload_n hx hb dX12_puts_6 rfl (lv_at hl 1 rfl) ?_
  obtain ⟨q22, hq22, hf⟩ := ob hf
  refine k_vI hC hK hW cfX12 (c_X12_isDish l hAd (cv_s hq22).2) (cv_s hq22).1 my_X12_isDish wI_X12_isDish wQ_X12_isDish wM_X12_143 ⟨Nat.le_of_ble_eq_true rfl, Nat.le_of_ble_eq_true rfl⟩ rfl hl.1 rfl (Nat.le_of_ble_eq_true rfl) ⟨Nat.zero_le _, Nat.zero_le _⟩ dX12_puts_7 (fun H locs hW => ?_)
  refine lv_if_ne (tgt := 15) hx hb dX12_puts_10 (by decide) (fun c10 => ?_) (fun c10 => ?_)
  · have hf := ie c10 hf
    refine lv_aload_n hx hb dX12_puts_15 rfl (lv_at hl 0 rfl) ?_
    obtain ⟨r23, hr23, hf⟩ := ob hf
    refine r_gR hC hK hW cfX12 (by decide) wF_X12_28 rfl hr23 dX12_puts_16 ?_
    refine lv_bipush (v := (7 : Int32)) hx hb dX12_puts_19 (by decide) ?_
    refine lv_iload_n hx hb dX12_puts_21 rfl (lv_at hl 1 rfl) ?_
    refine lv_iadd hx hb dX12_puts_22 ?_
    obtain ⟨v24, hv24, hf⟩ := ob hf
    refine r_aI hC hK hW hv24 dX12_puts_23 ?_
    refine lv_istore_n (lv' := [(2, .int v24), (0, .ref (ad a0)), (1, .int a1)]) hx hb dX12_puts_24 rfl hl (by decide) rfl (fun ls hl => ?_)
    refine lv_bipush (v := (-9 : Int32)) hx hb dX12_puts_25 (by decide) ?_
    refine lv_istore_n (lv' := [(3, .int (-9 : Int32)), (2, .int v24), (0, .ref (ad a0)), (1, .int a1)]) hx hb dX12_puts_27 rfl hl (by decide) rfl (fun ls hl => ?_)
    refine lv_bipush (v := (99 : Int32)) hx hb dX12_puts_28 (by decide) ?_
    refine lv_istore (lv' := [(4, .int (99 : Int32)), (3, .int (-9 : Int32)), (2, .int v24), (0, .ref (ad a0)), (1, .int a1)]) hx hb dX12_puts_30 hl (by decide) rfl (fun ls hl => ?_)
    refine lv_iconst (v := (0 : Int32)) hx hb dX12_puts_32 (by decide) ?_
    refine lv_istore (lv' := [(5, .int (0 : Int32)), (4, .int (99 : Int32)), (3, .int (-9 : Int32)), (2, .int v24), (0, .ref (ad a0)), (1, .int a1)]) hx hb dX12_puts_33 hl (by decide) rfl (fun ls hl => ?_)
    exact J35 a0 a1 v24 (-9 : Int32) (99 : Int32) (0 : Int32) M21 _ _ _ hW (lv_sub hl [4, 5, 3, 2, 1, 0] rfl) hf
  · have hf := it c10 hf
    refine lv_iconst (v := (-1 : Int32)) hx hb dX12_puts_13 (by decide) ?_
    exact r_iret hC hr hlk hW hf dX12_puts_14
set_option maxHeartbeats 4000000 in
set_option maxRecDepth 100000 in
theorem c_X12_rate (l : Launch) {D : va_G} {cA : Nat → ClassId} {ad : Nat → Nat} {A : Nat → Prop} (hAd : AdOk ad A) {a0 : Nat} {a1 : Int32} {a2 : Int32} {M0 : Mem} {q : (Int32 × Mem)} (hf0 : f_X12_rate a0 a1 a2 M0 = some q) : Met l yX12_rate (wd yX12_rate cX12_rate 6 (some .int)) (rmD 2) (PcW D cA ad [.ref (ad a0), .int a1, .int a2] M0) (QI D cA ad A q.1 q.2) 0 0 A := by
  refine mk_met (own := RX12) (by decide +kernel) rfl (Nat.le_of_ble_eq_true rfl) ?_
  intro p e s m args below meth c hC hr hlk hK H locs ls hW hl
  have hx := hC.1
  have hb := hC.2.1
  have hl : lv_has ls 6 [(0, .ref (ad a0)), (1, .int a1), (2, .int a2)] := hl
  have J116 : ∀ (x0 : Nat) (x1 : Int32) (x2 : Int32) (x3 : Int32) (x4 : Int32) (x5 : Int32) (y0 : Nat) (y1 : Int64) (y2 : Int64) (M : Mem)  (H : Heap) (locs : List Loc) (ls : Array Slot) (hW : Wd D cA ad A s M H locs) (hl : lv_has ls 6 [(0, .ref (ad x0)), (1, .int x1), (2, .int x2), (3, .int x3), (4, .int x4), (5, .int x5)]) (hf : f_X12_rate_116  x0 x1 x2 x3 x4 x5 y0 y1 y2 M = some q), W p l e (rmD 2) s m args below meth c H locs 0 0 (MQ below (QI D cA ad A q.1 q.2) args s 0 0 A) (F0 m 116 ls [.long y2, .long y1, .ref (ad y0)]) := by
    intro x0 x1 x2 x3 x4 x5 y0 y1 y2 M  H locs ls hW hl hf
    unfold f_X12_rate_116 at hf
    refine lv_ladd hx hb dX12_rate_116 ?_
    obtain ⟨M4, hM4, hf⟩ := ob hf
    refine r_pL hC hK hAd hW cfX12 (by decide) wF_X12_200 rfl rfl rfl hM4 dX12_rate_117 (fun H locs hW => ?_)
    refine lv_iload_n hx hb dX12_rate_120 rfl (lv_at hl 1 rfl) ?_
    refine lv_if_ne (tgt := 128) hx hb dX12_rate_121 (by decide) (fun c121 => ?_) (fun c121 => ?_)
    · have hf := ie c121 hf
      refine lv_iload_n hx hb dX12_rate_128 rfl (lv_at hl 1 rfl) ?_
      refine lv_iconst (v := (1 : Int32)) hx hb dX12_rate_129 (by decide) ?_
      refine lv_icmp_ne (tgt := 138) hx hb dX12_rate_130 (by decide) (fun c130 => ?_) (fun c130 => ?_)
      · have hf := ie c130 hf
        refine lv_iload_n hx hb dX12_rate_138 rfl (lv_at hl 1 rfl) ?_
        refine lv_iconst (v := (2 : Int32)) hx hb dX12_rate_139 (by decide) ?_
        refine lv_icmp_ne (tgt := 148) hx hb dX12_rate_140 (by decide) (fun c140 => ?_) (fun c140 => ?_)
        · have hf := ie c140 hf
          refine lv_iload_n hx hb dX12_rate_148 rfl (lv_at hl 1 rfl) ?_
          refine lv_iconst (v := (3 : Int32)) hx hb dX12_rate_149 (by decide) ?_
          refine lv_icmp_ne (tgt := 160) hx hb dX12_rate_150 (by decide) (fun c150 => ?_) (fun c150 => ?_)
          · have hf := ie c150 hf
            refine lv_iload_n hx hb dX12_rate_160 rfl (lv_at hl 1 rfl) ?_
            refine lv_iconst (v := (4 : Int32)) hx hb dX12_rate_161 (by decide) ?_
            refine lv_icmp_ne (tgt := 172) hx hb dX12_rate_162 (by decide) (fun c162 => ?_) (fun c162 => ?_)
            · have hf := ie c162 hf
              refine lv_iload_n hx hb dX12_rate_172 rfl (lv_at hl 3 rfl) ?_
              refine lv_aload_n hx hb dX12_rate_173 rfl (lv_at hl 0 rfl) ?_
              obtain ⟨r5, hr5, hf⟩ := ob hf
              refine r_gR hC hK hW cfX12 (by decide) wF_X12_28 rfl hr5 dX12_rate_174 ?_
              refine lv_iconst (v := (0 : Int32)) hx hb dX12_rate_177 (by decide) ?_
              obtain ⟨v6, hv6, hf⟩ := ob hf
              refine r_aI hC hK hW hv6 dX12_rate_178 ?_
              refine lv_iadd hx hb dX12_rate_179 ?_
              exact r_iret hC hr hlk hW hf dX12_rate_180
            · have hf := it c162 hf
              refine lv_iload hx hb dX12_rate_165 (lv_at hl 5 rfl) ?_
              refine lv_iload_n hx hb dX12_rate_167 rfl (lv_at hl 2 rfl) ?_
              refine lv_iadd hx hb dX12_rate_168 ?_
              refine lv_goto (tgt := 180) hx hb dX12_rate_169 (by decide) ?_
              exact r_iret hC hr hlk hW hf dX12_rate_180
          · have hf := it c150 hf
            refine lv_iconst (v := (2 : Int32)) hx hb dX12_rate_153 (by decide) ?_
            refine lv_iload hx hb dX12_rate_154 (lv_at hl 4 rfl) ?_
            refine lv_imul hx hb dX12_rate_156 ?_
            refine lv_goto (tgt := 180) hx hb dX12_rate_157 (by decide) ?_
            exact r_iret hC hr hlk hW hf dX12_rate_180
        · have hf := it c140 hf
          refine lv_iload hx hb dX12_rate_143 (lv_at hl 5 rfl) ?_
          refine lv_goto (tgt := 180) hx hb dX12_rate_145 (by decide) ?_
          exact r_iret hC hr hlk hW hf dX12_rate_180
      · have hf := it c130 hf
        refine lv_iload hx hb dX12_rate_133 (lv_at hl 4 rfl) ?_
        refine lv_goto (tgt := 180) hx hb dX12_rate_135 (by decide) ?_
        exact r_iret hC hr hlk hW hf dX12_rate_180
    · have hf := it c121 hf
      refine lv_iload_n hx hb dX12_rate_124 rfl (lv_at hl 3 rfl) ?_
      refine lv_goto (tgt := 180) hx hb dX12_rate_125 (by decide) ?_
      exact r_iret hC hr hlk hW hf dX12_rate_180
  have hf := hf0
  unfold f_X12_rate at hf
  refine lv_aload_n hx hb dX12_rate_0 rfl (lv_at hl 0 rfl) ?_
  refine lv_iconst (v := (0 : Int32)) hx hb dX12_rate_1 (by decide) ?_
  obtain ⟨M17, hM17, hf⟩ := ob hf
  refine r_pI hC hK hAd hW cfX12 (by decide) wF_X12_65 rfl rfl rfl hM17 dX12_rate_2 (fun H locs hW => ?_)
  refine lv_iload_n hx hb dX12_rate_5 rfl (lv_at hl 1 rfl) ?_
  refine lv_iconst (v := (0 : Int32)) hx hb dX12_rate_6 (by decide) ?_
  refine lv_iconst (v := (5 : Int32)) hx hb dX12_rate_7 (by decide) ?_
  obtain ⟨q18, hq18, hf⟩ := ob hf
  refine k_sI hC hK hW (c_X12_in l hAd hq18) my_X12_in wS_X12_in wM_X12_69 ⟨Nat.le_of_ble_eq_true rfl, Nat.le_of_ble_eq_true rfl⟩ rfl hl.1 rfl (Nat.le_of_ble_eq_true rfl) ⟨Nat.zero_le _, Nat.zero_le _⟩ dX12_rate_8 (fun H locs hW => ?_)
  refine lv_if_eq (tgt := 22) hx hb dX12_rate_11 (by decide) (fun c11 => ?_) (fun c11 => ?_)
  · have hf := it c11 hf
    refine lv_ldc hx hb hC.2.2.2.1 (hC.2.2.2.2 _ wA_X12_199) dX12_rate_22 ?_
    exact r_iret hC hr hlk hW hf dX12_rate_24
  · have hf := ie c11 hf
    refine lv_aload_n hx hb dX12_rate_14 rfl (lv_at hl 0 rfl) ?_
    refine lv_iload_n hx hb dX12_rate_15 rfl (lv_at hl 2 rfl) ?_
    obtain ⟨q19, hq19, hf⟩ := ob hf
    refine k_vI hC hK hW cfX12 (c_X12_isGuest l hAd (cv_s hq19).2) (cv_s hq19).1 my_X12_isGuest wI_X12_isGuest wQ_X12_isGuest wM_X12_134 ⟨Nat.le_of_ble_eq_true rfl, Nat.le_of_ble_eq_true rfl⟩ rfl hl.1 rfl (Nat.le_of_ble_eq_true rfl) ⟨Nat.zero_le _, Nat.zero_le _⟩ dX12_rate_16 (fun H locs hW => ?_)
    refine lv_if_ne (tgt := 25) hx hb dX12_rate_19 (by decide) (fun c19 => ?_) (fun c19 => ?_)
    · have hf := ie c19 hf
      refine lv_aload_n hx hb dX12_rate_25 rfl (lv_at hl 0 rfl) ?_
      refine lv_iload_n hx hb dX12_rate_26 rfl (lv_at hl 2 rfl) ?_
      obtain ⟨q20, hq20, hf⟩ := ob hf
      refine k_vI hC hK hW cfX12 (c_X12_needsOf l hAd (cv_s hq20).2) (cv_s hq20).1 my_X12_needsOf wI_X12_needsOf wQ_X12_needsOf wM_X12_137 ⟨Nat.le_of_ble_eq_true rfl, Nat.le_of_ble_eq_true rfl⟩ rfl hl.1 rfl (Nat.le_of_ble_eq_true rfl) ⟨Nat.zero_le _, Nat.zero_le _⟩ dX12_rate_27 (fun H locs hW => ?_)
      obtain ⟨q21, hq21, hf⟩ := ob hf
      refine k_sI hC hK hW (c_X12_ones l hAd hq21) my_X12_ones wS_X12_ones wM_X12_187 ⟨Nat.le_of_ble_eq_true rfl, Nat.le_of_ble_eq_true rfl⟩ rfl hl.1 rfl (Nat.le_of_ble_eq_true rfl) ⟨Nat.zero_le _, Nat.zero_le _⟩ dX12_rate_30 (fun H locs hW => ?_)
      refine lv_istore_n (lv' := [(3, .int q21), (0, .ref (ad a0)), (1, .int a1), (2, .int a2)]) hx hb dX12_rate_33 rfl hl (by decide) rfl (fun ls hl => ?_)
      refine lv_iload_n hx hb dX12_rate_34 rfl (lv_at hl 0 rfl) ?_
      refine lv_aload_n hx hb dX12_rate_35 rfl (lv_at hl 1 rfl) ?_
      obtain ⟨r22, hr22, hf⟩ := ob hf
      refine r_gR hC hK hW cfX12 (by decide) wF_X12_16 rfl hr22 dX12_rate_36 ?_
      refine lv_iload_n hx hb dX12_rate_39 rfl (lv_at hl 3 rfl) ?_
      obtain ⟨v23, hv23, hf⟩ := ob hf
      refine r_aI hC hK hW hv23 dX12_rate_40 ?_
      refine lv_iadd hx hb dX12_rate_41 ?_
      refine lv_istore (lv' := [(4, .int (q21 + v23)), (3, .int q21), (0, .ref (ad a0)), (1, .int a1), (2, .int a2)]) hx hb dX12_rate_42 hl (by decide) rfl (fun ls hl => ?_)
      refine lv_iload_n hx hb dX12_rate_44 rfl (lv_at hl 1 rfl) ?_
      refine lv_aload_n hx hb dX12_rate_45 rfl (lv_at hl 2 rfl) ?_
      refine lv_iload_n hx hb dX12_rate_46 rfl (lv_at hl 4 rfl) ?_
      obtain ⟨q24, hq24, hf⟩ := ob hf
      refine k_vI hC hK hW cfX12 (c_X12_reachedBy l hAd (cv_s hq24).2) (cv_s hq24).1 my_X12_reachedBy wI_X12_reachedBy wQ_X12_reachedBy wM_X12_140 ⟨Nat.le_of_ble_eq_true rfl, Nat.le_of_ble_eq_true rfl⟩ rfl hl.1 rfl (Nat.le_of_ble_eq_true rfl) ⟨Nat.zero_le _, Nat.zero_le _⟩ dX12_rate_47 (fun H locs hW => ?_)
      obtain ⟨q25, hq25, hf⟩ := ob hf
      refine k_sI hC hK hW (c_X12_ones l hAd hq25) my_X12_ones wS_X12_ones wM_X12_187 ⟨Nat.le_of_ble_eq_true rfl, Nat.le_of_ble_eq_true rfl⟩ rfl hl.1 rfl (Nat.le_of_ble_eq_true rfl) ⟨Nat.zero_le _, Nat.zero_le _⟩ dX12_rate_50 (fun H locs hW => ?_)
      refine lv_isub hx hb dX12_rate_53 ?_
      refine lv_istore (lv' := [(5, .int (q21 - q25)), (4, .int (q21 + v23)), (3, .int q21), (0, .ref (ad a0)), (1, .int a1), (2, .int a2)]) hx hb dX12_rate_54 hl (by decide) rfl (fun ls hl => ?_)
      refine lv_aload_n hx hb dX12_rate_56 rfl (lv_at hl 3 rfl) ?_
      refine lv_dup hx hb dX12_rate_57 rfl ?_
      obtain ⟨v26, hv26, hf⟩ := ob hf
      refine r_gL hC hK hW cfX12 (by decide) wF_X12_200 rfl hv26 dX12_rate_58 ?_
      refine lv_iload_n hx hb dX12_rate_61 rfl (lv_at hl 4 rfl) ?_
      refine lv_if_ne (tgt := 69) hx hb dX12_rate_62 (by decide) (fun c62 => ?_) (fun c62 => ?_)
      · have hf := ie c62 hf
        refine lv_iload_n hx hb dX12_rate_69 rfl (lv_at hl 4 rfl) ?_
        refine lv_iconst (v := (1 : Int32)) hx hb dX12_rate_70 (by decide) ?_
        refine lv_icmp_ne (tgt := 80) hx hb dX12_rate_71 (by decide) (fun c71 => ?_) (fun c71 => ?_)
        · have hf := ie c71 hf
          refine lv_iload_n hx hb dX12_rate_80 rfl (lv_at hl 4 rfl) ?_
          refine lv_iconst (v := (2 : Int32)) hx hb dX12_rate_81 (by decide) ?_
          refine lv_icmp_ne (tgt := 91) hx hb dX12_rate_82 (by decide) (fun c82 => ?_) (fun c82 => ?_)
          · have hf := ie c82 hf
            refine lv_iload_n hx hb dX12_rate_91 rfl (lv_at hl 4 rfl) ?_
            refine lv_iconst (v := (3 : Int32)) hx hb dX12_rate_92 (by decide) ?_
            refine lv_icmp_ne (tgt := 102) hx hb dX12_rate_93 (by decide) (fun c93 => ?_) (fun c93 => ?_)
            · have hf := ie c93 hf
              refine lv_iload_n hx hb dX12_rate_102 rfl (lv_at hl 4 rfl) ?_
              refine lv_iconst (v := (4 : Int32)) hx hb dX12_rate_103 (by decide) ?_
              refine lv_icmp_ne (tgt := 113) hx hb dX12_rate_104 (by decide) (fun c104 => ?_) (fun c104 => ?_)
              · have hf := ie c104 hf
                refine lv_ldc2 hx hb hC.2.2.2.1 (hC.2.2.2.2 _ wL_X12_212) dX12_rate_113 ?_
                exact J116 a0 a1 a2 q21 (q21 + v23) (q21 - q25) a0 v26 (100001 : Int64) M17 _ _ _ hW (lv_sub hl [3, 4, 5, 2, 1, 0] rfl) hf
              · have hf := it c104 hf
                refine lv_ldc2 hx hb hC.2.2.2.1 (hC.2.2.2.2 _ wL_X12_210) dX12_rate_107 ?_
                refine lv_goto (tgt := 116) hx hb dX12_rate_110 (by decide) ?_
                exact J116 a0 a1 a2 q21 (q21 + v23) (q21 - q25) a0 v26 (10101 : Int64) M17 _ _ _ hW (lv_sub hl [3, 4, 5, 2, 1, 0] rfl) hf
            · have hf := it c93 hf
              refine lv_ldc2 hx hb hC.2.2.2.1 (hC.2.2.2.2 _ wL_X12_208) dX12_rate_96 ?_
              refine lv_goto (tgt := 116) hx hb dX12_rate_99 (by decide) ?_
              exact J116 a0 a1 a2 q21 (q21 + v23) (q21 - q25) a0 v26 (1011 : Int64) M17 _ _ _ hW (lv_sub hl [3, 4, 5, 2, 1, 0] rfl) hf
          · have hf := it c82 hf
            refine lv_ldc2 hx hb hC.2.2.2.1 (hC.2.2.2.2 _ wL_X12_206) dX12_rate_85 ?_
            refine lv_goto (tgt := 116) hx hb dX12_rate_88 (by decide) ?_
            exact J116 a0 a1 a2 q21 (q21 + v23) (q21 - q25) a0 v26 (101 : Int64) M17 _ _ _ hW (lv_sub hl [3, 4, 5, 2, 1, 0] rfl) hf
        · have hf := it c71 hf
          refine lv_ldc2 hx hb hC.2.2.2.1 (hC.2.2.2.2 _ wL_X12_204) dX12_rate_74 ?_
          refine lv_goto (tgt := 116) hx hb dX12_rate_77 (by decide) ?_
          exact J116 a0 a1 a2 q21 (q21 + v23) (q21 - q25) a0 v26 (11 : Int64) M17 _ _ _ hW (lv_sub hl [3, 4, 5, 2, 1, 0] rfl) hf
      · have hf := it c62 hf
        refine lv_lconst (v := 1) hx hb dX12_rate_65 (by decide) ?_
        refine lv_goto (tgt := 116) hx hb dX12_rate_66 (by decide) ?_
        exact J116 a0 a1 a2 q21 (q21 + v23) (q21 - q25) a0 v26 (1 : Int64) M17 _ _ _ hW (lv_sub hl [3, 4, 5, 2, 1, 0] rfl) hf
    · have hf := it c19 hf
      refine lv_ldc hx hb hC.2.2.2.1 (hC.2.2.2.2 _ wA_X12_199) dX12_rate_22 ?_
      exact r_iret hC hr hlk hW hf dX12_rate_24
set_option maxHeartbeats 4000000 in
set_option maxRecDepth 100000 in
theorem c_X12_readsItem (l : Launch) {D : va_G} {cA : Nat → ClassId} {ad : Nat → Nat} {A : Nat → Prop} (hAd : AdOk ad A) {a0 : Nat} {a1 : Int32} {M0 : Mem} {q : Mem} (hf0 : f_X12_readsItem a0 a1 M0 = some q) : Met l yX12_readsItem (wd yX12_readsItem cX12_readsItem 3 none) (rmD 4) (PcW D cA ad [.ref (ad a0), .int a1] M0) (QV D cA ad A q) 0 0 A := by
  refine mk_met (own := RX12) (by decide +kernel) rfl (Nat.le_of_ble_eq_true rfl) ?_
  intro p e s m args below meth c hC hr hlk hK H locs ls hW hl
  have hx := hC.1
  have hb := hC.2.1
  have hl : lv_has ls 3 [(0, .ref (ad a0)), (1, .int a1)] := hl
  have hf := hf0
  unfold f_X12_readsItem at hf
  refine lv_iload_n hx hb dX12_readsItem_0 rfl (lv_at hl 1 rfl) ?_
  refine lv_bipush (v := (110 : Int32)) hx hb dX12_readsItem_1 (by decide) ?_
  refine lv_icmp_ne (tgt := 22) hx hb dX12_readsItem_3 (by decide) (fun c3 => ?_) (fun c3 => ?_)
  · have hf := ie c3 hf
    refine lv_iload_n hx hb dX12_readsItem_22 rfl (lv_at hl 1 rfl) ?_
    refine lv_bipush (v := (103 : Int32)) hx hb dX12_readsItem_23 (by decide) ?_
    refine lv_icmp_ne (tgt := 92) hx hb dX12_readsItem_25 (by decide) (fun c25 => ?_) (fun c25 => ?_)
    · have hf := ie c25 hf
      refine lv_aload_n hx hb dX12_readsItem_92 rfl (lv_at hl 0 rfl) ?_
      obtain ⟨r32, hr32, hf⟩ := ob hf
      refine r_gR hC hK hW cfX12 (by decide) wF_X12_13 rfl hr32 dX12_readsItem_93 ?_
      refine lv_iconst (v := (5 : Int32)) hx hb dX12_readsItem_96 (by decide) ?_
      obtain ⟨v33, hv33, hf⟩ := ob hf
      refine r_aI hC hK hW hv33 dX12_readsItem_97 ?_
      refine lv_istore_n (lv' := [(2, .int v33), (0, .ref (ad a0)), (1, .int a1)]) hx hb dX12_readsItem_98 rfl hl (by decide) rfl (fun ls hl => ?_)
      refine lv_aload_n hx hb dX12_readsItem_99 rfl (lv_at hl 1 rfl) ?_
      obtain ⟨r34, hr34, hf⟩ := ob hf
      refine r_gR hC hK hW cfX12 (by decide) wF_X12_25 rfl hr34 dX12_readsItem_100 ?_
      refine lv_bipush (v := (7 : Int32)) hx hb dX12_readsItem_103 (by decide) ?_
      refine lv_iload_n hx hb dX12_readsItem_105 rfl (lv_at hl 0 rfl) ?_
      refine lv_iadd hx hb dX12_readsItem_106 ?_
      refine lv_aload_n hx hb dX12_readsItem_107 rfl (lv_at hl 1 rfl) ?_
      refine lv_bipush (v := (7 : Int32)) hx hb dX12_readsItem_108 (by decide) ?_
      refine lv_iload_n hx hb dX12_readsItem_110 rfl (lv_at hl 0 rfl) ?_
      obtain ⟨q35, hq35, hf⟩ := ob hf
      refine k_vI hC hK hW cfX12 (c_X12_free l hAd (cv_s hq35).2) (cv_s hq35).1 my_X12_free wI_X12_free wQ_X12_free wM_X12_110 ⟨Nat.le_of_ble_eq_true rfl, Nat.le_of_ble_eq_true rfl⟩ rfl hl.1 rfl (Nat.le_of_ble_eq_true rfl) ⟨Nat.zero_le _, Nat.zero_le _⟩ dX12_readsItem_111 (fun H locs hW => ?_)
      obtain ⟨M36, hM36, hf⟩ := ob hf
      refine r_sI hC hK hAd hW hM36 dX12_readsItem_114 (fun H locs hW => ?_)
      refine lv_aload_n hx hb dX12_readsItem_115 rfl (lv_at hl 1 rfl) ?_
      obtain ⟨r37, hr37, hf⟩ := ob hf
      refine r_gR hC hK hW cfX12 (by decide) wF_X12_25 rfl hr37 dX12_readsItem_116 ?_
      refine lv_iconst (v := (1 : Int32)) hx hb dX12_readsItem_119 (by decide) ?_
      refine lv_iload_n hx hb dX12_readsItem_120 rfl (lv_at hl 0 rfl) ?_
      refine lv_iadd hx hb dX12_readsItem_121 ?_
      refine lv_aload_n hx hb dX12_readsItem_122 rfl (lv_at hl 1 rfl) ?_
      refine lv_iconst (v := (1 : Int32)) hx hb dX12_readsItem_123 (by decide) ?_
      refine lv_bipush (v := (9 : Int32)) hx hb dX12_readsItem_124 (by decide) ?_
      obtain ⟨q38, hq38, hf⟩ := ob hf
      refine k_vI hC hK hW cfX12 (c_X12_number l hAd (cv_s hq38).2) (cv_s hq38).1 my_X12_number wI_X12_number wQ_X12_number wM_X12_106 ⟨Nat.le_of_ble_eq_true rfl, Nat.le_of_ble_eq_true rfl⟩ rfl hl.1 rfl (Nat.le_of_ble_eq_true rfl) ⟨Nat.zero_le _, Nat.zero_le _⟩ dX12_readsItem_126 (fun H locs hW => ?_)
      obtain ⟨M39, hM39, hf⟩ := ob hf
      refine r_sI hC hK hAd hW hM39 dX12_readsItem_129 (fun H locs hW => ?_)
      refine lv_aload_n hx hb dX12_readsItem_130 rfl (lv_at hl 1 rfl) ?_
      obtain ⟨r40, hr40, hf⟩ := ob hf
      refine r_gR hC hK hW cfX12 (by decide) wF_X12_22 rfl hr40 dX12_readsItem_131 ?_
      refine lv_bipush (v := (6 : Int32)) hx hb dX12_readsItem_134 (by decide) ?_
      refine lv_iload_n hx hb dX12_readsItem_136 rfl (lv_at hl 0 rfl) ?_
      refine lv_iadd hx hb dX12_readsItem_137 ?_
      refine lv_aload_n hx hb dX12_readsItem_138 rfl (lv_at hl 1 rfl) ?_
      refine lv_iconst (v := (0 : Int32)) hx hb dX12_readsItem_139 (by decide) ?_
      refine lv_iconst (v := (1 : Int32)) hx hb dX12_readsItem_140 (by decide) ?_
      obtain ⟨q41, hq41, hf⟩ := ob hf
      refine k_vI hC hK hW cfX12 (c_X12_number l hAd (cv_s hq41).2) (cv_s hq41).1 my_X12_number wI_X12_number wQ_X12_number wM_X12_106 ⟨Nat.le_of_ble_eq_true rfl, Nat.le_of_ble_eq_true rfl⟩ rfl hl.1 rfl (Nat.le_of_ble_eq_true rfl) ⟨Nat.zero_le _, Nat.zero_le _⟩ dX12_readsItem_141 (fun H locs hW => ?_)
      obtain ⟨M42, hM42, hf⟩ := ob hf
      refine r_sI hC hK hAd hW hM42 dX12_readsItem_144 (fun H locs hW => ?_)
      refine lv_aload_n hx hb dX12_readsItem_145 rfl (lv_at hl 1 rfl) ?_
      obtain ⟨r43, hr43, hf⟩ := ob hf
      refine r_gR hC hK hW cfX12 (by decide) wF_X12_13 rfl hr43 dX12_readsItem_146 ?_
      refine lv_iconst (v := (5 : Int32)) hx hb dX12_readsItem_149 (by decide) ?_
      refine lv_dup2_11 hx hb dX12_readsItem_150 rfl rfl ?_
      obtain ⟨v44, hv44, hf⟩ := ob hf
      refine r_aI hC hK hW hv44 dX12_readsItem_151 ?_
      refine lv_iconst (v := (1 : Int32)) hx hb dX12_readsItem_152 (by decide) ?_
      refine lv_iadd hx hb dX12_readsItem_153 ?_
      obtain ⟨M45, hM45, hf⟩ := ob hf
      refine r_sI hC hK hAd hW hM45 dX12_readsItem_154 (fun H locs hW => ?_)
      exact r_vret hC hr hlk hW hf dX12_readsItem_155
    · have hf := it c25 hf
      refine lv_aload_n hx hb dX12_readsItem_28 rfl (lv_at hl 0 rfl) ?_
      obtain ⟨r46, hr46, hf⟩ := ob hf
      refine r_gR hC hK hW cfX12 (by decide) wF_X12_13 rfl hr46 dX12_readsItem_29 ?_
      refine lv_iconst (v := (4 : Int32)) hx hb dX12_readsItem_32 (by decide) ?_
      obtain ⟨v47, hv47, hf⟩ := ob hf
      refine r_aI hC hK hW hv47 dX12_readsItem_33 ?_
      refine lv_istore_n (lv' := [(2, .int v47), (0, .ref (ad a0)), (1, .int a1)]) hx hb dX12_readsItem_34 rfl hl (by decide) rfl (fun ls hl => ?_)
      refine lv_aload_n hx hb dX12_readsItem_35 rfl (lv_at hl 1 rfl) ?_
      obtain ⟨r48, hr48, hf⟩ := ob hf
      refine r_gR hC hK hW cfX12 (by decide) wF_X12_25 rfl hr48 dX12_readsItem_36 ?_
      refine lv_bipush (v := (13 : Int32)) hx hb dX12_readsItem_39 (by decide) ?_
      refine lv_iload_n hx hb dX12_readsItem_41 rfl (lv_at hl 0 rfl) ?_
      refine lv_iadd hx hb dX12_readsItem_42 ?_
      refine lv_aload_n hx hb dX12_readsItem_43 rfl (lv_at hl 1 rfl) ?_
      refine lv_bipush (v := (13 : Int32)) hx hb dX12_readsItem_44 (by decide) ?_
      refine lv_iload_n hx hb dX12_readsItem_46 rfl (lv_at hl 0 rfl) ?_
      obtain ⟨q49, hq49, hf⟩ := ob hf
      refine k_vI hC hK hW cfX12 (c_X12_free l hAd (cv_s hq49).2) (cv_s hq49).1 my_X12_free wI_X12_free wQ_X12_free wM_X12_110 ⟨Nat.le_of_ble_eq_true rfl, Nat.le_of_ble_eq_true rfl⟩ rfl hl.1 rfl (Nat.le_of_ble_eq_true rfl) ⟨Nat.zero_le _, Nat.zero_le _⟩ dX12_readsItem_47 (fun H locs hW => ?_)
      obtain ⟨M50, hM50, hf⟩ := ob hf
      refine r_sI hC hK hAd hW hM50 dX12_readsItem_50 (fun H locs hW => ?_)
      refine lv_aload_n hx hb dX12_readsItem_51 rfl (lv_at hl 1 rfl) ?_
      obtain ⟨r51, hr51, hf⟩ := ob hf
      refine r_gR hC hK hW cfX12 (by decide) wF_X12_16 rfl hr51 dX12_readsItem_52 ?_
      refine lv_bipush (v := (6 : Int32)) hx hb dX12_readsItem_55 (by decide) ?_
      refine lv_iload_n hx hb dX12_readsItem_57 rfl (lv_at hl 0 rfl) ?_
      refine lv_iadd hx hb dX12_readsItem_58 ?_
      refine lv_aload_n hx hb dX12_readsItem_59 rfl (lv_at hl 1 rfl) ?_
      refine lv_iconst (v := (0 : Int32)) hx hb dX12_readsItem_60 (by decide) ?_
      refine lv_iconst (v := (2 : Int32)) hx hb dX12_readsItem_61 (by decide) ?_
      obtain ⟨q52, hq52, hf⟩ := ob hf
      refine k_vI hC hK hW cfX12 (c_X12_number l hAd (cv_s hq52).2) (cv_s hq52).1 my_X12_number wI_X12_number wQ_X12_number wM_X12_106 ⟨Nat.le_of_ble_eq_true rfl, Nat.le_of_ble_eq_true rfl⟩ rfl hl.1 rfl (Nat.le_of_ble_eq_true rfl) ⟨Nat.zero_le _, Nat.zero_le _⟩ dX12_readsItem_62 (fun H locs hW => ?_)
      obtain ⟨M53, hM53, hf⟩ := ob hf
      refine r_sI hC hK hAd hW hM53 dX12_readsItem_65 (fun H locs hW => ?_)
      refine lv_aload_n hx hb dX12_readsItem_66 rfl (lv_at hl 1 rfl) ?_
      obtain ⟨r54, hr54, hf⟩ := ob hf
      refine r_gR hC hK hW cfX12 (by decide) wF_X12_19 rfl hr54 dX12_readsItem_67 ?_
      refine lv_bipush (v := (6 : Int32)) hx hb dX12_readsItem_70 (by decide) ?_
      refine lv_iload_n hx hb dX12_readsItem_72 rfl (lv_at hl 0 rfl) ?_
      refine lv_iadd hx hb dX12_readsItem_73 ?_
      refine lv_aload_n hx hb dX12_readsItem_74 rfl (lv_at hl 1 rfl) ?_
      obtain ⟨q55, hq55, hf⟩ := ob hf
      refine k_vI hC hK hW cfX12 (c_X12_lettersRow l hAd (cv_s hq55).2) (cv_s hq55).1 my_X12_lettersRow wI_X12_lettersRow wQ_X12_lettersRow wM_X12_113 ⟨Nat.le_of_ble_eq_true rfl, Nat.le_of_ble_eq_true rfl⟩ rfl hl.1 rfl (Nat.le_of_ble_eq_true rfl) ⟨Nat.zero_le _, Nat.zero_le _⟩ dX12_readsItem_75 (fun H locs hW => ?_)
      obtain ⟨M56, hM56, hf⟩ := ob hf
      refine r_sI hC hK hAd hW hM56 dX12_readsItem_78 (fun H locs hW => ?_)
      refine lv_aload_n hx hb dX12_readsItem_79 rfl (lv_at hl 1 rfl) ?_
      obtain ⟨r57, hr57, hf⟩ := ob hf
      refine r_gR hC hK hW cfX12 (by decide) wF_X12_13 rfl hr57 dX12_readsItem_80 ?_
      refine lv_iconst (v := (4 : Int32)) hx hb dX12_readsItem_83 (by decide) ?_
      refine lv_dup2_11 hx hb dX12_readsItem_84 rfl rfl ?_
      obtain ⟨v58, hv58, hf⟩ := ob hf
      refine r_aI hC hK hW hv58 dX12_readsItem_85 ?_
      refine lv_iconst (v := (1 : Int32)) hx hb dX12_readsItem_86 (by decide) ?_
      refine lv_iadd hx hb dX12_readsItem_87 ?_
      obtain ⟨M59, hM59, hf⟩ := ob hf
      refine r_sI hC hK hAd hW hM59 dX12_readsItem_88 (fun H locs hW => ?_)
      refine lv_goto (tgt := 155) hx hb dX12_readsItem_89 (by decide) ?_
      exact r_vret hC hr hlk hW hf dX12_readsItem_155
  · have hf := it c3 hf
    refine lv_aload_n hx hb dX12_readsItem_6 rfl (lv_at hl 0 rfl) ?_
    obtain ⟨r60, hr60, hf⟩ := ob hf
    refine r_gR hC hK hW cfX12 (by decide) wF_X12_13 rfl hr60 dX12_readsItem_7 ?_
    refine lv_iconst (v := (3 : Int32)) hx hb dX12_readsItem_10 (by decide) ?_
    refine lv_aload_n hx hb dX12_readsItem_11 rfl (lv_at hl 0 rfl) ?_
    refine lv_iconst (v := (3 : Int32)) hx hb dX12_readsItem_12 (by decide) ?_
    refine lv_bipush (v := (9 : Int32)) hx hb dX12_readsItem_13 (by decide) ?_
    obtain ⟨q61, hq61, hf⟩ := ob hf
    refine k_vI hC hK hW cfX12 (c_X12_number l hAd (cv_s hq61).2) (cv_s hq61).1 my_X12_number wI_X12_number wQ_X12_number wM_X12_106 ⟨Nat.le_of_ble_eq_true rfl, Nat.le_of_ble_eq_true rfl⟩ rfl hl.1 rfl (Nat.le_of_ble_eq_true rfl) ⟨Nat.zero_le _, Nat.zero_le _⟩ dX12_readsItem_15 (fun H locs hW => ?_)
    obtain ⟨M62, hM62, hf⟩ := ob hf
    refine r_sI hC hK hAd hW hM62 dX12_readsItem_18 (fun H locs hW => ?_)
    refine lv_goto (tgt := 155) hx hb dX12_readsItem_19 (by decide) ?_
    exact r_vret hC hr hlk hW hf dX12_readsItem_155
set_option maxHeartbeats 4000000 in
set_option maxRecDepth 100000 in
theorem c_X12_sees (l : Launch) {D : va_G} {cA : Nat → ClassId} {ad : Nat → Nat} {A : Nat → Prop} (hAd : AdOk ad A) {a0 : Nat} {a1 : Int32} {a2 : Int32} {a3 : Int32} {M0 : Mem} {q : (Int32 × Mem)} (hf0 : f_X12_sees a0 a1 a2 a3 M0 = some q) : Met l yX12_sees (wd yX12_sees cX12_sees 4 (some .int)) (rmD 2) (PcW D cA ad [.ref (ad a0), .int a1, .int a2, .int a3] M0) (QI D cA ad A q.1 q.2) 0 0 A := by
  refine mk_met (own := RX12) (by decide +kernel) rfl (Nat.le_of_ble_eq_true rfl) ?_
  intro p e s m args below meth c hC hr hlk hK H locs ls hW hl
  have hx := hC.1
  have hb := hC.2.1
  have hl : lv_has ls 4 [(0, .ref (ad a0)), (1, .int a1), (2, .int a2), (3, .int a3)] := hl
  have hf := hf0
  unfold f_X12_sees at hf
  refine lv_aload_n hx hb dX12_sees_0 rfl (lv_at hl 0 rfl) ?_
  refine lv_iconst (v := (0 : Int32)) hx hb dX12_sees_1 (by decide) ?_
  obtain ⟨M18, hM18, hf⟩ := ob hf
  refine r_pI hC hK hAd hW cfX12 (by decide) wF_X12_65 rfl rfl rfl hM18 dX12_sees_2 (fun H locs hW => ?_)
  refine lv_aload_n hx hb dX12_sees_5 rfl (lv_at hl 0 rfl) ?_
  refine lv_iload_n hx hb dX12_sees_6 rfl (lv_at hl 1 rfl) ?_
  obtain ⟨q19, hq19, hf⟩ := ob hf
  refine k_vI hC hK hW cfX12 (c_X12_isDish l hAd (cv_s hq19).2) (cv_s hq19).1 my_X12_isDish wI_X12_isDish wQ_X12_isDish wM_X12_143 ⟨Nat.le_of_ble_eq_true rfl, Nat.le_of_ble_eq_true rfl⟩ rfl hl.1 rfl (Nat.le_of_ble_eq_true rfl) ⟨Nat.zero_le _, Nat.zero_le _⟩ dX12_sees_7 (fun H locs hW => ?_)
  refine lv_if_eq (tgt := 30) hx hb dX12_sees_10 (by decide) (fun c10 => ?_) (fun c10 => ?_)
  · have hf := it c10 hf
    refine lv_iconst (v := (-1 : Int32)) hx hb dX12_sees_30 (by decide) ?_
    exact r_iret hC hr hlk hW hf dX12_sees_31
  · have hf := ie c10 hf
    refine lv_aload_n hx hb dX12_sees_13 rfl (lv_at hl 0 rfl) ?_
    refine lv_iload_n hx hb dX12_sees_14 rfl (lv_at hl 2 rfl) ?_
    obtain ⟨q20, hq20, hf⟩ := ob hf
    refine k_vI hC hK hW cfX12 (c_X12_isSeat l hAd (cv_s hq20).2) (cv_s hq20).1 my_X12_isSeat wI_X12_isSeat wQ_X12_isSeat wM_X12_181 ⟨Nat.le_of_ble_eq_true rfl, Nat.le_of_ble_eq_true rfl⟩ rfl hl.1 rfl (Nat.le_of_ble_eq_true rfl) ⟨Nat.zero_le _, Nat.zero_le _⟩ dX12_sees_15 (fun H locs hW => ?_)
    refine lv_if_eq (tgt := 30) hx hb dX12_sees_18 (by decide) (fun c18 => ?_) (fun c18 => ?_)
    · have hf := it c18 hf
      refine lv_iconst (v := (-1 : Int32)) hx hb dX12_sees_30 (by decide) ?_
      exact r_iret hC hr hlk hW hf dX12_sees_31
    · have hf := ie c18 hf
      refine lv_iload_n hx hb dX12_sees_21 rfl (lv_at hl 3 rfl) ?_
      refine lv_iconst (v := (0 : Int32)) hx hb dX12_sees_22 (by decide) ?_
      refine lv_iconst (v := (1 : Int32)) hx hb dX12_sees_23 (by decide) ?_
      obtain ⟨q21, hq21, hf⟩ := ob hf
      refine k_sI hC hK hW (c_X12_in l hAd hq21) my_X12_in wS_X12_in wM_X12_69 ⟨Nat.le_of_ble_eq_true rfl, Nat.le_of_ble_eq_true rfl⟩ rfl hl.1 rfl (Nat.le_of_ble_eq_true rfl) ⟨Nat.zero_le _, Nat.zero_le _⟩ dX12_sees_24 (fun H locs hW => ?_)
      refine lv_if_ne (tgt := 32) hx hb dX12_sees_27 (by decide) (fun c27 => ?_) (fun c27 => ?_)
      · have hf := ie c27 hf
        refine lv_aload_n hx hb dX12_sees_32 rfl (lv_at hl 0 rfl) ?_
        obtain ⟨v22, hv22, hf⟩ := ob hf
        refine r_gI hC hK hW cfX12 (by decide) wF_X12_125 rfl hv22 dX12_sees_33 ?_
        refine lv_bipush (v := (6 : Int32)) hx hb dX12_sees_36 (by decide) ?_
        refine lv_icmp_ne (tgt := 44) hx hb dX12_sees_38 (by decide) (fun c38 => ?_) (fun c38 => ?_)
        · have hf := ie c38 hf
          refine lv_aload_n hx hb dX12_sees_44 rfl (lv_at hl 0 rfl) ?_
          obtain ⟨r23, hr23, hf⟩ := ob hf
          refine r_gR hC hK hW cfX12 (by decide) wF_X12_41 rfl hr23 dX12_sees_45 ?_
          refine lv_aload_n hx hb dX12_sees_48 rfl (lv_at hl 0 rfl) ?_
          obtain ⟨v24, hv24, hf⟩ := ob hf
          refine r_gI hC hK hW cfX12 (by decide) wF_X12_125 rfl hv24 dX12_sees_49 ?_
          refine lv_iload_n hx hb dX12_sees_52 rfl (lv_at hl 1 rfl) ?_
          obtain ⟨M25, hM25, hf⟩ := ob hf
          refine r_sI hC hK hAd hW hM25 dX12_sees_53 (fun H locs hW => ?_)
          refine lv_aload_n hx hb dX12_sees_54 rfl (lv_at hl 0 rfl) ?_
          obtain ⟨r26, hr26, hf⟩ := ob hf
          refine r_gR hC hK hW cfX12 (by decide) wF_X12_44 rfl hr26 dX12_sees_55 ?_
          refine lv_aload_n hx hb dX12_sees_58 rfl (lv_at hl 0 rfl) ?_
          obtain ⟨v27, hv27, hf⟩ := ob hf
          refine r_gI hC hK hW cfX12 (by decide) wF_X12_125 rfl hv27 dX12_sees_59 ?_
          refine lv_iload_n hx hb dX12_sees_62 rfl (lv_at hl 2 rfl) ?_
          obtain ⟨M28, hM28, hf⟩ := ob hf
          refine r_sI hC hK hAd hW hM28 dX12_sees_63 (fun H locs hW => ?_)
          refine lv_aload_n hx hb dX12_sees_64 rfl (lv_at hl 0 rfl) ?_
          obtain ⟨r29, hr29, hf⟩ := ob hf
          refine r_gR hC hK hW cfX12 (by decide) wF_X12_47 rfl hr29 dX12_sees_65 ?_
          refine lv_aload_n hx hb dX12_sees_68 rfl (lv_at hl 0 rfl) ?_
          obtain ⟨v30, hv30, hf⟩ := ob hf
          refine r_gI hC hK hW cfX12 (by decide) wF_X12_125 rfl hv30 dX12_sees_69 ?_
          refine lv_iload_n hx hb dX12_sees_72 rfl (lv_at hl 3 rfl) ?_
          obtain ⟨M31, hM31, hf⟩ := ob hf
          refine r_sI hC hK hAd hW hM31 dX12_sees_73 (fun H locs hW => ?_)
          refine lv_aload_n hx hb dX12_sees_74 rfl (lv_at hl 0 rfl) ?_
          refine lv_dup hx hb dX12_sees_75 rfl ?_
          obtain ⟨v32, hv32, hf⟩ := ob hf
          refine r_gI hC hK hW cfX12 (by decide) wF_X12_125 rfl hv32 dX12_sees_76 ?_
          refine lv_iconst (v := (1 : Int32)) hx hb dX12_sees_79 (by decide) ?_
          refine lv_iadd hx hb dX12_sees_80 ?_
          obtain ⟨M33, hM33, hf⟩ := ob hf
          refine r_pI hC hK hAd hW cfX12 (by decide) wF_X12_125 rfl rfl rfl hM33 dX12_sees_81 (fun H locs hW => ?_)
          refine lv_aload_n hx hb dX12_sees_84 rfl (lv_at hl 0 rfl) ?_
          obtain ⟨v34, hv34, hf⟩ := ob hf
          refine r_gI hC hK hW cfX12 (by decide) wF_X12_125 rfl hv34 dX12_sees_85 ?_
          exact r_iret hC hr hlk hW hf dX12_sees_88
        · have hf := it c38 hf
          refine lv_bipush (v := (-3 : Int32)) hx hb dX12_sees_41 (by decide) ?_
          exact r_iret hC hr hlk hW hf dX12_sees_43
      · have hf := it c27 hf
        refine lv_iconst (v := (-1 : Int32)) hx hb dX12_sees_30 (by decide) ?_
        exact r_iret hC hr hlk hW hf dX12_sees_31
set_option maxHeartbeats 4000000 in
set_option maxRecDepth 100000 in
theorem c_X12_settles (l : Launch) {D : va_G} {cA : Nat → ClassId} {ad : Nat → Nat} {A : Nat → Prop} (hAd : AdOk ad A) {a0 : Nat} {M0 : Mem} {q : Mem} (hf0 : f_X12_settles a0 M0 = some q) : Met l yX12_settles (wd yX12_settles cX12_settles 2 none) (rmD 0) (PcW D cA ad [.ref (ad a0)] M0) (QV D cA ad A q) 0 0 A := by
  refine mk_met (own := RX12) (by decide +kernel) rfl (Nat.le_of_ble_eq_true rfl) ?_
  intro p e s m args below meth c hC hr hlk hK H locs ls hW hl
  have hx := hC.1
  have hb := hC.2.1
  have hl : lv_has ls 2 [(0, .ref (ad a0))] := hl
  have B88 : ∀ (x0 : Nat) (x1 : Int32) (M : Mem)  (ag88 : Int32 × Mem → Option Mem) (hg88 : ∀ (x1 : Int32) (M : Mem) (H : Heap) (locs : List Loc) (ls : Array Slot) (_ : Wd D cA ad A s M H locs) (_ : lv_has ls 2 [(0, .ref (ad x0)), (1, .int x1)]) (_ : ag88 (x1, M) = some q), W p l e (rmD 0) s m args below meth c H locs 0 0 (MQ below (QV D cA ad A q) args s 0 0 A) (F0 m 88 ls [])) (H : Heap) (locs : List Loc) (ls : Array Slot) (hW : Wd D cA ad A s M H locs) (hl : lv_has ls 2 [(0, .ref (ad x0)), (1, .int x1)]) (hf : f_X12_settles_88b  x0 ag88 x1 M = some q), W p l e (rmD 0) s m args below meth c H locs 0 0 (MQ below (QV D cA ad A q) args s 0 0 A) (F0 m 88 ls []) := by
    intro x0 x1 M  ag88 hg88 H locs ls hW hl hf
    unfold f_X12_settles_88b at hf
    refine lv_iload_n hx hb dX12_settles_88 rfl (lv_at hl 1 rfl) ?_
    refine lv_bipush (v := (25 : Int32)) hx hb dX12_settles_89 (by decide) ?_
    refine lv_icmp_ge (tgt := 112) hx hb dX12_settles_91 (by decide) (fun c91 => ?_) (fun c91 => ?_)
    · have hf := it c91 hf
      refine lv_aload_n hx hb dX12_settles_112 rfl (lv_at hl 0 rfl) ?_
      refine lv_iconst (v := (0 : Int32)) hx hb dX12_settles_113 (by decide) ?_
      obtain ⟨M12, hM12, hf⟩ := ob hf
      refine r_pI hC hK hAd hW cfX12 (by decide) wF_X12_73 rfl rfl rfl hM12 dX12_settles_114 (fun H locs hW => ?_)
      refine lv_aload_n hx hb dX12_settles_117 rfl (lv_at hl 0 rfl) ?_
      refine lv_iconst (v := (0 : Int32)) hx hb dX12_settles_118 (by decide) ?_
      obtain ⟨M13, hM13, hf⟩ := ob hf
      refine r_pI hC hK hAd hW cfX12 (by decide) wF_X12_125 rfl rfl rfl hM13 dX12_settles_119 (fun H locs hW => ?_)
      refine lv_aload_n hx hb dX12_settles_122 rfl (lv_at hl 0 rfl) ?_
      refine lv_iconst (v := (0 : Int32)) hx hb dX12_settles_123 (by decide) ?_
      obtain ⟨M14, hM14, hf⟩ := ob hf
      refine r_pI hC hK hAd hW cfX12 (by decide) wF_X12_128 rfl rfl rfl hM14 dX12_settles_124 (fun H locs hW => ?_)
      refine lv_aload_n hx hb dX12_settles_127 rfl (lv_at hl 0 rfl) ?_
      obtain ⟨r15, hr15, hf⟩ := ob hf
      refine r_gR hC hK hW cfX12 (by decide) wF_X12_34 rfl hr15 dX12_settles_128 ?_
      refine lv_iconst (v := (0 : Int32)) hx hb dX12_settles_131 (by decide) ?_
      refine lv_iconst (v := (0 : Int32)) hx hb dX12_settles_132 (by decide) ?_
      obtain ⟨M16, hM16, hf⟩ := ob hf
      refine r_sZ hC hK hAd hW hM16 dX12_settles_133 (fun H locs hW => ?_)
      refine lv_aload_n hx hb dX12_settles_134 rfl (lv_at hl 0 rfl) ?_
      obtain ⟨r17, hr17, hf⟩ := ob hf
      refine r_gR hC hK hW cfX12 (by decide) wF_X12_34 rfl hr17 dX12_settles_135 ?_
      refine lv_iconst (v := (1 : Int32)) hx hb dX12_settles_138 (by decide) ?_
      refine lv_iconst (v := (0 : Int32)) hx hb dX12_settles_139 (by decide) ?_
      obtain ⟨M18, hM18, hf⟩ := ob hf
      refine r_sZ hC hK hAd hW hM18 dX12_settles_140 (fun H locs hW => ?_)
      exact r_vret hC hr hlk hW hf dX12_settles_141
    · have hf := ie c91 hf
      refine lv_aload_n hx hb dX12_settles_94 rfl (lv_at hl 0 rfl) ?_
      obtain ⟨r19, hr19, hf⟩ := ob hf
      refine r_gR hC hK hW cfX12 (by decide) wF_X12_28 rfl hr19 dX12_settles_95 ?_
      refine lv_iload_n hx hb dX12_settles_98 rfl (lv_at hl 1 rfl) ?_
      refine lv_aload_n hx hb dX12_settles_99 rfl (lv_at hl 0 rfl) ?_
      obtain ⟨r20, hr20, hf⟩ := ob hf
      refine r_gR hC hK hW cfX12 (by decide) wF_X12_25 rfl hr20 dX12_settles_100 ?_
      refine lv_iload_n hx hb dX12_settles_103 rfl (lv_at hl 1 rfl) ?_
      obtain ⟨v21, hv21, hf⟩ := ob hf
      refine r_aI hC hK hW hv21 dX12_settles_104 ?_
      obtain ⟨M22, hM22, hf⟩ := ob hf
      refine r_sI hC hK hAd hW hM22 dX12_settles_105 (fun H locs hW => ?_)
      refine lv_iinc (v := (x1 + (1 : Int32))) (lv' := [(1, .int (x1 + (1 : Int32))), (0, .ref (ad x0))]) hx hb dX12_settles_106 hl (k := 1) rfl rfl (by decide) rfl (fun ls hl => ?_)
      refine lv_goto (tgt := 88) hx hb dX12_settles_109 (by decide) ?_
      exact hg88 (x1 + (1 : Int32)) M22 _ _ _ hW (lv_sub hl [1, 0] rfl) hf
  have J88 : ∀ (x0 : Nat) (x1 : Int32) (M : Mem)  (H : Heap) (locs : List Loc) (ls : Array Slot) (hW : Wd D cA ad A s M H locs) (hl : lv_has ls 2 [(0, .ref (ad x0)), (1, .int x1)]) (hf : f_X12_settles_88  x0 x1 M = some q), W p l e (rmD 0) s m args below meth c H locs 0 0 (MQ below (QV D cA ad A q) args s 0 0 A) (F0 m 88 ls []) := by
    intro x0 x1 M  H locs ls hW hl hf
    unfold f_X12_settles_88 at hf
    have key : ∀ (n : Nat) (x1 : Int32) (M : Mem) (H : Heap) (locs : List Loc) (ls : Array Slot) (hW : Wd D cA ad A s M H locs) (hl : lv_has ls 2 [(0, .ref (ad x0)), (1, .int x1)]) (hf : loopF (fun ag s => f_X12_settles_88b  x0 ag s.1 s.2) n (x1, M) = some q), W p l e (rmD 0) s m args below meth c H locs 0 0 (MQ below (QV D cA ad A q) args s 0 0 A) (F0 m 88 ls []) := by
      intro n
      induction n with
      | zero => intro x1 M H locs ls hW hl hf; exact nomatch (show (none : Option _) = some _ from hf)
      | succ n ih => intro x1 M H locs ls hW hl hf; exact B88 x0 x1 M  _ ih H locs ls hW hl hf
    exact key FU x1 M H locs ls hW hl hf
  have B29 : ∀ (x0 : Nat) (x1 : Int32) (M : Mem)  (ag29 : Int32 × Mem → Option Mem) (hg29 : ∀ (x1 : Int32) (M : Mem) (H : Heap) (locs : List Loc) (ls : Array Slot) (_ : Wd D cA ad A s M H locs) (_ : lv_has ls 2 [(0, .ref (ad x0)), (1, .int x1)]) (_ : ag29 (x1, M) = some q), W p l e (rmD 0) s m args below meth c H locs 0 0 (MQ below (QV D cA ad A q) args s 0 0 A) (F0 m 29 ls [])) (H : Heap) (locs : List Loc) (ls : Array Slot) (hW : Wd D cA ad A s M H locs) (hl : lv_has ls 2 [(0, .ref (ad x0)), (1, .int x1)]) (hf : f_X12_settles_29b  x0 ag29 x1 M = some q), W p l e (rmD 0) s m args below meth c H locs 0 0 (MQ below (QV D cA ad A q) args s 0 0 A) (F0 m 29 ls []) := by
    intro x0 x1 M  ag29 hg29 H locs ls hW hl hf
    unfold f_X12_settles_29b at hf
    refine lv_iload_n hx hb dX12_settles_29 rfl (lv_at hl 1 rfl) ?_
    refine lv_bipush (v := (6 : Int32)) hx hb dX12_settles_30 (by decide) ?_
    refine lv_icmp_ge (tgt := 86) hx hb dX12_settles_32 (by decide) (fun c32 => ?_) (fun c32 => ?_)
    · have hf := it c32 hf
      refine lv_iconst (v := (0 : Int32)) hx hb dX12_settles_86 (by decide) ?_
      refine lv_istore_n (lv' := [(1, .int (0 : Int32)), (0, .ref (ad x0))]) hx hb dX12_settles_87 rfl hl (by decide) rfl (fun ls hl => ?_)
      exact J88 x0 (0 : Int32) M _ _ _ hW (lv_sub hl [1, 0] rfl) hf
    · have hf := ie c32 hf
      refine lv_aload_n hx hb dX12_settles_35 rfl (lv_at hl 0 rfl) ?_
      obtain ⟨r35, hr35, hf⟩ := ob hf
      refine r_gR hC hK hW cfX12 (by decide) wF_X12_16 rfl hr35 dX12_settles_36 ?_
      refine lv_iload_n hx hb dX12_settles_39 rfl (lv_at hl 1 rfl) ?_
      refine lv_aload_n hx hb dX12_settles_40 rfl (lv_at hl 0 rfl) ?_
      obtain ⟨r36, hr36, hf⟩ := ob hf
      refine r_gR hC hK hW cfX12 (by decide) wF_X12_16 rfl hr36 dX12_settles_41 ?_
      refine lv_bipush (v := (6 : Int32)) hx hb dX12_settles_44 (by decide) ?_
      refine lv_iload_n hx hb dX12_settles_46 rfl (lv_at hl 1 rfl) ?_
      refine lv_iadd hx hb dX12_settles_47 ?_
      obtain ⟨v37, hv37, hf⟩ := ob hf
      refine r_aI hC hK hW hv37 dX12_settles_48 ?_
      obtain ⟨M38, hM38, hf⟩ := ob hf
      refine r_sI hC hK hAd hW hM38 dX12_settles_49 (fun H locs hW => ?_)
      refine lv_aload_n hx hb dX12_settles_50 rfl (lv_at hl 0 rfl) ?_
      obtain ⟨r39, hr39, hf⟩ := ob hf
      refine r_gR hC hK hW cfX12 (by decide) wF_X12_19 rfl hr39 dX12_settles_51 ?_
      refine lv_iload_n hx hb dX12_settles_54 rfl (lv_at hl 1 rfl) ?_
      refine lv_aload_n hx hb dX12_settles_55 rfl (lv_at hl 0 rfl) ?_
      obtain ⟨r40, hr40, hf⟩ := ob hf
      refine r_gR hC hK hW cfX12 (by decide) wF_X12_19 rfl hr40 dX12_settles_56 ?_
      refine lv_bipush (v := (6 : Int32)) hx hb dX12_settles_59 (by decide) ?_
      refine lv_iload_n hx hb dX12_settles_61 rfl (lv_at hl 1 rfl) ?_
      refine lv_iadd hx hb dX12_settles_62 ?_
      obtain ⟨v41, hv41, hf⟩ := ob hf
      refine r_aI hC hK hW hv41 dX12_settles_63 ?_
      obtain ⟨M42, hM42, hf⟩ := ob hf
      refine r_sI hC hK hAd hW hM42 dX12_settles_64 (fun H locs hW => ?_)
      refine lv_aload_n hx hb dX12_settles_65 rfl (lv_at hl 0 rfl) ?_
      obtain ⟨r43, hr43, hf⟩ := ob hf
      refine r_gR hC hK hW cfX12 (by decide) wF_X12_22 rfl hr43 dX12_settles_66 ?_
      refine lv_iload_n hx hb dX12_settles_69 rfl (lv_at hl 1 rfl) ?_
      refine lv_aload_n hx hb dX12_settles_70 rfl (lv_at hl 0 rfl) ?_
      obtain ⟨r44, hr44, hf⟩ := ob hf
      refine r_gR hC hK hW cfX12 (by decide) wF_X12_22 rfl hr44 dX12_settles_71 ?_
      refine lv_bipush (v := (6 : Int32)) hx hb dX12_settles_74 (by decide) ?_
      refine lv_iload_n hx hb dX12_settles_76 rfl (lv_at hl 1 rfl) ?_
      refine lv_iadd hx hb dX12_settles_77 ?_
      obtain ⟨v45, hv45, hf⟩ := ob hf
      refine r_aI hC hK hW hv45 dX12_settles_78 ?_
      obtain ⟨M46, hM46, hf⟩ := ob hf
      refine r_sI hC hK hAd hW hM46 dX12_settles_79 (fun H locs hW => ?_)
      refine lv_iinc (v := (x1 + (1 : Int32))) (lv' := [(1, .int (x1 + (1 : Int32))), (0, .ref (ad x0))]) hx hb dX12_settles_80 hl (k := 1) rfl rfl (by decide) rfl (fun ls hl => ?_)
      refine lv_goto (tgt := 29) hx hb dX12_settles_83 (by decide) ?_
      exact hg29 (x1 + (1 : Int32)) M46 _ _ _ hW (lv_sub hl [1, 0] rfl) hf
  have J29 : ∀ (x0 : Nat) (x1 : Int32) (M : Mem)  (H : Heap) (locs : List Loc) (ls : Array Slot) (hW : Wd D cA ad A s M H locs) (hl : lv_has ls 2 [(0, .ref (ad x0)), (1, .int x1)]) (hf : f_X12_settles_29  x0 x1 M = some q), W p l e (rmD 0) s m args below meth c H locs 0 0 (MQ below (QV D cA ad A q) args s 0 0 A) (F0 m 29 ls []) := by
    intro x0 x1 M  H locs ls hW hl hf
    unfold f_X12_settles_29 at hf
    have key : ∀ (n : Nat) (x1 : Int32) (M : Mem) (H : Heap) (locs : List Loc) (ls : Array Slot) (hW : Wd D cA ad A s M H locs) (hl : lv_has ls 2 [(0, .ref (ad x0)), (1, .int x1)]) (hf : loopF (fun ag s => f_X12_settles_29b  x0 ag s.1 s.2) n (x1, M) = some q), W p l e (rmD 0) s m args below meth c H locs 0 0 (MQ below (QV D cA ad A q) args s 0 0 A) (F0 m 29 ls []) := by
      intro n
      induction n with
      | zero => intro x1 M H locs ls hW hl hf; exact nomatch (show (none : Option _) = some _ from hf)
      | succ n ih => intro x1 M H locs ls hW hl hf; exact B29 x0 x1 M  _ ih H locs ls hW hl hf
    exact key FU x1 M H locs ls hW hl hf
  have B2 : ∀ (x0 : Nat) (x1 : Int32) (M : Mem)  (ag2 : Int32 × Mem → Option Mem) (hg2 : ∀ (x1 : Int32) (M : Mem) (H : Heap) (locs : List Loc) (ls : Array Slot) (_ : Wd D cA ad A s M H locs) (_ : lv_has ls 2 [(0, .ref (ad x0)), (1, .int x1)]) (_ : ag2 (x1, M) = some q), W p l e (rmD 0) s m args below meth c H locs 0 0 (MQ below (QV D cA ad A q) args s 0 0 A) (F0 m 2 ls [])) (H : Heap) (locs : List Loc) (ls : Array Slot) (hW : Wd D cA ad A s M H locs) (hl : lv_has ls 2 [(0, .ref (ad x0)), (1, .int x1)]) (hf : f_X12_settles_2b  x0 ag2 x1 M = some q), W p l e (rmD 0) s m args below meth c H locs 0 0 (MQ below (QV D cA ad A q) args s 0 0 A) (F0 m 2 ls []) := by
    intro x0 x1 M  ag2 hg2 H locs ls hW hl hf
    unfold f_X12_settles_2b at hf
    refine lv_iload_n hx hb dX12_settles_2 rfl (lv_at hl 1 rfl) ?_
    refine lv_iconst (v := (3 : Int32)) hx hb dX12_settles_3 (by decide) ?_
    refine lv_icmp_ge (tgt := 27) hx hb dX12_settles_4 (by decide) (fun c4 => ?_) (fun c4 => ?_)
    · have hf := it c4 hf
      refine lv_iconst (v := (0 : Int32)) hx hb dX12_settles_27 (by decide) ?_
      refine lv_istore_n (lv' := [(1, .int (0 : Int32)), (0, .ref (ad x0))]) hx hb dX12_settles_28 rfl hl (by decide) rfl (fun ls hl => ?_)
      exact J29 x0 (0 : Int32) M _ _ _ hW (lv_sub hl [1, 0] rfl) hf
    · have hf := ie c4 hf
      refine lv_aload_n hx hb dX12_settles_7 rfl (lv_at hl 0 rfl) ?_
      obtain ⟨r51, hr51, hf⟩ := ob hf
      refine r_gR hC hK hW cfX12 (by decide) wF_X12_13 rfl hr51 dX12_settles_8 ?_
      refine lv_iload_n hx hb dX12_settles_11 rfl (lv_at hl 1 rfl) ?_
      refine lv_aload_n hx hb dX12_settles_12 rfl (lv_at hl 0 rfl) ?_
      obtain ⟨r52, hr52, hf⟩ := ob hf
      refine r_gR hC hK hW cfX12 (by decide) wF_X12_13 rfl hr52 dX12_settles_13 ?_
      refine lv_iconst (v := (3 : Int32)) hx hb dX12_settles_16 (by decide) ?_
      refine lv_iload_n hx hb dX12_settles_17 rfl (lv_at hl 1 rfl) ?_
      refine lv_iadd hx hb dX12_settles_18 ?_
      obtain ⟨v53, hv53, hf⟩ := ob hf
      refine r_aI hC hK hW hv53 dX12_settles_19 ?_
      obtain ⟨M54, hM54, hf⟩ := ob hf
      refine r_sI hC hK hAd hW hM54 dX12_settles_20 (fun H locs hW => ?_)
      refine lv_iinc (v := (x1 + (1 : Int32))) (lv' := [(1, .int (x1 + (1 : Int32))), (0, .ref (ad x0))]) hx hb dX12_settles_21 hl (k := 1) rfl rfl (by decide) rfl (fun ls hl => ?_)
      refine lv_goto (tgt := 2) hx hb dX12_settles_24 (by decide) ?_
      exact hg2 (x1 + (1 : Int32)) M54 _ _ _ hW (lv_sub hl [1, 0] rfl) hf
  have J2 : ∀ (x0 : Nat) (x1 : Int32) (M : Mem)  (H : Heap) (locs : List Loc) (ls : Array Slot) (hW : Wd D cA ad A s M H locs) (hl : lv_has ls 2 [(0, .ref (ad x0)), (1, .int x1)]) (hf : f_X12_settles_2  x0 x1 M = some q), W p l e (rmD 0) s m args below meth c H locs 0 0 (MQ below (QV D cA ad A q) args s 0 0 A) (F0 m 2 ls []) := by
    intro x0 x1 M  H locs ls hW hl hf
    unfold f_X12_settles_2 at hf
    have key : ∀ (n : Nat) (x1 : Int32) (M : Mem) (H : Heap) (locs : List Loc) (ls : Array Slot) (hW : Wd D cA ad A s M H locs) (hl : lv_has ls 2 [(0, .ref (ad x0)), (1, .int x1)]) (hf : loopF (fun ag s => f_X12_settles_2b  x0 ag s.1 s.2) n (x1, M) = some q), W p l e (rmD 0) s m args below meth c H locs 0 0 (MQ below (QV D cA ad A q) args s 0 0 A) (F0 m 2 ls []) := by
      intro n
      induction n with
      | zero => intro x1 M H locs ls hW hl hf; exact nomatch (show (none : Option _) = some _ from hf)
      | succ n ih => intro x1 M H locs ls hW hl hf; exact B2 x0 x1 M  _ ih H locs ls hW hl hf
    exact key FU x1 M H locs ls hW hl hf
  have hf := hf0
  unfold f_X12_settles at hf
  refine lv_iconst (v := (0 : Int32)) hx hb dX12_settles_0 (by decide) ?_
  refine lv_istore_n (lv' := [(1, .int (0 : Int32)), (0, .ref (ad a0))]) hx hb dX12_settles_1 rfl hl (by decide) rfl (fun ls hl => ?_)
  exact J2 a0 (0 : Int32) M0 _ _ _ hW (lv_sub hl [1, 0] rfl) hf
set_option maxHeartbeats 4000000 in
set_option maxRecDepth 100000 in
theorem c_X12_spins (l : Launch) {D : va_G} {cA : Nat → ClassId} {ad : Nat → Nat} {A : Nat → Prop} (hAd : AdOk ad A) {a0 : Nat} {a1 : Int32} {a2 : Int32} {M0 : Mem} {q : (Int32 × Mem)} (hf0 : f_X12_spins a0 a1 a2 M0 = some q) : Met l yX12_spins (wd yX12_spins cX12_spins 7 (some .int)) (rmD 1) (PcW D cA ad [.ref (ad a0), .int a1, .int a2] M0) (QI D cA ad A q.1 q.2) 0 0 A := by
  refine mk_met (own := RX12) (by decide +kernel) rfl (Nat.le_of_ble_eq_true rfl) ?_
  intro p e s m args below meth c hC hr hlk hK H locs ls hW hl
  have hx := hC.1
  have hb := hC.2.1
  have hl : lv_has ls 7 [(0, .ref (ad a0)), (1, .int a1), (2, .int a2)] := hl
  have J119 : ∀ (x0 : Nat) (x1 : Int32) (x4 : Int32) (x5 : Int32) (y0 : Int32) (M : Mem) (ag75 : Int32 × Int32 × Mem → Option (Int32 × Mem)) (hg75 : ∀ (x4 : Int32) (x5 : Int32) (M : Mem) (H : Heap) (locs : List Loc) (ls : Array Slot) (_ : Wd D cA ad A s M H locs) (_ : lv_has ls 7 [(0, .ref (ad x0)), (1, .int x1), (4, .int x4), (5, .int x5)]) (_ : ag75 (x4, x5, M) = some q), W p l e (rmD 1) s m args below meth c H locs 0 0 (MQ below (QI D cA ad A q.1 q.2) args s 0 0 A) (F0 m 75 ls [])) (H : Heap) (locs : List Loc) (ls : Array Slot) (hW : Wd D cA ad A s M H locs) (hl : lv_has ls 7 [(0, .ref (ad x0)), (1, .int x1), (4, .int x4), (5, .int x5)]) (hf : f_X12_spins_119 ag75 x0 x1 x4 x5 y0 M = some q), W p l e (rmD 1) s m args below meth c H locs 0 0 (MQ below (QI D cA ad A q.1 q.2) args s 0 0 A) (F0 m 119 ls [.int y0]) := by
    intro x0 x1 x4 x5 y0 M ag75 hg75 H locs ls hW hl hf
    unfold f_X12_spins_119 at hf
    refine lv_istore (lv' := [(6, .int y0), (0, .ref (ad x0)), (1, .int x1), (4, .int x4), (5, .int x5)]) hx hb dX12_spins_119 hl (by decide) rfl (fun ls hl => ?_)
    refine lv_aload_n hx hb dX12_spins_121 rfl (lv_at hl 1 rfl) ?_
    obtain ⟨r4, hr4, hf⟩ := ob hf
    refine r_gR hC hK hW cfX12 (by decide) wF_X12_28 rfl hr4 dX12_spins_122 ?_
    refine lv_iconst (v := (1 : Int32)) hx hb dX12_spins_125 (by decide) ?_
    refine lv_iload hx hb dX12_spins_126 (lv_at hl 4 rfl) ?_
    refine lv_iadd hx hb dX12_spins_128 ?_
    refine lv_dup2_11 hx hb dX12_spins_129 rfl rfl ?_
    obtain ⟨v5, hv5, hf⟩ := ob hf
    refine r_aI hC hK hW hv5 dX12_spins_130 ?_
    refine lv_iload hx hb dX12_spins_131 (lv_at hl 0 rfl) ?_
    refine lv_isub hx hb dX12_spins_133 ?_
    obtain ⟨M6, hM6, hf⟩ := ob hf
    refine r_sI hC hK hAd hW hM6 dX12_spins_134 (fun H locs hW => ?_)
    refine lv_iload hx hb dX12_spins_135 (lv_at hl 3 rfl) ?_
    refine lv_iload hx hb dX12_spins_137 (lv_at hl 0 rfl) ?_
    refine lv_iadd hx hb dX12_spins_139 ?_
    refine lv_istore (lv' := [(4, .int (x4 + y0)), (6, .int y0), (0, .ref (ad x0)), (1, .int x1), (5, .int x5)]) hx hb dX12_spins_140 hl (by decide) rfl (fun ls hl => ?_)
    refine lv_iinc (v := (x5 + (1 : Int32))) (lv' := [(5, .int (x5 + (1 : Int32))), (4, .int (x4 + y0)), (6, .int y0), (0, .ref (ad x0)), (1, .int x1)]) hx hb dX12_spins_142 hl (k := 4) rfl rfl (by decide) rfl (fun ls hl => ?_)
    refine lv_goto (tgt := 75) hx hb dX12_spins_145 (by decide) ?_
    exact hg75 (x4 + y0) (x5 + (1 : Int32)) M6 _ _ _ hW (lv_sub hl [3, 4, 1, 0] rfl) hf
  have J118 : ∀ (x0 : Nat) (x1 : Int32) (x4 : Int32) (x5 : Int32)  (M : Mem) (ag75 : Int32 × Int32 × Mem → Option (Int32 × Mem)) (hg75 : ∀ (x4 : Int32) (x5 : Int32) (M : Mem) (H : Heap) (locs : List Loc) (ls : Array Slot) (_ : Wd D cA ad A s M H locs) (_ : lv_has ls 7 [(0, .ref (ad x0)), (1, .int x1), (4, .int x4), (5, .int x5)]) (_ : ag75 (x4, x5, M) = some q), W p l e (rmD 1) s m args below meth c H locs 0 0 (MQ below (QI D cA ad A q.1 q.2) args s 0 0 A) (F0 m 75 ls [])) (H : Heap) (locs : List Loc) (ls : Array Slot) (hW : Wd D cA ad A s M H locs) (hl : lv_has ls 7 [(0, .ref (ad x0)), (1, .int x1), (4, .int x4), (5, .int x5)]) (hf : f_X12_spins_118 ag75 x0 x1 x4 x5  M = some q), W p l e (rmD 1) s m args below meth c H locs 0 0 (MQ below (QI D cA ad A q.1 q.2) args s 0 0 A) (F0 m 118 ls []) := by
    intro x0 x1 x4 x5  M ag75 hg75 H locs ls hW hl hf
    unfold f_X12_spins_118 at hf
    refine lv_iconst (v := (0 : Int32)) hx hb dX12_spins_118 (by decide) ?_
    exact J119 x0 x1 x4 x5 (0 : Int32) M ag75 hg75 _ _ _ hW (lv_sub hl [0, 1, 2, 3] rfl) hf
  have B75 : ∀ (x0 : Nat) (x1 : Int32) (x4 : Int32) (x5 : Int32) (M : Mem)  (ag75 : Int32 × Int32 × Mem → Option (Int32 × Mem)) (hg75 : ∀ (x4 : Int32) (x5 : Int32) (M : Mem) (H : Heap) (locs : List Loc) (ls : Array Slot) (_ : Wd D cA ad A s M H locs) (_ : lv_has ls 7 [(0, .ref (ad x0)), (1, .int x1), (4, .int x4), (5, .int x5)]) (_ : ag75 (x4, x5, M) = some q), W p l e (rmD 1) s m args below meth c H locs 0 0 (MQ below (QI D cA ad A q.1 q.2) args s 0 0 A) (F0 m 75 ls [])) (H : Heap) (locs : List Loc) (ls : Array Slot) (hW : Wd D cA ad A s M H locs) (hl : lv_has ls 7 [(0, .ref (ad x0)), (1, .int x1), (4, .int x4), (5, .int x5)]) (hf : f_X12_spins_75b  x0 x1 ag75 x4 x5 M = some q), W p l e (rmD 1) s m args below meth c H locs 0 0 (MQ below (QI D cA ad A q.1 q.2) args s 0 0 A) (F0 m 75 ls []) := by
    intro x0 x1 x4 x5 M  ag75 hg75 H locs ls hW hl hf
    unfold f_X12_spins_75b at hf
    refine lv_iload hx hb dX12_spins_75 (lv_at hl 3 rfl) ?_
    refine lv_aload_n hx hb dX12_spins_77 rfl (lv_at hl 0 rfl) ?_
    obtain ⟨r13, hr13, hf⟩ := ob hf
    refine r_gR hC hK hW cfX12 (by decide) wF_X12_13 rfl hr13 dX12_spins_78 ?_
    refine lv_iconst (v := (2 : Int32)) hx hb dX12_spins_81 (by decide) ?_
    obtain ⟨v14, hv14, hf⟩ := ob hf
    refine r_aI hC hK hW hv14 dX12_spins_82 ?_
    refine lv_icmp_ge (tgt := 148) hx hb dX12_spins_83 (by decide) (fun c83 => ?_) (fun c83 => ?_)
    · have hf := it c83 hf
      refine lv_iload hx hb dX12_spins_148 (lv_at hl 2 rfl) ?_
      exact r_iret hC hr hlk hW hf dX12_spins_150
    · have hf := ie c83 hf
      refine lv_iload_n hx hb dX12_spins_86 rfl (lv_at hl 1 rfl) ?_
      refine lv_iconst (v := (2 : Int32)) hx hb dX12_spins_87 (by decide) ?_
      refine lv_icmp_le (tgt := 148) hx hb dX12_spins_88 (by decide) (fun c88 => ?_) (fun c88 => ?_)
      · have hf := it c88 hf
        refine lv_iload hx hb dX12_spins_148 (lv_at hl 2 rfl) ?_
        exact r_iret hC hr hlk hW hf dX12_spins_150
      · have hf := ie c88 hf
        refine lv_aload_n hx hb dX12_spins_91 rfl (lv_at hl 0 rfl) ?_
        obtain ⟨r15, hr15, hf⟩ := ob hf
        refine r_gR hC hK hW cfX12 (by decide) wF_X12_22 rfl hr15 dX12_spins_92 ?_
        refine lv_iload hx hb dX12_spins_95 (lv_at hl 3 rfl) ?_
        obtain ⟨v16, hv16, hf⟩ := ob hf
        refine r_aI hC hK hW hv16 dX12_spins_97 ?_
        refine lv_iconst (v := (1 : Int32)) hx hb dX12_spins_98 (by decide) ?_
        refine lv_icmp_ne (tgt := 118) hx hb dX12_spins_99 (by decide) (fun c99 => ?_) (fun c99 => ?_)
        · have hf := ie c99 hf
          exact J118 x0 x1 x4 x5 M ag75 hg75 _ _ _ hW (lv_sub hl [0, 1, 2, 3] rfl) hf
        · have hf := it c99 hf
          refine lv_aload_n hx hb dX12_spins_102 rfl (lv_at hl 0 rfl) ?_
          obtain ⟨r17, hr17, hf⟩ := ob hf
          refine r_gR hC hK hW cfX12 (by decide) wF_X12_28 rfl hr17 dX12_spins_103 ?_
          refine lv_iconst (v := (1 : Int32)) hx hb dX12_spins_106 (by decide) ?_
          refine lv_iload hx hb dX12_spins_107 (lv_at hl 3 rfl) ?_
          refine lv_iadd hx hb dX12_spins_109 ?_
          obtain ⟨v18, hv18, hf⟩ := ob hf
          refine r_aI hC hK hW hv18 dX12_spins_110 ?_
          refine lv_if_le (tgt := 118) hx hb dX12_spins_111 (by decide) (fun c111 => ?_) (fun c111 => ?_)
          · have hf := it c111 hf
            exact J118 x0 x1 x4 x5 M ag75 hg75 _ _ _ hW (lv_sub hl [0, 1, 2, 3] rfl) hf
          · have hf := ie c111 hf
            refine lv_iconst (v := (1 : Int32)) hx hb dX12_spins_114 (by decide) ?_
            refine lv_goto (tgt := 119) hx hb dX12_spins_115 (by decide) ?_
            exact J119 x0 x1 x4 x5 (1 : Int32) M ag75 hg75 _ _ _ hW (lv_sub hl [0, 1, 2, 3] rfl) hf
  have J75 : ∀ (x0 : Nat) (x1 : Int32) (x4 : Int32) (x5 : Int32) (M : Mem)  (H : Heap) (locs : List Loc) (ls : Array Slot) (hW : Wd D cA ad A s M H locs) (hl : lv_has ls 7 [(0, .ref (ad x0)), (1, .int x1), (4, .int x4), (5, .int x5)]) (hf : f_X12_spins_75  x0 x1 x4 x5 M = some q), W p l e (rmD 1) s m args below meth c H locs 0 0 (MQ below (QI D cA ad A q.1 q.2) args s 0 0 A) (F0 m 75 ls []) := by
    intro x0 x1 x4 x5 M  H locs ls hW hl hf
    unfold f_X12_spins_75 at hf
    have key : ∀ (n : Nat) (x4 : Int32) (x5 : Int32) (M : Mem) (H : Heap) (locs : List Loc) (ls : Array Slot) (hW : Wd D cA ad A s M H locs) (hl : lv_has ls 7 [(0, .ref (ad x0)), (1, .int x1), (4, .int x4), (5, .int x5)]) (hf : loopF (fun ag s => f_X12_spins_75b  x0 x1 ag s.1 s.2.1 s.2.2) n (x4, x5, M) = some q), W p l e (rmD 1) s m args below meth c H locs 0 0 (MQ below (QI D cA ad A q.1 q.2) args s 0 0 A) (F0 m 75 ls []) := by
      intro n
      induction n with
      | zero => intro x4 x5 M H locs ls hW hl hf; exact nomatch (show (none : Option _) = some _ from hf)
      | succ n ih => intro x4 x5 M H locs ls hW hl hf; exact B75 x0 x1 x4 x5 M  _ ih H locs ls hW hl hf
    exact key FU x4 x5 M H locs ls hW hl hf
  have J65 : ∀ (x0 : Nat) (x1 : Int32) (x3 : Int32) (y0 : Nat) (y1 : Int32) (y2 : Int32) (y3 : Int32) (M : Mem)  (H : Heap) (locs : List Loc) (ls : Array Slot) (hW : Wd D cA ad A s M H locs) (hl : lv_has ls 7 [(0, .ref (ad x0)), (1, .int x1), (3, .int x3)]) (hf : f_X12_spins_65  x0 x1 x3 y0 y1 y2 y3 M = some q), W p l e (rmD 1) s m args below meth c H locs 0 0 (MQ below (QI D cA ad A q.1 q.2) args s 0 0 A) (F0 m 65 ls [.int y3, .int y2, .int y1, .ref (ad y0)]) := by
    intro x0 x1 x3 y0 y1 y2 y3 M  H locs ls hW hl hf
    unfold f_X12_spins_65 at hf
    refine lv_iadd hx hb dX12_spins_65 ?_
    refine lv_iload_n hx hb dX12_spins_66 rfl (lv_at hl 2 rfl) ?_
    obtain ⟨v21, hv21, hf⟩ := ob hf
    refine r_rem hC hv21 dX12_spins_67 ?_
    obtain ⟨M22, hM22, hf⟩ := ob hf
    refine r_sI hC hK hAd hW hM22 dX12_spins_68 (fun H locs hW => ?_)
    refine lv_iconst (v := (0 : Int32)) hx hb dX12_spins_69 (by decide) ?_
    refine lv_istore (lv' := [(4, .int (0 : Int32)), (0, .ref (ad x0)), (1, .int x1), (3, .int x3)]) hx hb dX12_spins_70 hl (by decide) rfl (fun ls hl => ?_)
    refine lv_iconst (v := (0 : Int32)) hx hb dX12_spins_72 (by decide) ?_
    refine lv_istore (lv' := [(5, .int (0 : Int32)), (4, .int (0 : Int32)), (0, .ref (ad x0)), (1, .int x1), (3, .int x3)]) hx hb dX12_spins_73 hl (by decide) rfl (fun ls hl => ?_)
    exact J75 x0 x1 (0 : Int32) (0 : Int32) M22 _ _ _ hW (lv_sub hl [2, 3, 1, 0] rfl) hf
  have hf := hf0
  unfold f_X12_spins at hf
  refine lv_aload_n hx hb dX12_spins_0 rfl (lv_at hl 0 rfl) ?_
  refine lv_iconst (v := (0 : Int32)) hx hb dX12_spins_1 (by decide) ?_
  obtain ⟨M34, hM34, hf⟩ := ob hf
  refine r_pI hC hK hAd hW cfX12 (by decide) wF_X12_65 rfl rfl rfl hM34 dX12_spins_2 (fun H locs hW => ?_)
  refine lv_iload_n hx hb dX12_spins_5 rfl (lv_at hl 1 rfl) ?_
  refine lv_iconst (v := (1 : Int32)) hx hb dX12_spins_6 (by decide) ?_
  refine lv_aload_n hx hb dX12_spins_7 rfl (lv_at hl 0 rfl) ?_
  obtain ⟨r35, hr35, hf⟩ := ob hf
  refine r_gR hC hK hW cfX12 (by decide) wF_X12_13 rfl hr35 dX12_spins_8 ?_
  refine lv_iconst (v := (0 : Int32)) hx hb dX12_spins_11 (by decide) ?_
  obtain ⟨v36, hv36, hf⟩ := ob hf
  refine r_aI hC hK hW hv36 dX12_spins_12 ?_
  refine lv_iconst (v := (1 : Int32)) hx hb dX12_spins_13 (by decide) ?_
  refine lv_isub hx hb dX12_spins_14 ?_
  obtain ⟨q37, hq37, hf⟩ := ob hf
  refine k_sI hC hK hW (c_X12_in l hAd hq37) my_X12_in wS_X12_in wM_X12_69 ⟨Nat.le_of_ble_eq_true rfl, Nat.le_of_ble_eq_true rfl⟩ rfl hl.1 rfl (Nat.le_of_ble_eq_true rfl) ⟨Nat.zero_le _, Nat.zero_le _⟩ dX12_spins_15 (fun H locs hW => ?_)
  refine lv_if_eq (tgt := 30) hx hb dX12_spins_18 (by decide) (fun c18 => ?_) (fun c18 => ?_)
  · have hf := it c18 hf
    refine lv_iconst (v := (-1 : Int32)) hx hb dX12_spins_30 (by decide) ?_
    exact r_iret hC hr hlk hW hf dX12_spins_31
  · have hf := ie c18 hf
    refine lv_iload_n hx hb dX12_spins_21 rfl (lv_at hl 2 rfl) ?_
    refine lv_iconst (v := (0 : Int32)) hx hb dX12_spins_22 (by decide) ?_
    refine lv_iconst (v := (1 : Int32)) hx hb dX12_spins_23 (by decide) ?_
    obtain ⟨q38, hq38, hf⟩ := ob hf
    refine k_sI hC hK hW (c_X12_in l hAd hq38) my_X12_in wS_X12_in wM_X12_69 ⟨Nat.le_of_ble_eq_true rfl, Nat.le_of_ble_eq_true rfl⟩ rfl hl.1 rfl (Nat.le_of_ble_eq_true rfl) ⟨Nat.zero_le _, Nat.zero_le _⟩ dX12_spins_24 (fun H locs hW => ?_)
    refine lv_if_ne (tgt := 32) hx hb dX12_spins_27 (by decide) (fun c27 => ?_) (fun c27 => ?_)
    · have hf := ie c27 hf
      refine lv_aload_n hx hb dX12_spins_32 rfl (lv_at hl 0 rfl) ?_
      obtain ⟨q39, hq39, hf⟩ := ob hf
      refine k_vV hC hK hW cfX12 (c_X12_notes l hAd (cv_s hq39).2) (cv_s hq39).1 my_X12_notes wI_X12_notes wQ_X12_notes wM_X12_178 ⟨Nat.le_of_ble_eq_true rfl, Nat.le_of_ble_eq_true rfl⟩ rfl hl.1 rfl (Nat.le_of_ble_eq_true rfl) ⟨Nat.zero_le _, Nat.zero_le _⟩ dX12_spins_33 (fun H locs hW => ?_)
      refine lv_aload_n hx hb dX12_spins_36 rfl (lv_at hl 0 rfl) ?_
      obtain ⟨r40, hr40, hf⟩ := ob hf
      refine r_gR hC hK hW cfX12 (by decide) wF_X12_13 rfl hr40 dX12_spins_37 ?_
      refine lv_iconst (v := (0 : Int32)) hx hb dX12_spins_40 (by decide) ?_
      obtain ⟨v41, hv41, hf⟩ := ob hf
      refine r_aI hC hK hW hv41 dX12_spins_41 ?_
      refine lv_istore_n (lv' := [(3, .int v41), (0, .ref (ad a0)), (1, .int a1), (2, .int a2)]) hx hb dX12_spins_42 rfl hl (by decide) rfl (fun ls hl => ?_)
      refine lv_aload_n hx hb dX12_spins_43 rfl (lv_at hl 1 rfl) ?_
      obtain ⟨r42, hr42, hf⟩ := ob hf
      refine r_gR hC hK hW cfX12 (by decide) wF_X12_28 rfl hr42 dX12_spins_44 ?_
      refine lv_iconst (v := (0 : Int32)) hx hb dX12_spins_47 (by decide) ?_
      refine lv_aload_n hx hb dX12_spins_48 rfl (lv_at hl 1 rfl) ?_
      obtain ⟨r43, hr43, hf⟩ := ob hf
      refine r_gR hC hK hW cfX12 (by decide) wF_X12_28 rfl hr43 dX12_spins_49 ?_
      refine lv_iconst (v := (0 : Int32)) hx hb dX12_spins_52 (by decide) ?_
      obtain ⟨v44, hv44, hf⟩ := ob hf
      refine r_aI hC hK hW hv44 dX12_spins_53 ?_
      refine lv_iload_n hx hb dX12_spins_54 rfl (lv_at hl 3 rfl) ?_
      refine lv_if_ne (tgt := 62) hx hb dX12_spins_55 (by decide) (fun c55 => ?_) (fun c55 => ?_)
      · have hf := ie c55 hf
        refine lv_iload_n hx hb dX12_spins_62 rfl (lv_at hl 0 rfl) ?_
        refine lv_iload_n hx hb dX12_spins_63 rfl (lv_at hl 2 rfl) ?_
        refine lv_isub hx hb dX12_spins_64 ?_
        exact J65 a0 a1 v41 r42 (0 : Int32) v44 (v41 - a1) q39 _ _ _ hW (lv_sub hl [1, 2, 0] rfl) hf
      · have hf := it c55 hf
        refine lv_iload_n hx hb dX12_spins_58 rfl (lv_at hl 2 rfl) ?_
        refine lv_goto (tgt := 65) hx hb dX12_spins_59 (by decide) ?_
        exact J65 a0 a1 v41 r42 (0 : Int32) v44 a1 q39 _ _ _ hW (lv_sub hl [1, 2, 0] rfl) hf
    · have hf := it c27 hf
      refine lv_iconst (v := (-1 : Int32)) hx hb dX12_spins_30 (by decide) ?_
      exact r_iret hC hr hlk hW hf dX12_spins_31
set_option maxHeartbeats 4000000 in
set_option maxRecDepth 100000 in
theorem c_X12_steps (l : Launch) {D : va_G} {cA : Nat → ClassId} {ad : Nat → Nat} {A : Nat → Prop} (hAd : AdOk ad A) {a0 : Nat} {a1 : Int32} {a2 : Int32} {a3 : Int32} {M0 : Mem} {q : (Int32 × Mem)} (hf0 : f_X12_steps a0 a1 a2 a3 M0 = some q) : Met l yX12_steps (wd yX12_steps cX12_steps 7 (some .int)) (rmD 2) (PcW D cA ad [.ref (ad a0), .int a1, .int a2, .int a3] M0) (QI D cA ad A q.1 q.2) 0 0 A := by
  refine mk_met (own := RX12) (by decide +kernel) rfl (Nat.le_of_ble_eq_true rfl) ?_
  intro p e s m args below meth c hC hr hlk hK H locs ls hW hl
  have hx := hC.1
  have hb := hC.2.1
  have hl : lv_has ls 7 [(0, .ref (ad a0)), (1, .int a1), (2, .int a2), (3, .int a3)] := hl
  have J99 : ∀ (x3 : Int32) (x5 : Int32) (x6 : Int32)  (M : Mem)  (H : Heap) (locs : List Loc) (ls : Array Slot) (hW : Wd D cA ad A s M H locs) (hl : lv_has ls 7 [(3, .int x3), (5, .int x5), (6, .int x6)]) (hf : f_X12_steps_99  x3 x5 x6  M = some q), W p l e (rmD 2) s m args below meth c H locs 0 0 (MQ below (QI D cA ad A q.1 q.2) args s 0 0 A) (F0 m 99 ls []) := by
    intro x3 x5 x6  M  H locs ls hW hl hf
    unfold f_X12_steps_99 at hf
    refine lv_iload_n hx hb dX12_steps_99 rfl (lv_at hl 0 rfl) ?_
    refine lv_if_ne (tgt := 108) hx hb dX12_steps_100 (by decide) (fun c100 => ?_) (fun c100 => ?_)
    · have hf := ie c100 hf
      refine lv_iload hx hb dX12_steps_108 (lv_at hl 1 rfl) ?_
      refine lv_if_ne (tgt := 118) hx hb dX12_steps_110 (by decide) (fun c110 => ?_) (fun c110 => ?_)
      · have hf := ie c110 hf
        refine lv_iload hx hb dX12_steps_118 (lv_at hl 2 rfl) ?_
        refine lv_if_eq (tgt := 127) hx hb dX12_steps_120 (by decide) (fun c120 => ?_) (fun c120 => ?_)
        · have hf := it c120 hf
          refine lv_iconst (v := (1 : Int32)) hx hb dX12_steps_127 (by decide) ?_
          exact r_iret hC hr hlk hW hf dX12_steps_128
        · have hf := ie c120 hf
          refine lv_iconst (v := (0 : Int32)) hx hb dX12_steps_123 (by decide) ?_
          refine lv_goto (tgt := 128) hx hb dX12_steps_124 (by decide) ?_
          exact r_iret hC hr hlk hW hf dX12_steps_128
      · have hf := it c110 hf
        refine lv_bipush (v := (-9 : Int32)) hx hb dX12_steps_113 (by decide) ?_
        refine lv_goto (tgt := 128) hx hb dX12_steps_115 (by decide) ?_
        exact r_iret hC hr hlk hW hf dX12_steps_128
    · have hf := it c100 hf
      refine lv_iload hx hb dX12_steps_103 (lv_at hl 1 rfl) ?_
      refine lv_goto (tgt := 128) hx hb dX12_steps_105 (by decide) ?_
      exact r_iret hC hr hlk hW hf dX12_steps_128
  have B43 : ∀ (x0 : Nat) (x1 : Int32) (x2 : Int32) (x3 : Int32) (x4 : Int32) (M : Mem) (x5 : Int32)  (ag43 : Int32 → Option (Int32 × Mem)) (hg43 : ∀ (x5 : Int32) (H : Heap) (locs : List Loc) (ls : Array Slot) (_ : Wd D cA ad A s M H locs) (_ : lv_has ls 7 [(0, .ref (ad x0)), (1, .int x1), (2, .int x2), (3, .int x3), (4, .int x4), (5, .int x5)]) (_ : ag43 x5 = some q), W p l e (rmD 2) s m args below meth c H locs 0 0 (MQ below (QI D cA ad A q.1 q.2) args s 0 0 A) (F0 m 43 ls [])) (H : Heap) (locs : List Loc) (ls : Array Slot) (hW : Wd D cA ad A s M H locs) (hl : lv_has ls 7 [(0, .ref (ad x0)), (1, .int x1), (2, .int x2), (3, .int x3), (4, .int x4), (5, .int x5)]) (hf : f_X12_steps_43b  x0 x1 x2 x3 x4 M ag43 x5 = some q), W p l e (rmD 2) s m args below meth c H locs 0 0 (MQ below (QI D cA ad A q.1 q.2) args s 0 0 A) (F0 m 43 ls []) := by
    intro x0 x1 x2 x3 x4 M x5  ag43 hg43 H locs ls hW hl hf
    unfold f_X12_steps_43b at hf
    refine lv_iload hx hb dX12_steps_43 (lv_at hl 5 rfl) ?_
    refine lv_iload hx hb dX12_steps_45 (lv_at hl 4 rfl) ?_
    refine lv_icmp_ge (tgt := 135) hx hb dX12_steps_47 (by decide) (fun c47 => ?_) (fun c47 => ?_)
    · have hf := it c47 hf
      refine lv_bipush (v := (-9 : Int32)) hx hb dX12_steps_135 (by decide) ?_
      exact r_iret hC hr hlk hW hf dX12_steps_137
    · have hf := ie c47 hf
      refine lv_aload_n hx hb dX12_steps_50 rfl (lv_at hl 0 rfl) ?_
      refine lv_iload_n hx hb dX12_steps_51 rfl (lv_at hl 1 rfl) ?_
      refine lv_iload_n hx hb dX12_steps_52 rfl (lv_at hl 2 rfl) ?_
      refine lv_aload_n hx hb dX12_steps_53 rfl (lv_at hl 0 rfl) ?_
      obtain ⟨r9, hr9, hf⟩ := ob hf
      refine r_gR hC hK hW cfX12 (by decide) wF_X12_28 rfl hr9 dX12_steps_54 ?_
      refine lv_iconst (v := (0 : Int32)) hx hb dX12_steps_57 (by decide) ?_
      obtain ⟨v10, hv10, hf⟩ := ob hf
      refine r_aI hC hK hW hv10 dX12_steps_58 ?_
      refine lv_iload hx hb dX12_steps_59 (lv_at hl 5 rfl) ?_
      refine lv_iadd hx hb dX12_steps_61 ?_
      refine lv_iload hx hb dX12_steps_62 (lv_at hl 4 rfl) ?_
      obtain ⟨v11, hv11, hf⟩ := ob hf
      refine r_rem hC hv11 dX12_steps_64 ?_
      obtain ⟨q12, hq12, hf⟩ := ob hf
      refine k_vI hC hK hW cfX12 (c_X12_reachesBy l hAd (cv_s hq12).2) (cv_s hq12).1 my_X12_reachesBy wI_X12_reachesBy wQ_X12_reachesBy wM_X12_131 ⟨Nat.le_of_ble_eq_true rfl, Nat.le_of_ble_eq_true rfl⟩ rfl hl.1 rfl (Nat.le_of_ble_eq_true rfl) ⟨Nat.zero_le _, Nat.zero_le _⟩ dX12_steps_65 (fun H locs hW => ?_)
      refine lv_istore (lv' := [(6, .int q12), (0, .ref (ad x0)), (1, .int x1), (2, .int x2), (3, .int x3), (4, .int x4), (5, .int x5)]) hx hb dX12_steps_68 hl (by decide) rfl (fun ls hl => ?_)
      refine lv_iload hx hb dX12_steps_70 (lv_at hl 0 rfl) ?_
      refine lv_if_ne (tgt := 99) hx hb dX12_steps_72 (by decide) (fun c72 => ?_) (fun c72 => ?_)
      · have hf := ie c72 hf
        exact J99 x3 x5 q12 M _ _ _ hW (lv_sub hl [4, 6, 0] rfl) hf
      · have hf := it c72 hf
        refine lv_aload_n hx hb dX12_steps_75 rfl (lv_at hl 1 rfl) ?_
        refine lv_iload_n hx hb dX12_steps_76 rfl (lv_at hl 2 rfl) ?_
        refine lv_iload_n hx hb dX12_steps_77 rfl (lv_at hl 3 rfl) ?_
        refine lv_aload_n hx hb dX12_steps_78 rfl (lv_at hl 1 rfl) ?_
        obtain ⟨r13, hr13, hf⟩ := ob hf
        refine r_gR hC hK hW cfX12 (by decide) wF_X12_28 rfl hr13 dX12_steps_79 ?_
        refine lv_iconst (v := (0 : Int32)) hx hb dX12_steps_82 (by decide) ?_
        obtain ⟨v14, hv14, hf⟩ := ob hf
        refine r_aI hC hK hW hv14 dX12_steps_83 ?_
        refine lv_iload hx hb dX12_steps_84 (lv_at hl 5 rfl) ?_
        refine lv_iadd hx hb dX12_steps_86 ?_
        refine lv_iload hx hb dX12_steps_87 (lv_at hl 6 rfl) ?_
        refine lv_isub hx hb dX12_steps_89 ?_
        refine lv_iload hx hb dX12_steps_90 (lv_at hl 5 rfl) ?_
        obtain ⟨v15, hv15, hf⟩ := ob hf
        refine r_rem hC hv15 dX12_steps_92 ?_
        obtain ⟨q16, hq16, hf⟩ := ob hf
        refine k_vI hC hK hW cfX12 (c_X12_reachesBy l hAd (cv_s hq16).2) (cv_s hq16).1 my_X12_reachesBy wI_X12_reachesBy wQ_X12_reachesBy wM_X12_131 ⟨Nat.le_of_ble_eq_true rfl, Nat.le_of_ble_eq_true rfl⟩ rfl hl.1 rfl (Nat.le_of_ble_eq_true rfl) ⟨Nat.zero_le _, Nat.zero_le _⟩ dX12_steps_93 (fun H locs hW => ?_)
        refine lv_if_eq (tgt := 129) hx hb dX12_steps_96 (by decide) (fun c96 => ?_) (fun c96 => ?_)
        · have hf := it c96 hf
          refine lv_iinc (v := (x5 + (1 : Int32))) (lv' := [(5, .int (x5 + (1 : Int32))), (6, .int q12), (0, .ref (ad x0)), (1, .int x1), (2, .int x2), (3, .int x3), (4, .int x4)]) hx hb dX12_steps_129 hl (k := 6) rfl rfl (by decide) rfl (fun ls hl => ?_)
          refine lv_goto (tgt := 43) hx hb dX12_steps_132 (by decide) ?_
          exact hg43 (x5 + (1 : Int32)) _ _ _ hW (lv_sub hl [2, 3, 4, 5, 6, 0] rfl) hf
        · have hf := ie c96 hf
          exact J99 x3 x5 q12 M _ _ _ hW (lv_sub hl [4, 6, 0] rfl) hf
  have J43 : ∀ (x0 : Nat) (x1 : Int32) (x2 : Int32) (x3 : Int32) (x4 : Int32) (M : Mem) (x5 : Int32)  (H : Heap) (locs : List Loc) (ls : Array Slot) (hW : Wd D cA ad A s M H locs) (hl : lv_has ls 7 [(0, .ref (ad x0)), (1, .int x1), (2, .int x2), (3, .int x3), (4, .int x4), (5, .int x5)]) (hf : f_X12_steps_43  x0 x1 x2 x3 x4 M x5 = some q), W p l e (rmD 2) s m args below meth c H locs 0 0 (MQ below (QI D cA ad A q.1 q.2) args s 0 0 A) (F0 m 43 ls []) := by
    intro x0 x1 x2 x3 x4 M x5  H locs ls hW hl hf
    unfold f_X12_steps_43 at hf
    have key : ∀ (n : Nat) (x5 : Int32) (H : Heap) (locs : List Loc) (ls : Array Slot) (hW : Wd D cA ad A s M H locs) (hl : lv_has ls 7 [(0, .ref (ad x0)), (1, .int x1), (2, .int x2), (3, .int x3), (4, .int x4), (5, .int x5)]) (hf : loopF (fun ag s => f_X12_steps_43b  x0 x1 x2 x3 x4 M ag s) n x5 = some q), W p l e (rmD 2) s m args below meth c H locs 0 0 (MQ below (QI D cA ad A q.1 q.2) args s 0 0 A) (F0 m 43 ls []) := by
      intro n
      induction n with
      | zero => intro x5 H locs ls hW hl hf; exact nomatch (show (none : Option _) = some _ from hf)
      | succ n ih => intro x5 H locs ls hW hl hf; exact B43 x0 x1 x2 x3 x4 M x5  _ ih H locs ls hW hl hf
    exact key FU x5 H locs ls hW hl hf
  have hf := hf0
  unfold f_X12_steps at hf
  refine lv_aload_n hx hb dX12_steps_0 rfl (lv_at hl 0 rfl) ?_
  refine lv_iconst (v := (0 : Int32)) hx hb dX12_steps_1 (by decide) ?_
  obtain ⟨M23, hM23, hf⟩ := ob hf
  refine r_pI hC hK hAd hW cfX12 (by decide) wF_X12_65 rfl rfl rfl hM23 dX12_steps_2 (fun H locs hW => ?_)
  refine lv_aload_n hx hb dX12_steps_5 rfl (lv_at hl 0 rfl) ?_
  refine lv_iload_n hx hb dX12_steps_6 rfl (lv_at hl 1 rfl) ?_
  obtain ⟨q24, hq24, hf⟩ := ob hf
  refine k_vI hC hK hW cfX12 (c_X12_isGuest l hAd (cv_s hq24).2) (cv_s hq24).1 my_X12_isGuest wI_X12_isGuest wQ_X12_isGuest wM_X12_134 ⟨Nat.le_of_ble_eq_true rfl, Nat.le_of_ble_eq_true rfl⟩ rfl hl.1 rfl (Nat.le_of_ble_eq_true rfl) ⟨Nat.zero_le _, Nat.zero_le _⟩ dX12_steps_7 (fun H locs hW => ?_)
  refine lv_if_eq (tgt := 30) hx hb dX12_steps_10 (by decide) (fun c10 => ?_) (fun c10 => ?_)
  · have hf := it c10 hf
    refine lv_iconst (v := (-1 : Int32)) hx hb dX12_steps_30 (by decide) ?_
    exact r_iret hC hr hlk hW hf dX12_steps_31
  · have hf := ie c10 hf
    refine lv_aload_n hx hb dX12_steps_13 rfl (lv_at hl 0 rfl) ?_
    refine lv_iload_n hx hb dX12_steps_14 rfl (lv_at hl 2 rfl) ?_
    obtain ⟨q25, hq25, hf⟩ := ob hf
    refine k_vI hC hK hW cfX12 (c_X12_isDish l hAd (cv_s hq25).2) (cv_s hq25).1 my_X12_isDish wI_X12_isDish wQ_X12_isDish wM_X12_143 ⟨Nat.le_of_ble_eq_true rfl, Nat.le_of_ble_eq_true rfl⟩ rfl hl.1 rfl (Nat.le_of_ble_eq_true rfl) ⟨Nat.zero_le _, Nat.zero_le _⟩ dX12_steps_15 (fun H locs hW => ?_)
    refine lv_if_eq (tgt := 30) hx hb dX12_steps_18 (by decide) (fun c18 => ?_) (fun c18 => ?_)
    · have hf := it c18 hf
      refine lv_iconst (v := (-1 : Int32)) hx hb dX12_steps_30 (by decide) ?_
      exact r_iret hC hr hlk hW hf dX12_steps_31
    · have hf := ie c18 hf
      refine lv_iload_n hx hb dX12_steps_21 rfl (lv_at hl 3 rfl) ?_
      refine lv_iconst (v := (0 : Int32)) hx hb dX12_steps_22 (by decide) ?_
      refine lv_iconst (v := (1 : Int32)) hx hb dX12_steps_23 (by decide) ?_
      obtain ⟨q26, hq26, hf⟩ := ob hf
      refine k_sI hC hK hW (c_X12_in l hAd hq26) my_X12_in wS_X12_in wM_X12_69 ⟨Nat.le_of_ble_eq_true rfl, Nat.le_of_ble_eq_true rfl⟩ rfl hl.1 rfl (Nat.le_of_ble_eq_true rfl) ⟨Nat.zero_le _, Nat.zero_le _⟩ dX12_steps_24 (fun H locs hW => ?_)
      refine lv_if_ne (tgt := 32) hx hb dX12_steps_27 (by decide) (fun c27 => ?_) (fun c27 => ?_)
      · have hf := ie c27 hf
        refine lv_aload_n hx hb dX12_steps_32 rfl (lv_at hl 0 rfl) ?_
        obtain ⟨r27, hr27, hf⟩ := ob hf
        refine r_gR hC hK hW cfX12 (by decide) wF_X12_13 rfl hr27 dX12_steps_33 ?_
        refine lv_iconst (v := (0 : Int32)) hx hb dX12_steps_36 (by decide) ?_
        obtain ⟨v28, hv28, hf⟩ := ob hf
        refine r_aI hC hK hW hv28 dX12_steps_37 ?_
        refine lv_istore (lv' := [(4, .int v28), (0, .ref (ad a0)), (1, .int a1), (2, .int a2), (3, .int a3)]) hx hb dX12_steps_38 hl (by decide) rfl (fun ls hl => ?_)
        refine lv_iconst (v := (0 : Int32)) hx hb dX12_steps_40 (by decide) ?_
        refine lv_istore (lv' := [(5, .int (0 : Int32)), (4, .int v28), (0, .ref (ad a0)), (1, .int a1), (2, .int a2), (3, .int a3)]) hx hb dX12_steps_41 hl (by decide) rfl (fun ls hl => ?_)
        exact J43 a0 a1 a2 a3 v28 M23 (0 : Int32) _ _ _ hW (lv_sub hl [2, 3, 4, 5, 1, 0] rfl) hf
      · have hf := it c27 hf
        refine lv_iconst (v := (-1 : Int32)) hx hb dX12_steps_30 (by decide) ?_
        exact r_iret hC hr hlk hW hf dX12_steps_31
set_option maxHeartbeats 4000000 in
set_option maxRecDepth 100000 in
theorem c_X12_table (l : Launch) {D : va_G} {cA : Nat → ClassId} {ad : Nat → Nat} {A : Nat → Prop} (hAd : AdOk ad A) {a0 : Nat} {M0 : Mem} {q : (Int32 × Mem)} (hf0 : f_X12_table a0 M0 = some q) : Met l yX12_table (wd yX12_table cX12_table 3 (some .int)) (rmD 5) (PcW D cA ad [.ref (ad a0)] M0) (QI D cA ad A q.1 q.2) 0 0 A := by
  refine mk_met (own := RX12) (by decide +kernel) rfl (Nat.le_of_ble_eq_true rfl) ?_
  intro p e s m args below meth c hC hr hlk hK H locs ls hW hl
  have hx := hC.1
  have hb := hC.2.1
  have hl : lv_has ls 3 [(0, .ref (ad a0))] := hl
  have J101 : ∀ (x0 : Nat) (x1 : Int32)  (M : Mem)  (H : Heap) (locs : List Loc) (ls : Array Slot) (hW : Wd D cA ad A s M H locs) (hl : lv_has ls 3 [(0, .ref (ad x0)), (1, .int x1)]) (hf : f_X12_table_101  x0 x1  M = some q), W p l e (rmD 5) s m args below meth c H locs 0 0 (MQ below (QI D cA ad A q.1 q.2) args s 0 0 A) (F0 m 101 ls []) := by
    intro x0 x1  M  H locs ls hW hl hf
    unfold f_X12_table_101 at hf
    refine lv_aload_n hx hb dX12_table_101 rfl (lv_at hl 0 rfl) ?_
    obtain ⟨q4, hq4, hf⟩ := ob hf
    refine k_vI hC hK hW cfX12 (c_X12_isWell l hAd (cv_s hq4).2) (cv_s hq4).1 my_X12_isWell wI_X12_isWell wQ_X12_isWell wM_X12_95 ⟨Nat.le_of_ble_eq_true rfl, Nat.le_of_ble_eq_true rfl⟩ rfl hl.1 rfl (Nat.le_of_ble_eq_true rfl) ⟨Nat.zero_le _, Nat.zero_le _⟩ dX12_table_102 (fun H locs hW => ?_)
    refine lv_if_ne (tgt := 116) hx hb dX12_table_105 (by decide) (fun c105 => ?_) (fun c105 => ?_)
    · have hf := ie c105 hf
      refine lv_aload_n hx hb dX12_table_116 rfl (lv_at hl 0 rfl) ?_
      obtain ⟨q5, hq5, hf⟩ := ob hf
      refine k_vV hC hK hW cfX12 (c_X12_settles l hAd (cv_s hq5).2) (cv_s hq5).1 my_X12_settles wI_X12_settles wQ_X12_settles wM_X12_62 ⟨Nat.le_of_ble_eq_true rfl, Nat.le_of_ble_eq_true rfl⟩ rfl hl.1 rfl (Nat.le_of_ble_eq_true rfl) ⟨Nat.zero_le _, Nat.zero_le _⟩ dX12_table_117 (fun H locs hW => ?_)
      refine lv_iload_n hx hb dX12_table_120 rfl (lv_at hl 1 rfl) ?_
      exact r_iret hC hr hlk hW hf dX12_table_121
    · have hf := it c105 hf
      refine lv_bipush (v := (-10 : Int32)) hx hb dX12_table_108 (by decide) ?_
      refine lv_aload_n hx hb dX12_table_110 rfl (lv_at hl 0 rfl) ?_
      obtain ⟨v6, hv6, hf⟩ := ob hf
      refine r_gI hC hK hW cfX12 (by decide) wF_X12_92 rfl hv6 dX12_table_111 ?_
      refine lv_isub hx hb dX12_table_114 ?_
      exact r_iret hC hr hlk hW hf dX12_table_115
  have J91 : ∀ (x0 : Nat) (x1 : Int32) (y0 : Nat) (y1 : Int32) (M : Mem) (ag25 : Int32 × Mem → Option (Int32 × Mem)) (hg25 : ∀ (x1 : Int32) (M : Mem) (H : Heap) (locs : List Loc) (ls : Array Slot) (_ : Wd D cA ad A s M H locs) (_ : lv_has ls 3 [(0, .ref (ad x0)), (1, .int x1)]) (_ : ag25 (x1, M) = some q), W p l e (rmD 5) s m args below meth c H locs 0 0 (MQ below (QI D cA ad A q.1 q.2) args s 0 0 A) (F0 m 25 ls [])) (H : Heap) (locs : List Loc) (ls : Array Slot) (hW : Wd D cA ad A s M H locs) (hl : lv_has ls 3 [(0, .ref (ad x0)), (1, .int x1)]) (hf : f_X12_table_91 ag25 x0 x1 y0 y1 M = some q), W p l e (rmD 5) s m args below meth c H locs 0 0 (MQ below (QI D cA ad A q.1 q.2) args s 0 0 A) (F0 m 91 ls [.int y1, .ref (ad y0)]) := by
    intro x0 x1 y0 y1 M ag25 hg25 H locs ls hW hl hf
    unfold f_X12_table_91 at hf
    obtain ⟨q8, hq8, hf⟩ := ob hf
    refine k_vI hC hK hW cfX12 (c_X12_takesToken l hAd (cv_s hq8).2) (cv_s hq8).1 my_X12_takesToken wI_X12_takesToken wQ_X12_takesToken wM_X12_102 ⟨Nat.le_of_ble_eq_true rfl, Nat.le_of_ble_eq_true rfl⟩ rfl hl.1 rfl (Nat.le_of_ble_eq_true rfl) ⟨Nat.zero_le _, Nat.zero_le _⟩ dX12_table_91 (fun H locs hW => ?_)
    refine lv_pop hx hb dX12_table_94 rfl ?_
    refine lv_iinc (v := (x1 + (1 : Int32))) (lv' := [(1, .int (x1 + (1 : Int32))), (0, .ref (ad x0))]) hx hb dX12_table_95 hl (k := 1) rfl rfl (by decide) rfl (fun ls hl => ?_)
    refine lv_goto (tgt := 25) hx hb dX12_table_98 (by decide) ?_
    exact hg25 (x1 + (1 : Int32)) q8.2 _ _ _ hW (lv_sub hl [1, 0] rfl) hf
  have J77 : ∀ (x0 : Nat) (x1 : Int32)  (M : Mem) (ag25 : Int32 × Mem → Option (Int32 × Mem)) (hg25 : ∀ (x1 : Int32) (M : Mem) (H : Heap) (locs : List Loc) (ls : Array Slot) (_ : Wd D cA ad A s M H locs) (_ : lv_has ls 3 [(0, .ref (ad x0)), (1, .int x1)]) (_ : ag25 (x1, M) = some q), W p l e (rmD 5) s m args below meth c H locs 0 0 (MQ below (QI D cA ad A q.1 q.2) args s 0 0 A) (F0 m 25 ls [])) (H : Heap) (locs : List Loc) (ls : Array Slot) (hW : Wd D cA ad A s M H locs) (hl : lv_has ls 3 [(0, .ref (ad x0)), (1, .int x1)]) (hf : f_X12_table_77 ag25 x0 x1  M = some q), W p l e (rmD 5) s m args below meth c H locs 0 0 (MQ below (QI D cA ad A q.1 q.2) args s 0 0 A) (F0 m 77 ls []) := by
    intro x0 x1  M ag25 hg25 H locs ls hW hl hf
    unfold f_X12_table_77 at hf
    refine lv_aload_n hx hb dX12_table_77 rfl (lv_at hl 0 rfl) ?_
    refine lv_aload_n hx hb dX12_table_78 rfl (lv_at hl 0 rfl) ?_
    obtain ⟨v10, hv10, hf⟩ := ob hf
    refine r_gI hC hK hW cfX12 (by decide) wF_X12_89 rfl hv10 dX12_table_79 ?_
    refine lv_iconst (v := (3 : Int32)) hx hb dX12_table_82 (by decide) ?_
    refine lv_icmp_ne (tgt := 90) hx hb dX12_table_83 (by decide) (fun c83 => ?_) (fun c83 => ?_)
    · have hf := ie c83 hf
      refine lv_iconst (v := (0 : Int32)) hx hb dX12_table_90 (by decide) ?_
      exact J91 x0 x1 x0 (0 : Int32) M ag25 hg25 _ _ _ hW (lv_sub hl [0, 1] rfl) hf
    · have hf := it c83 hf
      refine lv_iconst (v := (1 : Int32)) hx hb dX12_table_86 (by decide) ?_
      refine lv_goto (tgt := 91) hx hb dX12_table_87 (by decide) ?_
      exact J91 x0 x1 x0 (1 : Int32) M ag25 hg25 _ _ _ hW (lv_sub hl [0, 1] rfl) hf
  have J61 : ∀ (x0 : Nat) (x1 : Int32) (y0 : Nat) (y1 : Int32) (M : Mem) (ag25 : Int32 × Mem → Option (Int32 × Mem)) (hg25 : ∀ (x1 : Int32) (M : Mem) (H : Heap) (locs : List Loc) (ls : Array Slot) (_ : Wd D cA ad A s M H locs) (_ : lv_has ls 3 [(0, .ref (ad x0)), (1, .int x1)]) (_ : ag25 (x1, M) = some q), W p l e (rmD 5) s m args below meth c H locs 0 0 (MQ below (QI D cA ad A q.1 q.2) args s 0 0 A) (F0 m 25 ls [])) (H : Heap) (locs : List Loc) (ls : Array Slot) (hW : Wd D cA ad A s M H locs) (hl : lv_has ls 3 [(0, .ref (ad x0)), (1, .int x1)]) (hf : f_X12_table_61 ag25 x0 x1 y0 y1 M = some q), W p l e (rmD 5) s m args below meth c H locs 0 0 (MQ below (QI D cA ad A q.1 q.2) args s 0 0 A) (F0 m 61 ls [.int y1, .ref (ad y0)]) := by
    intro x0 x1 y0 y1 M ag25 hg25 H locs ls hW hl hf
    unfold f_X12_table_61 at hf
    obtain ⟨q14, hq14, hf⟩ := ob hf
    refine k_vI hC hK hW cfX12 (c_X12_takesToken l hAd (cv_s hq14).2) (cv_s hq14).1 my_X12_takesToken wI_X12_takesToken wQ_X12_takesToken wM_X12_102 ⟨Nat.le_of_ble_eq_true rfl, Nat.le_of_ble_eq_true rfl⟩ rfl hl.1 rfl (Nat.le_of_ble_eq_true rfl) ⟨Nat.zero_le _, Nat.zero_le _⟩ dX12_table_61 (fun H locs hW => ?_)
    refine lv_istore_n (lv' := [(2, .int q14.1), (0, .ref (ad x0)), (1, .int x1)]) hx hb dX12_table_64 rfl hl (by decide) rfl (fun ls hl => ?_)
    refine lv_aload_n hx hb dX12_table_65 rfl (lv_at hl 1 rfl) ?_
    obtain ⟨q15, hq15, hf⟩ := ob hf
    refine k_vI hC hK hW cfX12 (c_X12_isWell l hAd (cv_s hq15).2) (cv_s hq15).1 my_X12_isWell wI_X12_isWell wQ_X12_isWell wM_X12_95 ⟨Nat.le_of_ble_eq_true rfl, Nat.le_of_ble_eq_true rfl⟩ rfl hl.1 rfl (Nat.le_of_ble_eq_true rfl) ⟨Nat.zero_le _, Nat.zero_le _⟩ dX12_table_66 (fun H locs hW => ?_)
    refine lv_if_eq (tgt := 77) hx hb dX12_table_69 (by decide) (fun c69 => ?_) (fun c69 => ?_)
    · have hf := it c69 hf
      exact J77 x0 x1 q14.2 ag25 hg25 _ _ _ hW (lv_sub hl [1, 2] rfl) hf
    · have hf := ie c69 hf
      refine lv_aload_n hx hb dX12_table_72 rfl (lv_at hl 1 rfl) ?_
      refine lv_iload_n hx hb dX12_table_73 rfl (lv_at hl 0 rfl) ?_
      obtain ⟨q16, hq16, hf⟩ := ob hf
      refine k_vV hC hK hW cfX12 (c_X12_readsItem l hAd (cv_s hq16).2) (cv_s hq16).1 my_X12_readsItem wI_X12_readsItem wQ_X12_readsItem wM_X12_121 ⟨Nat.le_of_ble_eq_true rfl, Nat.le_of_ble_eq_true rfl⟩ rfl hl.1 rfl (Nat.le_of_ble_eq_true rfl) ⟨Nat.zero_le _, Nat.zero_le _⟩ dX12_table_74 (fun H locs hW => ?_)
      exact J77 x0 x1 q16 ag25 hg25 _ _ _ hW (lv_sub hl [1, 2] rfl) hf
  have J60 : ∀ (x0 : Nat) (x1 : Int32) (y0 : Nat) (M : Mem) (ag25 : Int32 × Mem → Option (Int32 × Mem)) (hg25 : ∀ (x1 : Int32) (M : Mem) (H : Heap) (locs : List Loc) (ls : Array Slot) (_ : Wd D cA ad A s M H locs) (_ : lv_has ls 3 [(0, .ref (ad x0)), (1, .int x1)]) (_ : ag25 (x1, M) = some q), W p l e (rmD 5) s m args below meth c H locs 0 0 (MQ below (QI D cA ad A q.1 q.2) args s 0 0 A) (F0 m 25 ls [])) (H : Heap) (locs : List Loc) (ls : Array Slot) (hW : Wd D cA ad A s M H locs) (hl : lv_has ls 3 [(0, .ref (ad x0)), (1, .int x1)]) (hf : f_X12_table_60 ag25 x0 x1 y0 M = some q), W p l e (rmD 5) s m args below meth c H locs 0 0 (MQ below (QI D cA ad A q.1 q.2) args s 0 0 A) (F0 m 60 ls [.ref (ad y0)]) := by
    intro x0 x1 y0 M ag25 hg25 H locs ls hW hl hf
    unfold f_X12_table_60 at hf
    refine lv_iconst (v := (0 : Int32)) hx hb dX12_table_60 (by decide) ?_
    exact J61 x0 x1 y0 (0 : Int32) M ag25 hg25 _ _ _ hW (lv_sub hl [0, 1] rfl) hf
  have B25 : ∀ (x0 : Nat) (x1 : Int32) (M : Mem)  (ag25 : Int32 × Mem → Option (Int32 × Mem)) (hg25 : ∀ (x1 : Int32) (M : Mem) (H : Heap) (locs : List Loc) (ls : Array Slot) (_ : Wd D cA ad A s M H locs) (_ : lv_has ls 3 [(0, .ref (ad x0)), (1, .int x1)]) (_ : ag25 (x1, M) = some q), W p l e (rmD 5) s m args below meth c H locs 0 0 (MQ below (QI D cA ad A q.1 q.2) args s 0 0 A) (F0 m 25 ls [])) (H : Heap) (locs : List Loc) (ls : Array Slot) (hW : Wd D cA ad A s M H locs) (hl : lv_has ls 3 [(0, .ref (ad x0)), (1, .int x1)]) (hf : f_X12_table_25b  x0 ag25 x1 M = some q), W p l e (rmD 5) s m args below meth c H locs 0 0 (MQ below (QI D cA ad A q.1 q.2) args s 0 0 A) (F0 m 25 ls []) := by
    intro x0 x1 M  ag25 hg25 H locs ls hW hl hf
    unfold f_X12_table_25b at hf
    refine lv_aload_n hx hb dX12_table_25 rfl (lv_at hl 0 rfl) ?_
    obtain ⟨q21, hq21, hf⟩ := ob hf
    refine k_vI hC hK hW cfX12 (c_X12_isWell l hAd (cv_s hq21).2) (cv_s hq21).1 my_X12_isWell wI_X12_isWell wQ_X12_isWell wM_X12_95 ⟨Nat.le_of_ble_eq_true rfl, Nat.le_of_ble_eq_true rfl⟩ rfl hl.1 rfl (Nat.le_of_ble_eq_true rfl) ⟨Nat.zero_le _, Nat.zero_le _⟩ dX12_table_26 (fun H locs hW => ?_)
    refine lv_if_eq (tgt := 101) hx hb dX12_table_29 (by decide) (fun c29 => ?_) (fun c29 => ?_)
    · have hf := it c29 hf
      exact J101 x0 x1 M _ _ _ hW (lv_sub hl [0, 1] rfl) hf
    · have hf := ie c29 hf
      refine lv_aload_n hx hb dX12_table_32 rfl (lv_at hl 0 rfl) ?_
      obtain ⟨v22, hv22, hf⟩ := ob hf
      refine r_gI hC hK hW cfX12 (by decide) wF_X12_89 rfl hv22 dX12_table_33 ?_
      refine lv_if_eq (tgt := 101) hx hb dX12_table_36 (by decide) (fun c36 => ?_) (fun c36 => ?_)
      · have hf := it c36 hf
        exact J101 x0 x1 M _ _ _ hW (lv_sub hl [0, 1] rfl) hf
      · have hf := ie c36 hf
        refine lv_aload_n hx hb dX12_table_39 rfl (lv_at hl 0 rfl) ?_
        refine lv_aload_n hx hb dX12_table_40 rfl (lv_at hl 0 rfl) ?_
        obtain ⟨v23, hv23, hf⟩ := ob hf
        refine r_gI hC hK hW cfX12 (by decide) wF_X12_89 rfl hv23 dX12_table_41 ?_
        refine lv_iconst (v := (1 : Int32)) hx hb dX12_table_44 (by decide) ?_
        refine lv_icmp_ne (tgt := 60) hx hb dX12_table_45 (by decide) (fun c45 => ?_) (fun c45 => ?_)
        · have hf := ie c45 hf
          exact J60 x0 x1 x0 M ag25 hg25 _ _ _ hW (lv_sub hl [0, 1] rfl) hf
        · have hf := it c45 hf
          refine lv_aload_n hx hb dX12_table_48 rfl (lv_at hl 0 rfl) ?_
          refine lv_iload_n hx hb dX12_table_49 rfl (lv_at hl 1 rfl) ?_
          obtain ⟨q24, hq24, hf⟩ := ob hf
          refine k_vI hC hK hW cfX12 (c_X12_mayBegin l hAd (cv_s hq24).2) (cv_s hq24).1 my_X12_mayBegin wI_X12_mayBegin wQ_X12_mayBegin wM_X12_117 ⟨Nat.le_of_ble_eq_true rfl, Nat.le_of_ble_eq_true rfl⟩ rfl hl.1 rfl (Nat.le_of_ble_eq_true rfl) ⟨Nat.zero_le _, Nat.zero_le _⟩ dX12_table_50 (fun H locs hW => ?_)
          refine lv_if_eq (tgt := 60) hx hb dX12_table_53 (by decide) (fun c53 => ?_) (fun c53 => ?_)
          · have hf := it c53 hf
            exact J60 x0 x1 x0 M ag25 hg25 _ _ _ hW (lv_sub hl [0, 1] rfl) hf
          · have hf := ie c53 hf
            refine lv_iconst (v := (1 : Int32)) hx hb dX12_table_56 (by decide) ?_
            refine lv_goto (tgt := 61) hx hb dX12_table_57 (by decide) ?_
            exact J61 x0 x1 x0 (1 : Int32) M ag25 hg25 _ _ _ hW (lv_sub hl [0, 1] rfl) hf
  have J25 : ∀ (x0 : Nat) (x1 : Int32) (M : Mem)  (H : Heap) (locs : List Loc) (ls : Array Slot) (hW : Wd D cA ad A s M H locs) (hl : lv_has ls 3 [(0, .ref (ad x0)), (1, .int x1)]) (hf : f_X12_table_25  x0 x1 M = some q), W p l e (rmD 5) s m args below meth c H locs 0 0 (MQ below (QI D cA ad A q.1 q.2) args s 0 0 A) (F0 m 25 ls []) := by
    intro x0 x1 M  H locs ls hW hl hf
    unfold f_X12_table_25 at hf
    have key : ∀ (n : Nat) (x1 : Int32) (M : Mem) (H : Heap) (locs : List Loc) (ls : Array Slot) (hW : Wd D cA ad A s M H locs) (hl : lv_has ls 3 [(0, .ref (ad x0)), (1, .int x1)]) (hf : loopF (fun ag s => f_X12_table_25b  x0 ag s.1 s.2) n (x1, M) = some q), W p l e (rmD 5) s m args below meth c H locs 0 0 (MQ below (QI D cA ad A q.1 q.2) args s 0 0 A) (F0 m 25 ls []) := by
      intro n
      induction n with
      | zero => intro x1 M H locs ls hW hl hf; exact nomatch (show (none : Option _) = some _ from hf)
      | succ n ih => intro x1 M H locs ls hW hl hf; exact B25 x0 x1 M  _ ih H locs ls hW hl hf
    exact key FU x1 M H locs ls hW hl hf
  have hf := hf0
  unfold f_X12_table at hf
  refine lv_aload_n hx hb dX12_table_0 rfl (lv_at hl 0 rfl) ?_
  refine lv_iconst (v := (0 : Int32)) hx hb dX12_table_1 (by decide) ?_
  obtain ⟨M30, hM30, hf⟩ := ob hf
  refine r_pI hC hK hAd hW cfX12 (by decide) wF_X12_65 rfl rfl rfl hM30 dX12_table_2 (fun H locs hW => ?_)
  refine lv_aload_n hx hb dX12_table_5 rfl (lv_at hl 0 rfl) ?_
  refine lv_iconst (v := (-1 : Int32)) hx hb dX12_table_6 (by decide) ?_
  obtain ⟨M31, hM31, hf⟩ := ob hf
  refine r_pI hC hK hAd hW cfX12 (by decide) wF_X12_92 rfl rfl rfl hM31 dX12_table_7 (fun H locs hW => ?_)
  refine lv_aload_n hx hb dX12_table_10 rfl (lv_at hl 0 rfl) ?_
  refine lv_iconst (v := (0 : Int32)) hx hb dX12_table_11 (by decide) ?_
  obtain ⟨M32, hM32, hf⟩ := ob hf
  refine r_pI hC hK hAd hW cfX12 (by decide) wF_X12_76 rfl rfl rfl hM32 dX12_table_12 (fun H locs hW => ?_)
  refine lv_aload_n hx hb dX12_table_15 rfl (lv_at hl 0 rfl) ?_
  obtain ⟨q33, hq33, hf⟩ := ob hf
  refine k_vV hC hK hW cfX12 (c_X12_begins l hAd (cv_s hq33).2) (cv_s hq33).1 my_X12_begins wI_X12_begins wQ_X12_begins wM_X12_59 ⟨Nat.le_of_ble_eq_true rfl, Nat.le_of_ble_eq_true rfl⟩ rfl hl.1 rfl (Nat.le_of_ble_eq_true rfl) ⟨Nat.zero_le _, Nat.zero_le _⟩ dX12_table_16 (fun H locs hW => ?_)
  refine lv_iconst (v := (0 : Int32)) hx hb dX12_table_19 (by decide) ?_
  refine lv_istore_n (lv' := [(1, .int (0 : Int32)), (0, .ref (ad a0))]) hx hb dX12_table_20 rfl hl (by decide) rfl (fun ls hl => ?_)
  refine lv_aload_n hx hb dX12_table_21 rfl (lv_at hl 1 rfl) ?_
  obtain ⟨q34, hq34, hf⟩ := ob hf
  refine k_vV hC hK hW cfX12 (c_X12_advances l hAd (cv_s hq34).2) (cv_s hq34).1 my_X12_advances wI_X12_advances wQ_X12_advances wM_X12_99 ⟨Nat.le_of_ble_eq_true rfl, Nat.le_of_ble_eq_true rfl⟩ rfl hl.1 rfl (Nat.le_of_ble_eq_true rfl) ⟨Nat.zero_le _, Nat.zero_le _⟩ dX12_table_22 (fun H locs hW => ?_)
  exact J25 a0 (0 : Int32) q34 _ _ _ hW (lv_sub hl [1, 0] rfl) hf
set_option maxHeartbeats 4000000 in
set_option maxRecDepth 100000 in
theorem c_X12_takes (l : Launch) {D : va_G} {cA : Nat → ClassId} {ad : Nat → Nat} {A : Nat → Prop} (hAd : AdOk ad A) {a0 : Nat} {a1 : Int32} {a2 : Int32} {M0 : Mem} {q : (Int32 × Mem)} (hf0 : f_X12_takes a0 a1 a2 M0 = some q) : Met l yX12_takes (wd yX12_takes cX12_takes 3 (some .int)) (rmD 2) (PcW D cA ad [.ref (ad a0), .int a1, .int a2] M0) (QI D cA ad A q.1 q.2) 0 0 A := by
  refine mk_met (own := RX12) (by decide +kernel) rfl (Nat.le_of_ble_eq_true rfl) ?_
  intro p e s m args below meth c hC hr hlk hK H locs ls hW hl
  have hx := hC.1
  have hb := hC.2.1
  have hl : lv_has ls 3 [(0, .ref (ad a0)), (1, .int a1), (2, .int a2)] := hl
  have hf := hf0
  unfold f_X12_takes at hf
  refine lv_aload_n hx hb dX12_takes_0 rfl (lv_at hl 0 rfl) ?_
  refine lv_iconst (v := (0 : Int32)) hx hb dX12_takes_1 (by decide) ?_
  obtain ⟨M18, hM18, hf⟩ := ob hf
  refine r_pI hC hK hAd hW cfX12 (by decide) wF_X12_65 rfl rfl rfl hM18 dX12_takes_2 (fun H locs hW => ?_)
  refine lv_aload_n hx hb dX12_takes_5 rfl (lv_at hl 0 rfl) ?_
  refine lv_iload_n hx hb dX12_takes_6 rfl (lv_at hl 1 rfl) ?_
  obtain ⟨q19, hq19, hf⟩ := ob hf
  refine k_vI hC hK hW cfX12 (c_X12_isGuest l hAd (cv_s hq19).2) (cv_s hq19).1 my_X12_isGuest wI_X12_isGuest wQ_X12_isGuest wM_X12_134 ⟨Nat.le_of_ble_eq_true rfl, Nat.le_of_ble_eq_true rfl⟩ rfl hl.1 rfl (Nat.le_of_ble_eq_true rfl) ⟨Nat.zero_le _, Nat.zero_le _⟩ dX12_takes_7 (fun H locs hW => ?_)
  refine lv_if_eq (tgt := 21) hx hb dX12_takes_10 (by decide) (fun c10 => ?_) (fun c10 => ?_)
  · have hf := it c10 hf
    refine lv_iconst (v := (-1 : Int32)) hx hb dX12_takes_21 (by decide) ?_
    exact r_iret hC hr hlk hW hf dX12_takes_22
  · have hf := ie c10 hf
    refine lv_aload_n hx hb dX12_takes_13 rfl (lv_at hl 0 rfl) ?_
    refine lv_iload_n hx hb dX12_takes_14 rfl (lv_at hl 2 rfl) ?_
    obtain ⟨q20, hq20, hf⟩ := ob hf
    refine k_vI hC hK hW cfX12 (c_X12_isDish l hAd (cv_s hq20).2) (cv_s hq20).1 my_X12_isDish wI_X12_isDish wQ_X12_isDish wM_X12_143 ⟨Nat.le_of_ble_eq_true rfl, Nat.le_of_ble_eq_true rfl⟩ rfl hl.1 rfl (Nat.le_of_ble_eq_true rfl) ⟨Nat.zero_le _, Nat.zero_le _⟩ dX12_takes_15 (fun H locs hW => ?_)
    refine lv_if_ne (tgt := 23) hx hb dX12_takes_18 (by decide) (fun c18 => ?_) (fun c18 => ?_)
    · have hf := ie c18 hf
      refine lv_aload_n hx hb dX12_takes_23 rfl (lv_at hl 0 rfl) ?_
      refine lv_iload_n hx hb dX12_takes_24 rfl (lv_at hl 1 rfl) ?_
      refine lv_iload_n hx hb dX12_takes_25 rfl (lv_at hl 2 rfl) ?_
      refine lv_aload_n hx hb dX12_takes_26 rfl (lv_at hl 0 rfl) ?_
      obtain ⟨r21, hr21, hf⟩ := ob hf
      refine r_gR hC hK hW cfX12 (by decide) wF_X12_28 rfl hr21 dX12_takes_27 ?_
      refine lv_iconst (v := (0 : Int32)) hx hb dX12_takes_30 (by decide) ?_
      obtain ⟨v22, hv22, hf⟩ := ob hf
      refine r_aI hC hK hW hv22 dX12_takes_31 ?_
      obtain ⟨q23, hq23, hf⟩ := ob hf
      refine k_vI hC hK hW cfX12 (c_X12_reachesBy l hAd (cv_s hq23).2) (cv_s hq23).1 my_X12_reachesBy wI_X12_reachesBy wQ_X12_reachesBy wM_X12_131 ⟨Nat.le_of_ble_eq_true rfl, Nat.le_of_ble_eq_true rfl⟩ rfl hl.1 rfl (Nat.le_of_ble_eq_true rfl) ⟨Nat.zero_le _, Nat.zero_le _⟩ dX12_takes_32 (fun H locs hW => ?_)
      refine lv_if_eq (tgt := 49) hx hb dX12_takes_35 (by decide) (fun c35 => ?_) (fun c35 => ?_)
      · have hf := it c35 hf
        refine lv_bipush (v := (-2 : Int32)) hx hb dX12_takes_49 (by decide) ?_
        exact r_iret hC hr hlk hW hf dX12_takes_51
      · have hf := ie c35 hf
        refine lv_aload_n hx hb dX12_takes_38 rfl (lv_at hl 0 rfl) ?_
        obtain ⟨r24, hr24, hf⟩ := ob hf
        refine r_gR hC hK hW cfX12 (by decide) wF_X12_28 rfl hr24 dX12_takes_39 ?_
        refine lv_iconst (v := (1 : Int32)) hx hb dX12_takes_42 (by decide) ?_
        refine lv_iload_n hx hb dX12_takes_43 rfl (lv_at hl 2 rfl) ?_
        refine lv_iadd hx hb dX12_takes_44 ?_
        obtain ⟨v25, hv25, hf⟩ := ob hf
        refine r_aI hC hK hW hv25 dX12_takes_45 ?_
        refine lv_if_ne (tgt := 52) hx hb dX12_takes_46 (by decide) (fun c46 => ?_) (fun c46 => ?_)
        · have hf := ie c46 hf
          refine lv_aload_n hx hb dX12_takes_52 rfl (lv_at hl 0 rfl) ?_
          obtain ⟨q26, hq26, hf⟩ := ob hf
          refine k_vV hC hK hW cfX12 (c_X12_notes l hAd (cv_s hq26).2) (cv_s hq26).1 my_X12_notes wI_X12_notes wQ_X12_notes wM_X12_178 ⟨Nat.le_of_ble_eq_true rfl, Nat.le_of_ble_eq_true rfl⟩ rfl hl.1 rfl (Nat.le_of_ble_eq_true rfl) ⟨Nat.zero_le _, Nat.zero_le _⟩ dX12_takes_53 (fun H locs hW => ?_)
          refine lv_aload_n hx hb dX12_takes_56 rfl (lv_at hl 0 rfl) ?_
          obtain ⟨r27, hr27, hf⟩ := ob hf
          refine r_gR hC hK hW cfX12 (by decide) wF_X12_28 rfl hr27 dX12_takes_57 ?_
          refine lv_iconst (v := (1 : Int32)) hx hb dX12_takes_60 (by decide) ?_
          refine lv_iload_n hx hb dX12_takes_61 rfl (lv_at hl 2 rfl) ?_
          refine lv_iadd hx hb dX12_takes_62 ?_
          refine lv_dup2_11 hx hb dX12_takes_63 rfl rfl ?_
          obtain ⟨v28, hv28, hf⟩ := ob hf
          refine r_aI hC hK hW hv28 dX12_takes_64 ?_
          refine lv_iconst (v := (1 : Int32)) hx hb dX12_takes_65 (by decide) ?_
          refine lv_isub hx hb dX12_takes_66 ?_
          obtain ⟨M29, hM29, hf⟩ := ob hf
          refine r_sI hC hK hAd hW hM29 dX12_takes_67 (fun H locs hW => ?_)
          refine lv_aload_n hx hb dX12_takes_68 rfl (lv_at hl 0 rfl) ?_
          obtain ⟨r30, hr30, hf⟩ := ob hf
          refine r_gR hC hK hW cfX12 (by decide) wF_X12_28 rfl hr30 dX12_takes_69 ?_
          refine lv_bipush (v := (19 : Int32)) hx hb dX12_takes_72 (by decide) ?_
          refine lv_iload_n hx hb dX12_takes_74 rfl (lv_at hl 1 rfl) ?_
          refine lv_iadd hx hb dX12_takes_75 ?_
          refine lv_dup2_11 hx hb dX12_takes_76 rfl rfl ?_
          obtain ⟨v31, hv31, hf⟩ := ob hf
          refine r_aI hC hK hW hv31 dX12_takes_77 ?_
          refine lv_iconst (v := (1 : Int32)) hx hb dX12_takes_78 (by decide) ?_
          refine lv_iload_n hx hb dX12_takes_79 rfl (lv_at hl 2 rfl) ?_
          refine lv_ishl hx hb dX12_takes_80 ?_
          refine lv_ior hx hb dX12_takes_81 ?_
          obtain ⟨M32, hM32, hf⟩ := ob hf
          refine r_sI hC hK hAd hW hM32 dX12_takes_82 (fun H locs hW => ?_)
          refine lv_aload_n hx hb dX12_takes_83 rfl (lv_at hl 0 rfl) ?_
          obtain ⟨r33, hr33, hf⟩ := ob hf
          refine r_gR hC hK hW cfX12 (by decide) wF_X12_28 rfl hr33 dX12_takes_84 ?_
          refine lv_iconst (v := (1 : Int32)) hx hb dX12_takes_87 (by decide) ?_
          refine lv_iload_n hx hb dX12_takes_88 rfl (lv_at hl 2 rfl) ?_
          refine lv_iadd hx hb dX12_takes_89 ?_
          obtain ⟨v34, hv34, hf⟩ := ob hf
          refine r_aI hC hK hW hv34 dX12_takes_90 ?_
          exact r_iret hC hr hlk hW hf dX12_takes_91
        · have hf := it c46 hf
          refine lv_bipush (v := (-2 : Int32)) hx hb dX12_takes_49 (by decide) ?_
          exact r_iret hC hr hlk hW hf dX12_takes_51
    · have hf := it c18 hf
      refine lv_iconst (v := (-1 : Int32)) hx hb dX12_takes_21 (by decide) ?_
      exact r_iret hC hr hlk hW hf dX12_takes_22
set_option maxHeartbeats 4000000 in
set_option maxRecDepth 100000 in
theorem c_X12_trace (l : Launch) {D : va_G} {cA : Nat → ClassId} {ad : Nat → Nat} {A : Nat → Prop} (hAd : AdOk ad A) {a0 : Nat} {M0 : Mem} {q : (Int64 × Mem)} (hf0 : f_X12_trace a0 M0 = some q) : Met l yX12_trace (wd yX12_trace cX12_trace 1 (some .long)) (rmD 0) (PcW D cA ad [.ref (ad a0)] M0) (QL D cA ad A q.1 q.2) 0 0 A := by
  refine mk_met (own := RX12) (by decide +kernel) rfl (Nat.le_of_ble_eq_true rfl) ?_
  intro p e s m args below meth c hC hr hlk hK H locs ls hW hl
  have hx := hC.1
  have hb := hC.2.1
  have hl : lv_has ls 1 [(0, .ref (ad a0))] := hl
  have hf := hf0
  unfold f_X12_trace at hf
  refine lv_aload_n hx hb dX12_trace_0 rfl (lv_at hl 0 rfl) ?_
  refine lv_iconst (v := (0 : Int32)) hx hb dX12_trace_1 (by decide) ?_
  obtain ⟨M3, hM3, hf⟩ := ob hf
  refine r_pI hC hK hAd hW cfX12 (by decide) wF_X12_65 rfl rfl rfl hM3 dX12_trace_2 (fun H locs hW => ?_)
  refine lv_aload_n hx hb dX12_trace_5 rfl (lv_at hl 0 rfl) ?_
  obtain ⟨v4, hv4, hf⟩ := ob hf
  refine r_gL hC hK hW cfX12 (by decide) wF_X12_200 rfl hv4 dX12_trace_6 ?_
  exact r_lret hC hr hlk hW hf dX12_trace_9
set_option maxHeartbeats 4000000 in
set_option maxRecDepth 100000 in
theorem c_X12_type (l : Launch) {D : va_G} {cA : Nat → ClassId} {ad : Nat → Nat} {A : Nat → Prop} (hAd : AdOk ad A) {a0 : Nat} {a1 : Int32} {M0 : Mem} {q : (Int32 × Mem)} (hf0 : f_X12_type a0 a1 M0 = some q) : Met l yX12_type (wd yX12_type cX12_type 2 (some .int)) (rmD 1) (PcW D cA ad [.ref (ad a0), .int a1] M0) (QI D cA ad A q.1 q.2) 0 0 A := by
  refine mk_met (own := RX12) (by decide +kernel) rfl (Nat.le_of_ble_eq_true rfl) ?_
  intro p e s m args below meth c hC hr hlk hK H locs ls hW hl
  have hx := hC.1
  have hb := hC.2.1
  have hl : lv_has ls 2 [(0, .ref (ad a0)), (1, .int a1)] := hl
  have hf := hf0
  unfold f_X12_type at hf
  refine lv_aload_n hx hb dX12_type_0 rfl (lv_at hl 0 rfl) ?_
  refine lv_iconst (v := (0 : Int32)) hx hb dX12_type_1 (by decide) ?_
  obtain ⟨M10, hM10, hf⟩ := ob hf
  refine r_pI hC hK hAd hW cfX12 (by decide) wF_X12_65 rfl rfl rfl hM10 dX12_type_2 (fun H locs hW => ?_)
  refine lv_iload_n hx hb dX12_type_5 rfl (lv_at hl 1 rfl) ?_
  refine lv_iconst (v := (0 : Int32)) hx hb dX12_type_6 (by decide) ?_
  refine lv_sipush (v := (255 : Int32)) hx hb dX12_type_7 (by decide) ?_
  obtain ⟨q11, hq11, hf⟩ := ob hf
  refine k_sI hC hK hW (c_X12_in l hAd hq11) my_X12_in wS_X12_in wM_X12_69 ⟨Nat.le_of_ble_eq_true rfl, Nat.le_of_ble_eq_true rfl⟩ rfl hl.1 rfl (Nat.le_of_ble_eq_true rfl) ⟨Nat.zero_le _, Nat.zero_le _⟩ dX12_type_10 (fun H locs hW => ?_)
  refine lv_if_ne (tgt := 18) hx hb dX12_type_13 (by decide) (fun c13 => ?_) (fun c13 => ?_)
  · have hf := ie c13 hf
    refine lv_aload_n hx hb dX12_type_18 rfl (lv_at hl 0 rfl) ?_
    obtain ⟨v12, hv12, hf⟩ := ob hf
    refine r_gI hC hK hW cfX12 (by decide) wF_X12_73 rfl hv12 dX12_type_19 ?_
    refine lv_sipush (v := (140 : Int32)) hx hb dX12_type_22 (by decide) ?_
    refine lv_icmp_ne (tgt := 31) hx hb dX12_type_25 (by decide) (fun c25 => ?_) (fun c25 => ?_)
    · have hf := ie c25 hf
      refine lv_aload_n hx hb dX12_type_31 rfl (lv_at hl 0 rfl) ?_
      obtain ⟨r13, hr13, hf⟩ := ob hf
      refine r_gR hC hK hW cfX12 (by decide) wF_X12_7 rfl hr13 dX12_type_32 ?_
      refine lv_aload_n hx hb dX12_type_35 rfl (lv_at hl 0 rfl) ?_
      obtain ⟨v14, hv14, hf⟩ := ob hf
      refine r_gI hC hK hW cfX12 (by decide) wF_X12_73 rfl hv14 dX12_type_36 ?_
      refine lv_iload_n hx hb dX12_type_39 rfl (lv_at hl 1 rfl) ?_
      obtain ⟨M15, hM15, hf⟩ := ob hf
      refine r_sI hC hK hAd hW hM15 dX12_type_40 (fun H locs hW => ?_)
      refine lv_aload_n hx hb dX12_type_41 rfl (lv_at hl 0 rfl) ?_
      refine lv_dup hx hb dX12_type_42 rfl ?_
      obtain ⟨v16, hv16, hf⟩ := ob hf
      refine r_gI hC hK hW cfX12 (by decide) wF_X12_73 rfl hv16 dX12_type_43 ?_
      refine lv_iconst (v := (1 : Int32)) hx hb dX12_type_46 (by decide) ?_
      refine lv_iadd hx hb dX12_type_47 ?_
      obtain ⟨M17, hM17, hf⟩ := ob hf
      refine r_pI hC hK hAd hW cfX12 (by decide) wF_X12_73 rfl rfl rfl hM17 dX12_type_48 (fun H locs hW => ?_)
      refine lv_aload_n hx hb dX12_type_51 rfl (lv_at hl 0 rfl) ?_
      obtain ⟨v18, hv18, hf⟩ := ob hf
      refine r_gI hC hK hW cfX12 (by decide) wF_X12_73 rfl hv18 dX12_type_52 ?_
      exact r_iret hC hr hlk hW hf dX12_type_55
    · have hf := it c25 hf
      refine lv_bipush (v := (-3 : Int32)) hx hb dX12_type_28 (by decide) ?_
      exact r_iret hC hr hlk hW hf dX12_type_30
  · have hf := it c13 hf
    refine lv_iconst (v := (-1 : Int32)) hx hb dX12_type_16 (by decide) ?_
    exact r_iret hC hr hlk hW hf dX12_type_17
set_option maxHeartbeats 4000000 in
set_option maxRecDepth 100000 in
theorem c_X12_undo (l : Launch) {D : va_G} {cA : Nat → ClassId} {ad : Nat → Nat} {A : Nat → Prop} (hAd : AdOk ad A) {a0 : Nat} {M0 : Mem} {q : (Int32 × Mem)} (hf0 : f_X12_undo a0 M0 = some q) : Met l yX12_undo (wd yX12_undo cX12_undo 2 (some .int)) (rmD 0) (PcW D cA ad [.ref (ad a0)] M0) (QI D cA ad A q.1 q.2) 0 0 A := by
  refine mk_met (own := RX12) (by decide +kernel) rfl (Nat.le_of_ble_eq_true rfl) ?_
  intro p e s m args below meth c hC hr hlk hK H locs ls hW hl
  have hx := hC.1
  have hb := hC.2.1
  have hl : lv_has ls 2 [(0, .ref (ad a0))] := hl
  have B27 : ∀ (x0 : Nat) (x1 : Int32) (M : Mem)  (ag27 : Int32 × Mem → Option (Int32 × Mem)) (hg27 : ∀ (x1 : Int32) (M : Mem) (H : Heap) (locs : List Loc) (ls : Array Slot) (_ : Wd D cA ad A s M H locs) (_ : lv_has ls 2 [(0, .ref (ad x0)), (1, .int x1)]) (_ : ag27 (x1, M) = some q), W p l e (rmD 0) s m args below meth c H locs 0 0 (MQ below (QI D cA ad A q.1 q.2) args s 0 0 A) (F0 m 27 ls [])) (H : Heap) (locs : List Loc) (ls : Array Slot) (hW : Wd D cA ad A s M H locs) (hl : lv_has ls 2 [(0, .ref (ad x0)), (1, .int x1)]) (hf : f_X12_undo_27b  x0 ag27 x1 M = some q), W p l e (rmD 0) s m args below meth c H locs 0 0 (MQ below (QI D cA ad A q.1 q.2) args s 0 0 A) (F0 m 27 ls []) := by
    intro x0 x1 M  ag27 hg27 H locs ls hW hl hf
    unfold f_X12_undo_27b at hf
    refine lv_iload_n hx hb dX12_undo_27 rfl (lv_at hl 1 rfl) ?_
    refine lv_bipush (v := (25 : Int32)) hx hb dX12_undo_28 (by decide) ?_
    refine lv_icmp_ge (tgt := 59) hx hb dX12_undo_30 (by decide) (fun c30 => ?_) (fun c30 => ?_)
    · have hf := it c30 hf
      refine lv_aload_n hx hb dX12_undo_59 rfl (lv_at hl 0 rfl) ?_
      obtain ⟨v7, hv7, hf⟩ := ob hf
      refine r_gI hC hK hW cfX12 (by decide) wF_X12_128 rfl hv7 dX12_undo_60 ?_
      exact r_iret hC hr hlk hW hf dX12_undo_63
    · have hf := ie c30 hf
      refine lv_aload_n hx hb dX12_undo_33 rfl (lv_at hl 0 rfl) ?_
      obtain ⟨r8, hr8, hf⟩ := ob hf
      refine r_gR hC hK hW cfX12 (by decide) wF_X12_28 rfl hr8 dX12_undo_34 ?_
      refine lv_iload_n hx hb dX12_undo_37 rfl (lv_at hl 1 rfl) ?_
      refine lv_aload_n hx hb dX12_undo_38 rfl (lv_at hl 0 rfl) ?_
      obtain ⟨r9, hr9, hf⟩ := ob hf
      refine r_gR hC hK hW cfX12 (by decide) wF_X12_38 rfl hr9 dX12_undo_39 ?_
      refine lv_bipush (v := (25 : Int32)) hx hb dX12_undo_42 (by decide) ?_
      refine lv_aload_n hx hb dX12_undo_44 rfl (lv_at hl 0 rfl) ?_
      obtain ⟨v10, hv10, hf⟩ := ob hf
      refine r_gI hC hK hW cfX12 (by decide) wF_X12_128 rfl hv10 dX12_undo_45 ?_
      refine lv_imul hx hb dX12_undo_48 ?_
      refine lv_iload_n hx hb dX12_undo_49 rfl (lv_at hl 1 rfl) ?_
      refine lv_iadd hx hb dX12_undo_50 ?_
      obtain ⟨v11, hv11, hf⟩ := ob hf
      refine r_aI hC hK hW hv11 dX12_undo_51 ?_
      obtain ⟨M12, hM12, hf⟩ := ob hf
      refine r_sI hC hK hAd hW hM12 dX12_undo_52 (fun H locs hW => ?_)
      refine lv_iinc (v := (x1 + (1 : Int32))) (lv' := [(1, .int (x1 + (1 : Int32))), (0, .ref (ad x0))]) hx hb dX12_undo_53 hl (k := 1) rfl rfl (by decide) rfl (fun ls hl => ?_)
      refine lv_goto (tgt := 27) hx hb dX12_undo_56 (by decide) ?_
      exact hg27 (x1 + (1 : Int32)) M12 _ _ _ hW (lv_sub hl [1, 0] rfl) hf
  have J27 : ∀ (x0 : Nat) (x1 : Int32) (M : Mem)  (H : Heap) (locs : List Loc) (ls : Array Slot) (hW : Wd D cA ad A s M H locs) (hl : lv_has ls 2 [(0, .ref (ad x0)), (1, .int x1)]) (hf : f_X12_undo_27  x0 x1 M = some q), W p l e (rmD 0) s m args below meth c H locs 0 0 (MQ below (QI D cA ad A q.1 q.2) args s 0 0 A) (F0 m 27 ls []) := by
    intro x0 x1 M  H locs ls hW hl hf
    unfold f_X12_undo_27 at hf
    have key : ∀ (n : Nat) (x1 : Int32) (M : Mem) (H : Heap) (locs : List Loc) (ls : Array Slot) (hW : Wd D cA ad A s M H locs) (hl : lv_has ls 2 [(0, .ref (ad x0)), (1, .int x1)]) (hf : loopF (fun ag s => f_X12_undo_27b  x0 ag s.1 s.2) n (x1, M) = some q), W p l e (rmD 0) s m args below meth c H locs 0 0 (MQ below (QI D cA ad A q.1 q.2) args s 0 0 A) (F0 m 27 ls []) := by
      intro n
      induction n with
      | zero => intro x1 M H locs ls hW hl hf; exact nomatch (show (none : Option _) = some _ from hf)
      | succ n ih => intro x1 M H locs ls hW hl hf; exact B27 x0 x1 M  _ ih H locs ls hW hl hf
    exact key FU x1 M H locs ls hW hl hf
  have hf := hf0
  unfold f_X12_undo at hf
  refine lv_aload_n hx hb dX12_undo_0 rfl (lv_at hl 0 rfl) ?_
  refine lv_iconst (v := (0 : Int32)) hx hb dX12_undo_1 (by decide) ?_
  obtain ⟨M17, hM17, hf⟩ := ob hf
  refine r_pI hC hK hAd hW cfX12 (by decide) wF_X12_65 rfl rfl rfl hM17 dX12_undo_2 (fun H locs hW => ?_)
  refine lv_aload_n hx hb dX12_undo_5 rfl (lv_at hl 0 rfl) ?_
  obtain ⟨v18, hv18, hf⟩ := ob hf
  refine r_gI hC hK hW cfX12 (by decide) wF_X12_128 rfl hv18 dX12_undo_6 ?_
  refine lv_if_ne (tgt := 15) hx hb dX12_undo_9 (by decide) (fun c9 => ?_) (fun c9 => ?_)
  · have hf := ie c9 hf
    refine lv_aload_n hx hb dX12_undo_15 rfl (lv_at hl 0 rfl) ?_
    refine lv_dup hx hb dX12_undo_16 rfl ?_
    obtain ⟨v19, hv19, hf⟩ := ob hf
    refine r_gI hC hK hW cfX12 (by decide) wF_X12_128 rfl hv19 dX12_undo_17 ?_
    refine lv_iconst (v := (1 : Int32)) hx hb dX12_undo_20 (by decide) ?_
    refine lv_isub hx hb dX12_undo_21 ?_
    obtain ⟨M20, hM20, hf⟩ := ob hf
    refine r_pI hC hK hAd hW cfX12 (by decide) wF_X12_128 rfl rfl rfl hM20 dX12_undo_22 (fun H locs hW => ?_)
    refine lv_iconst (v := (0 : Int32)) hx hb dX12_undo_25 (by decide) ?_
    refine lv_istore_n (lv' := [(1, .int (0 : Int32)), (0, .ref (ad a0))]) hx hb dX12_undo_26 rfl hl (by decide) rfl (fun ls hl => ?_)
    exact J27 a0 (0 : Int32) M20 _ _ _ hW (lv_sub hl [1, 0] rfl) hf
  · have hf := it c9 hf
    refine lv_bipush (v := (-2 : Int32)) hx hb dX12_undo_12 (by decide) ?_
    exact r_iret hC hr hlk hW hf dX12_undo_14
set_option maxHeartbeats 4000000 in
set_option maxRecDepth 100000 in
theorem c_X12_who (l : Launch) {D : va_G} {cA : Nat → ClassId} {ad : Nat → Nat} {A : Nat → Prop} (hAd : AdOk ad A) {a0 : Nat} {M0 : Mem} {q : (Int32 × Mem)} (hf0 : f_X12_who a0 M0 = some q) : Met l yX12_who (wd yX12_who cX12_who 1 (some .int)) (rmD 3) (PcW D cA ad [.ref (ad a0)] M0) (QI D cA ad A q.1 q.2) 0 0 A := by
  refine mk_met (own := RX12) (by decide +kernel) rfl (Nat.le_of_ble_eq_true rfl) ?_
  intro p e s m args below meth c hC hr hlk hK H locs ls hW hl
  have hx := hC.1
  have hb := hC.2.1
  have hl : lv_has ls 1 [(0, .ref (ad a0))] := hl
  have hf := hf0
  unfold f_X12_who at hf
  refine lv_aload_n hx hb dX12_who_0 rfl (lv_at hl 0 rfl) ?_
  refine lv_iconst (v := (0 : Int32)) hx hb dX12_who_1 (by decide) ?_
  obtain ⟨M3, hM3, hf⟩ := ob hf
  refine r_pI hC hK hAd hW cfX12 (by decide) wF_X12_65 rfl rfl rfl hM3 dX12_who_2 (fun H locs hW => ?_)
  refine lv_aload_n hx hb dX12_who_5 rfl (lv_at hl 0 rfl) ?_
  obtain ⟨q4, hq4, hf⟩ := ob hf
  refine k_vI hC hK hW cfX12 (c_X12_whoCan l hAd (cv_s hq4).2) (cv_s hq4).1 my_X12_whoCan wI_X12_whoCan wQ_X12_whoCan wM_X12_196 ⟨Nat.le_of_ble_eq_true rfl, Nat.le_of_ble_eq_true rfl⟩ rfl hl.1 rfl (Nat.le_of_ble_eq_true rfl) ⟨Nat.zero_le _, Nat.zero_le _⟩ dX12_who_6 (fun H locs hW => ?_)
  exact r_iret hC hr hlk hW hf dX12_who_9
