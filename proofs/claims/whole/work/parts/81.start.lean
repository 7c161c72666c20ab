def Mz0 : Mem := (0, fun _ _ => 0, fun _ _ => none, fun _ _ => 0)
theorem nw_0 : Cond.methodLinkNest RX11 9 yX9_init RX11 ∈ lw_tbl := List.mem_of_getElem? (i := 84) (by decide +kernel)
theorem nw_1 : Cond.methodLinkNest RX9 17 yX8_init RX11 ∈ lw_tbl := List.mem_of_getElem? (i := 90) (by decide +kernel)
theorem nw_2 : Cond.methodLinkNest RX8 27 yX7_init RX11 ∈ lw_tbl := List.mem_of_getElem? (i := 96) (by decide +kernel)
theorem nw_3 : Cond.methodLinkNest RX11 18 yX5_init RX11 ∈ lw_tbl := List.mem_of_getElem? (i := 199) (by decide +kernel)
theorem nw_4 : Cond.methodLinkNest RX11 25 yX0_init RX11 ∈ lw_tbl := List.mem_of_getElem? (i := 222) (by decide +kernel)
theorem nw_5 : Cond.methodLinkNest RX11 38 yX8_init RX11 ∈ lw_tbl := List.mem_of_getElem? (i := 259) (by decide +kernel)
theorem nw_6 : Cond.methodLinkNest RX11 45 yX7_init RX11 ∈ lw_tbl := List.mem_of_getElem? (i := 261) (by decide +kernel)
theorem nw_7 : Cond.methodLinkNest RX11 77 yX6_init RX11 ∈ lw_tbl := List.mem_of_getElem? (i := 264) (by decide +kernel)
theorem nw_8 : Cond.methodLinkNest RX11 80 yX10_init RX11 ∈ lw_tbl := List.mem_of_getElem? (i := 272) (by decide +kernel)
theorem nw_9 : Cond.methodLinkNest RX10 1 yX6_init RX11 ∈ lw_tbl := List.mem_of_getElem? (i := 275) (by decide +kernel)
theorem nw_10 : Cond.methodLinkNest RX11 83 yX1_init RX11 ∈ lw_tbl := List.mem_of_getElem? (i := 279) (by decide +kernel)
theorem nw_11 : Cond.methodLinkNest RX1 1 yX6_init RX11 ∈ lw_tbl := List.mem_of_getElem? (i := 282) (by decide +kernel)
theorem nw_12 : Cond.methodLinkNest RX11 86 yX2_init RX11 ∈ lw_tbl := List.mem_of_getElem? (i := 286) (by decide +kernel)
theorem nw_13 : Cond.methodLinkNest RX2 1 yX10_init RX11 ∈ lw_tbl := List.mem_of_getElem? (i := 289) (by decide +kernel)
theorem nw_14 : Cond.methodLinkNest RX11 89 yX4_init RX11 ∈ lw_tbl := List.mem_of_getElem? (i := 293) (by decide +kernel)
theorem nw_15 : Cond.methodLinkNest RX4 1 yX1_init RX11 ∈ lw_tbl := List.mem_of_getElem? (i := 296) (by decide +kernel)
theorem nw_16 : Cond.methodLinkNest RX11 92 yX3_init RX11 ∈ lw_tbl := List.mem_of_getElem? (i := 300) (by decide +kernel)
theorem nw_17 : Cond.methodLinkNest RX3 1 yX6_init RX11 ∈ lw_tbl := List.mem_of_getElem? (i := 303) (by decide +kernel)
theorem ao_7 : Cond.arrayOver (.object RX7) ∈ lw_tbl := List.mem_of_getElem? (i := 262) (by decide +kernel)
theorem ao_6 : Cond.arrayOver (.object RX6) ∈ lw_tbl := List.mem_of_getElem? (i := 257) (by decide +kernel)
theorem ca_10 : Cond.castable RX10 RX6 ∈ lw_tbl := List.mem_of_getElem? (i := 1010) (by decide +kernel)
theorem ca_1 : Cond.castable RX1 RX6 ∈ lw_tbl := List.mem_of_getElem? (i := 1011) (by decide +kernel)
theorem ca_2 : Cond.castable RX2 RX6 ∈ lw_tbl := List.mem_of_getElem? (i := 1012) (by decide +kernel)
theorem ca_4 : Cond.castable RX4 RX6 ∈ lw_tbl := List.mem_of_getElem? (i := 1013) (by decide +kernel)
theorem ca_3 : Cond.castable RX3 RX6 ∈ lw_tbl := List.mem_of_getElem? (i := 1014) (by decide +kernel)
theorem arr_known {s : State} {args : Array Value} {ty : FieldType} (h : (Cond.arrayClass ty).before args s = true) (hra : ∀ cA, s.vm.findClass ("[" ++ ty.toString) = some cA → va_RA s cA ty) : ∃ cA : ClassId, ArrOfT s cA ty ∧ va_RA s cA ty := by
  obtain ⟨cA, kA, comp, h1, h2, h3⟩ := Cond.arrayClass_spec h
  exact ⟨cA, fun n z => ⟨(fun k h => by cases h), kA, h2, comp, h3⟩, hra cA h1⟩
theorem arq_known {s : State} {C : String} (h : va_AO C s) : ∃ cA : ClassId, ArrOfT s cA (.object C) ∧ va_RA s cA (.object C) := by
  obtain ⟨comp, c, k, h1, h2, h3, h4, h5⟩ := Cond.arrayOver_spec h
  exact ⟨c, fun n z => ⟨(fun k h => by cases h), k, h3, comp, h4⟩, k, comp, h3, h4, h1, h5⟩
theorem nO_112 {M : Mem} (h : M.1 = 112) : nO M 12 = some (112, nCell M) := by
  unfold nO; rw [h, if_pos (by decide)]
set_option maxHeartbeats 4000000 in
set_option maxRecDepth 100000 in
theorem start_of {p : Program} {e : Env} {s : State} {m : MethodId} {below : List Frame} {meth : Method} {c : Code} (l : Launch) {b L : Nat} {xs : Nat → Int32} (hL : L ≤ 2048) (C0 : lw_At p s m meth c b L xs) (Rel : Mem → Prop) (hAl : Alike Rel) (hI : ∃ M1 M2 : Mem, f_X11_init 0 (nCell Mz0) = some M1 ∧ M1.1 = 112 ∧ f_X12_init 112 (nCell M1) = some M2 ∧ Rel M2) : W p l e room_1 s m #[Value.ref b] below meth c s.heap [] 0 0 (lw_Z below #[Value.ref b] s) (entryFrame m ([Value.ref b] : List Value).toArray 4) := by
  obtain ⟨hx, hb, hr, hml, hown, hts, hX, hbl, hlk, hgv⟩ := C0
  obtain ⟨M1, M2, e1, hN1, e2, hRel⟩ := hI
  have htG : ∀ w ∈ tblG, w.before #[Value.ref b] s = true := fun w h => hts w (List.mem_filter.mp h).1
  obtain ⟨c0, i0, k0⟩ := u_known (C := RX0) (T := TX0) (N := 6) (n := 6) htG uw_X0 (htG _ wT_X0)
  obtain ⟨c1, i1, k1⟩ := u_known (C := RX1) (T := TX1) (N := 0) (n := 0) htG uw_X1 (htG _ wT_X1)
  obtain ⟨c2, i2, k2⟩ := u_known (C := RX2) (T := TX2) (N := 0) (n := 0) htG uw_X2 (htG _ wT_X2)
  obtain ⟨c3, i3, k3⟩ := u_known (C := RX3) (T := TX3) (N := 0) (n := 0) htG uw_X3 (htG _ wT_X3)
  obtain ⟨c4, i4, k4⟩ := u_known (C := RX4) (T := TX4) (N := 0) (n := 0) htG uw_X4 (htG _ wT_X4)
  obtain ⟨c5, i5, k5⟩ := u_known (C := RX5) (T := TX5) (N := 5) (n := 5) htG uw_X5 (htG _ wT_X5)
  obtain ⟨c6, i6, k6⟩ := u_known (C := RX6) (T := TX6) (N := 0) (n := 0) htG uw_X6 (htG _ wT_X6)
  obtain ⟨c7, i7, k7⟩ := u_known (C := RX7) (T := TX7) (N := 5) (n := 5) htG uw_X7 (htG _ wT_X7)
  obtain ⟨c8, i8, k8⟩ := u_known (C := RX8) (T := TX8) (N := 8) (n := 8) htG uw_X8 (htG _ wT_X8)
  obtain ⟨c9, i9, k9⟩ := u_known (C := RX9) (T := TX9) (N := 7) (n := 7) htG uw_X9 (htG _ wT_X9)
  obtain ⟨c10, i10, k10⟩ := u_known (C := RX10) (T := TX10) (N := 0) (n := 0) htG uw_X10 (htG _ wT_X10)
  obtain ⟨c11, i11, k11⟩ := u_known (C := RX11) (T := TX11) (N := 16) (n := 16) htG uw_X11 (htG _ wT_X11)
  obtain ⟨c12, i12, k12⟩ := u_known (C := RX12) (T := TX12) (N := 26) (n := 26) htG uw_X12 (htG _ wT_X12)
  have hAO7 : va_AO RX7 s := va_AO.of (hts _ ao_7)
  have hAO6 : va_AO RX6 s := va_AO.of (hts _ ao_6)
  have hNX : NX s := ⟨⟨va_Nw.of rfl (hts _ nw_0), va_Nw.of rfl (hts _ nw_1), va_Nw.of rfl (hts _ nw_2), va_Nw.of rfl (hts _ nw_3), va_Nw.of rfl (hts _ nw_4), va_Nw.of rfl (hts _ nw_5), va_Nw.of rfl (hts _ nw_6), va_Nw.of rfl (hts _ nw_7), va_Nw.of rfl (hts _ nw_8), va_Nw.of rfl (hts _ nw_9), va_Nw.of rfl (hts _ nw_10), va_Nw.of rfl (hts _ nw_11), va_Nw.of rfl (hts _ nw_12), va_Nw.of rfl (hts _ nw_13), va_Nw.of rfl (hts _ nw_14), va_Nw.of rfl (hts _ nw_15), va_Nw.of rfl (hts _ nw_16), va_Nw.of rfl (hts _ nw_17)⟩, ⟨hAO7, hAO6⟩, va_Nw.of rfl (hts _ ca_10), va_Nw.of rfl (hts _ ca_1), va_Nw.of rfl (hts _ ca_2), va_Nw.of rfl (hts _ ca_4), va_Nw.of rfl (hts _ ca_3)⟩
  obtain ⟨a0, A0, B0⟩ := arr_known (ty := .int) (htG _ wArr_int) (fun _ h => h)
  obtain ⟨a1, A1, B1⟩ := arr_known (ty := .char) (htG _ wArr_char) (fun _ h => h)
  obtain ⟨a2, A2, B2⟩ := arr_known (ty := .boolean) (htG _ wArr_boolean) (fun _ h => h)
  obtain ⟨a3, A3, B3⟩ := arq_known hAO7
  obtain ⟨a4, A4, B4⟩ := arq_known hAO6
  have hKx : ∃ (D : va_G) (cA : Nat → ClassId), va_K D vwCl (tysOf cA) s := by
    refine ⟨(fun k => [c0, c1, c2, c3, c4, c5, c6, c7, c8, c9, c10, c11, c12].getD k c0, fun k => [i0, i1, i2, i3, i4, i5, i6, i7, i8, i9, i10, i11, i12].getD k i0), fun k => [a0, a1, a2, a3, a4].getD k a0, fun k q hq => ?_, fun k q hq => ?_⟩
    · match k, hq with
      | 0, hq => cases hq; exact k0
      | 1, hq => cases hq; exact k1
      | 2, hq => cases hq; exact k2
      | 3, hq => cases hq; exact k3
      | 4, hq => cases hq; exact k4
      | 5, hq => cases hq; exact k5
      | 6, hq => cases hq; exact k6
      | 7, hq => cases hq; exact k7
      | 8, hq => cases hq; exact k8
      | 9, hq => cases hq; exact k9
      | 10, hq => cases hq; exact k10
      | 11, hq => cases hq; exact k11
      | 12, hq => cases hq; exact k12
      | k + 13, hq => simp [vwCl] at hq
    · match k, hq with
      | 0, hq => cases hq; exact ⟨A0, B0⟩
      | 1, hq => cases hq; exact ⟨A1, B1⟩
      | 2, hq => cases hq; exact ⟨A2, B2⟩
      | 3, hq => cases hq; exact ⟨A3, B3⟩
      | 4, hq => cases hq; exact ⟨A4, B4⟩
      | k + 5, hq => simp [tysOf] at hq
  obtain ⟨D, cA, hK⟩ := hKx
  have hC : CallFix p m c code 4 s #[.ref b] tblG RL := ⟨hx, hb, hml, hown, htG⟩
  have hB : AdB (fun k => s.heap.size + k) s.heap.size := fun _ => rfl
  have hAd : AdOk (fun k => s.heap.size + k) (fun q => s.heap.size ≤ q) := ⟨fun i j h => Nat.add_left_cancel h, fun k => Nat.le_add_right _ _⟩
  have hW : Wz D cA (fun k => s.heap.size + k) (fun q => s.heap.size ≤ q) s.heap.size s Mz0 s.heap [] := ⟨⟨fun k q h => absurd (ws_inv h).1 (Nat.not_lt_zero _), va_S.rf⟩, rfl⟩
  generalize hade : (fun k => s.heap.size + k) = ad at hB hAd hW
  have hl := lv_entry ([.ref b]) (n := 4) (Nat.le_of_ble_eq_true rfl)
  rw [lg_entry_eq]
  generalize (lg_sl ([.ref b]) ++ List.replicate (4 - (lg_sl ([.ref b])).length) Slot.unset).toArray = ls at hl ⊢
  have hl : lv_has ls 4 [(0, .ref b)] := hl
  refine z_nO hC hK hB hW cfX11 wK_L_7 wT_X11 wN_X11 df_X11 (q := (0, nCell Mz0)) rfl (Nat.le_of_ble_eq_true rfl) (Nat.le_of_ble_eq_true rfl) dL_law_0 (fun H hW => ?_)
  refine lv_dup hx hb dL_law_3 rfl ?_
  refine z_cp hC hK hNX hW (c_X11_init l hAd hB e1) my_X11_init rfl wI_X11_init wM_L_9 ⟨Nat.le_of_ble_eq_true rfl, Nat.le_of_ble_eq_true rfl⟩ hl.1 rfl (Nat.le_of_ble_eq_true rfl) ⟨Nat.le_of_ble_eq_true rfl, Nat.le_of_ble_eq_true rfl⟩ dL_law_4 (fun H locs hW => ?_)
  refine lv_astore_n (lv' := [(1, .ref (ad 0)), (0, .ref b)]) hx hb dL_law_7 rfl hl (by decide) rfl (fun ls hl => ?_)
  refine z_nO hC hK hB hW cfX12 wK_L_10 wT_X12 wN_X12 df_X12 (nO_112 hN1) (Nat.le_of_ble_eq_true rfl) (Nat.le_of_ble_eq_true rfl) dL_law_8 (fun H hW => ?_)
  refine lv_dup hx hb dL_law_11 rfl ?_
  refine z_cq hC hK hNX hW (c_X12_init l hAd hB e2) my_X12_init rfl wI_X12_init wM_L_12 ⟨Nat.le_of_ble_eq_true rfl, Nat.le_of_ble_eq_true rfl⟩ hl.1 rfl (Nat.le_of_ble_eq_true rfl) ⟨Nat.le_of_ble_eq_true rfl, Nat.le_of_ble_eq_true rfl⟩ dL_law_12 (fun H locs hW => ?_)
  refine lv_astore_n (lv' := [(2, .ref (ad 112)), (1, .ref (ad 0)), (0, .ref b)]) hx hb dL_law_15 rfl hl (by decide) rfl (fun ls hl => ?_)
  refine lv_iconst (v := 0) hx hb dL_law_16 (by decide) ?_
  refine lv_istore_n (lv' := [(3, .int 0), (2, .ref (ad 112)), (1, .ref (ad 0)), (0, .ref b)]) hx hb dL_law_17 rfl hl (by decide) rfl (fun ls hl => ?_)
  refine W.widen (k := 600000) (n := 7302250) (Nat.le_of_ble_eq_true rfl) (Nat.le_of_ble_eq_true rfl) ?_
  exact law_loop l hL hAd hC hr hlk hX hbl hK Rel hAl (L + 1) 0 M2 _ _ _ (Nat.zero_le _) (by omega) hRel hW (lv_sub hl [3, 2, 1, 0] rfl)
