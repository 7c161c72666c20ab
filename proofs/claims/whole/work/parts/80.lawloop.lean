def StepI (f : Option (Int32 × Mem)) (g : Mem → Option (Int32 × Mem)) (Rel : Mem → Prop) : Prop := ∃ (r : Int32) (M1 M2 : Mem), f = some (r, M1) ∧ M1.1 = 129 ∧ g M1 = some (r, M2) ∧ Rel M2
def StepP (f : Option Int32) (M : Mem) (g : Mem → Option (Int32 × Mem)) (Rel : Mem → Prop) : Prop := ∃ (r : Int32) (M2 : Mem), f = some r ∧ g M = some (r, M2) ∧ Rel M2
def StepL (f : Option Int64) (M : Mem) (g : Mem → Option (Int64 × Mem)) (Rel : Mem → Prop) : Prop := ∃ (r : Int64) (M2 : Mem), f = some r ∧ g M = some (r, M2) ∧ Rel M2
/-- both sides answer alike, call by call -/
def Alike (Rel : Mem → Prop) : Prop := (∀ M, Rel M → M.1 = 129) ∧ (∀ (M : Mem) (a1 : Int32), Rel M → StepI (f_X11_type 0 a1 M) (fun M => f_X12_type 112 a1 M) Rel) ∧ (∀ (M : Mem), Rel M → StepI (f_X11_clear 0  M) (fun M => f_X12_clear 112  M) Rel) ∧ (∀ (M : Mem), Rel M → StepI (f_X11_table 0  M) (fun M => f_X12_table 112  M) Rel) ∧ (∀ (M : Mem) (a1 : Int32) (a2 : Int32), Rel M → StepP (f_X11_guest 0 a1 a2 M) M (fun M => f_X12_guest 112 a1 a2 M) Rel) ∧ (∀ (M : Mem) (a1 : Int32) (a2 : Int32), Rel M → StepP (f_X11_dish 0 a1 a2 M) M (fun M => f_X12_dish 112 a1 a2 M) Rel) ∧ (∀ (M : Mem) (a1 : Int32), Rel M → StepI (f_X11_now 0 a1 M) (fun M => f_X12_now 112 a1 M) Rel) ∧ (∀ (M : Mem) (a1 : Int32) (a2 : Int32), Rel M → StepI (f_X11_spins 0 a1 a2 M) (fun M => f_X12_spins 112 a1 a2 M) Rel) ∧ (∀ (M : Mem) (a1 : Int32) (a2 : Int32), Rel M → StepI (f_X11_takes 0 a1 a2 M) (fun M => f_X12_takes 112 a1 a2 M) Rel) ∧ (∀ (M : Mem) (a1 : Int32) (a2 : Int32), Rel M → StepI (f_X11_moves 0 a1 a2 M) (fun M => f_X12_moves 112 a1 a2 M) Rel) ∧ (∀ (M : Mem) (a1 : Int32) (a2 : Int32), Rel M → StepI (f_X11_changes 0 a1 a2 M) (fun M => f_X12_changes 112 a1 a2 M) Rel) ∧ (∀ (M : Mem), Rel M → StepI (f_X11_undo 0  M) (fun M => f_X12_undo 112  M) Rel) ∧ (∀ (M : Mem) (a1 : Int32) (a2 : Int32) (a3 : Int32), Rel M → StepP (f_X11_steps 0 a1 a2 a3 M) M (fun M => f_X12_steps 112 a1 a2 a3 M) Rel) ∧ (∀ (M : Mem) (a1 : Int32), Rel M → StepI (f_X11_puts 0 a1 M) (fun M => f_X12_puts 112 a1 M) Rel) ∧ (∀ (M : Mem) (a1 : Int32), Rel M → StepI (f_X11_fed 0 a1 M) (fun M => f_X12_fed 112 a1 M) Rel) ∧ (∀ (M : Mem) (a1 : Int32) (a2 : Int32) (a3 : Int32), Rel M → StepI (f_X11_odds 0 a1 a2 a3 M) (fun M => f_X12_odds 112 a1 a2 a3 M) Rel) ∧ (∀ (M : Mem) (a1 : Int32) (a2 : Int32) (a3 : Int32), Rel M → StepI (f_X11_sees 0 a1 a2 a3 M) (fun M => f_X12_sees 112 a1 a2 a3 M) Rel) ∧ (∀ (M : Mem), Rel M → StepI (f_X11_forget 0  M) (fun M => f_X12_forget 112  M) Rel) ∧ (∀ (M : Mem), Rel M → StepP (f_X11_who 0  M) M (fun M => f_X12_who 112  M) Rel) ∧ (∀ (M : Mem) (a1 : Int32), Rel M → StepP (f_X11_look 0 a1 M) M (fun M => f_X12_look 112 a1 M) Rel) ∧ (∀ (M : Mem) (a1 : Int32) (a2 : Int32), Rel M → StepI (f_X11_rate 0 a1 a2 M) (fun M => f_X12_rate 112 a1 a2 M) Rel) ∧ (∀ (M : Mem) (a1 : Int32), Rel M → StepI (f_X11_keep 0 a1 M) (fun M => f_X12_keep 112 a1 M) Rel) ∧ (∀ (M : Mem) (a1 : Int32), Rel M → StepI (f_X11_back 0 a1 M) (fun M => f_X12_back 112 a1 M) Rel) ∧ (∀ (M : Mem) (a1 : Int32), Rel M → StepP (f_X11_count 0 a1 M) M (fun M => f_X12_count 112 a1 M) Rel) ∧ (∀ (M : Mem), Rel M → StepL (f_X11_trace 0 M) M (fun M => f_X12_trace 112 M) Rel)
theorem lcmp_self (r : Int64) : lg_cmp r r = 0 := by
  unfold lg_cmp; rw [if_neg (fun h => by have := Int64.lt_iff_toInt_lt.mp h; omega), if_pos rfl]
theorem law_go {L j : Nat} (hL : L ≤ 2048) (hj : j ≤ L) (h : ¬ nI L - 4 < nI j) : j + 4 ≤ L := by
  have e1 : (nI L - 4).toInt = (L : Int) - 4 := pk_sub_toInt (a := L) (b := 4) (by omega) (by omega)
  have e2 : (nI j).toInt = (j : Int) := nI_toInt (by omega)
  have h2 : ¬ (nI L - 4).toInt < (nI j).toInt := fun q => h (Int32.lt_iff_toInt_lt.mpr q)
  rw [e1, e2] at h2
  omega
theorem law_ix {L j k : Nat} (hL : L ≤ 2048) (h : j + 4 ≤ L) (hk : k < 4) : vp_in (nI j + nI k) L := by
  rw [nI_add]; exact vp_in_nI (by omega) (by omega)
set_option maxHeartbeats 8000000 in
set_option maxRecDepth 100000 in
theorem law_loop {p : Program} {e : Env} {s : State} {m : MethodId} {below : List Frame} {meth : Method} {c : Code} (l : Launch) {b L : Nat} {xs : Nat → Int32} (hL : L ≤ 2048) {D : va_G} {cA : Nat → ClassId} {ad : Nat → Nat} (hAd : AdOk ad (fun q => s.heap.size ≤ q)) (hC : CallFix p m c code 4 s #[.ref b] tblG RL) (hr : meth.sig.returnType = ret) (hlk : meth.locks = false) (hX : va_X b L xs s s.heap) (hbl : b < s.heap.size) (hK : va_K D vwCl (tysOf cA) s) (Rel : Mem → Prop) (hA : Alike Rel) : ∀ (n j : Nat) (M : Mem) (H : Heap) (locs : List Loc) (ls : Array Slot), j ≤ L → L - j < n → Rel M → Wd D cA ad (fun q => s.heap.size ≤ q) s M H locs → lv_has ls 4 [(0, .ref b), (1, .ref (ad 0)), (2, .ref (ad 112)), (3, .int (nI j))] → W p l e room_1 s m #[.ref b] below meth c H locs 600000 7302250 (lw_Z below #[.ref b] s) (F0 m 18 ls []) := by
  intro n
  have hx := hC.1
  have hb := hC.2.1
  have hbA : ¬ s.heap.size ≤ b := Nat.not_le.mpr hbl
  obtain ⟨hN, h_type, h_clear, h_table, h_guest, h_dish, h_now, h_spins, h_takes, h_moves, h_changes, h_undo, h_steps, h_puts, h_fed, h_odds, h_sees, h_forget, h_who, h_look, h_rate, h_keep, h_back, h_count, h_trace⟩ := hA
  induction n with
  | zero => intro j M H locs ls hj hn; exact absurd hn (Nat.not_lt_zero _)
  | succ n ih =>
    intro j M H locs ls hj hn hRel hW hl
    refine lv_iload_n hx hb dL_law_18 rfl (lv_at hl 3 rfl) ?_
    refine lv_aload_n hx hb dL_law_19 rfl (lv_at hl 0 rfl) ?_
    refine va_slen hx hb hX hbl hbA hW.2 dL_law_20 ?_
    refine lv_iconst (v := 4) hx hb dL_law_21 (by decide) ?_
    refine lv_isub hx hb dL_law_22 ?_
    refine lv_icmp_gt (tgt := 773) hx hb dL_law_23 (by decide) (fun c23 => ?_) (fun c23 => ?_)
    · refine lv_iconst (v := 1) hx hb dL_law_773 (by decide) ?_
      refine va_forget (fun q hq => hW.2.2.2 q hq) ?_
      exact lw_ret hx hb hr hlk dL_law_774
    have hj4 := law_go hL hj c23
    have ix0 : vp_in (nI j) L := vp_in_nI (by omega) (by omega)
    have ix1 : vp_in (nI j + 1) L := law_ix (k := 1) hL hj4 (by decide)
    have ix2 : vp_in (nI j + 2) L := law_ix (k := 2) hL hj4 (by decide)
    have ix3 : vp_in (nI j + 3) L := law_ix (k := 3) hL hj4 (by decide)
    have again : ∀ (M : Mem) (H : Heap) (locs : List Loc) (ls : Array Slot), Rel M → Wd D cA ad (fun q => s.heap.size ≤ q) s M H locs → lv_has ls 4 [(0, .ref b), (1, .ref (ad 0)), (2, .ref (ad 112)), (3, .int (nI j))] → W p l e room_1 s m #[.ref b] below meth c H locs 600000 7302250 (lw_Z below #[.ref b] s) (F0 m 767 ls []) := by
      intro M H locs ls hRel hW hl
      refine lv_iinc (v := nI j + 4) (lv' := [(3, .int (nI j + 4)), (0, .ref b), (1, .ref (ad 0)), (2, .ref (ad 112))]) hx hb dL_law_767 hl (k := 3) rfl rfl (by decide) rfl (fun ls hl => ?_)
      refine lv_goto (tgt := 18) hx hb dL_law_770 (by decide) ?_
      have e4 : nI j + 4 = nI (j + 4) := nI_add j 4
      rw [e4] at hl
      exact ih (j + 4) M H locs ls hj4 (by omega) hRel hW (lv_sub hl [1, 2, 3, 0] rfl)
    refine lv_aload_n hx hb dL_law_26 rfl (lv_at hl 0 rfl) ?_
    refine lv_iload_n hx hb dL_law_27 rfl (lv_at hl 3 rfl) ?_
    refine va_sld hx hb hX hbl hbA hW.2 ix0 dL_law_28 ?_
    refine lv_bipush (v := 31) hx hb dL_law_29 (by decide) ?_
    refine lv_iand hx hb dL_law_31 ?_
    refine lv_topi (fun sw _ => ?_)
    by_cases c0 : sw = 0
    · refine k_tbl (tgt := 144) c0 hC dL_law_32 (by decide) (by decide) rfl (by decide) ?_
      obtain ⟨r, M1, M2, e1, hN1, e2, hRel2⟩ := h_type M (xs (nI j + 1).toNatClampNeg) hRel
      refine lv_aload_n hx hb dL_law_144 rfl (lv_at hl 1 rfl) ?_
      refine lv_aload_n hx hb dL_law_145 rfl (lv_at hl 0 rfl) ?_
      refine lv_iload_n hx hb dL_law_146 rfl (lv_at hl 3 rfl) ?_
      refine lv_iconst (v := 1) hx hb dL_law_147 (by decide) ?_
      refine lv_iadd hx hb dL_law_148 ?_
      refine va_sld hx hb hX hbl hbA hW.2 ix1 dL_law_149 ?_
      refine k_vI hC hK hW cfX11 (c_X11_type l hAd e1) ⟨by rw [hN M hRel]; decide, rfl⟩ my_X11_type wI_X11_type wQ_X11_type wM_L_13 ⟨Nat.le_of_ble_eq_true rfl, Nat.le_of_ble_eq_true rfl⟩ rfl hl.1 rfl (Nat.le_of_ble_eq_true rfl) ⟨Nat.le_refl _, Nat.le_refl _⟩ dL_law_150 (fun H locs hW => ?_)
      refine lv_aload_n hx hb dL_law_153 rfl (lv_at hl 2 rfl) ?_
      refine lv_aload_n hx hb dL_law_154 rfl (lv_at hl 0 rfl) ?_
      refine lv_iload_n hx hb dL_law_155 rfl (lv_at hl 3 rfl) ?_
      refine lv_iconst (v := 1) hx hb dL_law_156 (by decide) ?_
      refine lv_iadd hx hb dL_law_157 ?_
      refine va_sld hx hb hX hbl hbA hW.2 ix1 dL_law_158 ?_
      refine k_vI hC hK hW cfX12 (c_X12_type l hAd e2) ⟨by rw [hN1]; decide, rfl⟩ my_X12_type wI_X12_type wQ_X12_type wM_L_17 ⟨Nat.le_of_ble_eq_true rfl, Nat.le_of_ble_eq_true rfl⟩ rfl hl.1 rfl (Nat.le_of_ble_eq_true rfl) ⟨Nat.le_refl _, Nat.le_refl _⟩ dL_law_159 (fun H locs hW => ?_)
      refine lv_icmp_eq (tgt := 767) hx hb dL_law_162 (by decide) (fun _ => ?_) (fun c9 => ?_)
      · exact again M2 _ _ _ hRel2 hW hl
      · exact absurd rfl c9
    by_cases c1 : sw = 1
    · refine k_tbl (tgt := 167) c1 hC dL_law_32 (by decide) (by decide) rfl (by decide) ?_
      obtain ⟨r, M1, M2, e1, hN1, e2, hRel2⟩ := h_clear M  hRel
      refine lv_aload_n hx hb dL_law_167 rfl (lv_at hl 1 rfl) ?_
      refine k_vI hC hK hW cfX11 (c_X11_clear l hAd e1) ⟨by rw [hN M hRel]; decide, rfl⟩ my_X11_clear wI_X11_clear wQ_X11_clear wM_L_18 ⟨Nat.le_of_ble_eq_true rfl, Nat.le_of_ble_eq_true rfl⟩ rfl hl.1 rfl (Nat.le_of_ble_eq_true rfl) ⟨Nat.le_refl _, Nat.le_refl _⟩ dL_law_168 (fun H locs hW => ?_)
      refine lv_aload_n hx hb dL_law_171 rfl (lv_at hl 2 rfl) ?_
      refine k_vI hC hK hW cfX12 (c_X12_clear l hAd e2) ⟨by rw [hN1]; decide, rfl⟩ my_X12_clear wI_X12_clear wQ_X12_clear wM_L_22 ⟨Nat.le_of_ble_eq_true rfl, Nat.le_of_ble_eq_true rfl⟩ rfl hl.1 rfl (Nat.le_of_ble_eq_true rfl) ⟨Nat.le_refl _, Nat.le_refl _⟩ dL_law_172 (fun H locs hW => ?_)
      refine lv_icmp_eq (tgt := 767) hx hb dL_law_175 (by decide) (fun _ => ?_) (fun c9 => ?_)
      · exact again M2 _ _ _ hRel2 hW hl
      · exact absurd rfl c9
    by_cases c2 : sw = 2
    · refine k_tbl (tgt := 180) c2 hC dL_law_32 (by decide) (by decide) rfl (by decide) ?_
      obtain ⟨r, M1, M2, e1, hN1, e2, hRel2⟩ := h_table M  hRel
      refine lv_aload_n hx hb dL_law_180 rfl (lv_at hl 1 rfl) ?_
      refine k_vI hC hK hW cfX11 (c_X11_table l hAd e1) ⟨by rw [hN M hRel]; decide, rfl⟩ my_X11_table wI_X11_table wQ_X11_table wM_L_23 ⟨Nat.le_of_ble_eq_true rfl, Nat.le_of_ble_eq_true rfl⟩ rfl hl.1 rfl (Nat.le_of_ble_eq_true rfl) ⟨Nat.le_refl _, Nat.le_refl _⟩ dL_law_181 (fun H locs hW => ?_)
      refine lv_aload_n hx hb dL_law_184 rfl (lv_at hl 2 rfl) ?_
      refine k_vI hC hK hW cfX12 (c_X12_table l hAd e2) ⟨by rw [hN1]; decide, rfl⟩ my_X12_table wI_X12_table wQ_X12_table wM_L_26 ⟨Nat.le_of_ble_eq_true rfl, Nat.le_of_ble_eq_true rfl⟩ rfl hl.1 rfl (Nat.le_of_ble_eq_true rfl) ⟨Nat.le_refl _, Nat.le_refl _⟩ dL_law_185 (fun H locs hW => ?_)
      refine lv_icmp_eq (tgt := 767) hx hb dL_law_188 (by decide) (fun _ => ?_) (fun c9 => ?_)
      · exact again M2 _ _ _ hRel2 hW hl
      · exact absurd rfl c9
    by_cases c3 : sw = 3
    · refine k_tbl (tgt := 193) c3 hC dL_law_32 (by decide) (by decide) rfl (by decide) ?_
      obtain ⟨r, M2, e1, e2, hRel2⟩ := h_guest M (xs (nI j + 1).toNatClampNeg) (xs (nI j + 2).toNatClampNeg) hRel
      refine lv_aload_n hx hb dL_law_193 rfl (lv_at hl 1 rfl) ?_
      refine lv_aload_n hx hb dL_law_194 rfl (lv_at hl 0 rfl) ?_
      refine lv_iload_n hx hb dL_law_195 rfl (lv_at hl 3 rfl) ?_
      refine lv_iconst (v := 1) hx hb dL_law_196 (by decide) ?_
      refine lv_iadd hx hb dL_law_197 ?_
      refine va_sld hx hb hX hbl hbA hW.2 ix1 dL_law_198 ?_
      refine lv_aload_n hx hb dL_law_199 rfl (lv_at hl 0 rfl) ?_
      refine lv_iload_n hx hb dL_law_200 rfl (lv_at hl 3 rfl) ?_
      refine lv_iconst (v := 2) hx hb dL_law_201 (by decide) ?_
      refine lv_iadd hx hb dL_law_202 ?_
      refine va_sld hx hb hX hbl hbA hW.2 ix2 dL_law_203 ?_
      refine k_vI hC hK hW cfX11 (c_X11_guest l hAd e1) ⟨by rw [hN M hRel]; decide, rfl⟩ my_X11_guest wI_X11_guest wQ_X11_guest wM_L_27 ⟨Nat.le_of_ble_eq_true rfl, Nat.le_of_ble_eq_true rfl⟩ rfl hl.1 rfl (Nat.le_of_ble_eq_true rfl) ⟨Nat.le_refl _, Nat.le_refl _⟩ dL_law_204 (fun H locs hW => ?_)
      refine lv_aload_n hx hb dL_law_207 rfl (lv_at hl 2 rfl) ?_
      refine lv_aload_n hx hb dL_law_208 rfl (lv_at hl 0 rfl) ?_
      refine lv_iload_n hx hb dL_law_209 rfl (lv_at hl 3 rfl) ?_
      refine lv_iconst (v := 1) hx hb dL_law_210 (by decide) ?_
      refine lv_iadd hx hb dL_law_211 ?_
      refine va_sld hx hb hX hbl hbA hW.2 ix1 dL_law_212 ?_
      refine lv_aload_n hx hb dL_law_213 rfl (lv_at hl 0 rfl) ?_
      refine lv_iload_n hx hb dL_law_214 rfl (lv_at hl 3 rfl) ?_
      refine lv_iconst (v := 2) hx hb dL_law_215 (by decide) ?_
      refine lv_iadd hx hb dL_law_216 ?_
      refine va_sld hx hb hX hbl hbA hW.2 ix2 dL_law_217 ?_
      refine k_vI hC hK hW cfX12 (c_X12_guest l hAd e2) ⟨by rw [hN M hRel]; decide, rfl⟩ my_X12_guest wI_X12_guest wQ_X12_guest wM_L_31 ⟨Nat.le_of_ble_eq_true rfl, Nat.le_of_ble_eq_true rfl⟩ rfl hl.1 rfl (Nat.le_of_ble_eq_true rfl) ⟨Nat.le_refl _, Nat.le_refl _⟩ dL_law_218 (fun H locs hW => ?_)
      refine lv_icmp_eq (tgt := 767) hx hb dL_law_221 (by decide) (fun _ => ?_) (fun c9 => ?_)
      · exact again M2 _ _ _ hRel2 hW hl
      · exact absurd rfl c9
    by_cases c4 : sw = 4
    · refine k_tbl (tgt := 226) c4 hC dL_law_32 (by decide) (by decide) rfl (by decide) ?_
      obtain ⟨r, M2, e1, e2, hRel2⟩ := h_dish M (xs (nI j + 1).toNatClampNeg) (xs (nI j + 2).toNatClampNeg) hRel
      refine lv_aload_n hx hb dL_law_226 rfl (lv_at hl 1 rfl) ?_
      refine lv_aload_n hx hb dL_law_227 rfl (lv_at hl 0 rfl) ?_
      refine lv_iload_n hx hb dL_law_228 rfl (lv_at hl 3 rfl) ?_
      refine lv_iconst (v := 1) hx hb dL_law_229 (by decide) ?_
      refine lv_iadd hx hb dL_law_230 ?_
      refine va_sld hx hb hX hbl hbA hW.2 ix1 dL_law_231 ?_
      refine lv_aload_n hx hb dL_law_232 rfl (lv_at hl 0 rfl) ?_
      refine lv_iload_n hx hb dL_law_233 rfl (lv_at hl 3 rfl) ?_
      refine lv_iconst (v := 2) hx hb dL_law_234 (by decide) ?_
      refine lv_iadd hx hb dL_law_235 ?_
      refine va_sld hx hb hX hbl hbA hW.2 ix2 dL_law_236 ?_
      refine k_vI hC hK hW cfX11 (c_X11_dish l hAd e1) ⟨by rw [hN M hRel]; decide, rfl⟩ my_X11_dish wI_X11_dish wQ_X11_dish wM_L_32 ⟨Nat.le_of_ble_eq_true rfl, Nat.le_of_ble_eq_true rfl⟩ rfl hl.1 rfl (Nat.le_of_ble_eq_true rfl) ⟨Nat.le_refl _, Nat.le_refl _⟩ dL_law_237 (fun H locs hW => ?_)
      refine lv_aload_n hx hb dL_law_240 rfl (lv_at hl 2 rfl) ?_
      refine lv_aload_n hx hb dL_law_241 rfl (lv_at hl 0 rfl) ?_
      refine lv_iload_n hx hb dL_law_242 rfl (lv_at hl 3 rfl) ?_
      refine lv_iconst (v := 1) hx hb dL_law_243 (by decide) ?_
      refine lv_iadd hx hb dL_law_244 ?_
      refine va_sld hx hb hX hbl hbA hW.2 ix1 dL_law_245 ?_
      refine lv_aload_n hx hb dL_law_246 rfl (lv_at hl 0 rfl) ?_
      refine lv_iload_n hx hb dL_law_247 rfl (lv_at hl 3 rfl) ?_
      refine lv_iconst (v := 2) hx hb dL_law_248 (by decide) ?_
      refine lv_iadd hx hb dL_law_249 ?_
      refine va_sld hx hb hX hbl hbA hW.2 ix2 dL_law_250 ?_
      refine k_vI hC hK hW cfX12 (c_X12_dish l hAd e2) ⟨by rw [hN M hRel]; decide, rfl⟩ my_X12_dish wI_X12_dish wQ_X12_dish wM_L_35 ⟨Nat.le_of_ble_eq_true rfl, Nat.le_of_ble_eq_true rfl⟩ rfl hl.1 rfl (Nat.le_of_ble_eq_true rfl) ⟨Nat.le_refl _, Nat.le_refl _⟩ dL_law_251 (fun H locs hW => ?_)
      refine lv_icmp_eq (tgt := 767) hx hb dL_law_254 (by decide) (fun _ => ?_) (fun c9 => ?_)
      · exact again M2 _ _ _ hRel2 hW hl
      · exact absurd rfl c9
    by_cases c5 : sw = 5
    · refine k_tbl (tgt := 259) c5 hC dL_law_32 (by decide) (by decide) rfl (by decide) ?_
      obtain ⟨r, M1, M2, e1, hN1, e2, hRel2⟩ := h_now M (xs (nI j + 1).toNatClampNeg) hRel
      refine lv_aload_n hx hb dL_law_259 rfl (lv_at hl 1 rfl) ?_
      refine lv_aload_n hx hb dL_law_260 rfl (lv_at hl 0 rfl) ?_
      refine lv_iload_n hx hb dL_law_261 rfl (lv_at hl 3 rfl) ?_
      refine lv_iconst (v := 1) hx hb dL_law_262 (by decide) ?_
      refine lv_iadd hx hb dL_law_263 ?_
      refine va_sld hx hb hX hbl hbA hW.2 ix1 dL_law_264 ?_
      refine k_vI hC hK hW cfX11 (c_X11_now l hAd e1) ⟨by rw [hN M hRel]; decide, rfl⟩ my_X11_now wI_X11_now wQ_X11_now wM_L_36 ⟨Nat.le_of_ble_eq_true rfl, Nat.le_of_ble_eq_true rfl⟩ rfl hl.1 rfl (Nat.le_of_ble_eq_true rfl) ⟨Nat.le_refl _, Nat.le_refl _⟩ dL_law_265 (fun H locs hW => ?_)
      refine lv_aload_n hx hb dL_law_268 rfl (lv_at hl 2 rfl) ?_
      refine lv_aload_n hx hb dL_law_269 rfl (lv_at hl 0 rfl) ?_
      refine lv_iload_n hx hb dL_law_270 rfl (lv_at hl 3 rfl) ?_
      refine lv_iconst (v := 1) hx hb dL_law_271 (by decide) ?_
      refine lv_iadd hx hb dL_law_272 ?_
      refine va_sld hx hb hX hbl hbA hW.2 ix1 dL_law_273 ?_
      refine k_vI hC hK hW cfX12 (c_X12_now l hAd e2) ⟨by rw [hN1]; decide, rfl⟩ my_X12_now wI_X12_now wQ_X12_now wM_L_39 ⟨Nat.le_of_ble_eq_true rfl, Nat.le_of_ble_eq_true rfl⟩ rfl hl.1 rfl (Nat.le_of_ble_eq_true rfl) ⟨Nat.le_refl _, Nat.le_refl _⟩ dL_law_274 (fun H locs hW => ?_)
      refine lv_icmp_eq (tgt := 767) hx hb dL_law_277 (by decide) (fun _ => ?_) (fun c9 => ?_)
      · exact again M2 _ _ _ hRel2 hW hl
      · exact absurd rfl c9
    by_cases c6 : sw = 6
    · refine k_tbl (tgt := 282) c6 hC dL_law_32 (by decide) (by decide) rfl (by decide) ?_
      obtain ⟨r, M1, M2, e1, hN1, e2, hRel2⟩ := h_spins M (xs (nI j + 1).toNatClampNeg) (xs (nI j + 2).toNatClampNeg) hRel
      refine lv_aload_n hx hb dL_law_282 rfl (lv_at hl 1 rfl) ?_
      refine lv_aload_n hx hb dL_law_283 rfl (lv_at hl 0 rfl) ?_
      refine lv_iload_n hx hb dL_law_284 rfl (lv_at hl 3 rfl) ?_
      refine lv_iconst (v := 1) hx hb dL_law_285 (by decide) ?_
      refine lv_iadd hx hb dL_law_286 ?_
      refine va_sld hx hb hX hbl hbA hW.2 ix1 dL_law_287 ?_
      refine lv_aload_n hx hb dL_law_288 rfl (lv_at hl 0 rfl) ?_
      refine lv_iload_n hx hb dL_law_289 rfl (lv_at hl 3 rfl) ?_
      refine lv_iconst (v := 2) hx hb dL_law_290 (by decide) ?_
      refine lv_iadd hx hb dL_law_291 ?_
      refine va_sld hx hb hX hbl hbA hW.2 ix2 dL_law_292 ?_
      refine k_vI hC hK hW cfX11 (c_X11_spins l hAd e1) ⟨by rw [hN M hRel]; decide, rfl⟩ my_X11_spins wI_X11_spins wQ_X11_spins wM_L_40 ⟨Nat.le_of_ble_eq_true rfl, Nat.le_of_ble_eq_true rfl⟩ rfl hl.1 rfl (Nat.le_of_ble_eq_true rfl) ⟨Nat.le_refl _, Nat.le_refl _⟩ dL_law_293 (fun H locs hW => ?_)
      refine lv_aload_n hx hb dL_law_296 rfl (lv_at hl 2 rfl) ?_
      refine lv_aload_n hx hb dL_law_297 rfl (lv_at hl 0 rfl) ?_
      refine lv_iload_n hx hb dL_law_298 rfl (lv_at hl 3 rfl) ?_
      refine lv_iconst (v := 1) hx hb dL_law_299 (by decide) ?_
      refine lv_iadd hx hb dL_law_300 ?_
      refine va_sld hx hb hX hbl hbA hW.2 ix1 dL_law_301 ?_
      refine lv_aload_n hx hb dL_law_302 rfl (lv_at hl 0 rfl) ?_
      refine lv_iload_n hx hb dL_law_303 rfl (lv_at hl 3 rfl) ?_
      refine lv_iconst (v := 2) hx hb dL_law_304 (by decide) ?_
      refine lv_iadd hx hb dL_law_305 ?_
      refine va_sld hx hb hX hbl hbA hW.2 ix2 dL_law_306 ?_
      refine k_vI hC hK hW cfX12 (c_X12_spins l hAd e2) ⟨by rw [hN1]; decide, rfl⟩ my_X12_spins wI_X12_spins wQ_X12_spins wM_L_43 ⟨Nat.le_of_ble_eq_true rfl, Nat.le_of_ble_eq_true rfl⟩ rfl hl.1 rfl (Nat.le_of_ble_eq_true rfl) ⟨Nat.le_refl _, Nat.le_refl _⟩ dL_law_307 (fun H locs hW => ?_)
      refine lv_icmp_eq (tgt := 767) hx hb dL_law_310 (by decide) (fun _ => ?_) (fun c9 => ?_)
      · exact again M2 _ _ _ hRel2 hW hl
      · exact absurd rfl c9
    by_cases c7 : sw = 7
    · refine k_tbl (tgt := 315) c7 hC dL_law_32 (by decide) (by decide) rfl (by decide) ?_
      obtain ⟨r, M1, M2, e1, hN1, e2, hRel2⟩ := h_takes M (xs (nI j + 1).toNatClampNeg) (xs (nI j + 2).toNatClampNeg) hRel
      refine lv_aload_n hx hb dL_law_315 rfl (lv_at hl 1 rfl) ?_
      refine lv_aload_n hx hb dL_law_316 rfl (lv_at hl 0 rfl) ?_
      refine lv_iload_n hx hb dL_law_317 rfl (lv_at hl 3 rfl) ?_
      refine lv_iconst (v := 1) hx hb dL_law_318 (by decide) ?_
      refine lv_iadd hx hb dL_law_319 ?_
      refine va_sld hx hb hX hbl hbA hW.2 ix1 dL_law_320 ?_
      refine lv_aload_n hx hb dL_law_321 rfl (lv_at hl 0 rfl) ?_
      refine lv_iload_n hx hb dL_law_322 rfl (lv_at hl 3 rfl) ?_
      refine lv_iconst (v := 2) hx hb dL_law_323 (by decide) ?_
      refine lv_iadd hx hb dL_law_324 ?_
      refine va_sld hx hb hX hbl hbA hW.2 ix2 dL_law_325 ?_
      refine k_vI hC hK hW cfX11 (c_X11_takes l hAd e1) ⟨by rw [hN M hRel]; decide, rfl⟩ my_X11_takes wI_X11_takes wQ_X11_takes wM_L_44 ⟨Nat.le_of_ble_eq_true rfl, Nat.le_of_ble_eq_true rfl⟩ rfl hl.1 rfl (Nat.le_of_ble_eq_true rfl) ⟨Nat.le_refl _, Nat.le_refl _⟩ dL_law_326 (fun H locs hW => ?_)
      refine lv_aload_n hx hb dL_law_329 rfl (lv_at hl 2 rfl) ?_
      refine lv_aload_n hx hb dL_law_330 rfl (lv_at hl 0 rfl) ?_
      refine lv_iload_n hx hb dL_law_331 rfl (lv_at hl 3 rfl) ?_
      refine lv_iconst (v := 1) hx hb dL_law_332 (by decide) ?_
      refine lv_iadd hx hb dL_law_333 ?_
      refine va_sld hx hb hX hbl hbA hW.2 ix1 dL_law_334 ?_
      refine lv_aload_n hx hb dL_law_335 rfl (lv_at hl 0 rfl) ?_
      refine lv_iload_n hx hb dL_law_336 rfl (lv_at hl 3 rfl) ?_
      refine lv_iconst (v := 2) hx hb dL_law_337 (by decide) ?_
      refine lv_iadd hx hb dL_law_338 ?_
      refine va_sld hx hb hX hbl hbA hW.2 ix2 dL_law_339 ?_
      refine k_vI hC hK hW cfX12 (c_X12_takes l hAd e2) ⟨by rw [hN1]; decide, rfl⟩ my_X12_takes wI_X12_takes wQ_X12_takes wM_L_47 ⟨Nat.le_of_ble_eq_true rfl, Nat.le_of_ble_eq_true rfl⟩ rfl hl.1 rfl (Nat.le_of_ble_eq_true rfl) ⟨Nat.le_refl _, Nat.le_refl _⟩ dL_law_340 (fun H locs hW => ?_)
      refine lv_icmp_eq (tgt := 767) hx hb dL_law_343 (by decide) (fun _ => ?_) (fun c9 => ?_)
      · exact again M2 _ _ _ hRel2 hW hl
      · exact absurd rfl c9
    by_cases c8 : sw = 8
    · refine k_tbl (tgt := 348) c8 hC dL_law_32 (by decide) (by decide) rfl (by decide) ?_
      obtain ⟨r, M1, M2, e1, hN1, e2, hRel2⟩ := h_moves M (xs (nI j + 1).toNatClampNeg) (xs (nI j + 2).toNatClampNeg) hRel
      refine lv_aload_n hx hb dL_law_348 rfl (lv_at hl 1 rfl) ?_
      refine lv_aload_n hx hb dL_law_349 rfl (lv_at hl 0 rfl) ?_
      refine lv_iload_n hx hb dL_law_350 rfl (lv_at hl 3 rfl) ?_
      refine lv_iconst (v := 1) hx hb dL_law_351 (by decide) ?_
      refine lv_iadd hx hb dL_law_352 ?_
      refine va_sld hx hb hX hbl hbA hW.2 ix1 dL_law_353 ?_
      refine lv_aload_n hx hb dL_law_354 rfl (lv_at hl 0 rfl) ?_
      refine lv_iload_n hx hb dL_law_355 rfl (lv_at hl 3 rfl) ?_
      refine lv_iconst (v := 2) hx hb dL_law_356 (by decide) ?_
      refine lv_iadd hx hb dL_law_357 ?_
      refine va_sld hx hb hX hbl hbA hW.2 ix2 dL_law_358 ?_
      refine k_vI hC hK hW cfX11 (c_X11_moves l hAd e1) ⟨by rw [hN M hRel]; decide, rfl⟩ my_X11_moves wI_X11_moves wQ_X11_moves wM_L_48 ⟨Nat.le_of_ble_eq_true rfl, Nat.le_of_ble_eq_true rfl⟩ rfl hl.1 rfl (Nat.le_of_ble_eq_true rfl) ⟨Nat.le_refl _, Nat.le_refl _⟩ dL_law_359 (fun H locs hW => ?_)
      refine lv_aload_n hx hb dL_law_362 rfl (lv_at hl 2 rfl) ?_
      refine lv_aload_n hx hb dL_law_363 rfl (lv_at hl 0 rfl) ?_
      refine lv_iload_n hx hb dL_law_364 rfl (lv_at hl 3 rfl) ?_
      refine lv_iconst (v := 1) hx hb dL_law_365 (by decide) ?_
      refine lv_iadd hx hb dL_law_366 ?_
      refine va_sld hx hb hX hbl hbA hW.2 ix1 dL_law_367 ?_
      refine lv_aload_n hx hb dL_law_368 rfl (lv_at hl 0 rfl) ?_
      refine lv_iload_n hx hb dL_law_369 rfl (lv_at hl 3 rfl) ?_
      refine lv_iconst (v := 2) hx hb dL_law_370 (by decide) ?_
      refine lv_iadd hx hb dL_law_371 ?_
      refine va_sld hx hb hX hbl hbA hW.2 ix2 dL_law_372 ?_
      refine k_vI hC hK hW cfX12 (c_X12_moves l hAd e2) ⟨by rw [hN1]; decide, rfl⟩ my_X12_moves wI_X12_moves wQ_X12_moves wM_L_51 ⟨Nat.le_of_ble_eq_true rfl, Nat.le_of_ble_eq_true rfl⟩ rfl hl.1 rfl (Nat.le_of_ble_eq_true rfl) ⟨Nat.le_refl _, Nat.le_refl _⟩ dL_law_373 (fun H locs hW => ?_)
      refine lv_icmp_eq (tgt := 767) hx hb dL_law_376 (by decide) (fun _ => ?_) (fun c9 => ?_)
      · exact again M2 _ _ _ hRel2 hW hl
      · exact absurd rfl c9
    by_cases c9 : sw = 9
    · refine k_tbl (tgt := 381) c9 hC dL_law_32 (by decide) (by decide) rfl (by decide) ?_
      obtain ⟨r, M1, M2, e1, hN1, e2, hRel2⟩ := h_changes M (xs (nI j + 1).toNatClampNeg) (xs (nI j + 2).toNatClampNeg) hRel
      refine lv_aload_n hx hb dL_law_381 rfl (lv_at hl 1 rfl) ?_
      refine lv_aload_n hx hb dL_law_382 rfl (lv_at hl 0 rfl) ?_
      refine lv_iload_n hx hb dL_law_383 rfl (lv_at hl 3 rfl) ?_
      refine lv_iconst (v := 1) hx hb dL_law_384 (by decide) ?_
      refine lv_iadd hx hb dL_law_385 ?_
      refine va_sld hx hb hX hbl hbA hW.2 ix1 dL_law_386 ?_
      refine lv_aload_n hx hb dL_law_387 rfl (lv_at hl 0 rfl) ?_
      refine lv_iload_n hx hb dL_law_388 rfl (lv_at hl 3 rfl) ?_
      refine lv_iconst (v := 2) hx hb dL_law_389 (by decide) ?_
      refine lv_iadd hx hb dL_law_390 ?_
      refine va_sld hx hb hX hbl hbA hW.2 ix2 dL_law_391 ?_
      refine k_vI hC hK hW cfX11 (c_X11_changes l hAd e1) ⟨by rw [hN M hRel]; decide, rfl⟩ my_X11_changes wI_X11_changes wQ_X11_changes wM_L_52 ⟨Nat.le_of_ble_eq_true rfl, Nat.le_of_ble_eq_true rfl⟩ rfl hl.1 rfl (Nat.le_of_ble_eq_true rfl) ⟨Nat.le_refl _, Nat.le_refl _⟩ dL_law_392 (fun H locs hW => ?_)
      refine lv_aload_n hx hb dL_law_395 rfl (lv_at hl 2 rfl) ?_
      refine lv_aload_n hx hb dL_law_396 rfl (lv_at hl 0 rfl) ?_
      refine lv_iload_n hx hb dL_law_397 rfl (lv_at hl 3 rfl) ?_
      refine lv_iconst (v := 1) hx hb dL_law_398 (by decide) ?_
      refine lv_iadd hx hb dL_law_399 ?_
      refine va_sld hx hb hX hbl hbA hW.2 ix1 dL_law_400 ?_
      refine lv_aload_n hx hb dL_law_401 rfl (lv_at hl 0 rfl) ?_
      refine lv_iload_n hx hb dL_law_402 rfl (lv_at hl 3 rfl) ?_
      refine lv_iconst (v := 2) hx hb dL_law_403 (by decide) ?_
      refine lv_iadd hx hb dL_law_404 ?_
      refine va_sld hx hb hX hbl hbA hW.2 ix2 dL_law_405 ?_
      refine k_vI hC hK hW cfX12 (c_X12_changes l hAd e2) ⟨by rw [hN1]; decide, rfl⟩ my_X12_changes wI_X12_changes wQ_X12_changes wM_L_55 ⟨Nat.le_of_ble_eq_true rfl, Nat.le_of_ble_eq_true rfl⟩ rfl hl.1 rfl (Nat.le_of_ble_eq_true rfl) ⟨Nat.le_refl _, Nat.le_refl _⟩ dL_law_406 (fun H locs hW => ?_)
      refine lv_icmp_eq (tgt := 767) hx hb dL_law_409 (by decide) (fun _ => ?_) (fun c9 => ?_)
      · exact again M2 _ _ _ hRel2 hW hl
      · exact absurd rfl c9
    by_cases c10 : sw = 10
    · refine k_tbl (tgt := 414) c10 hC dL_law_32 (by decide) (by decide) rfl (by decide) ?_
      obtain ⟨r, M1, M2, e1, hN1, e2, hRel2⟩ := h_undo M  hRel
      refine lv_aload_n hx hb dL_law_414 rfl (lv_at hl 1 rfl) ?_
      refine k_vI hC hK hW cfX11 (c_X11_undo l hAd e1) ⟨by rw [hN M hRel]; decide, rfl⟩ my_X11_undo wI_X11_undo wQ_X11_undo wM_L_56 ⟨Nat.le_of_ble_eq_true rfl, Nat.le_of_ble_eq_true rfl⟩ rfl hl.1 rfl (Nat.le_of_ble_eq_true rfl) ⟨Nat.le_refl _, Nat.le_refl _⟩ dL_law_415 (fun H locs hW => ?_)
      refine lv_aload_n hx hb dL_law_418 rfl (lv_at hl 2 rfl) ?_
      refine k_vI hC hK hW cfX12 (c_X12_undo l hAd e2) ⟨by rw [hN1]; decide, rfl⟩ my_X12_undo wI_X12_undo wQ_X12_undo wM_L_59 ⟨Nat.le_of_ble_eq_true rfl, Nat.le_of_ble_eq_true rfl⟩ rfl hl.1 rfl (Nat.le_of_ble_eq_true rfl) ⟨Nat.le_refl _, Nat.le_refl _⟩ dL_law_419 (fun H locs hW => ?_)
      refine lv_icmp_eq (tgt := 767) hx hb dL_law_422 (by decide) (fun _ => ?_) (fun c9 => ?_)
      · exact again M2 _ _ _ hRel2 hW hl
      · exact absurd rfl c9
    by_cases c11 : sw = 11
    · refine k_tbl (tgt := 427) c11 hC dL_law_32 (by decide) (by decide) rfl (by decide) ?_
      obtain ⟨r, M2, e1, e2, hRel2⟩ := h_steps M (xs (nI j + 1).toNatClampNeg) (xs (nI j + 2).toNatClampNeg) (xs (nI j + 3).toNatClampNeg) hRel
      refine lv_aload_n hx hb dL_law_427 rfl (lv_at hl 1 rfl) ?_
      refine lv_aload_n hx hb dL_law_428 rfl (lv_at hl 0 rfl) ?_
      refine lv_iload_n hx hb dL_law_429 rfl (lv_at hl 3 rfl) ?_
      refine lv_iconst (v := 1) hx hb dL_law_430 (by decide) ?_
      refine lv_iadd hx hb dL_law_431 ?_
      refine va_sld hx hb hX hbl hbA hW.2 ix1 dL_law_432 ?_
      refine lv_aload_n hx hb dL_law_433 rfl (lv_at hl 0 rfl) ?_
      refine lv_iload_n hx hb dL_law_434 rfl (lv_at hl 3 rfl) ?_
      refine lv_iconst (v := 2) hx hb dL_law_435 (by decide) ?_
      refine lv_iadd hx hb dL_law_436 ?_
      refine va_sld hx hb hX hbl hbA hW.2 ix2 dL_law_437 ?_
      refine lv_aload_n hx hb dL_law_438 rfl (lv_at hl 0 rfl) ?_
      refine lv_iload_n hx hb dL_law_439 rfl (lv_at hl 3 rfl) ?_
      refine lv_iconst (v := 3) hx hb dL_law_440 (by decide) ?_
      refine lv_iadd hx hb dL_law_441 ?_
      refine va_sld hx hb hX hbl hbA hW.2 ix3 dL_law_442 ?_
      refine k_vI hC hK hW cfX11 (c_X11_steps l hAd e1) ⟨by rw [hN M hRel]; decide, rfl⟩ my_X11_steps wI_X11_steps wQ_X11_steps wM_L_60 ⟨Nat.le_of_ble_eq_true rfl, Nat.le_of_ble_eq_true rfl⟩ rfl hl.1 rfl (Nat.le_of_ble_eq_true rfl) ⟨Nat.le_refl _, Nat.le_refl _⟩ dL_law_443 (fun H locs hW => ?_)
      refine lv_aload_n hx hb dL_law_446 rfl (lv_at hl 2 rfl) ?_
      refine lv_aload_n hx hb dL_law_447 rfl (lv_at hl 0 rfl) ?_
      refine lv_iload_n hx hb dL_law_448 rfl (lv_at hl 3 rfl) ?_
      refine lv_iconst (v := 1) hx hb dL_law_449 (by decide) ?_
      refine lv_iadd hx hb dL_law_450 ?_
      refine va_sld hx hb hX hbl hbA hW.2 ix1 dL_law_451 ?_
      refine lv_aload_n hx hb dL_law_452 rfl (lv_at hl 0 rfl) ?_
      refine lv_iload_n hx hb dL_law_453 rfl (lv_at hl 3 rfl) ?_
      refine lv_iconst (v := 2) hx hb dL_law_454 (by decide) ?_
      refine lv_iadd hx hb dL_law_455 ?_
      refine va_sld hx hb hX hbl hbA hW.2 ix2 dL_law_456 ?_
      refine lv_aload_n hx hb dL_law_457 rfl (lv_at hl 0 rfl) ?_
      refine lv_iload_n hx hb dL_law_458 rfl (lv_at hl 3 rfl) ?_
      refine lv_iconst (v := 3) hx hb dL_law_459 (by decide) ?_
      refine lv_iadd hx hb dL_law_460 ?_
      refine va_sld hx hb hX hbl hbA hW.2 ix3 dL_law_461 ?_
      refine k_vI hC hK hW cfX12 (c_X12_steps l hAd e2) ⟨by rw [hN M hRel]; decide, rfl⟩ my_X12_steps wI_X12_steps wQ_X12_steps wM_L_64 ⟨Nat.le_of_ble_eq_true rfl, Nat.le_of_ble_eq_true rfl⟩ rfl hl.1 rfl (Nat.le_of_ble_eq_true rfl) ⟨Nat.le_refl _, Nat.le_refl _⟩ dL_law_462 (fun H locs hW => ?_)
      refine lv_icmp_eq (tgt := 767) hx hb dL_law_465 (by decide) (fun _ => ?_) (fun c9 => ?_)
      · exact again M2 _ _ _ hRel2 hW hl
      · exact absurd rfl c9
    by_cases c12 : sw = 12
    · refine k_tbl (tgt := 470) c12 hC dL_law_32 (by decide) (by decide) rfl (by decide) ?_
      obtain ⟨r, M1, M2, e1, hN1, e2, hRel2⟩ := h_puts M (xs (nI j + 1).toNatClampNeg) hRel
      refine lv_aload_n hx hb dL_law_470 rfl (lv_at hl 1 rfl) ?_
      refine lv_aload_n hx hb dL_law_471 rfl (lv_at hl 0 rfl) ?_
      refine lv_iload_n hx hb dL_law_472 rfl (lv_at hl 3 rfl) ?_
      refine lv_iconst (v := 1) hx hb dL_law_473 (by decide) ?_
      refine lv_iadd hx hb dL_law_474 ?_
      refine va_sld hx hb hX hbl hbA hW.2 ix1 dL_law_475 ?_
      refine k_vI hC hK hW cfX11 (c_X11_puts l hAd e1) ⟨by rw [hN M hRel]; decide, rfl⟩ my_X11_puts wI_X11_puts wQ_X11_puts wM_L_65 ⟨Nat.le_of_ble_eq_true rfl, Nat.le_of_ble_eq_true rfl⟩ rfl hl.1 rfl (Nat.le_of_ble_eq_true rfl) ⟨Nat.le_refl _, Nat.le_refl _⟩ dL_law_476 (fun H locs hW => ?_)
      refine lv_aload_n hx hb dL_law_479 rfl (lv_at hl 2 rfl) ?_
      refine lv_aload_n hx hb dL_law_480 rfl (lv_at hl 0 rfl) ?_
      refine lv_iload_n hx hb dL_law_481 rfl (lv_at hl 3 rfl) ?_
      refine lv_iconst (v := 1) hx hb dL_law_482 (by decide) ?_
      refine lv_iadd hx hb dL_law_483 ?_
      refine va_sld hx hb hX hbl hbA hW.2 ix1 dL_law_484 ?_
      refine k_vI hC hK hW cfX12 (c_X12_puts l hAd e2) ⟨by rw [hN1]; decide, rfl⟩ my_X12_puts wI_X12_puts wQ_X12_puts wM_L_68 ⟨Nat.le_of_ble_eq_true rfl, Nat.le_of_ble_eq_true rfl⟩ rfl hl.1 rfl (Nat.le_of_ble_eq_true rfl) ⟨Nat.le_refl _, Nat.le_refl _⟩ dL_law_485 (fun H locs hW => ?_)
      refine lv_icmp_eq (tgt := 767) hx hb dL_law_488 (by decide) (fun _ => ?_) (fun c9 => ?_)
      · exact again M2 _ _ _ hRel2 hW hl
      · exact absurd rfl c9
    by_cases c13 : sw = 13
    · refine k_tbl (tgt := 493) c13 hC dL_law_32 (by decide) (by decide) rfl (by decide) ?_
      obtain ⟨r, M1, M2, e1, hN1, e2, hRel2⟩ := h_fed M (xs (nI j + 1).toNatClampNeg) hRel
      refine lv_aload_n hx hb dL_law_493 rfl (lv_at hl 1 rfl) ?_
      refine lv_aload_n hx hb dL_law_494 rfl (lv_at hl 0 rfl) ?_
      refine lv_iload_n hx hb dL_law_495 rfl (lv_at hl 3 rfl) ?_
      refine lv_iconst (v := 1) hx hb dL_law_496 (by decide) ?_
      refine lv_iadd hx hb dL_law_497 ?_
      refine va_sld hx hb hX hbl hbA hW.2 ix1 dL_law_498 ?_
      refine k_vI hC hK hW cfX11 (c_X11_fed l hAd e1) ⟨by rw [hN M hRel]; decide, rfl⟩ my_X11_fed wI_X11_fed wQ_X11_fed wM_L_69 ⟨Nat.le_of_ble_eq_true rfl, Nat.le_of_ble_eq_true rfl⟩ rfl hl.1 rfl (Nat.le_of_ble_eq_true rfl) ⟨Nat.le_refl _, Nat.le_refl _⟩ dL_law_499 (fun H locs hW => ?_)
      refine lv_aload_n hx hb dL_law_502 rfl (lv_at hl 2 rfl) ?_
      refine lv_aload_n hx hb dL_law_503 rfl (lv_at hl 0 rfl) ?_
      refine lv_iload_n hx hb dL_law_504 rfl (lv_at hl 3 rfl) ?_
      refine lv_iconst (v := 1) hx hb dL_law_505 (by decide) ?_
      refine lv_iadd hx hb dL_law_506 ?_
      refine va_sld hx hb hX hbl hbA hW.2 ix1 dL_law_507 ?_
      refine k_vI hC hK hW cfX12 (c_X12_fed l hAd e2) ⟨by rw [hN1]; decide, rfl⟩ my_X12_fed wI_X12_fed wQ_X12_fed wM_L_72 ⟨Nat.le_of_ble_eq_true rfl, Nat.le_of_ble_eq_true rfl⟩ rfl hl.1 rfl (Nat.le_of_ble_eq_true rfl) ⟨Nat.le_refl _, Nat.le_refl _⟩ dL_law_508 (fun H locs hW => ?_)
      refine lv_icmp_eq (tgt := 767) hx hb dL_law_511 (by decide) (fun _ => ?_) (fun c9 => ?_)
      · exact again M2 _ _ _ hRel2 hW hl
      · exact absurd rfl c9
    by_cases c14 : sw = 14
    · refine k_tbl (tgt := 516) c14 hC dL_law_32 (by decide) (by decide) rfl (by decide) ?_
      obtain ⟨r, M1, M2, e1, hN1, e2, hRel2⟩ := h_odds M (xs (nI j + 1).toNatClampNeg) (xs (nI j + 2).toNatClampNeg) (xs (nI j + 3).toNatClampNeg) hRel
      refine lv_aload_n hx hb dL_law_516 rfl (lv_at hl 1 rfl) ?_
      refine lv_aload_n hx hb dL_law_517 rfl (lv_at hl 0 rfl) ?_
      refine lv_iload_n hx hb dL_law_518 rfl (lv_at hl 3 rfl) ?_
      refine lv_iconst (v := 1) hx hb dL_law_519 (by decide) ?_
      refine lv_iadd hx hb dL_law_520 ?_
      refine va_sld hx hb hX hbl hbA hW.2 ix1 dL_law_521 ?_
      refine lv_aload_n hx hb dL_law_522 rfl (lv_at hl 0 rfl) ?_
      refine lv_iload_n hx hb dL_law_523 rfl (lv_at hl 3 rfl) ?_
      refine lv_iconst (v := 2) hx hb dL_law_524 (by decide) ?_
      refine lv_iadd hx hb dL_law_525 ?_
      refine va_sld hx hb hX hbl hbA hW.2 ix2 dL_law_526 ?_
      refine lv_aload_n hx hb dL_law_527 rfl (lv_at hl 0 rfl) ?_
      refine lv_iload_n hx hb dL_law_528 rfl (lv_at hl 3 rfl) ?_
      refine lv_iconst (v := 3) hx hb dL_law_529 (by decide) ?_
      refine lv_iadd hx hb dL_law_530 ?_
      refine va_sld hx hb hX hbl hbA hW.2 ix3 dL_law_531 ?_
      refine k_vI hC hK hW cfX11 (c_X11_odds l hAd e1) ⟨by rw [hN M hRel]; decide, rfl⟩ my_X11_odds wI_X11_odds wQ_X11_odds wM_L_73 ⟨Nat.le_of_ble_eq_true rfl, Nat.le_of_ble_eq_true rfl⟩ rfl hl.1 rfl (Nat.le_of_ble_eq_true rfl) ⟨Nat.le_refl _, Nat.le_refl _⟩ dL_law_532 (fun H locs hW => ?_)
      refine lv_aload_n hx hb dL_law_535 rfl (lv_at hl 2 rfl) ?_
      refine lv_aload_n hx hb dL_law_536 rfl (lv_at hl 0 rfl) ?_
      refine lv_iload_n hx hb dL_law_537 rfl (lv_at hl 3 rfl) ?_
      refine lv_iconst (v := 1) hx hb dL_law_538 (by decide) ?_
      refine lv_iadd hx hb dL_law_539 ?_
      refine va_sld hx hb hX hbl hbA hW.2 ix1 dL_law_540 ?_
      refine lv_aload_n hx hb dL_law_541 rfl (lv_at hl 0 rfl) ?_
      refine lv_iload_n hx hb dL_law_542 rfl (lv_at hl 3 rfl) ?_
      refine lv_iconst (v := 2) hx hb dL_law_543 (by decide) ?_
      refine lv_iadd hx hb dL_law_544 ?_
      refine va_sld hx hb hX hbl hbA hW.2 ix2 dL_law_545 ?_
      refine lv_aload_n hx hb dL_law_546 rfl (lv_at hl 0 rfl) ?_
      refine lv_iload_n hx hb dL_law_547 rfl (lv_at hl 3 rfl) ?_
      refine lv_iconst (v := 3) hx hb dL_law_548 (by decide) ?_
      refine lv_iadd hx hb dL_law_549 ?_
      refine va_sld hx hb hX hbl hbA hW.2 ix3 dL_law_550 ?_
      refine k_vI hC hK hW cfX12 (c_X12_odds l hAd e2) ⟨by rw [hN1]; decide, rfl⟩ my_X12_odds wI_X12_odds wQ_X12_odds wM_L_76 ⟨Nat.le_of_ble_eq_true rfl, Nat.le_of_ble_eq_true rfl⟩ rfl hl.1 rfl (Nat.le_of_ble_eq_true rfl) ⟨Nat.le_refl _, Nat.le_refl _⟩ dL_law_551 (fun H locs hW => ?_)
      refine lv_icmp_eq (tgt := 767) hx hb dL_law_554 (by decide) (fun _ => ?_) (fun c9 => ?_)
      · exact again M2 _ _ _ hRel2 hW hl
      · exact absurd rfl c9
    by_cases c15 : sw = 15
    · refine k_tbl (tgt := 559) c15 hC dL_law_32 (by decide) (by decide) rfl (by decide) ?_
      obtain ⟨r, M1, M2, e1, hN1, e2, hRel2⟩ := h_sees M (xs (nI j + 1).toNatClampNeg) (xs (nI j + 2).toNatClampNeg) (xs (nI j + 3).toNatClampNeg) hRel
      refine lv_aload_n hx hb dL_law_559 rfl (lv_at hl 1 rfl) ?_
      refine lv_aload_n hx hb dL_law_560 rfl (lv_at hl 0 rfl) ?_
      refine lv_iload_n hx hb dL_law_561 rfl (lv_at hl 3 rfl) ?_
      refine lv_iconst (v := 1) hx hb dL_law_562 (by decide) ?_
      refine lv_iadd hx hb dL_law_563 ?_
      refine va_sld hx hb hX hbl hbA hW.2 ix1 dL_law_564 ?_
      refine lv_aload_n hx hb dL_law_565 rfl (lv_at hl 0 rfl) ?_
      refine lv_iload_n hx hb dL_law_566 rfl (lv_at hl 3 rfl) ?_
      refine lv_iconst (v := 2) hx hb dL_law_567 (by decide) ?_
      refine lv_iadd hx hb dL_law_568 ?_
      refine va_sld hx hb hX hbl hbA hW.2 ix2 dL_law_569 ?_
      refine lv_aload_n hx hb dL_law_570 rfl (lv_at hl 0 rfl) ?_
      refine lv_iload_n hx hb dL_law_571 rfl (lv_at hl 3 rfl) ?_
      refine lv_iconst (v := 3) hx hb dL_law_572 (by decide) ?_
      refine lv_iadd hx hb dL_law_573 ?_
      refine va_sld hx hb hX hbl hbA hW.2 ix3 dL_law_574 ?_
      refine k_vI hC hK hW cfX11 (c_X11_sees l hAd e1) ⟨by rw [hN M hRel]; decide, rfl⟩ my_X11_sees wI_X11_sees wQ_X11_sees wM_L_77 ⟨Nat.le_of_ble_eq_true rfl, Nat.le_of_ble_eq_true rfl⟩ rfl hl.1 rfl (Nat.le_of_ble_eq_true rfl) ⟨Nat.le_refl _, Nat.le_refl _⟩ dL_law_575 (fun H locs hW => ?_)
      refine lv_aload_n hx hb dL_law_578 rfl (lv_at hl 2 rfl) ?_
      refine lv_aload_n hx hb dL_law_579 rfl (lv_at hl 0 rfl) ?_
      refine lv_iload_n hx hb dL_law_580 rfl (lv_at hl 3 rfl) ?_
      refine lv_iconst (v := 1) hx hb dL_law_581 (by decide) ?_
      refine lv_iadd hx hb dL_law_582 ?_
      refine va_sld hx hb hX hbl hbA hW.2 ix1 dL_law_583 ?_
      refine lv_aload_n hx hb dL_law_584 rfl (lv_at hl 0 rfl) ?_
      refine lv_iload_n hx hb dL_law_585 rfl (lv_at hl 3 rfl) ?_
      refine lv_iconst (v := 2) hx hb dL_law_586 (by decide) ?_
      refine lv_iadd hx hb dL_law_587 ?_
      refine va_sld hx hb hX hbl hbA hW.2 ix2 dL_law_588 ?_
      refine lv_aload_n hx hb dL_law_589 rfl (lv_at hl 0 rfl) ?_
      refine lv_iload_n hx hb dL_law_590 rfl (lv_at hl 3 rfl) ?_
      refine lv_iconst (v := 3) hx hb dL_law_591 (by decide) ?_
      refine lv_iadd hx hb dL_law_592 ?_
      refine va_sld hx hb hX hbl hbA hW.2 ix3 dL_law_593 ?_
      refine k_vI hC hK hW cfX12 (c_X12_sees l hAd e2) ⟨by rw [hN1]; decide, rfl⟩ my_X12_sees wI_X12_sees wQ_X12_sees wM_L_80 ⟨Nat.le_of_ble_eq_true rfl, Nat.le_of_ble_eq_true rfl⟩ rfl hl.1 rfl (Nat.le_of_ble_eq_true rfl) ⟨Nat.le_refl _, Nat.le_refl _⟩ dL_law_594 (fun H locs hW => ?_)
      refine lv_icmp_eq (tgt := 767) hx hb dL_law_597 (by decide) (fun _ => ?_) (fun c9 => ?_)
      · exact again M2 _ _ _ hRel2 hW hl
      · exact absurd rfl c9
    by_cases c16 : sw = 16
    · refine k_tbl (tgt := 602) c16 hC dL_law_32 (by decide) (by decide) rfl (by decide) ?_
      obtain ⟨r, M1, M2, e1, hN1, e2, hRel2⟩ := h_forget M  hRel
      refine lv_aload_n hx hb dL_law_602 rfl (lv_at hl 1 rfl) ?_
      refine k_vI hC hK hW cfX11 (c_X11_forget l hAd e1) ⟨by rw [hN M hRel]; decide, rfl⟩ my_X11_forget wI_X11_forget wQ_X11_forget wM_L_81 ⟨Nat.le_of_ble_eq_true rfl, Nat.le_of_ble_eq_true rfl⟩ rfl hl.1 rfl (Nat.le_of_ble_eq_true rfl) ⟨Nat.le_refl _, Nat.le_refl _⟩ dL_law_603 (fun H locs hW => ?_)
      refine lv_aload_n hx hb dL_law_606 rfl (lv_at hl 2 rfl) ?_
      refine k_vI hC hK hW cfX12 (c_X12_forget l hAd e2) ⟨by rw [hN1]; decide, rfl⟩ my_X12_forget wI_X12_forget wQ_X12_forget wM_L_84 ⟨Nat.le_of_ble_eq_true rfl, Nat.le_of_ble_eq_true rfl⟩ rfl hl.1 rfl (Nat.le_of_ble_eq_true rfl) ⟨Nat.le_refl _, Nat.le_refl _⟩ dL_law_607 (fun H locs hW => ?_)
      refine lv_icmp_eq (tgt := 767) hx hb dL_law_610 (by decide) (fun _ => ?_) (fun c9 => ?_)
      · exact again M2 _ _ _ hRel2 hW hl
      · exact absurd rfl c9
    by_cases c17 : sw = 17
    · refine k_tbl (tgt := 615) c17 hC dL_law_32 (by decide) (by decide) rfl (by decide) ?_
      obtain ⟨r, M2, e1, e2, hRel2⟩ := h_who M  hRel
      refine lv_aload_n hx hb dL_law_615 rfl (lv_at hl 1 rfl) ?_
      refine k_vI hC hK hW cfX11 (c_X11_who l hAd e1) ⟨by rw [hN M hRel]; decide, rfl⟩ my_X11_who wI_X11_who wQ_X11_who wM_L_85 ⟨Nat.le_of_ble_eq_true rfl, Nat.le_of_ble_eq_true rfl⟩ rfl hl.1 rfl (Nat.le_of_ble_eq_true rfl) ⟨Nat.le_refl _, Nat.le_refl _⟩ dL_law_616 (fun H locs hW => ?_)
      refine lv_aload_n hx hb dL_law_619 rfl (lv_at hl 2 rfl) ?_
      refine k_vI hC hK hW cfX12 (c_X12_who l hAd e2) ⟨by rw [hN M hRel]; decide, rfl⟩ my_X12_who wI_X12_who wQ_X12_who wM_L_88 ⟨Nat.le_of_ble_eq_true rfl, Nat.le_of_ble_eq_true rfl⟩ rfl hl.1 rfl (Nat.le_of_ble_eq_true rfl) ⟨Nat.le_refl _, Nat.le_refl _⟩ dL_law_620 (fun H locs hW => ?_)
      refine lv_icmp_eq (tgt := 767) hx hb dL_law_623 (by decide) (fun _ => ?_) (fun c9 => ?_)
      · exact again M2 _ _ _ hRel2 hW hl
      · exact absurd rfl c9
    by_cases c18 : sw = 18
    · refine k_tbl (tgt := 628) c18 hC dL_law_32 (by decide) (by decide) rfl (by decide) ?_
      obtain ⟨r, M2, e1, e2, hRel2⟩ := h_look M (xs (nI j + 1).toNatClampNeg) hRel
      refine lv_aload_n hx hb dL_law_628 rfl (lv_at hl 1 rfl) ?_
      refine lv_aload_n hx hb dL_law_629 rfl (lv_at hl 0 rfl) ?_
      refine lv_iload_n hx hb dL_law_630 rfl (lv_at hl 3 rfl) ?_
      refine lv_iconst (v := 1) hx hb dL_law_631 (by decide) ?_
      refine lv_iadd hx hb dL_law_632 ?_
      refine va_sld hx hb hX hbl hbA hW.2 ix1 dL_law_633 ?_
      refine k_vI hC hK hW cfX11 (c_X11_look l hAd e1) ⟨by rw [hN M hRel]; decide, rfl⟩ my_X11_look wI_X11_look wQ_X11_look wM_L_89 ⟨Nat.le_of_ble_eq_true rfl, Nat.le_of_ble_eq_true rfl⟩ rfl hl.1 rfl (Nat.le_of_ble_eq_true rfl) ⟨Nat.le_refl _, Nat.le_refl _⟩ dL_law_634 (fun H locs hW => ?_)
      refine lv_aload_n hx hb dL_law_637 rfl (lv_at hl 2 rfl) ?_
      refine lv_aload_n hx hb dL_law_638 rfl (lv_at hl 0 rfl) ?_
      refine lv_iload_n hx hb dL_law_639 rfl (lv_at hl 3 rfl) ?_
      refine lv_iconst (v := 1) hx hb dL_law_640 (by decide) ?_
      refine lv_iadd hx hb dL_law_641 ?_
      refine va_sld hx hb hX hbl hbA hW.2 ix1 dL_law_642 ?_
      refine k_vI hC hK hW cfX12 (c_X12_look l hAd e2) ⟨by rw [hN M hRel]; decide, rfl⟩ my_X12_look wI_X12_look wQ_X12_look wM_L_92 ⟨Nat.le_of_ble_eq_true rfl, Nat.le_of_ble_eq_true rfl⟩ rfl hl.1 rfl (Nat.le_of_ble_eq_true rfl) ⟨Nat.le_refl _, Nat.le_refl _⟩ dL_law_643 (fun H locs hW => ?_)
      refine lv_icmp_eq (tgt := 767) hx hb dL_law_646 (by decide) (fun _ => ?_) (fun c9 => ?_)
      · exact again M2 _ _ _ hRel2 hW hl
      · exact absurd rfl c9
    by_cases c19 : sw = 19
    · refine k_tbl (tgt := 651) c19 hC dL_law_32 (by decide) (by decide) rfl (by decide) ?_
      obtain ⟨r, M1, M2, e1, hN1, e2, hRel2⟩ := h_rate M (xs (nI j + 1).toNatClampNeg) (xs (nI j + 2).toNatClampNeg) hRel
      refine lv_aload_n hx hb dL_law_651 rfl (lv_at hl 1 rfl) ?_
      refine lv_aload_n hx hb dL_law_652 rfl (lv_at hl 0 rfl) ?_
      refine lv_iload_n hx hb dL_law_653 rfl (lv_at hl 3 rfl) ?_
      refine lv_iconst (v := 1) hx hb dL_law_654 (by decide) ?_
      refine lv_iadd hx hb dL_law_655 ?_
      refine va_sld hx hb hX hbl hbA hW.2 ix1 dL_law_656 ?_
      refine lv_aload_n hx hb dL_law_657 rfl (lv_at hl 0 rfl) ?_
      refine lv_iload_n hx hb dL_law_658 rfl (lv_at hl 3 rfl) ?_
      refine lv_iconst (v := 2) hx hb dL_law_659 (by decide) ?_
      refine lv_iadd hx hb dL_law_660 ?_
      refine va_sld hx hb hX hbl hbA hW.2 ix2 dL_law_661 ?_
      refine k_vI hC hK hW cfX11 (c_X11_rate l hAd e1) ⟨by rw [hN M hRel]; decide, rfl⟩ my_X11_rate wI_X11_rate wQ_X11_rate wM_L_93 ⟨Nat.le_of_ble_eq_true rfl, Nat.le_of_ble_eq_true rfl⟩ rfl hl.1 rfl (Nat.le_of_ble_eq_true rfl) ⟨Nat.le_refl _, Nat.le_refl _⟩ dL_law_662 (fun H locs hW => ?_)
      refine lv_aload_n hx hb dL_law_665 rfl (lv_at hl 2 rfl) ?_
      refine lv_aload_n hx hb dL_law_666 rfl (lv_at hl 0 rfl) ?_
      refine lv_iload_n hx hb dL_law_667 rfl (lv_at hl 3 rfl) ?_
      refine lv_iconst (v := 1) hx hb dL_law_668 (by decide) ?_
      refine lv_iadd hx hb dL_law_669 ?_
      refine va_sld hx hb hX hbl hbA hW.2 ix1 dL_law_670 ?_
      refine lv_aload_n hx hb dL_law_671 rfl (lv_at hl 0 rfl) ?_
      refine lv_iload_n hx hb dL_law_672 rfl (lv_at hl 3 rfl) ?_
      refine lv_iconst (v := 2) hx hb dL_law_673 (by decide) ?_
      refine lv_iadd hx hb dL_law_674 ?_
      refine va_sld hx hb hX hbl hbA hW.2 ix2 dL_law_675 ?_
      refine k_vI hC hK hW cfX12 (c_X12_rate l hAd e2) ⟨by rw [hN1]; decide, rfl⟩ my_X12_rate wI_X12_rate wQ_X12_rate wM_L_96 ⟨Nat.le_of_ble_eq_true rfl, Nat.le_of_ble_eq_true rfl⟩ rfl hl.1 rfl (Nat.le_of_ble_eq_true rfl) ⟨Nat.le_refl _, Nat.le_refl _⟩ dL_law_676 (fun H locs hW => ?_)
      refine lv_icmp_eq (tgt := 767) hx hb dL_law_679 (by decide) (fun _ => ?_) (fun c9 => ?_)
      · exact again M2 _ _ _ hRel2 hW hl
      · exact absurd rfl c9
    by_cases c20 : sw = 20
    · refine k_tbl (tgt := 684) c20 hC dL_law_32 (by decide) (by decide) rfl (by decide) ?_
      obtain ⟨r, M1, M2, e1, hN1, e2, hRel2⟩ := h_keep M (xs (nI j + 1).toNatClampNeg) hRel
      refine lv_aload_n hx hb dL_law_684 rfl (lv_at hl 1 rfl) ?_
      refine lv_aload_n hx hb dL_law_685 rfl (lv_at hl 0 rfl) ?_
      refine lv_iload_n hx hb dL_law_686 rfl (lv_at hl 3 rfl) ?_
      refine lv_iconst (v := 1) hx hb dL_law_687 (by decide) ?_
      refine lv_iadd hx hb dL_law_688 ?_
      refine va_sld hx hb hX hbl hbA hW.2 ix1 dL_law_689 ?_
      refine k_vI hC hK hW cfX11 (c_X11_keep l hAd e1) ⟨by rw [hN M hRel]; decide, rfl⟩ my_X11_keep wI_X11_keep wQ_X11_keep wM_L_97 ⟨Nat.le_of_ble_eq_true rfl, Nat.le_of_ble_eq_true rfl⟩ rfl hl.1 rfl (Nat.le_of_ble_eq_true rfl) ⟨Nat.le_refl _, Nat.le_refl _⟩ dL_law_690 (fun H locs hW => ?_)
      refine lv_aload_n hx hb dL_law_693 rfl (lv_at hl 2 rfl) ?_
      refine lv_aload_n hx hb dL_law_694 rfl (lv_at hl 0 rfl) ?_
      refine lv_iload_n hx hb dL_law_695 rfl (lv_at hl 3 rfl) ?_
      refine lv_iconst (v := 1) hx hb dL_law_696 (by decide) ?_
      refine lv_iadd hx hb dL_law_697 ?_
      refine va_sld hx hb hX hbl hbA hW.2 ix1 dL_law_698 ?_
      refine k_vI hC hK hW cfX12 (c_X12_keep l hAd e2) ⟨by rw [hN1]; decide, rfl⟩ my_X12_keep wI_X12_keep wQ_X12_keep wM_L_100 ⟨Nat.le_of_ble_eq_true rfl, Nat.le_of_ble_eq_true rfl⟩ rfl hl.1 rfl (Nat.le_of_ble_eq_true rfl) ⟨Nat.le_refl _, Nat.le_refl _⟩ dL_law_699 (fun H locs hW => ?_)
      refine lv_icmp_eq (tgt := 767) hx hb dL_law_702 (by decide) (fun _ => ?_) (fun c9 => ?_)
      · exact again M2 _ _ _ hRel2 hW hl
      · exact absurd rfl c9
    by_cases c21 : sw = 21
    · refine k_tbl (tgt := 707) c21 hC dL_law_32 (by decide) (by decide) rfl (by decide) ?_
      obtain ⟨r, M1, M2, e1, hN1, e2, hRel2⟩ := h_back M (xs (nI j + 1).toNatClampNeg) hRel
      refine lv_aload_n hx hb dL_law_707 rfl (lv_at hl 1 rfl) ?_
      refine lv_aload_n hx hb dL_law_708 rfl (lv_at hl 0 rfl) ?_
      refine lv_iload_n hx hb dL_law_709 rfl (lv_at hl 3 rfl) ?_
      refine lv_iconst (v := 1) hx hb dL_law_710 (by decide) ?_
      refine lv_iadd hx hb dL_law_711 ?_
      refine va_sld hx hb hX hbl hbA hW.2 ix1 dL_law_712 ?_
      refine k_vI hC hK hW cfX11 (c_X11_back l hAd e1) ⟨by rw [hN M hRel]; decide, rfl⟩ my_X11_back wI_X11_back wQ_X11_back wM_L_101 ⟨Nat.le_of_ble_eq_true rfl, Nat.le_of_ble_eq_true rfl⟩ rfl hl.1 rfl (Nat.le_of_ble_eq_true rfl) ⟨Nat.le_refl _, Nat.le_refl _⟩ dL_law_713 (fun H locs hW => ?_)
      refine lv_aload_n hx hb dL_law_716 rfl (lv_at hl 2 rfl) ?_
      refine lv_aload_n hx hb dL_law_717 rfl (lv_at hl 0 rfl) ?_
      refine lv_iload_n hx hb dL_law_718 rfl (lv_at hl 3 rfl) ?_
      refine lv_iconst (v := 1) hx hb dL_law_719 (by decide) ?_
      refine lv_iadd hx hb dL_law_720 ?_
      refine va_sld hx hb hX hbl hbA hW.2 ix1 dL_law_721 ?_
      refine k_vI hC hK hW cfX12 (c_X12_back l hAd e2) ⟨by rw [hN1]; decide, rfl⟩ my_X12_back wI_X12_back wQ_X12_back wM_L_104 ⟨Nat.le_of_ble_eq_true rfl, Nat.le_of_ble_eq_true rfl⟩ rfl hl.1 rfl (Nat.le_of_ble_eq_true rfl) ⟨Nat.le_refl _, Nat.le_refl _⟩ dL_law_722 (fun H locs hW => ?_)
      refine lv_icmp_eq (tgt := 767) hx hb dL_law_725 (by decide) (fun _ => ?_) (fun c9 => ?_)
      · exact again M2 _ _ _ hRel2 hW hl
      · exact absurd rfl c9
    by_cases c22 : sw = 22
    · refine k_tbl (tgt := 730) c22 hC dL_law_32 (by decide) (by decide) rfl (by decide) ?_
      obtain ⟨r, M2, e1, e2, hRel2⟩ := h_count M (xs (nI j + 1).toNatClampNeg) hRel
      refine lv_aload_n hx hb dL_law_730 rfl (lv_at hl 1 rfl) ?_
      refine lv_aload_n hx hb dL_law_731 rfl (lv_at hl 0 rfl) ?_
      refine lv_iload_n hx hb dL_law_732 rfl (lv_at hl 3 rfl) ?_
      refine lv_iconst (v := 1) hx hb dL_law_733 (by decide) ?_
      refine lv_iadd hx hb dL_law_734 ?_
      refine va_sld hx hb hX hbl hbA hW.2 ix1 dL_law_735 ?_
      refine k_vI hC hK hW cfX11 (c_X11_count l hAd e1) ⟨by rw [hN M hRel]; decide, rfl⟩ my_X11_count wI_X11_count wQ_X11_count wM_L_105 ⟨Nat.le_of_ble_eq_true rfl, Nat.le_of_ble_eq_true rfl⟩ rfl hl.1 rfl (Nat.le_of_ble_eq_true rfl) ⟨Nat.le_refl _, Nat.le_refl _⟩ dL_law_736 (fun H locs hW => ?_)
      refine lv_aload_n hx hb dL_law_739 rfl (lv_at hl 2 rfl) ?_
      refine lv_aload_n hx hb dL_law_740 rfl (lv_at hl 0 rfl) ?_
      refine lv_iload_n hx hb dL_law_741 rfl (lv_at hl 3 rfl) ?_
      refine lv_iconst (v := 1) hx hb dL_law_742 (by decide) ?_
      refine lv_iadd hx hb dL_law_743 ?_
      refine va_sld hx hb hX hbl hbA hW.2 ix1 dL_law_744 ?_
      refine k_vI hC hK hW cfX12 (c_X12_count l hAd e2) ⟨by rw [hN M hRel]; decide, rfl⟩ my_X12_count wI_X12_count wQ_X12_count wM_L_108 ⟨Nat.le_of_ble_eq_true rfl, Nat.le_of_ble_eq_true rfl⟩ rfl hl.1 rfl (Nat.le_of_ble_eq_true rfl) ⟨Nat.le_refl _, Nat.le_refl _⟩ dL_law_745 (fun H locs hW => ?_)
      refine lv_icmp_eq (tgt := 767) hx hb dL_law_748 (by decide) (fun _ => ?_) (fun c9 => ?_)
      · exact again M2 _ _ _ hRel2 hW hl
      · exact absurd rfl c9
    by_cases c23 : sw = 23
    · refine k_tbl (tgt := 753) c23 hC dL_law_32 (by decide) (by decide) rfl (by decide) ?_
      obtain ⟨r, M2, e1, e2, hRel2⟩ := h_trace M hRel
      refine lv_aload_n hx hb dL_law_753 rfl (lv_at hl 1 rfl) ?_
      refine k_vL hC hK hW cfX11 (c_X11_trace l hAd e1) ⟨by rw [hN M hRel]; decide, rfl⟩ my_X11_trace wI_X11_trace wQ_X11_trace wM_L_109 ⟨Nat.le_of_ble_eq_true rfl, Nat.le_of_ble_eq_true rfl⟩ rfl hl.1 rfl (Nat.le_of_ble_eq_true rfl) ⟨Nat.le_refl _, Nat.le_refl _⟩ dL_law_754 (fun H locs hW => ?_)
      refine lv_aload_n hx hb dL_law_757 rfl (lv_at hl 2 rfl) ?_
      refine k_vL hC hK hW cfX12 (c_X12_trace l hAd e2) ⟨by rw [hN M hRel]; decide, rfl⟩ my_X12_trace wI_X12_trace wQ_X12_trace wM_L_113 ⟨Nat.le_of_ble_eq_true rfl, Nat.le_of_ble_eq_true rfl⟩ rfl hl.1 rfl (Nat.le_of_ble_eq_true rfl) ⟨Nat.le_refl _, Nat.le_refl _⟩ dL_law_758 (fun H locs hW => ?_)
      refine W.lcmp hx hb dL_law_761 ?_
      refine lv_if_eq (tgt := 767) hx hb dL_law_762 (by decide) (fun _ => ?_) (fun c9 => ?_)
      · exact again M2 _ _ _ hRel2 hW hl
      · exact absurd (lcmp_self r) c9
    refine lv_tableOut (tgt := 767) hx hb dL_law_32 (tbl_out 24 (by decide) (fun j hj => ?_)) (by decide) (again M H locs ls hRel hW hl)
    rcases (show j = 0 ∨ j = 1 ∨ j = 2 ∨ j = 3 ∨ j = 4 ∨ j = 5 ∨ j = 6 ∨ j = 7 ∨ j = 8 ∨ j = 9 ∨ j = 10 ∨ j = 11 ∨ j = 12 ∨ j = 13 ∨ j = 14 ∨ j = 15 ∨ j = 16 ∨ j = 17 ∨ j = 18 ∨ j = 19 ∨ j = 20 ∨ j = 21 ∨ j = 22 ∨ j = 23 by omega) with rfl | rfl | rfl | rfl | rfl | rfl | rfl | rfl | rfl | rfl | rfl | rfl | rfl | rfl | rfl | rfl | rfl | rfl | rfl | rfl | rfl | rfl | rfl | rfl
    · exact c0
    · exact c1
    · exact c2
    · exact c3
    · exact c4
    · exact c5
    · exact c6
    · exact c7
    · exact c8
    · exact c9
    · exact c10
    · exact c11
    · exact c12
    · exact c13
    · exact c14
    · exact c15
    · exact c16
    · exact c17
    · exact c18
    · exact c19
    · exact c20
    · exact c21
    · exact c22
    · exact c23
