theorem df_X0 : ∀ j, j < 6 → defaultValue (tyX0 j) = if ft 0 j = 0 then .int 0 else if ft 0 j = 1 then .null else .long 0 := by
  intro j hj
  rcases (show j = 0 ∨ j = 1 ∨ j = 2 ∨ j = 3 ∨ j = 4 ∨ j = 5 by omega) with rfl | rfl | rfl | rfl | rfl | rfl <;> rfl
theorem df_X1 : ∀ j, j < 0 → defaultValue (tyX1 j) = if ft 1 j = 0 then .int 0 else if ft 1 j = 1 then .null else .long 0 := by
  intro j hj; exact absurd hj (Nat.not_lt_zero _)
theorem df_X2 : ∀ j, j < 0 → defaultValue (tyX2 j) = if ft 2 j = 0 then .int 0 else if ft 2 j = 1 then .null else .long 0 := by
  intro j hj; exact absurd hj (Nat.not_lt_zero _)
theorem df_X3 : ∀ j, j < 0 → defaultValue (tyX3 j) = if ft 3 j = 0 then .int 0 else if ft 3 j = 1 then .null else .long 0 := by
  intro j hj; exact absurd hj (Nat.not_lt_zero _)
theorem df_X4 : ∀ j, j < 0 → defaultValue (tyX4 j) = if ft 4 j = 0 then .int 0 else if ft 4 j = 1 then .null else .long 0 := by
  intro j hj; exact absurd hj (Nat.not_lt_zero _)
theorem df_X5 : ∀ j, j < 5 → defaultValue (tyX5 j) = if ft 5 j = 0 then .int 0 else if ft 5 j = 1 then .null else .long 0 := by
  intro j hj
  rcases (show j = 0 ∨ j = 1 ∨ j = 2 ∨ j = 3 ∨ j = 4 by omega) with rfl | rfl | rfl | rfl | rfl <;> rfl
theorem df_X6 : ∀ j, j < 0 → defaultValue (tyX6 j) = if ft 6 j = 0 then .int 0 else if ft 6 j = 1 then .null else .long 0 := by
  intro j hj; exact absurd hj (Nat.not_lt_zero _)
theorem df_X7 : ∀ j, j < 5 → defaultValue (tyX7 j) = if ft 7 j = 0 then .int 0 else if ft 7 j = 1 then .null else .long 0 := by
  intro j hj
  rcases (show j = 0 ∨ j = 1 ∨ j = 2 ∨ j = 3 ∨ j = 4 by omega) with rfl | rfl | rfl | rfl | rfl <;> rfl
theorem df_X8 : ∀ j, j < 8 → defaultValue (tyX8 j) = if ft 8 j = 0 then .int 0 else if ft 8 j = 1 then .null else .long 0 := by
  intro j hj
  rcases (show j = 0 ∨ j = 1 ∨ j = 2 ∨ j = 3 ∨ j = 4 ∨ j = 5 ∨ j = 6 ∨ j = 7 by omega) with rfl | rfl | rfl | rfl | rfl | rfl | rfl | rfl <;> rfl
theorem df_X9 : ∀ j, j < 7 → defaultValue (tyX9 j) = if ft 9 j = 0 then .int 0 else if ft 9 j = 1 then .null else .long 0 := by
  intro j hj
  rcases (show j = 0 ∨ j = 1 ∨ j = 2 ∨ j = 3 ∨ j = 4 ∨ j = 5 ∨ j = 6 by omega) with rfl | rfl | rfl | rfl | rfl | rfl | rfl <;> rfl
theorem df_X10 : ∀ j, j < 0 → defaultValue (tyX10 j) = if ft 10 j = 0 then .int 0 else if ft 10 j = 1 then .null else .long 0 := by
  intro j hj; exact absurd hj (Nat.not_lt_zero _)
theorem df_X11 : ∀ j, j < 16 → defaultValue (tyX11 j) = if ft 11 j = 0 then .int 0 else if ft 11 j = 1 then .null else .long 0 := by
  intro j hj
  rcases (show j = 0 ∨ j = 1 ∨ j = 2 ∨ j = 3 ∨ j = 4 ∨ j = 5 ∨ j = 6 ∨ j = 7 ∨ j = 8 ∨ j = 9 ∨ j = 10 ∨ j = 11 ∨ j = 12 ∨ j = 13 ∨ j = 14 ∨ j = 15 by omega) with rfl | rfl | rfl | rfl | rfl | rfl | rfl | rfl | rfl | rfl | rfl | rfl | rfl | rfl | rfl | rfl <;> rfl
theorem df_X12 : ∀ j, j < 26 → defaultValue (tyX12 j) = if ft 12 j = 0 then .int 0 else if ft 12 j = 1 then .null else .long 0 := by
  intro j hj
  rcases (show j = 0 ∨ j = 1 ∨ j = 2 ∨ j = 3 ∨ j = 4 ∨ j = 5 ∨ j = 6 ∨ j = 7 ∨ j = 8 ∨ j = 9 ∨ j = 10 ∨ j = 11 ∨ j = 12 ∨ j = 13 ∨ j = 14 ∨ j = 15 ∨ j = 16 ∨ j = 17 ∨ j = 18 ∨ j = 19 ∨ j = 20 ∨ j = 21 ∨ j = 22 ∨ j = 23 ∨ j = 24 ∨ j = 25 by omega) with rfl | rfl | rfl | rfl | rfl | rfl | rfl | rfl | rfl | rfl | rfl | rfl | rfl | rfl | rfl | rfl | rfl | rfl | rfl | rfl | rfl | rfl | rfl | rfl | rfl | rfl <;> rfl
def f_X6_init (x0 : Nat) (M : Mem) : Option Mem := some M
def f_X10_init (x0 : Nat) (M : Mem) : Option Mem := Option.bind (f_X6_init x0 M) fun M1 => some M1
def f_X1_init (x0 : Nat) (M : Mem) : Option Mem := Option.bind (f_X6_init x0 M) fun M1 => some M1
def f_X2_init (x0 : Nat) (M : Mem) : Option Mem := Option.bind (f_X10_init x0 M) fun M1 => some M1
def f_X4_init (x0 : Nat) (M : Mem) : Option Mem := Option.bind (f_X1_init x0 M) fun M1 => some M1
def f_X3_init (x0 : Nat) (M : Mem) : Option Mem := Option.bind (f_X6_init x0 M) fun M1 => some M1
def f_X0_init (x0 : Nat) (M : Mem) : Option Mem := some M
def f_X7_init (x0 : Nat) (M : Mem) : Option Mem := Option.bind (nA M 20 (6 : Int32)) fun q1 => Option.bind (pR q1.2 x0 7 1 q1.1) fun M2 => Option.bind (nA M2 20 (6 : Int32)) fun q3 => Option.bind (pR q3.2 x0 7 2 q3.1) fun M4 => Option.bind (nA M4 20 (6 : Int32)) fun q5 => Option.bind (pR q5.2 x0 7 3 q5.1) fun M6 => Option.bind (nA M6 20 (6 : Int32)) fun q7 => Option.bind (pR q7.2 x0 7 4 q7.1) fun M8 => some M8
def f_X8_init (x0 : Nat) (M : Mem) : Option Mem := Option.bind (pI M x0 8 0 (6 : Int32)) fun M1 => Option.bind (nA M1 20 (6 : Int32)) fun q2 => Option.bind (pR q2.2 x0 8 3 q2.1) fun M3 => Option.bind (nA M3 20 (6 : Int32)) fun q4 => Option.bind (pR q4.2 x0 8 4 q4.1) fun M5 => Option.bind (nA M5 20 (6 : Int32)) fun q6 => Option.bind (pR q6.2 x0 8 5 q6.1) fun M7 => Option.bind (nO M7 7) fun q8 => Option.bind (f_X7_init q8.1 q8.2) fun M9 => Option.bind (pR M9 x0 8 6 q8.1) fun M10 => Option.bind (nA M10 20 (9 : Int32)) fun q11 => Option.bind (pR q11.2 x0 8 7 q11.1) fun M12 => some M12
def f_X9_init (x0 : Nat) (M : Mem) : Option Mem := Option.bind (nA M 21 (140 : Int32)) fun q1 => Option.bind (pR q1.2 x0 9 0 q1.1) fun M2 => Option.bind (nO M2 8) fun q3 => Option.bind (f_X8_init q3.1 q3.2) fun M4 => Option.bind (pR M4 x0 9 2 q3.1) fun M5 => some M5
def f_X5_init (x0 : Nat) (M : Mem) : Option Mem := Option.bind (nA M 20 (6 : Int32)) fun q1 => Option.bind (pR q1.2 x0 5 0 q1.1) fun M2 => Option.bind (nA M2 20 (6 : Int32)) fun q3 => Option.bind (pR q3.2 x0 5 1 q3.1) fun M4 => Option.bind (nA M4 20 (6 : Int32)) fun q5 => Option.bind (pR q5.2 x0 5 2 q5.1) fun M6 => some M6
def f_X11_init (x0 : Nat) (M : Mem) : Option Mem := Option.bind (nO M 9) fun q1 => Option.bind (f_X9_init q1.1 q1.2) fun M2 => Option.bind (pR M2 x0 11 0 q1.1) fun M3 => Option.bind (nO M3 5) fun q4 => Option.bind (f_X5_init q4.1 q4.2) fun M5 => Option.bind (pR M5 x0 11 1 q4.1) fun M6 => Option.bind (nO M6 0) fun q7 => Option.bind (f_X0_init q7.1 q7.2) fun M8 => Option.bind (pR M8 x0 11 2 q7.1) fun M9 => Option.bind (nA M9 24 (6 : Int32)) fun q10 => Option.bind (pR q10.2 x0 11 3 q10.1) fun M11 => Option.bind (nO M11 8) fun q12 => Option.bind (f_X8_init q12.1 q12.2) fun M13 => Option.bind (pR M13 x0 11 4 q12.1) fun M14 => Option.bind (nO M14 7) fun q15 => Option.bind (f_X7_init q15.1 q15.2) fun M16 => Option.bind (pR M16 x0 11 5 q15.1) fun M17 => Option.bind (nO M17 7) fun q18 => Option.bind (f_X7_init q18.1 q18.2) fun M19 => Option.bind (pR M19 x0 11 6 q18.1) fun M20 => Option.bind (nA M20 23 (10 : Int32)) fun q21 => Option.bind (pR q21.2 x0 11 7 q21.1) fun M22 => Option.bind (nA M22 23 (2 : Int32)) fun q23 => Option.bind (pR q23.2 x0 11 9 q23.1) fun M24 => Option.bind (nA M24 22 (2 : Int32)) fun q25 => Option.bind (pR q25.2 x0 11 10 q25.1) fun M26 => Option.bind (nA M26 20 (6 : Int32)) fun q27 => Option.bind (pR q27.2 x0 11 11 q27.1) fun M28 => Option.bind (nA M28 20 (6 : Int32)) fun q29 => Option.bind (pR q29.2 x0 11 12 q29.1) fun M30 => Option.bind (nA M30 22 (6 : Int32)) fun q31 => Option.bind (pR q31.2 x0 11 13 q31.1) fun M32 => Option.bind (nA M32 20 (9 : Int32)) fun q33 => Option.bind (pR q33.2 x0 11 15 q33.1) fun M34 => Option.bind (gR M34 x0 11 7) fun r35 => Option.bind (nO M34 7) fun q36 => Option.bind (f_X7_init q36.1 q36.2) fun M37 => Option.bind (sR 23 7 M37 r35 (0 : Int32) q36.1) fun M38 => Option.bind (gR M38 x0 11 7) fun r39 => Option.bind (nO M38 7) fun q40 => Option.bind (f_X7_init q40.1 q40.2) fun M41 => Option.bind (sR 23 7 M41 r39 (1 : Int32) q40.1) fun M42 => Option.bind (gR M42 x0 11 7) fun r43 => Option.bind (nO M42 7) fun q44 => Option.bind (f_X7_init q44.1 q44.2) fun M45 => Option.bind (sR 23 7 M45 r43 (2 : Int32) q44.1) fun M46 => Option.bind (gR M46 x0 11 7) fun r47 => Option.bind (nO M46 7) fun q48 => Option.bind (f_X7_init q48.1 q48.2) fun M49 => Option.bind (sR 23 7 M49 r47 (3 : Int32) q48.1) fun M50 => Option.bind (gR M50 x0 11 7) fun r51 => Option.bind (nO M50 7) fun q52 => Option.bind (f_X7_init q52.1 q52.2) fun M53 => Option.bind (sR 23 7 M53 r51 (4 : Int32) q52.1) fun M54 => Option.bind (gR M54 x0 11 7) fun r55 => Option.bind (nO M54 7) fun q56 => Option.bind (f_X7_init q56.1 q56.2) fun M57 => Option.bind (sR 23 7 M57 r55 (5 : Int32) q56.1) fun M58 => Option.bind (gR M58 x0 11 7) fun r59 => Option.bind (nO M58 7) fun q60 => Option.bind (f_X7_init q60.1 q60.2) fun M61 => Option.bind (sR 23 7 M61 r59 (6 : Int32) q60.1) fun M62 => Option.bind (gR M62 x0 11 7) fun r63 => Option.bind (nO M62 7) fun q64 => Option.bind (f_X7_init q64.1 q64.2) fun M65 => Option.bind (sR 23 7 M65 r63 (7 : Int32) q64.1) fun M66 => Option.bind (gR M66 x0 11 7) fun r67 => Option.bind (nO M66 7) fun q68 => Option.bind (f_X7_init q68.1 q68.2) fun M69 => Option.bind (sR 23 7 M69 r67 (8 : Int32) q68.1) fun M70 => Option.bind (gR M70 x0 11 7) fun r71 => Option.bind (nO M70 7) fun q72 => Option.bind (f_X7_init q72.1 q72.2) fun M73 => Option.bind (sR 23 7 M73 r71 (9 : Int32) q72.1) fun M74 => Option.bind (gR M74 x0 11 9) fun r75 => Option.bind (nO M74 7) fun q76 => Option.bind (f_X7_init q76.1 q76.2) fun M77 => Option.bind (sR 23 7 M77 r75 (0 : Int32) q76.1) fun M78 => Option.bind (gR M78 x0 11 9) fun r79 => Option.bind (nO M78 7) fun q80 => Option.bind (f_X7_init q80.1 q80.2) fun M81 => Option.bind (sR 23 7 M81 r79 (1 : Int32) q80.1) fun M82 => Option.bind (gR M82 x0 11 3) fun r83 => Option.bind (nO M82 6) fun q84 => Option.bind (f_X6_init q84.1 q84.2) fun M85 => Option.bind (sR 24 6 M85 r83 (0 : Int32) q84.1) fun M86 => Option.bind (gR M86 x0 11 3) fun r87 => Option.bind (nO M86 10) fun q88 => Option.bind (f_X10_init q88.1 q88.2) fun M89 => Option.bind (sR 24 10 M89 r87 (1 : Int32) q88.1) fun M90 => Option.bind (gR M90 x0 11 3) fun r91 => Option.bind (nO M90 1) fun q92 => Option.bind (f_X1_init q92.1 q92.2) fun M93 => Option.bind (sR 24 1 M93 r91 (2 : Int32) q92.1) fun M94 => Option.bind (gR M94 x0 11 3) fun r95 => Option.bind (nO M94 2) fun q96 => Option.bind (f_X2_init q96.1 q96.2) fun M97 => Option.bind (sR 24 2 M97 r95 (3 : Int32) q96.1) fun M98 => Option.bind (gR M98 x0 11 3) fun r99 => Option.bind (nO M98 4) fun q100 => Option.bind (f_X4_init q100.1 q100.2) fun M101 => Option.bind (sR 24 4 M101 r99 (4 : Int32) q100.1) fun M102 => Option.bind (gR M102 x0 11 3) fun r103 => Option.bind (nO M102 3) fun q104 => Option.bind (f_X3_init q104.1 q104.2) fun M105 => Option.bind (sR 24 3 M105 r103 (5 : Int32) q104.1) fun M106 => some M106
def f_X12_init (x0 : Nat) (M : Mem) : Option Mem := Option.bind (nA M 20 (140 : Int32)) fun q1 => Option.bind (pR q1.2 x0 12 2 q1.1) fun M2 => Option.bind (nA M2 20 (6 : Int32)) fun q3 => Option.bind (pR q3.2 x0 12 9 q3.1) fun M4 => Option.bind (nA M4 20 (12 : Int32)) fun q5 => Option.bind (pR q5.2 x0 12 10 q5.1) fun M6 => Option.bind (nA M6 20 (12 : Int32)) fun q7 => Option.bind (pR q7.2 x0 12 11 q7.1) fun M8 => Option.bind (nA M8 20 (12 : Int32)) fun q9 => Option.bind (pR q9.2 x0 12 12 q9.1) fun M10 => Option.bind (nA M10 20 (25 : Int32)) fun q11 => Option.bind (pR q11.2 x0 12 13 q11.1) fun M12 => Option.bind (nA M12 20 (25 : Int32)) fun q13 => Option.bind (pR q13.2 x0 12 14 q13.1) fun M14 => Option.bind (nA M14 20 (50 : Int32)) fun q15 => Option.bind (pR q15.2 x0 12 15 q15.1) fun M16 => Option.bind (nA M16 22 (2 : Int32)) fun q17 => Option.bind (pR q17.2 x0 12 16 q17.1) fun M18 => Option.bind (nA M18 20 (250 : Int32)) fun q19 => Option.bind (pR q19.2 x0 12 17 q19.1) fun M20 => Option.bind (nA M20 20 (6 : Int32)) fun q21 => Option.bind (pR q21.2 x0 12 19 q21.1) fun M22 => Option.bind (nA M22 20 (6 : Int32)) fun q23 => Option.bind (pR q23.2 x0 12 20 q23.1) fun M24 => Option.bind (nA M24 20 (6 : Int32)) fun q25 => Option.bind (pR q25.2 x0 12 21 q25.1) fun M26 => Option.bind (nA M26 20 (6 : Int32)) fun q27 => Option.bind (pR q27.2 x0 12 23 q27.1) fun M28 => Option.bind (nA M28 20 (6 : Int32)) fun q29 => Option.bind (pR q29.2 x0 12 24 q29.1) fun M30 => Option.bind (nA M30 20 (6 : Int32)) fun q31 => Option.bind (pR q31.2 x0 12 25 q31.1) fun M32 => Option.bind (cv M32 x0 12 (f_X12_begins x0 M32)) fun M33 => Option.bind (cv M33 x0 12 (f_X12_settles x0 M33)) fun M34 => some M34
set_option maxHeartbeats 4000000 in
set_option maxRecDepth 100000 in
theorem c_X6_init (l : Launch) {D : va_G} {cA : Nat → ClassId} {ad : Nat → Nat} {A : Nat → Prop} {base : Nat} (hAd : AdOk ad A) (hB : AdB ad base) {x0 : Nat} {M0 q : Mem} (hf0 : f_X6_init x0 M0 = some q) : Met l yX6_init (wd yX6_init cX6_init 1 none) (rmZ 1 0 0) (PcZ D cA ad base [.ref (ad x0)] M0) (QZ D cA ad A base q) 0 0 A := by
  refine mk_metZ (own := RX6) (by decide +kernel) rfl rfl (Nat.le_of_ble_eq_true rfl) ?_
  intro p e s m args below meth c hC hr hlk hmn hK hNX H locs ls hW hl
  have hx := hC.1
  have hb := hC.2.1
  have hl : lv_has ls 1 [(0, .ref (ad x0))] := hl
  have hf := hf0
  unfold f_X6_init at hf
  refine lv_aload_n hx hb dX6_init_0 rfl (lv_at hl 0 rfl) ?_
  refine W.objInit hx hb hC.2.2.2.1 (hC.2.2.2.2 _ wM_X6_1) (hC.2.2.2.2 _ wI_objectInit) (hC.2.2.2.2 _ w_cd_obj) rfl (by rw [hC.2.2.1]; exact hl.1) rfl dX6_init_1 (Nat.le_of_ble_eq_true rfl) (Nat.le_of_ble_eq_true rfl) ?_
  refine W.eq (g2 := F0 m 4 ls []) rfl ?_
  exact z_vret hC hr hlk hW hf dX6_init_4
set_option maxHeartbeats 4000000 in
set_option maxRecDepth 100000 in
theorem c_X10_init (l : Launch) {D : va_G} {cA : Nat → ClassId} {ad : Nat → Nat} {A : Nat → Prop} {base : Nat} (hAd : AdOk ad A) (hB : AdB ad base) {x0 : Nat} {M0 q : Mem} (hf0 : f_X10_init x0 M0 = some q) : Met l yX10_init (wd yX10_init cX10_init 1 none) (rmZ 2 0 0) (PcZ D cA ad base [.ref (ad x0)] M0) (QZ D cA ad A base q) 0 0 A := by
  refine mk_metZ (own := RX10) (by decide +kernel) rfl rfl (Nat.le_of_ble_eq_true rfl) ?_
  intro p e s m args below meth c hC hr hlk hmn hK hNX H locs ls hW hl
  have hx := hC.1
  have hb := hC.2.1
  have hl : lv_has ls 1 [(0, .ref (ad x0))] := hl
  have hf := hf0
  unfold f_X10_init at hf
  refine lv_aload_n hx hb dX10_init_0 rfl (lv_at hl 0 rfl) ?_
  obtain ⟨M1, hM1, hf⟩ := ob hf
  refine z_ci hC hK hNX hW (c_X6_init l hAd hB hM1) my_X6_init rfl wI_X6_init hNX.1.2.2.2.2.2.2.2.2.2.1 ⟨Nat.le_of_ble_eq_true rfl, Nat.le_of_ble_eq_true rfl⟩ hl.1 rfl (Nat.le_of_ble_eq_true rfl) ⟨Nat.le_of_ble_eq_true rfl, Nat.le_of_ble_eq_true rfl⟩ dX10_init_1 (fun H locs hW => ?_)
  exact z_vret hC hr hlk hW hf dX10_init_4
set_option maxHeartbeats 4000000 in
set_option maxRecDepth 100000 in
theorem c_X1_init (l : Launch) {D : va_G} {cA : Nat → ClassId} {ad : Nat → Nat} {A : Nat → Prop} {base : Nat} (hAd : AdOk ad A) (hB : AdB ad base) {x0 : Nat} {M0 q : Mem} (hf0 : f_X1_init x0 M0 = some q) : Met l yX1_init (wd yX1_init cX1_init 1 none) (rmZ 2 0 0) (PcZ D cA ad base [.ref (ad x0)] M0) (QZ D cA ad A base q) 0 0 A := by
  refine mk_metZ (own := RX1) (by decide +kernel) rfl rfl (Nat.le_of_ble_eq_true rfl) ?_
  intro p e s m args below meth c hC hr hlk hmn hK hNX H locs ls hW hl
  have hx := hC.1
  have hb := hC.2.1
  have hl : lv_has ls 1 [(0, .ref (ad x0))] := hl
  have hf := hf0
  unfold f_X1_init at hf
  refine lv_aload_n hx hb dX1_init_0 rfl (lv_at hl 0 rfl) ?_
  obtain ⟨M1, hM1, hf⟩ := ob hf
  refine z_ci hC hK hNX hW (c_X6_init l hAd hB hM1) my_X6_init rfl wI_X6_init hNX.1.2.2.2.2.2.2.2.2.2.2.2.1 ⟨Nat.le_of_ble_eq_true rfl, Nat.le_of_ble_eq_true rfl⟩ hl.1 rfl (Nat.le_of_ble_eq_true rfl) ⟨Nat.le_of_ble_eq_true rfl, Nat.le_of_ble_eq_true rfl⟩ dX1_init_1 (fun H locs hW => ?_)
  exact z_vret hC hr hlk hW hf dX1_init_4
set_option maxHeartbeats 4000000 in
set_option maxRecDepth 100000 in
theorem c_X2_init (l : Launch) {D : va_G} {cA : Nat → ClassId} {ad : Nat → Nat} {A : Nat → Prop} {base : Nat} (hAd : AdOk ad A) (hB : AdB ad base) {x0 : Nat} {M0 q : Mem} (hf0 : f_X2_init x0 M0 = some q) : Met l yX2_init (wd yX2_init cX2_init 1 none) (rmZ 3 0 0) (PcZ D cA ad base [.ref (ad x0)] M0) (QZ D cA ad A base q) 0 0 A := by
  refine mk_metZ (own := RX2) (by decide +kernel) rfl rfl (Nat.le_of_ble_eq_true rfl) ?_
  intro p e s m args below meth c hC hr hlk hmn hK hNX H locs ls hW hl
  have hx := hC.1
  have hb := hC.2.1
  have hl : lv_has ls 1 [(0, .ref (ad x0))] := hl
  have hf := hf0
  unfold f_X2_init at hf
  refine lv_aload_n hx hb dX2_init_0 rfl (lv_at hl 0 rfl) ?_
  obtain ⟨M1, hM1, hf⟩ := ob hf
  refine z_ci hC hK hNX hW (c_X10_init l hAd hB hM1) my_X10_init rfl wI_X10_init hNX.1.2.2.2.2.2.2.2.2.2.2.2.2.2.1 ⟨Nat.le_of_ble_eq_true rfl, Nat.le_of_ble_eq_true rfl⟩ hl.1 rfl (Nat.le_of_ble_eq_true rfl) ⟨Nat.le_of_ble_eq_true rfl, Nat.le_of_ble_eq_true rfl⟩ dX2_init_1 (fun H locs hW => ?_)
  exact z_vret hC hr hlk hW hf dX2_init_4
set_option maxHeartbeats 4000000 in
set_option maxRecDepth 100000 in
theorem c_X4_init (l : Launch) {D : va_G} {cA : Nat → ClassId} {ad : Nat → Nat} {A : Nat → Prop} {base : Nat} (hAd : AdOk ad A) (hB : AdB ad base) {x0 : Nat} {M0 q : Mem} (hf0 : f_X4_init x0 M0 = some q) : Met l yX4_init (wd yX4_init cX4_init 1 none) (rmZ 3 0 0) (PcZ D cA ad base [.ref (ad x0)] M0) (QZ D cA ad A base q) 0 0 A := by
  refine mk_metZ (own := RX4) (by decide +kernel) rfl rfl (Nat.le_of_ble_eq_true rfl) ?_
  intro p e s m args below meth c hC hr hlk hmn hK hNX H locs ls hW hl
  have hx := hC.1
  have hb := hC.2.1
  have hl : lv_has ls 1 [(0, .ref (ad x0))] := hl
  have hf := hf0
  unfold f_X4_init at hf
  refine lv_aload_n hx hb dX4_init_0 rfl (lv_at hl 0 rfl) ?_
  obtain ⟨M1, hM1, hf⟩ := ob hf
  refine z_ci hC hK hNX hW (c_X1_init l hAd hB hM1) my_X1_init rfl wI_X1_init hNX.1.2.2.2.2.2.2.2.2.2.2.2.2.2.2.2.1 ⟨Nat.le_of_ble_eq_true rfl, Nat.le_of_ble_eq_true rfl⟩ hl.1 rfl (Nat.le_of_ble_eq_true rfl) ⟨Nat.le_of_ble_eq_true rfl, Nat.le_of_ble_eq_true rfl⟩ dX4_init_1 (fun H locs hW => ?_)
  exact z_vret hC hr hlk hW hf dX4_init_4
set_option maxHeartbeats 4000000 in
set_option maxRecDepth 100000 in
theorem c_X3_init (l : Launch) {D : va_G} {cA : Nat → ClassId} {ad : Nat → Nat} {A : Nat → Prop} {base : Nat} (hAd : AdOk ad A) (hB : AdB ad base) {x0 : Nat} {M0 q : Mem} (hf0 : f_X3_init x0 M0 = some q) : Met l yX3_init (wd yX3_init cX3_init 1 none) (rmZ 2 0 0) (PcZ D cA ad base [.ref (ad x0)] M0) (QZ D cA ad A base q) 0 0 A := by
  refine mk_metZ (own := RX3) (by decide +kernel) rfl rfl (Nat.le_of_ble_eq_true rfl) ?_
  intro p e s m args below meth c hC hr hlk hmn hK hNX H locs ls hW hl
  have hx := hC.1
  have hb := hC.2.1
  have hl : lv_has ls 1 [(0, .ref (ad x0))] := hl
  have hf := hf0
  unfold f_X3_init at hf
  refine lv_aload_n hx hb dX3_init_0 rfl (lv_at hl 0 rfl) ?_
  obtain ⟨M1, hM1, hf⟩ := ob hf
  refine z_ci hC hK hNX hW (c_X6_init l hAd hB hM1) my_X6_init rfl wI_X6_init hNX.1.2.2.2.2.2.2.2.2.2.2.2.2.2.2.2.2.2 ⟨Nat.le_of_ble_eq_true rfl, Nat.le_of_ble_eq_true rfl⟩ hl.1 rfl (Nat.le_of_ble_eq_true rfl) ⟨Nat.le_of_ble_eq_true rfl, Nat.le_of_ble_eq_true rfl⟩ dX3_init_1 (fun H locs hW => ?_)
  exact z_vret hC hr hlk hW hf dX3_init_4
set_option maxHeartbeats 4000000 in
set_option maxRecDepth 100000 in
theorem c_X0_init (l : Launch) {D : va_G} {cA : Nat → ClassId} {ad : Nat → Nat} {A : Nat → Prop} {base : Nat} (hAd : AdOk ad A) (hB : AdB ad base) {x0 : Nat} {M0 q : Mem} (hf0 : f_X0_init x0 M0 = some q) : Met l yX0_init (wd yX0_init cX0_init 1 none) (rmZ 1 0 0) (PcZ D cA ad base [.ref (ad x0)] M0) (QZ D cA ad A base q) 0 0 A := by
  refine mk_metZ (own := RX0) (by decide +kernel) rfl rfl (Nat.le_of_ble_eq_true rfl) ?_
  intro p e s m args below meth c hC hr hlk hmn hK hNX H locs ls hW hl
  have hx := hC.1
  have hb := hC.2.1
  have hl : lv_has ls 1 [(0, .ref (ad x0))] := hl
  have hf := hf0
  unfold f_X0_init at hf
  refine lv_aload_n hx hb dX0_init_0 rfl (lv_at hl 0 rfl) ?_
  refine W.objInit hx hb hC.2.2.2.1 (hC.2.2.2.2 _ wM_X0_1) (hC.2.2.2.2 _ wI_objectInit) (hC.2.2.2.2 _ w_cd_obj) rfl (by rw [hC.2.2.1]; exact hl.1) rfl dX0_init_1 (Nat.le_of_ble_eq_true rfl) (Nat.le_of_ble_eq_true rfl) ?_
  refine W.eq (g2 := F0 m 4 ls []) rfl ?_
  exact z_vret hC hr hlk hW hf dX0_init_4
set_option maxHeartbeats 4000000 in
set_option maxRecDepth 100000 in
theorem c_X7_init (l : Launch) {D : va_G} {cA : Nat → ClassId} {ad : Nat → Nat} {A : Nat → Prop} {base : Nat} (hAd : AdOk ad A) (hB : AdB ad base) {x0 : Nat} {M0 q : Mem} (hf0 : f_X7_init x0 M0 = some q) : Met l yX7_init (wd yX7_init cX7_init 1 none) (rmZ 1 4 24) (PcZ D cA ad base [.ref (ad x0)] M0) (QZ D cA ad A base q) 4 24 A := by
  refine mk_metZ (own := RX7) (by decide +kernel) rfl rfl (Nat.le_of_ble_eq_true rfl) ?_
  intro p e s m args below meth c hC hr hlk hmn hK hNX H locs ls hW hl
  have hx := hC.1
  have hb := hC.2.1
  have hl : lv_has ls 1 [(0, .ref (ad x0))] := hl
  have hf := hf0
  unfold f_X7_init at hf
  refine lv_aload_n hx hb dX7_init_0 rfl (lv_at hl 0 rfl) ?_
  refine W.objInit hx hb hC.2.2.2.1 (hC.2.2.2.2 _ wM_X7_3) (hC.2.2.2.2 _ wI_objectInit) (hC.2.2.2.2 _ w_cd_obj) rfl (by rw [hC.2.2.1]; exact hl.1) rfl dX7_init_1 (Nat.le_of_ble_eq_true rfl) (Nat.le_of_ble_eq_true rfl) ?_
  refine W.eq (g2 := F0 m 4 ls []) rfl ?_
  refine lv_aload_n hx hb dX7_init_4 rfl (lv_at hl 0 rfl) ?_
  refine lv_bipush (v := (6 : Int32)) hx hb dX7_init_5 (by decide) ?_
  obtain ⟨q1, hq1, hf⟩ := ob hf
  refine z_nA (t := 20) (N' := 6) (atype := .int) (ty0 := .int) hC hK hB hW wArr_int rfl rfl (by decide) (by decide) (by decide) rfl (fun h => h) (by decide) hq1 (Nat.le_of_ble_eq_true rfl) (Nat.le_of_ble_eq_true rfl) dX7_init_7 (fun H hW => ?_)
  obtain ⟨M2, hM2, hf⟩ := ob hf
  refine z_pF hC hK hAd hW hmn cfX7 (by decide) wF_X7_9 rfl rfl rfl rfl rfl rfl hM2 dX7_init_9 (fun H locs hW => ?_)
  refine lv_aload_n hx hb dX7_init_12 rfl (lv_at hl 0 rfl) ?_
  refine lv_bipush (v := (6 : Int32)) hx hb dX7_init_13 (by decide) ?_
  obtain ⟨q3, hq3, hf⟩ := ob hf
  refine z_nA (t := 20) (N' := 6) (atype := .int) (ty0 := .int) hC hK hB hW wArr_int rfl rfl (by decide) (by decide) (by decide) rfl (fun h => h) (by decide) hq3 (Nat.le_of_ble_eq_true rfl) (Nat.le_of_ble_eq_true rfl) dX7_init_15 (fun H hW => ?_)
  obtain ⟨M4, hM4, hf⟩ := ob hf
  refine z_pF hC hK hAd hW hmn cfX7 (by decide) wF_X7_15 rfl rfl rfl rfl rfl rfl hM4 dX7_init_17 (fun H locs hW => ?_)
  refine lv_aload_n hx hb dX7_init_20 rfl (lv_at hl 0 rfl) ?_
  refine lv_bipush (v := (6 : Int32)) hx hb dX7_init_21 (by decide) ?_
  obtain ⟨q5, hq5, hf⟩ := ob hf
  refine z_nA (t := 20) (N' := 6) (atype := .int) (ty0 := .int) hC hK hB hW wArr_int rfl rfl (by decide) (by decide) (by decide) rfl (fun h => h) (by decide) hq5 (Nat.le_of_ble_eq_true rfl) (Nat.le_of_ble_eq_true rfl) dX7_init_23 (fun H hW => ?_)
  obtain ⟨M6, hM6, hf⟩ := ob hf
  refine z_pF hC hK hAd hW hmn cfX7 (by decide) wF_X7_18 rfl rfl rfl rfl rfl rfl hM6 dX7_init_25 (fun H locs hW => ?_)
  refine lv_aload_n hx hb dX7_init_28 rfl (lv_at hl 0 rfl) ?_
  refine lv_bipush (v := (6 : Int32)) hx hb dX7_init_29 (by decide) ?_
  obtain ⟨q7, hq7, hf⟩ := ob hf
  refine z_nA (t := 20) (N' := 6) (atype := .int) (ty0 := .int) hC hK hB hW wArr_int rfl rfl (by decide) (by decide) (by decide) rfl (fun h => h) (by decide) hq7 (Nat.le_of_ble_eq_true rfl) (Nat.le_of_ble_eq_true rfl) dX7_init_31 (fun H hW => ?_)
  obtain ⟨M8, hM8, hf⟩ := ob hf
  refine z_pF hC hK hAd hW hmn cfX7 (by decide) wF_X7_21 rfl rfl rfl rfl rfl rfl hM8 dX7_init_33 (fun H locs hW => ?_)
  exact z_vret hC hr hlk hW hf dX7_init_36
set_option maxHeartbeats 4000000 in
set_option maxRecDepth 100000 in
theorem c_X8_init (l : Launch) {D : va_G} {cA : Nat → ClassId} {ad : Nat → Nat} {A : Nat → Prop} {base : Nat} (hAd : AdOk ad A) (hB : AdB ad base) {x0 : Nat} {M0 q : Mem} (hf0 : f_X8_init x0 M0 = some q) : Met l yX8_init (wd yX8_init cX8_init 1 none) (rmZ 2 9 56) (PcZ D cA ad base [.ref (ad x0)] M0) (QZ D cA ad A base q) 9 56 A := by
  refine mk_metZ (own := RX8) (by decide +kernel) rfl rfl (Nat.le_of_ble_eq_true rfl) ?_
  intro p e s m args below meth c hC hr hlk hmn hK hNX H locs ls hW hl
  have hx := hC.1
  have hb := hC.2.1
  have hl : lv_has ls 1 [(0, .ref (ad x0))] := hl
  have hf := hf0
  unfold f_X8_init at hf
  refine lv_aload_n hx hb dX8_init_0 rfl (lv_at hl 0 rfl) ?_
  refine W.objInit hx hb hC.2.2.2.1 (hC.2.2.2.2 _ wM_X8_3) (hC.2.2.2.2 _ wI_objectInit) (hC.2.2.2.2 _ w_cd_obj) rfl (by rw [hC.2.2.1]; exact hl.1) rfl dX8_init_1 (Nat.le_of_ble_eq_true rfl) (Nat.le_of_ble_eq_true rfl) ?_
  refine W.eq (g2 := F0 m 4 ls []) rfl ?_
  refine lv_aload_n hx hb dX8_init_4 rfl (lv_at hl 0 rfl) ?_
  refine lv_bipush (v := (6 : Int32)) hx hb dX8_init_5 (by decide) ?_
  obtain ⟨M1, hM1, hf⟩ := ob hf
  refine z_pI hC hK hAd hW cfX8 (by decide) wF_X8_9 rfl rfl rfl hM1 dX8_init_7 (fun H locs hW => ?_)
  refine lv_aload_n hx hb dX8_init_10 rfl (lv_at hl 0 rfl) ?_
  refine lv_bipush (v := (6 : Int32)) hx hb dX8_init_11 (by decide) ?_
  obtain ⟨q2, hq2, hf⟩ := ob hf
  refine z_nA (t := 20) (N' := 6) (atype := .int) (ty0 := .int) hC hK hB hW wArr_int rfl rfl (by decide) (by decide) (by decide) rfl (fun h => h) (by decide) hq2 (Nat.le_of_ble_eq_true rfl) (Nat.le_of_ble_eq_true rfl) dX8_init_13 (fun H hW => ?_)
  obtain ⟨M3, hM3, hf⟩ := ob hf
  refine z_pF hC hK hAd hW hmn cfX8 (by decide) wF_X8_15 rfl rfl rfl rfl rfl rfl hM3 dX8_init_15 (fun H locs hW => ?_)
  refine lv_aload_n hx hb dX8_init_18 rfl (lv_at hl 0 rfl) ?_
  refine lv_bipush (v := (6 : Int32)) hx hb dX8_init_19 (by decide) ?_
  obtain ⟨q4, hq4, hf⟩ := ob hf
  refine z_nA (t := 20) (N' := 6) (atype := .int) (ty0 := .int) hC hK hB hW wArr_int rfl rfl (by decide) (by decide) (by decide) rfl (fun h => h) (by decide) hq4 (Nat.le_of_ble_eq_true rfl) (Nat.le_of_ble_eq_true rfl) dX8_init_21 (fun H hW => ?_)
  obtain ⟨M5, hM5, hf⟩ := ob hf
  refine z_pF hC hK hAd hW hmn cfX8 (by decide) wF_X8_19 rfl rfl rfl rfl rfl rfl hM5 dX8_init_23 (fun H locs hW => ?_)
  refine lv_aload_n hx hb dX8_init_26 rfl (lv_at hl 0 rfl) ?_
  refine lv_bipush (v := (6 : Int32)) hx hb dX8_init_27 (by decide) ?_
  obtain ⟨q6, hq6, hf⟩ := ob hf
  refine z_nA (t := 20) (N' := 6) (atype := .int) (ty0 := .int) hC hK hB hW wArr_int rfl rfl (by decide) (by decide) (by decide) rfl (fun h => h) (by decide) hq6 (Nat.le_of_ble_eq_true rfl) (Nat.le_of_ble_eq_true rfl) dX8_init_29 (fun H hW => ?_)
  obtain ⟨M7, hM7, hf⟩ := ob hf
  refine z_pF hC hK hAd hW hmn cfX8 (by decide) wF_X8_22 rfl rfl rfl rfl rfl rfl hM7 dX8_init_31 (fun H locs hW => ?_)
  refine lv_aload_n hx hb dX8_init_34 rfl (lv_at hl 0 rfl) ?_
  obtain ⟨q8, hq8, hf⟩ := ob hf
  refine z_nO hC hK hB hW cfX7 wK_X8_25 wT_X7 wN_X7 df_X7 hq8 (Nat.le_of_ble_eq_true rfl) (Nat.le_of_ble_eq_true rfl) dX8_init_35 (fun H hW => ?_)
  refine lv_dup hx hb dX8_init_38 rfl ?_
  obtain ⟨M9, hM9, hf⟩ := ob hf
  refine z_ci hC hK hNX hW (c_X7_init l hAd hB hM9) my_X7_init rfl wI_X7_init hNX.1.2.2.1 ⟨Nat.le_of_ble_eq_true rfl, Nat.le_of_ble_eq_true rfl⟩ hl.1 rfl (Nat.le_of_ble_eq_true rfl) ⟨Nat.le_of_ble_eq_true rfl, Nat.le_of_ble_eq_true rfl⟩ dX8_init_39 (fun H locs hW => ?_)
  obtain ⟨M10, hM10, hf⟩ := ob hf
  refine z_pF hC hK hAd hW hmn cfX8 (by decide) wF_X8_28 rfl rfl rfl rfl rfl rfl hM10 dX8_init_42 (fun H locs hW => ?_)
  refine lv_aload_n hx hb dX8_init_45 rfl (lv_at hl 0 rfl) ?_
  refine lv_bipush (v := (9 : Int32)) hx hb dX8_init_46 (by decide) ?_
  obtain ⟨q11, hq11, hf⟩ := ob hf
  refine z_nA (t := 20) (N' := 9) (atype := .int) (ty0 := .int) hC hK hB hW wArr_int rfl rfl (by decide) (by decide) (by decide) rfl (fun h => h) (by decide) hq11 (Nat.le_of_ble_eq_true rfl) (Nat.le_of_ble_eq_true rfl) dX8_init_48 (fun H hW => ?_)
  obtain ⟨M12, hM12, hf⟩ := ob hf
  refine z_pF hC hK hAd hW hmn cfX8 (by decide) wF_X8_32 rfl rfl rfl rfl rfl rfl hM12 dX8_init_50 (fun H locs hW => ?_)
  exact z_vret hC hr hlk hW hf dX8_init_53
set_option maxHeartbeats 4000000 in
set_option maxRecDepth 100000 in
theorem c_X9_init (l : Launch) {D : va_G} {cA : Nat → ClassId} {ad : Nat → Nat} {A : Nat → Prop} {base : Nat} (hAd : AdOk ad A) (hB : AdB ad base) {x0 : Nat} {M0 q : Mem} (hf0 : f_X9_init x0 M0 = some q) : Met l yX9_init (wd yX9_init cX9_init 1 none) (rmZ 3 11 204) (PcZ D cA ad base [.ref (ad x0)] M0) (QZ D cA ad A base q) 11 204 A := by
  refine mk_metZ (own := RX9) (by decide +kernel) rfl rfl (Nat.le_of_ble_eq_true rfl) ?_
  intro p e s m args below meth c hC hr hlk hmn hK hNX H locs ls hW hl
  have hx := hC.1
  have hb := hC.2.1
  have hl : lv_has ls 1 [(0, .ref (ad x0))] := hl
  have hf := hf0
  unfold f_X9_init at hf
  refine lv_aload_n hx hb dX9_init_0 rfl (lv_at hl 0 rfl) ?_
  refine W.objInit hx hb hC.2.2.2.1 (hC.2.2.2.2 _ wM_X9_3) (hC.2.2.2.2 _ wI_objectInit) (hC.2.2.2.2 _ w_cd_obj) rfl (by rw [hC.2.2.1]; exact hl.1) rfl dX9_init_1 (Nat.le_of_ble_eq_true rfl) (Nat.le_of_ble_eq_true rfl) ?_
  refine W.eq (g2 := F0 m 4 ls []) rfl ?_
  refine lv_aload_n hx hb dX9_init_4 rfl (lv_at hl 0 rfl) ?_
  refine lv_sipush (v := (140 : Int32)) hx hb dX9_init_5 (by decide) ?_
  obtain ⟨q1, hq1, hf⟩ := ob hf
  refine z_nA (t := 21) (N' := 140) (atype := .char) (ty0 := .char) hC hK hB hW wArr_char rfl rfl (by decide) (by decide) (by decide) rfl (fun h => h) (by decide) hq1 (Nat.le_of_ble_eq_true rfl) (Nat.le_of_ble_eq_true rfl) dX9_init_8 (fun H hW => ?_)
  obtain ⟨M2, hM2, hf⟩ := ob hf
  refine z_pF hC hK hAd hW hmn cfX9 (by decide) wF_X9_9 rfl rfl rfl rfl rfl rfl hM2 dX9_init_10 (fun H locs hW => ?_)
  refine lv_aload_n hx hb dX9_init_13 rfl (lv_at hl 0 rfl) ?_
  obtain ⟨q3, hq3, hf⟩ := ob hf
  refine z_nO hC hK hB hW cfX8 wK_X9_15 wT_X8 wN_X8 df_X8 hq3 (Nat.le_of_ble_eq_true rfl) (Nat.le_of_ble_eq_true rfl) dX9_init_14 (fun H hW => ?_)
  refine lv_dup hx hb dX9_init_17 rfl ?_
  obtain ⟨M4, hM4, hf⟩ := ob hf
  refine z_ci hC hK hNX hW (c_X8_init l hAd hB hM4) my_X8_init rfl wI_X8_init hNX.1.2.1 ⟨Nat.le_of_ble_eq_true rfl, Nat.le_of_ble_eq_true rfl⟩ hl.1 rfl (Nat.le_of_ble_eq_true rfl) ⟨Nat.le_of_ble_eq_true rfl, Nat.le_of_ble_eq_true rfl⟩ dX9_init_18 (fun H locs hW => ?_)
  obtain ⟨M5, hM5, hf⟩ := ob hf
  refine z_pR hC hK hAd hW cfX9 (by decide) wF_X9_18 rfl rfl rfl hM5 dX9_init_21 (fun H locs hW => ?_)
  exact z_vret hC hr hlk hW hf dX9_init_24
set_option maxHeartbeats 4000000 in
set_option maxRecDepth 100000 in
theorem c_X5_init (l : Launch) {D : va_G} {cA : Nat → ClassId} {ad : Nat → Nat} {A : Nat → Prop} {base : Nat} (hAd : AdOk ad A) (hB : AdB ad base) {x0 : Nat} {M0 q : Mem} (hf0 : f_X5_init x0 M0 = some q) : Met l yX5_init (wd yX5_init cX5_init 1 none) (rmZ 1 3 18) (PcZ D cA ad base [.ref (ad x0)] M0) (QZ D cA ad A base q) 3 18 A := by
  refine mk_metZ (own := RX5) (by decide +kernel) rfl rfl (Nat.le_of_ble_eq_true rfl) ?_
  intro p e s m args below meth c hC hr hlk hmn hK hNX H locs ls hW hl
  have hx := hC.1
  have hb := hC.2.1
  have hl : lv_has ls 1 [(0, .ref (ad x0))] := hl
  have hf := hf0
  unfold f_X5_init at hf
  refine lv_aload_n hx hb dX5_init_0 rfl (lv_at hl 0 rfl) ?_
  refine W.objInit hx hb hC.2.2.2.1 (hC.2.2.2.2 _ wM_X5_3) (hC.2.2.2.2 _ wI_objectInit) (hC.2.2.2.2 _ w_cd_obj) rfl (by rw [hC.2.2.1]; exact hl.1) rfl dX5_init_1 (Nat.le_of_ble_eq_true rfl) (Nat.le_of_ble_eq_true rfl) ?_
  refine W.eq (g2 := F0 m 4 ls []) rfl ?_
  refine lv_aload_n hx hb dX5_init_4 rfl (lv_at hl 0 rfl) ?_
  refine lv_bipush (v := (6 : Int32)) hx hb dX5_init_5 (by decide) ?_
  obtain ⟨q1, hq1, hf⟩ := ob hf
  refine z_nA (t := 20) (N' := 6) (atype := .int) (ty0 := .int) hC hK hB hW wArr_int rfl rfl (by decide) (by decide) (by decide) rfl (fun h => h) (by decide) hq1 (Nat.le_of_ble_eq_true rfl) (Nat.le_of_ble_eq_true rfl) dX5_init_7 (fun H hW => ?_)
  obtain ⟨M2, hM2, hf⟩ := ob hf
  refine z_pF hC hK hAd hW hmn cfX5 (by decide) wF_X5_9 rfl rfl rfl rfl rfl rfl hM2 dX5_init_9 (fun H locs hW => ?_)
  refine lv_aload_n hx hb dX5_init_12 rfl (lv_at hl 0 rfl) ?_
  refine lv_bipush (v := (6 : Int32)) hx hb dX5_init_13 (by decide) ?_
  obtain ⟨q3, hq3, hf⟩ := ob hf
  refine z_nA (t := 20) (N' := 6) (atype := .int) (ty0 := .int) hC hK hB hW wArr_int rfl rfl (by decide) (by decide) (by decide) rfl (fun h => h) (by decide) hq3 (Nat.le_of_ble_eq_true rfl) (Nat.le_of_ble_eq_true rfl) dX5_init_15 (fun H hW => ?_)
  obtain ⟨M4, hM4, hf⟩ := ob hf
  refine z_pF hC hK hAd hW hmn cfX5 (by decide) wF_X5_15 rfl rfl rfl rfl rfl rfl hM4 dX5_init_17 (fun H locs hW => ?_)
  refine lv_aload_n hx hb dX5_init_20 rfl (lv_at hl 0 rfl) ?_
  refine lv_bipush (v := (6 : Int32)) hx hb dX5_init_21 (by decide) ?_
  obtain ⟨q5, hq5, hf⟩ := ob hf
  refine z_nA (t := 20) (N' := 6) (atype := .int) (ty0 := .int) hC hK hB hW wArr_int rfl rfl (by decide) (by decide) (by decide) rfl (fun h => h) (by decide) hq5 (Nat.le_of_ble_eq_true rfl) (Nat.le_of_ble_eq_true rfl) dX5_init_23 (fun H hW => ?_)
  obtain ⟨M6, hM6, hf⟩ := ob hf
  refine z_pF hC hK hAd hW hmn cfX5 (by decide) wF_X5_18 rfl rfl rfl rfl rfl rfl hM6 dX5_init_25 (fun H locs hW => ?_)
  exact z_vret hC hr hlk hW hf dX5_init_28
set_option maxHeartbeats 4000000 in
set_option maxRecDepth 100000 in
theorem c_X11_init (l : Launch) {D : va_G} {cA : Nat → ClassId} {ad : Nat → Nat} {A : Nat → Prop} {base : Nat} (hAd : AdOk ad A) (hB : AdB ad base) {x0 : Nat} {M0 q : Mem} (hf0 : f_X11_init x0 M0 = some q) : Met l yX11_init (wd yX11_init cX11_init 2 none) (rmZ 4 111 757) (PcZ D cA ad base [.ref (ad x0)] M0) (QZ D cA ad A base q) 111 757 A := by
  refine mk_metZ (own := RX11) (by decide +kernel) rfl rfl (Nat.le_of_ble_eq_true rfl) ?_
  intro p e s m args below meth c hC hr hlk hmn hK hNX H locs ls hW hl
  have hx := hC.1
  have hb := hC.2.1
  have hl : lv_has ls 2 [(0, .ref (ad x0))] := hl
  have hf := hf0
  unfold f_X11_init at hf
  refine lv_aload_n hx hb dX11_init_0 rfl (lv_at hl 0 rfl) ?_
  refine W.objInit hx hb hC.2.2.2.1 (hC.2.2.2.2 _ wM_X11_1) (hC.2.2.2.2 _ wI_objectInit) (hC.2.2.2.2 _ w_cd_obj) rfl (by rw [hC.2.2.1]; exact hl.1) rfl dX11_init_1 (Nat.le_of_ble_eq_true rfl) (Nat.le_of_ble_eq_true rfl) ?_
  refine W.eq (g2 := F0 m 4 ls []) rfl ?_
  refine lv_aload_n hx hb dX11_init_4 rfl (lv_at hl 0 rfl) ?_
  obtain ⟨q1, hq1, hf⟩ := ob hf
  refine z_nO hC hK hB hW cfX9 wK_X11_7 wT_X9 wN_X9 df_X9 hq1 (Nat.le_of_ble_eq_true rfl) (Nat.le_of_ble_eq_true rfl) dX11_init_5 (fun H hW => ?_)
  refine lv_dup hx hb dX11_init_8 rfl ?_
  obtain ⟨M2, hM2, hf⟩ := ob hf
  refine z_ci hC hK hNX hW (c_X9_init l hAd hB hM2) my_X9_init rfl wI_X9_init hNX.1.1 ⟨Nat.le_of_ble_eq_true rfl, Nat.le_of_ble_eq_true rfl⟩ hl.1 rfl (Nat.le_of_ble_eq_true rfl) ⟨Nat.le_of_ble_eq_true rfl, Nat.le_of_ble_eq_true rfl⟩ dX11_init_9 (fun H locs hW => ?_)
  obtain ⟨M3, hM3, hf⟩ := ob hf
  refine z_pF hC hK hAd hW hmn cfX11 (by decide) wF_X11_10 rfl rfl rfl rfl rfl rfl hM3 dX11_init_12 (fun H locs hW => ?_)
  refine lv_aload_n hx hb dX11_init_15 rfl (lv_at hl 0 rfl) ?_
  obtain ⟨q4, hq4, hf⟩ := ob hf
  refine z_nO hC hK hB hW cfX5 wK_X11_16 wT_X5 wN_X5 df_X5 hq4 (Nat.le_of_ble_eq_true rfl) (Nat.le_of_ble_eq_true rfl) dX11_init_16 (fun H hW => ?_)
  refine lv_dup hx hb dX11_init_19 rfl ?_
  obtain ⟨M5, hM5, hf⟩ := ob hf
  refine z_ci hC hK hNX hW (c_X5_init l hAd hB hM5) my_X5_init rfl wI_X5_init hNX.1.2.2.2.1 ⟨Nat.le_of_ble_eq_true rfl, Nat.le_of_ble_eq_true rfl⟩ hl.1 rfl (Nat.le_of_ble_eq_true rfl) ⟨Nat.le_of_ble_eq_true rfl, Nat.le_of_ble_eq_true rfl⟩ dX11_init_20 (fun H locs hW => ?_)
  obtain ⟨M6, hM6, hf⟩ := ob hf
  refine z_pF hC hK hAd hW hmn cfX11 (by decide) wF_X11_19 rfl rfl rfl rfl rfl rfl hM6 dX11_init_23 (fun H locs hW => ?_)
  refine lv_aload_n hx hb dX11_init_26 rfl (lv_at hl 0 rfl) ?_
  obtain ⟨q7, hq7, hf⟩ := ob hf
  refine z_nO hC hK hB hW cfX0 wK_X11_23 wT_X0 wN_X0 df_X0 hq7 (Nat.le_of_ble_eq_true rfl) (Nat.le_of_ble_eq_true rfl) dX11_init_27 (fun H hW => ?_)
  refine lv_dup hx hb dX11_init_30 rfl ?_
  obtain ⟨M8, hM8, hf⟩ := ob hf
  refine z_ci hC hK hNX hW (c_X0_init l hAd hB hM8) my_X0_init rfl wI_X0_init hNX.1.2.2.2.2.1 ⟨Nat.le_of_ble_eq_true rfl, Nat.le_of_ble_eq_true rfl⟩ hl.1 rfl (Nat.le_of_ble_eq_true rfl) ⟨Nat.le_of_ble_eq_true rfl, Nat.le_of_ble_eq_true rfl⟩ dX11_init_31 (fun H locs hW => ?_)
  obtain ⟨M9, hM9, hf⟩ := ob hf
  refine z_pF hC hK hAd hW hmn cfX11 (by decide) wF_X11_26 rfl rfl rfl rfl rfl rfl hM9 dX11_init_34 (fun H locs hW => ?_)
  refine lv_aload_n hx hb dX11_init_37 rfl (lv_at hl 0 rfl) ?_
  refine lv_bipush (v := (6 : Int32)) hx hb dX11_init_38 (by decide) ?_
  obtain ⟨q10, hq10, hf⟩ := ob hf
  refine z_nQ (t := 24) (N' := 6) (E := RX6) hC hK hB hW wK_X11_30 hNX.2.1.2 rfl (by decide) (by decide) hq10 (Nat.le_of_ble_eq_true rfl) (Nat.le_of_ble_eq_true rfl) dX11_init_40 (fun H hW => ?_)
  obtain ⟨M11, hM11, hf⟩ := ob hf
  refine z_pF hC hK hAd hW hmn cfX11 (by decide) wF_X11_32 rfl rfl rfl rfl rfl rfl hM11 dX11_init_43 (fun H locs hW => ?_)
  refine lv_aload_n hx hb dX11_init_46 rfl (lv_at hl 0 rfl) ?_
  obtain ⟨q12, hq12, hf⟩ := ob hf
  refine z_nO hC hK hB hW cfX8 wK_X11_36 wT_X8 wN_X8 df_X8 hq12 (Nat.le_of_ble_eq_true rfl) (Nat.le_of_ble_eq_true rfl) dX11_init_47 (fun H hW => ?_)
  refine lv_dup hx hb dX11_init_50 rfl ?_
  obtain ⟨M13, hM13, hf⟩ := ob hf
  refine z_ci hC hK hNX hW (c_X8_init l hAd hB hM13) my_X8_init rfl wI_X8_init hNX.1.2.2.2.2.2.1 ⟨Nat.le_of_ble_eq_true rfl, Nat.le_of_ble_eq_true rfl⟩ hl.1 rfl (Nat.le_of_ble_eq_true rfl) ⟨Nat.le_of_ble_eq_true rfl, Nat.le_of_ble_eq_true rfl⟩ dX11_init_51 (fun H locs hW => ?_)
  obtain ⟨M14, hM14, hf⟩ := ob hf
  refine z_pR hC hK hAd hW cfX11 (by decide) wF_X11_39 rfl rfl rfl hM14 dX11_init_54 (fun H locs hW => ?_)
  refine lv_aload_n hx hb dX11_init_57 rfl (lv_at hl 0 rfl) ?_
  obtain ⟨q15, hq15, hf⟩ := ob hf
  refine z_nO hC hK hB hW cfX7 wK_X11_43 wT_X7 wN_X7 df_X7 hq15 (Nat.le_of_ble_eq_true rfl) (Nat.le_of_ble_eq_true rfl) dX11_init_58 (fun H hW => ?_)
  refine lv_dup hx hb dX11_init_61 rfl ?_
  obtain ⟨M16, hM16, hf⟩ := ob hf
  refine z_ci hC hK hNX hW (c_X7_init l hAd hB hM16) my_X7_init rfl wI_X7_init hNX.1.2.2.2.2.2.2.1 ⟨Nat.le_of_ble_eq_true rfl, Nat.le_of_ble_eq_true rfl⟩ hl.1 rfl (Nat.le_of_ble_eq_true rfl) ⟨Nat.le_of_ble_eq_true rfl, Nat.le_of_ble_eq_true rfl⟩ dX11_init_62 (fun H locs hW => ?_)
  obtain ⟨M17, hM17, hf⟩ := ob hf
  refine z_pF hC hK hAd hW hmn cfX11 (by decide) wF_X11_46 rfl rfl rfl rfl rfl rfl hM17 dX11_init_65 (fun H locs hW => ?_)
  refine lv_aload_n hx hb dX11_init_68 rfl (lv_at hl 0 rfl) ?_
  obtain ⟨q18, hq18, hf⟩ := ob hf
  refine z_nO hC hK hB hW cfX7 wK_X11_43 wT_X7 wN_X7 df_X7 hq18 (Nat.le_of_ble_eq_true rfl) (Nat.le_of_ble_eq_true rfl) dX11_init_69 (fun H hW => ?_)
  refine lv_dup hx hb dX11_init_72 rfl ?_
  obtain ⟨M19, hM19, hf⟩ := ob hf
  refine z_ci hC hK hNX hW (c_X7_init l hAd hB hM19) my_X7_init rfl wI_X7_init hNX.1.2.2.2.2.2.2.1 ⟨Nat.le_of_ble_eq_true rfl, Nat.le_of_ble_eq_true rfl⟩ hl.1 rfl (Nat.le_of_ble_eq_true rfl) ⟨Nat.le_of_ble_eq_true rfl, Nat.le_of_ble_eq_true rfl⟩ dX11_init_73 (fun H locs hW => ?_)
  obtain ⟨M20, hM20, hf⟩ := ob hf
  refine z_pF hC hK hAd hW hmn cfX11 (by decide) wF_X11_50 rfl rfl rfl rfl rfl rfl hM20 dX11_init_76 (fun H locs hW => ?_)
  refine lv_aload_n hx hb dX11_init_79 rfl (lv_at hl 0 rfl) ?_
  refine lv_bipush (v := (10 : Int32)) hx hb dX11_init_80 (by decide) ?_
  obtain ⟨q21, hq21, hf⟩ := ob hf
  refine z_nQ (t := 23) (N' := 10) (E := RX7) hC hK hB hW wK_X11_43 hNX.2.1.1 rfl (by decide) (by decide) hq21 (Nat.le_of_ble_eq_true rfl) (Nat.le_of_ble_eq_true rfl) dX11_init_82 (fun H hW => ?_)
  obtain ⟨M22, hM22, hf⟩ := ob hf
  refine z_pF hC hK hAd hW hmn cfX11 (by decide) wF_X11_53 rfl rfl rfl rfl rfl rfl hM22 dX11_init_85 (fun H locs hW => ?_)
  refine lv_aload_n hx hb dX11_init_88 rfl (lv_at hl 0 rfl) ?_
  refine lv_iconst (v := (2 : Int32)) hx hb dX11_init_89 (by decide) ?_
  obtain ⟨q23, hq23, hf⟩ := ob hf
  refine z_nQ (t := 23) (N' := 2) (E := RX7) hC hK hB hW wK_X11_43 hNX.2.1.1 rfl (by decide) (by decide) hq23 (Nat.le_of_ble_eq_true rfl) (Nat.le_of_ble_eq_true rfl) dX11_init_90 (fun H hW => ?_)
  obtain ⟨M24, hM24, hf⟩ := ob hf
  refine z_pF hC hK hAd hW hmn cfX11 (by decide) wF_X11_57 rfl rfl rfl rfl rfl rfl hM24 dX11_init_93 (fun H locs hW => ?_)
  refine lv_aload_n hx hb dX11_init_96 rfl (lv_at hl 0 rfl) ?_
  refine lv_iconst (v := (2 : Int32)) hx hb dX11_init_97 (by decide) ?_
  obtain ⟨q25, hq25, hf⟩ := ob hf
  refine z_nA (t := 22) (N' := 2) (atype := .boolean) (ty0 := .boolean) hC hK hB hW wArr_boolean rfl rfl (by decide) (by decide) (by decide) rfl (fun h => h) (by decide) hq25 (Nat.le_of_ble_eq_true rfl) (Nat.le_of_ble_eq_true rfl) dX11_init_98 (fun H hW => ?_)
  obtain ⟨M26, hM26, hf⟩ := ob hf
  refine z_pF hC hK hAd hW hmn cfX11 (by decide) wF_X11_60 rfl rfl rfl rfl rfl rfl hM26 dX11_init_100 (fun H locs hW => ?_)
  refine lv_aload_n hx hb dX11_init_103 rfl (lv_at hl 0 rfl) ?_
  refine lv_bipush (v := (6 : Int32)) hx hb dX11_init_104 (by decide) ?_
  obtain ⟨q27, hq27, hf⟩ := ob hf
  refine z_nA (t := 20) (N' := 6) (atype := .int) (ty0 := .int) hC hK hB hW wArr_int rfl rfl (by decide) (by decide) (by decide) rfl (fun h => h) (by decide) hq27 (Nat.le_of_ble_eq_true rfl) (Nat.le_of_ble_eq_true rfl) dX11_init_106 (fun H hW => ?_)
  obtain ⟨M28, hM28, hf⟩ := ob hf
  refine z_pF hC hK hAd hW hmn cfX11 (by decide) wF_X11_64 rfl rfl rfl rfl rfl rfl hM28 dX11_init_108 (fun H locs hW => ?_)
  refine lv_aload_n hx hb dX11_init_111 rfl (lv_at hl 0 rfl) ?_
  refine lv_bipush (v := (6 : Int32)) hx hb dX11_init_112 (by decide) ?_
  obtain ⟨q29, hq29, hf⟩ := ob hf
  refine z_nA (t := 20) (N' := 6) (atype := .int) (ty0 := .int) hC hK hB hW wArr_int rfl rfl (by decide) (by decide) (by decide) rfl (fun h => h) (by decide) hq29 (Nat.le_of_ble_eq_true rfl) (Nat.le_of_ble_eq_true rfl) dX11_init_114 (fun H hW => ?_)
  obtain ⟨M30, hM30, hf⟩ := ob hf
  refine z_pF hC hK hAd hW hmn cfX11 (by decide) wF_X11_68 rfl rfl rfl rfl rfl rfl hM30 dX11_init_116 (fun H locs hW => ?_)
  refine lv_aload_n hx hb dX11_init_119 rfl (lv_at hl 0 rfl) ?_
  refine lv_bipush (v := (6 : Int32)) hx hb dX11_init_120 (by decide) ?_
  obtain ⟨q31, hq31, hf⟩ := ob hf
  refine z_nA (t := 22) (N' := 6) (atype := .boolean) (ty0 := .boolean) hC hK hB hW wArr_boolean rfl rfl (by decide) (by decide) (by decide) rfl (fun h => h) (by decide) hq31 (Nat.le_of_ble_eq_true rfl) (Nat.le_of_ble_eq_true rfl) dX11_init_122 (fun H hW => ?_)
  obtain ⟨M32, hM32, hf⟩ := ob hf
  refine z_pF hC hK hAd hW hmn cfX11 (by decide) wF_X11_71 rfl rfl rfl rfl rfl rfl hM32 dX11_init_124 (fun H locs hW => ?_)
  refine lv_aload_n hx hb dX11_init_127 rfl (lv_at hl 0 rfl) ?_
  refine lv_bipush (v := (9 : Int32)) hx hb dX11_init_128 (by decide) ?_
  obtain ⟨q33, hq33, hf⟩ := ob hf
  refine z_nA (t := 20) (N' := 9) (atype := .int) (ty0 := .int) hC hK hB hW wArr_int rfl rfl (by decide) (by decide) (by decide) rfl (fun h => h) (by decide) hq33 (Nat.le_of_ble_eq_true rfl) (Nat.le_of_ble_eq_true rfl) dX11_init_130 (fun H hW => ?_)
  obtain ⟨M34, hM34, hf⟩ := ob hf
  refine z_pF hC hK hAd hW hmn cfX11 (by decide) wF_X11_74 rfl rfl rfl rfl rfl rfl hM34 dX11_init_132 (fun H locs hW => ?_)
  refine lv_iconst (v := (0 : Int32)) hx hb dX11_init_135 (by decide) ?_
  refine lv_istore_n (lv' := [(1, .int (0 : Int32)), (0, .ref (ad x0))]) hx hb dX11_init_136 rfl hl (by decide) rfl (fun ls hl => ?_)
  refine lv_iload_n hx hb dX11_init_137 rfl (lv_at hl 0 rfl) ?_
  refine lv_bipush (v := (10 : Int32)) hx hb dX11_init_138 (by decide) ?_
  refine lv_icmp_ge (tgt := 162) hx hb dX11_init_140 (by decide) (fun c => absurd c (by decide)) (fun _ => ?_)
  refine lv_aload_n hx hb dX11_init_143 rfl (lv_at hl 1 rfl) ?_
  obtain ⟨r35, hr35, hf⟩ := ob hf
  refine r_gR hC hK hW.1 cfX11 (by decide) wF_X11_53 rfl hr35 dX11_init_144 ?_
  refine lv_iload_n hx hb dX11_init_147 rfl (lv_at hl 0 rfl) ?_
  obtain ⟨q36, hq36, hf⟩ := ob hf
  refine z_nO hC hK hB hW cfX7 wK_X11_43 wT_X7 wN_X7 df_X7 hq36 (Nat.le_of_ble_eq_true rfl) (Nat.le_of_ble_eq_true rfl) dX11_init_148 (fun H hW => ?_)
  refine lv_dup hx hb dX11_init_151 rfl ?_
  obtain ⟨M37, hM37, hf⟩ := ob hf
  refine z_ci hC hK hNX hW (c_X7_init l hAd hB hM37) my_X7_init rfl wI_X7_init hNX.1.2.2.2.2.2.2.1 ⟨Nat.le_of_ble_eq_true rfl, Nat.le_of_ble_eq_true rfl⟩ hl.1 rfl (Nat.le_of_ble_eq_true rfl) ⟨Nat.le_of_ble_eq_true rfl, Nat.le_of_ble_eq_true rfl⟩ dX11_init_152 (fun H locs hW => ?_)
  obtain ⟨M38, hM38, hf⟩ := ob hf
  refine z_sR (E := RX7) hC hK hAd hW cfX7 rfl (by decide) (Or.inl rfl) hM38 dX11_init_155 (fun H locs hW => ?_)
  refine lv_iinc (v := (1 : Int32)) (lv' := [(1, .int (1 : Int32)), (0, .ref (ad x0))]) hx hb dX11_init_156 hl (k := 0) rfl (by decide) (by decide) rfl (fun ls hl => ?_)
  refine lv_goto (tgt := 137) hx hb dX11_init_159 (by decide) ?_
  refine lv_iload_n hx hb dX11_init_137 rfl (lv_at hl 0 rfl) ?_
  refine lv_bipush (v := (10 : Int32)) hx hb dX11_init_138 (by decide) ?_
  refine lv_icmp_ge (tgt := 162) hx hb dX11_init_140 (by decide) (fun c => absurd c (by decide)) (fun _ => ?_)
  refine lv_aload_n hx hb dX11_init_143 rfl (lv_at hl 1 rfl) ?_
  obtain ⟨r39, hr39, hf⟩ := ob hf
  refine r_gR hC hK hW.1 cfX11 (by decide) wF_X11_53 rfl hr39 dX11_init_144 ?_
  refine lv_iload_n hx hb dX11_init_147 rfl (lv_at hl 0 rfl) ?_
  obtain ⟨q40, hq40, hf⟩ := ob hf
  refine z_nO hC hK hB hW cfX7 wK_X11_43 wT_X7 wN_X7 df_X7 hq40 (Nat.le_of_ble_eq_true rfl) (Nat.le_of_ble_eq_true rfl) dX11_init_148 (fun H hW => ?_)
  refine lv_dup hx hb dX11_init_151 rfl ?_
  obtain ⟨M41, hM41, hf⟩ := ob hf
  refine z_ci hC hK hNX hW (c_X7_init l hAd hB hM41) my_X7_init rfl wI_X7_init hNX.1.2.2.2.2.2.2.1 ⟨Nat.le_of_ble_eq_true rfl, Nat.le_of_ble_eq_true rfl⟩ hl.1 rfl (Nat.le_of_ble_eq_true rfl) ⟨Nat.le_of_ble_eq_true rfl, Nat.le_of_ble_eq_true rfl⟩ dX11_init_152 (fun H locs hW => ?_)
  obtain ⟨M42, hM42, hf⟩ := ob hf
  refine z_sR (E := RX7) hC hK hAd hW cfX7 rfl (by decide) (Or.inl rfl) hM42 dX11_init_155 (fun H locs hW => ?_)
  refine lv_iinc (v := (2 : Int32)) (lv' := [(1, .int (2 : Int32)), (0, .ref (ad x0))]) hx hb dX11_init_156 hl (k := 0) rfl (by decide) (by decide) rfl (fun ls hl => ?_)
  refine lv_goto (tgt := 137) hx hb dX11_init_159 (by decide) ?_
  refine lv_iload_n hx hb dX11_init_137 rfl (lv_at hl 0 rfl) ?_
  refine lv_bipush (v := (10 : Int32)) hx hb dX11_init_138 (by decide) ?_
  refine lv_icmp_ge (tgt := 162) hx hb dX11_init_140 (by decide) (fun c => absurd c (by decide)) (fun _ => ?_)
  refine lv_aload_n hx hb dX11_init_143 rfl (lv_at hl 1 rfl) ?_
  obtain ⟨r43, hr43, hf⟩ := ob hf
  refine r_gR hC hK hW.1 cfX11 (by decide) wF_X11_53 rfl hr43 dX11_init_144 ?_
  refine lv_iload_n hx hb dX11_init_147 rfl (lv_at hl 0 rfl) ?_
  obtain ⟨q44, hq44, hf⟩ := ob hf
  refine z_nO hC hK hB hW cfX7 wK_X11_43 wT_X7 wN_X7 df_X7 hq44 (Nat.le_of_ble_eq_true rfl) (Nat.le_of_ble_eq_true rfl) dX11_init_148 (fun H hW => ?_)
  refine lv_dup hx hb dX11_init_151 rfl ?_
  obtain ⟨M45, hM45, hf⟩ := ob hf
  refine z_ci hC hK hNX hW (c_X7_init l hAd hB hM45) my_X7_init rfl wI_X7_init hNX.1.2.2.2.2.2.2.1 ⟨Nat.le_of_ble_eq_true rfl, Nat.le_of_ble_eq_true rfl⟩ hl.1 rfl (Nat.le_of_ble_eq_true rfl) ⟨Nat.le_of_ble_eq_true rfl, Nat.le_of_ble_eq_true rfl⟩ dX11_init_152 (fun H locs hW => ?_)
  obtain ⟨M46, hM46, hf⟩ := ob hf
  refine z_sR (E := RX7) hC hK hAd hW cfX7 rfl (by decide) (Or.inl rfl) hM46 dX11_init_155 (fun H locs hW => ?_)
  refine lv_iinc (v := (3 : Int32)) (lv' := [(1, .int (3 : Int32)), (0, .ref (ad x0))]) hx hb dX11_init_156 hl (k := 0) rfl (by decide) (by decide) rfl (fun ls hl => ?_)
  refine lv_goto (tgt := 137) hx hb dX11_init_159 (by decide) ?_
  refine lv_iload_n hx hb dX11_init_137 rfl (lv_at hl 0 rfl) ?_
  refine lv_bipush (v := (10 : Int32)) hx hb dX11_init_138 (by decide) ?_
  refine lv_icmp_ge (tgt := 162) hx hb dX11_init_140 (by decide) (fun c => absurd c (by decide)) (fun _ => ?_)
  refine lv_aload_n hx hb dX11_init_143 rfl (lv_at hl 1 rfl) ?_
  obtain ⟨r47, hr47, hf⟩ := ob hf
  refine r_gR hC hK hW.1 cfX11 (by decide) wF_X11_53 rfl hr47 dX11_init_144 ?_
  refine lv_iload_n hx hb dX11_init_147 rfl (lv_at hl 0 rfl) ?_
  obtain ⟨q48, hq48, hf⟩ := ob hf
  refine z_nO hC hK hB hW cfX7 wK_X11_43 wT_X7 wN_X7 df_X7 hq48 (Nat.le_of_ble_eq_true rfl) (Nat.le_of_ble_eq_true rfl) dX11_init_148 (fun H hW => ?_)
  refine lv_dup hx hb dX11_init_151 rfl ?_
  obtain ⟨M49, hM49, hf⟩ := ob hf
  refine z_ci hC hK hNX hW (c_X7_init l hAd hB hM49) my_X7_init rfl wI_X7_init hNX.1.2.2.2.2.2.2.1 ⟨Nat.le_of_ble_eq_true rfl, Nat.le_of_ble_eq_true rfl⟩ hl.1 rfl (Nat.le_of_ble_eq_true rfl) ⟨Nat.le_of_ble_eq_true rfl, Nat.le_of_ble_eq_true rfl⟩ dX11_init_152 (fun H locs hW => ?_)
  obtain ⟨M50, hM50, hf⟩ := ob hf
  refine z_sR (E := RX7) hC hK hAd hW cfX7 rfl (by decide) (Or.inl rfl) hM50 dX11_init_155 (fun H locs hW => ?_)
  refine lv_iinc (v := (4 : Int32)) (lv' := [(1, .int (4 : Int32)), (0, .ref (ad x0))]) hx hb dX11_init_156 hl (k := 0) rfl (by decide) (by decide) rfl (fun ls hl => ?_)
  refine lv_goto (tgt := 137) hx hb dX11_init_159 (by decide) ?_
  refine lv_iload_n hx hb dX11_init_137 rfl (lv_at hl 0 rfl) ?_
  refine lv_bipush (v := (10 : Int32)) hx hb dX11_init_138 (by decide) ?_
  refine lv_icmp_ge (tgt := 162) hx hb dX11_init_140 (by decide) (fun c => absurd c (by decide)) (fun _ => ?_)
  refine lv_aload_n hx hb dX11_init_143 rfl (lv_at hl 1 rfl) ?_
  obtain ⟨r51, hr51, hf⟩ := ob hf
  refine r_gR hC hK hW.1 cfX11 (by decide) wF_X11_53 rfl hr51 dX11_init_144 ?_
  refine lv_iload_n hx hb dX11_init_147 rfl (lv_at hl 0 rfl) ?_
  obtain ⟨q52, hq52, hf⟩ := ob hf
  refine z_nO hC hK hB hW cfX7 wK_X11_43 wT_X7 wN_X7 df_X7 hq52 (Nat.le_of_ble_eq_true rfl) (Nat.le_of_ble_eq_true rfl) dX11_init_148 (fun H hW => ?_)
  refine lv_dup hx hb dX11_init_151 rfl ?_
  obtain ⟨M53, hM53, hf⟩ := ob hf
  refine z_ci hC hK hNX hW (c_X7_init l hAd hB hM53) my_X7_init rfl wI_X7_init hNX.1.2.2.2.2.2.2.1 ⟨Nat.le_of_ble_eq_true rfl, Nat.le_of_ble_eq_true rfl⟩ hl.1 rfl (Nat.le_of_ble_eq_true rfl) ⟨Nat.le_of_ble_eq_true rfl, Nat.le_of_ble_eq_true rfl⟩ dX11_init_152 (fun H locs hW => ?_)
  obtain ⟨M54, hM54, hf⟩ := ob hf
  refine z_sR (E := RX7) hC hK hAd hW cfX7 rfl (by decide) (Or.inl rfl) hM54 dX11_init_155 (fun H locs hW => ?_)
  refine lv_iinc (v := (5 : Int32)) (lv' := [(1, .int (5 : Int32)), (0, .ref (ad x0))]) hx hb dX11_init_156 hl (k := 0) rfl (by decide) (by decide) rfl (fun ls hl => ?_)
  refine lv_goto (tgt := 137) hx hb dX11_init_159 (by decide) ?_
  refine lv_iload_n hx hb dX11_init_137 rfl (lv_at hl 0 rfl) ?_
  refine lv_bipush (v := (10 : Int32)) hx hb dX11_init_138 (by decide) ?_
  refine lv_icmp_ge (tgt := 162) hx hb dX11_init_140 (by decide) (fun c => absurd c (by decide)) (fun _ => ?_)
  refine lv_aload_n hx hb dX11_init_143 rfl (lv_at hl 1 rfl) ?_
  obtain ⟨r55, hr55, hf⟩ := ob hf
  refine r_gR hC hK hW.1 cfX11 (by decide) wF_X11_53 rfl hr55 dX11_init_144 ?_
  refine lv_iload_n hx hb dX11_init_147 rfl (lv_at hl 0 rfl) ?_
  obtain ⟨q56, hq56, hf⟩ := ob hf
  refine z_nO hC hK hB hW cfX7 wK_X11_43 wT_X7 wN_X7 df_X7 hq56 (Nat.le_of_ble_eq_true rfl) (Nat.le_of_ble_eq_true rfl) dX11_init_148 (fun H hW => ?_)
  refine lv_dup hx hb dX11_init_151 rfl ?_
  obtain ⟨M57, hM57, hf⟩ := ob hf
  refine z_ci hC hK hNX hW (c_X7_init l hAd hB hM57) my_X7_init rfl wI_X7_init hNX.1.2.2.2.2.2.2.1 ⟨Nat.le_of_ble_eq_true rfl, Nat.le_of_ble_eq_true rfl⟩ hl.1 rfl (Nat.le_of_ble_eq_true rfl) ⟨Nat.le_of_ble_eq_true rfl, Nat.le_of_ble_eq_true rfl⟩ dX11_init_152 (fun H locs hW => ?_)
  obtain ⟨M58, hM58, hf⟩ := ob hf
  refine z_sR (E := RX7) hC hK hAd hW cfX7 rfl (by decide) (Or.inl rfl) hM58 dX11_init_155 (fun H locs hW => ?_)
  refine lv_iinc (v := (6 : Int32)) (lv' := [(1, .int (6 : Int32)), (0, .ref (ad x0))]) hx hb dX11_init_156 hl (k := 0) rfl (by decide) (by decide) rfl (fun ls hl => ?_)
  refine lv_goto (tgt := 137) hx hb dX11_init_159 (by decide) ?_
  refine lv_iload_n hx hb dX11_init_137 rfl (lv_at hl 0 rfl) ?_
  refine lv_bipush (v := (10 : Int32)) hx hb dX11_init_138 (by decide) ?_
  refine lv_icmp_ge (tgt := 162) hx hb dX11_init_140 (by decide) (fun c => absurd c (by decide)) (fun _ => ?_)
  refine lv_aload_n hx hb dX11_init_143 rfl (lv_at hl 1 rfl) ?_
  obtain ⟨r59, hr59, hf⟩ := ob hf
  refine r_gR hC hK hW.1 cfX11 (by decide) wF_X11_53 rfl hr59 dX11_init_144 ?_
  refine lv_iload_n hx hb dX11_init_147 rfl (lv_at hl 0 rfl) ?_
  obtain ⟨q60, hq60, hf⟩ := ob hf
  refine z_nO hC hK hB hW cfX7 wK_X11_43 wT_X7 wN_X7 df_X7 hq60 (Nat.le_of_ble_eq_true rfl) (Nat.le_of_ble_eq_true rfl) dX11_init_148 (fun H hW => ?_)
  refine lv_dup hx hb dX11_init_151 rfl ?_
  obtain ⟨M61, hM61, hf⟩ := ob hf
  refine z_ci hC hK hNX hW (c_X7_init l hAd hB hM61) my_X7_init rfl wI_X7_init hNX.1.2.2.2.2.2.2.1 ⟨Nat.le_of_ble_eq_true rfl, Nat.le_of_ble_eq_true rfl⟩ hl.1 rfl (Nat.le_of_ble_eq_true rfl) ⟨Nat.le_of_ble_eq_true rfl, Nat.le_of_ble_eq_true rfl⟩ dX11_init_152 (fun H locs hW => ?_)
  obtain ⟨M62, hM62, hf⟩ := ob hf
  refine z_sR (E := RX7) hC hK hAd hW cfX7 rfl (by decide) (Or.inl rfl) hM62 dX11_init_155 (fun H locs hW => ?_)
  refine lv_iinc (v := (7 : Int32)) (lv' := [(1, .int (7 : Int32)), (0, .ref (ad x0))]) hx hb dX11_init_156 hl (k := 0) rfl (by decide) (by decide) rfl (fun ls hl => ?_)
  refine lv_goto (tgt := 137) hx hb dX11_init_159 (by decide) ?_
  refine lv_iload_n hx hb dX11_init_137 rfl (lv_at hl 0 rfl) ?_
  refine lv_bipush (v := (10 : Int32)) hx hb dX11_init_138 (by decide) ?_
  refine lv_icmp_ge (tgt := 162) hx hb dX11_init_140 (by decide) (fun c => absurd c (by decide)) (fun _ => ?_)
  refine lv_aload_n hx hb dX11_init_143 rfl (lv_at hl 1 rfl) ?_
  obtain ⟨r63, hr63, hf⟩ := ob hf
  refine r_gR hC hK hW.1 cfX11 (by decide) wF_X11_53 rfl hr63 dX11_init_144 ?_
  refine lv_iload_n hx hb dX11_init_147 rfl (lv_at hl 0 rfl) ?_
  obtain ⟨q64, hq64, hf⟩ := ob hf
  refine z_nO hC hK hB hW cfX7 wK_X11_43 wT_X7 wN_X7 df_X7 hq64 (Nat.le_of_ble_eq_true rfl) (Nat.le_of_ble_eq_true rfl) dX11_init_148 (fun H hW => ?_)
  refine lv_dup hx hb dX11_init_151 rfl ?_
  obtain ⟨M65, hM65, hf⟩ := ob hf
  refine z_ci hC hK hNX hW (c_X7_init l hAd hB hM65) my_X7_init rfl wI_X7_init hNX.1.2.2.2.2.2.2.1 ⟨Nat.le_of_ble_eq_true rfl, Nat.le_of_ble_eq_true rfl⟩ hl.1 rfl (Nat.le_of_ble_eq_true rfl) ⟨Nat.le_of_ble_eq_true rfl, Nat.le_of_ble_eq_true rfl⟩ dX11_init_152 (fun H locs hW => ?_)
  obtain ⟨M66, hM66, hf⟩ := ob hf
  refine z_sR (E := RX7) hC hK hAd hW cfX7 rfl (by decide) (Or.inl rfl) hM66 dX11_init_155 (fun H locs hW => ?_)
  refine lv_iinc (v := (8 : Int32)) (lv' := [(1, .int (8 : Int32)), (0, .ref (ad x0))]) hx hb dX11_init_156 hl (k := 0) rfl (by decide) (by decide) rfl (fun ls hl => ?_)
  refine lv_goto (tgt := 137) hx hb dX11_init_159 (by decide) ?_
  refine lv_iload_n hx hb dX11_init_137 rfl (lv_at hl 0 rfl) ?_
  refine lv_bipush (v := (10 : Int32)) hx hb dX11_init_138 (by decide) ?_
  refine lv_icmp_ge (tgt := 162) hx hb dX11_init_140 (by decide) (fun c => absurd c (by decide)) (fun _ => ?_)
  refine lv_aload_n hx hb dX11_init_143 rfl (lv_at hl 1 rfl) ?_
  obtain ⟨r67, hr67, hf⟩ := ob hf
  refine r_gR hC hK hW.1 cfX11 (by decide) wF_X11_53 rfl hr67 dX11_init_144 ?_
  refine lv_iload_n hx hb dX11_init_147 rfl (lv_at hl 0 rfl) ?_
  obtain ⟨q68, hq68, hf⟩ := ob hf
  refine z_nO hC hK hB hW cfX7 wK_X11_43 wT_X7 wN_X7 df_X7 hq68 (Nat.le_of_ble_eq_true rfl) (Nat.le_of_ble_eq_true rfl) dX11_init_148 (fun H hW => ?_)
  refine lv_dup hx hb dX11_init_151 rfl ?_
  obtain ⟨M69, hM69, hf⟩ := ob hf
  refine z_ci hC hK hNX hW (c_X7_init l hAd hB hM69) my_X7_init rfl wI_X7_init hNX.1.2.2.2.2.2.2.1 ⟨Nat.le_of_ble_eq_true rfl, Nat.le_of_ble_eq_true rfl⟩ hl.1 rfl (Nat.le_of_ble_eq_true rfl) ⟨Nat.le_of_ble_eq_true rfl, Nat.le_of_ble_eq_true rfl⟩ dX11_init_152 (fun H locs hW => ?_)
  obtain ⟨M70, hM70, hf⟩ := ob hf
  refine z_sR (E := RX7) hC hK hAd hW cfX7 rfl (by decide) (Or.inl rfl) hM70 dX11_init_155 (fun H locs hW => ?_)
  refine lv_iinc (v := (9 : Int32)) (lv' := [(1, .int (9 : Int32)), (0, .ref (ad x0))]) hx hb dX11_init_156 hl (k := 0) rfl (by decide) (by decide) rfl (fun ls hl => ?_)
  refine lv_goto (tgt := 137) hx hb dX11_init_159 (by decide) ?_
  refine lv_iload_n hx hb dX11_init_137 rfl (lv_at hl 0 rfl) ?_
  refine lv_bipush (v := (10 : Int32)) hx hb dX11_init_138 (by decide) ?_
  refine lv_icmp_ge (tgt := 162) hx hb dX11_init_140 (by decide) (fun c => absurd c (by decide)) (fun _ => ?_)
  refine lv_aload_n hx hb dX11_init_143 rfl (lv_at hl 1 rfl) ?_
  obtain ⟨r71, hr71, hf⟩ := ob hf
  refine r_gR hC hK hW.1 cfX11 (by decide) wF_X11_53 rfl hr71 dX11_init_144 ?_
  refine lv_iload_n hx hb dX11_init_147 rfl (lv_at hl 0 rfl) ?_
  obtain ⟨q72, hq72, hf⟩ := ob hf
  refine z_nO hC hK hB hW cfX7 wK_X11_43 wT_X7 wN_X7 df_X7 hq72 (Nat.le_of_ble_eq_true rfl) (Nat.le_of_ble_eq_true rfl) dX11_init_148 (fun H hW => ?_)
  refine lv_dup hx hb dX11_init_151 rfl ?_
  obtain ⟨M73, hM73, hf⟩ := ob hf
  refine z_ci hC hK hNX hW (c_X7_init l hAd hB hM73) my_X7_init rfl wI_X7_init hNX.1.2.2.2.2.2.2.1 ⟨Nat.le_of_ble_eq_true rfl, Nat.le_of_ble_eq_true rfl⟩ hl.1 rfl (Nat.le_of_ble_eq_true rfl) ⟨Nat.le_of_ble_eq_true rfl, Nat.le_of_ble_eq_true rfl⟩ dX11_init_152 (fun H locs hW => ?_)
  obtain ⟨M74, hM74, hf⟩ := ob hf
  refine z_sR (E := RX7) hC hK hAd hW cfX7 rfl (by decide) (Or.inl rfl) hM74 dX11_init_155 (fun H locs hW => ?_)
  refine lv_iinc (v := (10 : Int32)) (lv' := [(1, .int (10 : Int32)), (0, .ref (ad x0))]) hx hb dX11_init_156 hl (k := 0) rfl (by decide) (by decide) rfl (fun ls hl => ?_)
  refine lv_goto (tgt := 137) hx hb dX11_init_159 (by decide) ?_
  refine lv_iload_n hx hb dX11_init_137 rfl (lv_at hl 0 rfl) ?_
  refine lv_bipush (v := (10 : Int32)) hx hb dX11_init_138 (by decide) ?_
  refine lv_icmp_ge (tgt := 162) hx hb dX11_init_140 (by decide) (fun _ => ?_) (fun c => absurd (by decide) c)
  refine lv_iconst (v := (0 : Int32)) hx hb dX11_init_162 (by decide) ?_
  refine lv_istore_n (lv' := [(1, .int (0 : Int32)), (0, .ref (ad x0))]) hx hb dX11_init_163 rfl hl (by decide) rfl (fun ls hl => ?_)
  refine lv_iload_n hx hb dX11_init_164 rfl (lv_at hl 0 rfl) ?_
  refine lv_iconst (v := (2 : Int32)) hx hb dX11_init_165 (by decide) ?_
  refine lv_icmp_ge (tgt := 188) hx hb dX11_init_166 (by decide) (fun c => absurd c (by decide)) (fun _ => ?_)
  refine lv_aload_n hx hb dX11_init_169 rfl (lv_at hl 1 rfl) ?_
  obtain ⟨r75, hr75, hf⟩ := ob hf
  refine r_gR hC hK hW.1 cfX11 (by decide) wF_X11_57 rfl hr75 dX11_init_170 ?_
  refine lv_iload_n hx hb dX11_init_173 rfl (lv_at hl 0 rfl) ?_
  obtain ⟨q76, hq76, hf⟩ := ob hf
  refine z_nO hC hK hB hW cfX7 wK_X11_43 wT_X7 wN_X7 df_X7 hq76 (Nat.le_of_ble_eq_true rfl) (Nat.le_of_ble_eq_true rfl) dX11_init_174 (fun H hW => ?_)
  refine lv_dup hx hb dX11_init_177 rfl ?_
  obtain ⟨M77, hM77, hf⟩ := ob hf
  refine z_ci hC hK hNX hW (c_X7_init l hAd hB hM77) my_X7_init rfl wI_X7_init hNX.1.2.2.2.2.2.2.1 ⟨Nat.le_of_ble_eq_true rfl, Nat.le_of_ble_eq_true rfl⟩ hl.1 rfl (Nat.le_of_ble_eq_true rfl) ⟨Nat.le_of_ble_eq_true rfl, Nat.le_of_ble_eq_true rfl⟩ dX11_init_178 (fun H locs hW => ?_)
  obtain ⟨M78, hM78, hf⟩ := ob hf
  refine z_sR (E := RX7) hC hK hAd hW cfX7 rfl (by decide) (Or.inl rfl) hM78 dX11_init_181 (fun H locs hW => ?_)
  refine lv_iinc (v := (1 : Int32)) (lv' := [(1, .int (1 : Int32)), (0, .ref (ad x0))]) hx hb dX11_init_182 hl (k := 0) rfl (by decide) (by decide) rfl (fun ls hl => ?_)
  refine lv_goto (tgt := 164) hx hb dX11_init_185 (by decide) ?_
  refine lv_iload_n hx hb dX11_init_164 rfl (lv_at hl 0 rfl) ?_
  refine lv_iconst (v := (2 : Int32)) hx hb dX11_init_165 (by decide) ?_
  refine lv_icmp_ge (tgt := 188) hx hb dX11_init_166 (by decide) (fun c => absurd c (by decide)) (fun _ => ?_)
  refine lv_aload_n hx hb dX11_init_169 rfl (lv_at hl 1 rfl) ?_
  obtain ⟨r79, hr79, hf⟩ := ob hf
  refine r_gR hC hK hW.1 cfX11 (by decide) wF_X11_57 rfl hr79 dX11_init_170 ?_
  refine lv_iload_n hx hb dX11_init_173 rfl (lv_at hl 0 rfl) ?_
  obtain ⟨q80, hq80, hf⟩ := ob hf
  refine z_nO hC hK hB hW cfX7 wK_X11_43 wT_X7 wN_X7 df_X7 hq80 (Nat.le_of_ble_eq_true rfl) (Nat.le_of_ble_eq_true rfl) dX11_init_174 (fun H hW => ?_)
  refine lv_dup hx hb dX11_init_177 rfl ?_
  obtain ⟨M81, hM81, hf⟩ := ob hf
  refine z_ci hC hK hNX hW (c_X7_init l hAd hB hM81) my_X7_init rfl wI_X7_init hNX.1.2.2.2.2.2.2.1 ⟨Nat.le_of_ble_eq_true rfl, Nat.le_of_ble_eq_true rfl⟩ hl.1 rfl (Nat.le_of_ble_eq_true rfl) ⟨Nat.le_of_ble_eq_true rfl, Nat.le_of_ble_eq_true rfl⟩ dX11_init_178 (fun H locs hW => ?_)
  obtain ⟨M82, hM82, hf⟩ := ob hf
  refine z_sR (E := RX7) hC hK hAd hW cfX7 rfl (by decide) (Or.inl rfl) hM82 dX11_init_181 (fun H locs hW => ?_)
  refine lv_iinc (v := (2 : Int32)) (lv' := [(1, .int (2 : Int32)), (0, .ref (ad x0))]) hx hb dX11_init_182 hl (k := 0) rfl (by decide) (by decide) rfl (fun ls hl => ?_)
  refine lv_goto (tgt := 164) hx hb dX11_init_185 (by decide) ?_
  refine lv_iload_n hx hb dX11_init_164 rfl (lv_at hl 0 rfl) ?_
  refine lv_iconst (v := (2 : Int32)) hx hb dX11_init_165 (by decide) ?_
  refine lv_icmp_ge (tgt := 188) hx hb dX11_init_166 (by decide) (fun _ => ?_) (fun c => absurd (by decide) c)
  refine lv_aload_n hx hb dX11_init_188 rfl (lv_at hl 1 rfl) ?_
  obtain ⟨r83, hr83, hf⟩ := ob hf
  refine r_gR hC hK hW.1 cfX11 (by decide) wF_X11_32 rfl hr83 dX11_init_189 ?_
  refine lv_iconst (v := (0 : Int32)) hx hb dX11_init_192 (by decide) ?_
  obtain ⟨q84, hq84, hf⟩ := ob hf
  refine z_nO hC hK hB hW cfX6 wK_X11_30 wT_X6 wN_X6 df_X6 hq84 (Nat.le_of_ble_eq_true rfl) (Nat.le_of_ble_eq_true rfl) dX11_init_193 (fun H hW => ?_)
  refine lv_dup hx hb dX11_init_196 rfl ?_
  obtain ⟨M85, hM85, hf⟩ := ob hf
  refine z_ci hC hK hNX hW (c_X6_init l hAd hB hM85) my_X6_init rfl wI_X6_init hNX.1.2.2.2.2.2.2.2.1 ⟨Nat.le_of_ble_eq_true rfl, Nat.le_of_ble_eq_true rfl⟩ hl.1 rfl (Nat.le_of_ble_eq_true rfl) ⟨Nat.le_of_ble_eq_true rfl, Nat.le_of_ble_eq_true rfl⟩ dX11_init_197 (fun H locs hW => ?_)
  obtain ⟨M86, hM86, hf⟩ := ob hf
  refine z_sR (E := RX6) hC hK hAd hW cfX6 rfl (by decide) (Or.inl rfl) hM86 dX11_init_200 (fun H locs hW => ?_)
  refine lv_aload_n hx hb dX11_init_201 rfl (lv_at hl 1 rfl) ?_
  obtain ⟨r87, hr87, hf⟩ := ob hf
  refine r_gR hC hK hW.1 cfX11 (by decide) wF_X11_32 rfl hr87 dX11_init_202 ?_
  refine lv_iconst (v := (1 : Int32)) hx hb dX11_init_205 (by decide) ?_
  obtain ⟨q88, hq88, hf⟩ := ob hf
  refine z_nO hC hK hB hW cfX10 wK_X11_78 wT_X10 wN_X10 df_X10 hq88 (Nat.le_of_ble_eq_true rfl) (Nat.le_of_ble_eq_true rfl) dX11_init_206 (fun H hW => ?_)
  refine lv_dup hx hb dX11_init_209 rfl ?_
  obtain ⟨M89, hM89, hf⟩ := ob hf
  refine z_ci hC hK hNX hW (c_X10_init l hAd hB hM89) my_X10_init rfl wI_X10_init hNX.1.2.2.2.2.2.2.2.2.1 ⟨Nat.le_of_ble_eq_true rfl, Nat.le_of_ble_eq_true rfl⟩ hl.1 rfl (Nat.le_of_ble_eq_true rfl) ⟨Nat.le_of_ble_eq_true rfl, Nat.le_of_ble_eq_true rfl⟩ dX11_init_210 (fun H locs hW => ?_)
  obtain ⟨M90, hM90, hf⟩ := ob hf
  refine z_sR (E := RX6) hC hK hAd hW cfX10 rfl (by decide) (Or.inr hNX.2.2.1) hM90 dX11_init_213 (fun H locs hW => ?_)
  refine lv_aload_n hx hb dX11_init_214 rfl (lv_at hl 1 rfl) ?_
  obtain ⟨r91, hr91, hf⟩ := ob hf
  refine r_gR hC hK hW.1 cfX11 (by decide) wF_X11_32 rfl hr91 dX11_init_215 ?_
  refine lv_iconst (v := (2 : Int32)) hx hb dX11_init_218 (by decide) ?_
  obtain ⟨q92, hq92, hf⟩ := ob hf
  refine z_nO hC hK hB hW cfX1 wK_X11_81 wT_X1 wN_X1 df_X1 hq92 (Nat.le_of_ble_eq_true rfl) (Nat.le_of_ble_eq_true rfl) dX11_init_219 (fun H hW => ?_)
  refine lv_dup hx hb dX11_init_222 rfl ?_
  obtain ⟨M93, hM93, hf⟩ := ob hf
  refine z_ci hC hK hNX hW (c_X1_init l hAd hB hM93) my_X1_init rfl wI_X1_init hNX.1.2.2.2.2.2.2.2.2.2.2.1 ⟨Nat.le_of_ble_eq_true rfl, Nat.le_of_ble_eq_true rfl⟩ hl.1 rfl (Nat.le_of_ble_eq_true rfl) ⟨Nat.le_of_ble_eq_true rfl, Nat.le_of_ble_eq_true rfl⟩ dX11_init_223 (fun H locs hW => ?_)
  obtain ⟨M94, hM94, hf⟩ := ob hf
  refine z_sR (E := RX6) hC hK hAd hW cfX1 rfl (by decide) (Or.inr hNX.2.2.2.1) hM94 dX11_init_226 (fun H locs hW => ?_)
  refine lv_aload_n hx hb dX11_init_227 rfl (lv_at hl 1 rfl) ?_
  obtain ⟨r95, hr95, hf⟩ := ob hf
  refine r_gR hC hK hW.1 cfX11 (by decide) wF_X11_32 rfl hr95 dX11_init_228 ?_
  refine lv_iconst (v := (3 : Int32)) hx hb dX11_init_231 (by decide) ?_
  obtain ⟨q96, hq96, hf⟩ := ob hf
  refine z_nO hC hK hB hW cfX2 wK_X11_84 wT_X2 wN_X2 df_X2 hq96 (Nat.le_of_ble_eq_true rfl) (Nat.le_of_ble_eq_true rfl) dX11_init_232 (fun H hW => ?_)
  refine lv_dup hx hb dX11_init_235 rfl ?_
  obtain ⟨M97, hM97, hf⟩ := ob hf
  refine z_ci hC hK hNX hW (c_X2_init l hAd hB hM97) my_X2_init rfl wI_X2_init hNX.1.2.2.2.2.2.2.2.2.2.2.2.2.1 ⟨Nat.le_of_ble_eq_true rfl, Nat.le_of_ble_eq_true rfl⟩ hl.1 rfl (Nat.le_of_ble_eq_true rfl) ⟨Nat.le_of_ble_eq_true rfl, Nat.le_of_ble_eq_true rfl⟩ dX11_init_236 (fun H locs hW => ?_)
  obtain ⟨M98, hM98, hf⟩ := ob hf
  refine z_sR (E := RX6) hC hK hAd hW cfX2 rfl (by decide) (Or.inr hNX.2.2.2.2.1) hM98 dX11_init_239 (fun H locs hW => ?_)
  refine lv_aload_n hx hb dX11_init_240 rfl (lv_at hl 1 rfl) ?_
  obtain ⟨r99, hr99, hf⟩ := ob hf
  refine r_gR hC hK hW.1 cfX11 (by decide) wF_X11_32 rfl hr99 dX11_init_241 ?_
  refine lv_iconst (v := (4 : Int32)) hx hb dX11_init_244 (by decide) ?_
  obtain ⟨q100, hq100, hf⟩ := ob hf
  refine z_nO hC hK hB hW cfX4 wK_X11_87 wT_X4 wN_X4 df_X4 hq100 (Nat.le_of_ble_eq_true rfl) (Nat.le_of_ble_eq_true rfl) dX11_init_245 (fun H hW => ?_)
  refine lv_dup hx hb dX11_init_248 rfl ?_
  obtain ⟨M101, hM101, hf⟩ := ob hf
  refine z_ci hC hK hNX hW (c_X4_init l hAd hB hM101) my_X4_init rfl wI_X4_init hNX.1.2.2.2.2.2.2.2.2.2.2.2.2.2.2.1 ⟨Nat.le_of_ble_eq_true rfl, Nat.le_of_ble_eq_true rfl⟩ hl.1 rfl (Nat.le_of_ble_eq_true rfl) ⟨Nat.le_of_ble_eq_true rfl, Nat.le_of_ble_eq_true rfl⟩ dX11_init_249 (fun H locs hW => ?_)
  obtain ⟨M102, hM102, hf⟩ := ob hf
  refine z_sR (E := RX6) hC hK hAd hW cfX4 rfl (by decide) (Or.inr hNX.2.2.2.2.2.1) hM102 dX11_init_252 (fun H locs hW => ?_)
  refine lv_aload_n hx hb dX11_init_253 rfl (lv_at hl 1 rfl) ?_
  obtain ⟨r103, hr103, hf⟩ := ob hf
  refine r_gR hC hK hW.1 cfX11 (by decide) wF_X11_32 rfl hr103 dX11_init_254 ?_
  refine lv_iconst (v := (5 : Int32)) hx hb dX11_init_257 (by decide) ?_
  obtain ⟨q104, hq104, hf⟩ := ob hf
  refine z_nO hC hK hB hW cfX3 wK_X11_90 wT_X3 wN_X3 df_X3 hq104 (Nat.le_of_ble_eq_true rfl) (Nat.le_of_ble_eq_true rfl) dX11_init_258 (fun H hW => ?_)
  refine lv_dup hx hb dX11_init_261 rfl ?_
  obtain ⟨M105, hM105, hf⟩ := ob hf
  refine z_ci hC hK hNX hW (c_X3_init l hAd hB hM105) my_X3_init rfl wI_X3_init hNX.1.2.2.2.2.2.2.2.2.2.2.2.2.2.2.2.2.1 ⟨Nat.le_of_ble_eq_true rfl, Nat.le_of_ble_eq_true rfl⟩ hl.1 rfl (Nat.le_of_ble_eq_true rfl) ⟨Nat.le_of_ble_eq_true rfl, Nat.le_of_ble_eq_true rfl⟩ dX11_init_262 (fun H locs hW => ?_)
  obtain ⟨M106, hM106, hf⟩ := ob hf
  refine z_sR (E := RX6) hC hK hAd hW cfX3 rfl (by decide) (Or.inr hNX.2.2.2.2.2.2) hM106 dX11_init_265 (fun H locs hW => ?_)
  exact z_vret hC hr hlk hW hf dX11_init_266
set_option maxHeartbeats 4000000 in
set_option maxRecDepth 100000 in
theorem c_X12_init (l : Launch) {D : va_G} {cA : Nat → ClassId} {ad : Nat → Nat} {A : Nat → Prop} {base : Nat} (hAd : AdOk ad A) (hB : AdB ad base) {x0 : Nat} {M0 q : Mem} (hf0 : f_X12_init x0 M0 = some q) : Met l yX12_init (wd yX12_init cX12_init 1 none) (rmZ 1 16 570) (PcZ D cA ad base [.ref (ad x0)] M0) (QV D cA ad A q) 16 570 A := by
  refine mk_metZ (own := RX12) (by decide +kernel) rfl rfl (Nat.le_of_ble_eq_true rfl) ?_
  intro p e s m args below meth c hC hr hlk hmn hK hNX H locs ls hW hl
  have hx := hC.1
  have hb := hC.2.1
  have hl : lv_has ls 1 [(0, .ref (ad x0))] := hl
  have hf := hf0
  unfold f_X12_init at hf
  refine lv_aload_n hx hb dX12_init_0 rfl (lv_at hl 0 rfl) ?_
  refine W.objInit hx hb hC.2.2.2.1 (hC.2.2.2.2 _ wM_X12_1) (hC.2.2.2.2 _ wI_objectInit) (hC.2.2.2.2 _ w_cd_obj) rfl (by rw [hC.2.2.1]; exact hl.1) rfl dX12_init_1 (Nat.le_of_ble_eq_true rfl) (Nat.le_of_ble_eq_true rfl) ?_
  refine W.eq (g2 := F0 m 4 ls []) rfl ?_
  refine lv_aload_n hx hb dX12_init_4 rfl (lv_at hl 0 rfl) ?_
  refine lv_sipush (v := (140 : Int32)) hx hb dX12_init_5 (by decide) ?_
  obtain ⟨q1, hq1, hf⟩ := ob hf
  refine z_nA (t := 20) (N' := 140) (atype := .int) (ty0 := .int) hC hK hB hW wArr_int rfl rfl (by decide) (by decide) (by decide) rfl (fun h => h) (by decide) hq1 (Nat.le_of_ble_eq_true rfl) (Nat.le_of_ble_eq_true rfl) dX12_init_8 (fun H hW => ?_)
  obtain ⟨M2, hM2, hf⟩ := ob hf
  refine z_pF hC hK hAd hW hmn cfX12 (by decide) wF_X12_7 rfl rfl rfl rfl rfl rfl hM2 dX12_init_10 (fun H locs hW => ?_)
  refine lv_aload_n hx hb dX12_init_13 rfl (lv_at hl 0 rfl) ?_
  refine lv_bipush (v := (6 : Int32)) hx hb dX12_init_14 (by decide) ?_
  obtain ⟨q3, hq3, hf⟩ := ob hf
  refine z_nA (t := 20) (N' := 6) (atype := .int) (ty0 := .int) hC hK hB hW wArr_int rfl rfl (by decide) (by decide) (by decide) rfl (fun h => h) (by decide) hq3 (Nat.le_of_ble_eq_true rfl) (Nat.le_of_ble_eq_true rfl) dX12_init_16 (fun H hW => ?_)
  obtain ⟨M4, hM4, hf⟩ := ob hf
  refine z_pF hC hK hAd hW hmn cfX12 (by decide) wF_X12_13 rfl rfl rfl rfl rfl rfl hM4 dX12_init_18 (fun H locs hW => ?_)
  refine lv_aload_n hx hb dX12_init_21 rfl (lv_at hl 0 rfl) ?_
  refine lv_bipush (v := (12 : Int32)) hx hb dX12_init_22 (by decide) ?_
  obtain ⟨q5, hq5, hf⟩ := ob hf
  refine z_nA (t := 20) (N' := 12) (atype := .int) (ty0 := .int) hC hK hB hW wArr_int rfl rfl (by decide) (by decide) (by decide) rfl (fun h => h) (by decide) hq5 (Nat.le_of_ble_eq_true rfl) (Nat.le_of_ble_eq_true rfl) dX12_init_24 (fun H hW => ?_)
  obtain ⟨M6, hM6, hf⟩ := ob hf
  refine z_pF hC hK hAd hW hmn cfX12 (by decide) wF_X12_16 rfl rfl rfl rfl rfl rfl hM6 dX12_init_26 (fun H locs hW => ?_)
  refine lv_aload_n hx hb dX12_init_29 rfl (lv_at hl 0 rfl) ?_
  refine lv_bipush (v := (12 : Int32)) hx hb dX12_init_30 (by decide) ?_
  obtain ⟨q7, hq7, hf⟩ := ob hf
  refine z_nA (t := 20) (N' := 12) (atype := .int) (ty0 := .int) hC hK hB hW wArr_int rfl rfl (by decide) (by decide) (by decide) rfl (fun h => h) (by decide) hq7 (Nat.le_of_ble_eq_true rfl) (Nat.le_of_ble_eq_true rfl) dX12_init_32 (fun H hW => ?_)
  obtain ⟨M8, hM8, hf⟩ := ob hf
  refine z_pF hC hK hAd hW hmn cfX12 (by decide) wF_X12_19 rfl rfl rfl rfl rfl rfl hM8 dX12_init_34 (fun H locs hW => ?_)
  refine lv_aload_n hx hb dX12_init_37 rfl (lv_at hl 0 rfl) ?_
  refine lv_bipush (v := (12 : Int32)) hx hb dX12_init_38 (by decide) ?_
  obtain ⟨q9, hq9, hf⟩ := ob hf
  refine z_nA (t := 20) (N' := 12) (atype := .int) (ty0 := .int) hC hK hB hW wArr_int rfl rfl (by decide) (by decide) (by decide) rfl (fun h => h) (by decide) hq9 (Nat.le_of_ble_eq_true rfl) (Nat.le_of_ble_eq_true rfl) dX12_init_40 (fun H hW => ?_)
  obtain ⟨M10, hM10, hf⟩ := ob hf
  refine z_pF hC hK hAd hW hmn cfX12 (by decide) wF_X12_22 rfl rfl rfl rfl rfl rfl hM10 dX12_init_42 (fun H locs hW => ?_)
  refine lv_aload_n hx hb dX12_init_45 rfl (lv_at hl 0 rfl) ?_
  refine lv_bipush (v := (25 : Int32)) hx hb dX12_init_46 (by decide) ?_
  obtain ⟨q11, hq11, hf⟩ := ob hf
  refine z_nA (t := 20) (N' := 25) (atype := .int) (ty0 := .int) hC hK hB hW wArr_int rfl rfl (by decide) (by decide) (by decide) rfl (fun h => h) (by decide) hq11 (Nat.le_of_ble_eq_true rfl) (Nat.le_of_ble_eq_true rfl) dX12_init_48 (fun H hW => ?_)
  obtain ⟨M12, hM12, hf⟩ := ob hf
  refine z_pF hC hK hAd hW hmn cfX12 (by decide) wF_X12_25 rfl rfl rfl rfl rfl rfl hM12 dX12_init_50 (fun H locs hW => ?_)
  refine lv_aload_n hx hb dX12_init_53 rfl (lv_at hl 0 rfl) ?_
  refine lv_bipush (v := (25 : Int32)) hx hb dX12_init_54 (by decide) ?_
  obtain ⟨q13, hq13, hf⟩ := ob hf
  refine z_nA (t := 20) (N' := 25) (atype := .int) (ty0 := .int) hC hK hB hW wArr_int rfl rfl (by decide) (by decide) (by decide) rfl (fun h => h) (by decide) hq13 (Nat.le_of_ble_eq_true rfl) (Nat.le_of_ble_eq_true rfl) dX12_init_56 (fun H hW => ?_)
  obtain ⟨M14, hM14, hf⟩ := ob hf
  refine z_pF hC hK hAd hW hmn cfX12 (by decide) wF_X12_28 rfl rfl rfl rfl rfl rfl hM14 dX12_init_58 (fun H locs hW => ?_)
  refine lv_aload_n hx hb dX12_init_61 rfl (lv_at hl 0 rfl) ?_
  refine lv_bipush (v := (50 : Int32)) hx hb dX12_init_62 (by decide) ?_
  obtain ⟨q15, hq15, hf⟩ := ob hf
  refine z_nA (t := 20) (N' := 50) (atype := .int) (ty0 := .int) hC hK hB hW wArr_int rfl rfl (by decide) (by decide) (by decide) rfl (fun h => h) (by decide) hq15 (Nat.le_of_ble_eq_true rfl) (Nat.le_of_ble_eq_true rfl) dX12_init_64 (fun H hW => ?_)
  obtain ⟨M16, hM16, hf⟩ := ob hf
  refine z_pF hC hK hAd hW hmn cfX12 (by decide) wF_X12_31 rfl rfl rfl rfl rfl rfl hM16 dX12_init_66 (fun H locs hW => ?_)
  refine lv_aload_n hx hb dX12_init_69 rfl (lv_at hl 0 rfl) ?_
  refine lv_iconst (v := (2 : Int32)) hx hb dX12_init_70 (by decide) ?_
  obtain ⟨q17, hq17, hf⟩ := ob hf
  refine z_nA (t := 22) (N' := 2) (atype := .boolean) (ty0 := .boolean) hC hK hB hW wArr_boolean rfl rfl (by decide) (by decide) (by decide) rfl (fun h => h) (by decide) hq17 (Nat.le_of_ble_eq_true rfl) (Nat.le_of_ble_eq_true rfl) dX12_init_71 (fun H hW => ?_)
  obtain ⟨M18, hM18, hf⟩ := ob hf
  refine z_pF hC hK hAd hW hmn cfX12 (by decide) wF_X12_34 rfl rfl rfl rfl rfl rfl hM18 dX12_init_73 (fun H locs hW => ?_)
  refine lv_aload_n hx hb dX12_init_76 rfl (lv_at hl 0 rfl) ?_
  refine lv_sipush (v := (250 : Int32)) hx hb dX12_init_77 (by decide) ?_
  obtain ⟨q19, hq19, hf⟩ := ob hf
  refine z_nA (t := 20) (N' := 250) (atype := .int) (ty0 := .int) hC hK hB hW wArr_int rfl rfl (by decide) (by decide) (by decide) rfl (fun h => h) (by decide) hq19 (Nat.le_of_ble_eq_true rfl) (Nat.le_of_ble_eq_true rfl) dX12_init_80 (fun H hW => ?_)
  obtain ⟨M20, hM20, hf⟩ := ob hf
  refine z_pF hC hK hAd hW hmn cfX12 (by decide) wF_X12_38 rfl rfl rfl rfl rfl rfl hM20 dX12_init_82 (fun H locs hW => ?_)
  refine lv_aload_n hx hb dX12_init_85 rfl (lv_at hl 0 rfl) ?_
  refine lv_bipush (v := (6 : Int32)) hx hb dX12_init_86 (by decide) ?_
  obtain ⟨q21, hq21, hf⟩ := ob hf
  refine z_nA (t := 20) (N' := 6) (atype := .int) (ty0 := .int) hC hK hB hW wArr_int rfl rfl (by decide) (by decide) (by decide) rfl (fun h => h) (by decide) hq21 (Nat.le_of_ble_eq_true rfl) (Nat.le_of_ble_eq_true rfl) dX12_init_88 (fun H hW => ?_)
  obtain ⟨M22, hM22, hf⟩ := ob hf
  refine z_pF hC hK hAd hW hmn cfX12 (by decide) wF_X12_41 rfl rfl rfl rfl rfl rfl hM22 dX12_init_90 (fun H locs hW => ?_)
  refine lv_aload_n hx hb dX12_init_93 rfl (lv_at hl 0 rfl) ?_
  refine lv_bipush (v := (6 : Int32)) hx hb dX12_init_94 (by decide) ?_
  obtain ⟨q23, hq23, hf⟩ := ob hf
  refine z_nA (t := 20) (N' := 6) (atype := .int) (ty0 := .int) hC hK hB hW wArr_int rfl rfl (by decide) (by decide) (by decide) rfl (fun h => h) (by decide) hq23 (Nat.le_of_ble_eq_true rfl) (Nat.le_of_ble_eq_true rfl) dX12_init_96 (fun H hW => ?_)
  obtain ⟨M24, hM24, hf⟩ := ob hf
  refine z_pF hC hK hAd hW hmn cfX12 (by decide) wF_X12_44 rfl rfl rfl rfl rfl rfl hM24 dX12_init_98 (fun H locs hW => ?_)
  refine lv_aload_n hx hb dX12_init_101 rfl (lv_at hl 0 rfl) ?_
  refine lv_bipush (v := (6 : Int32)) hx hb dX12_init_102 (by decide) ?_
  obtain ⟨q25, hq25, hf⟩ := ob hf
  refine z_nA (t := 20) (N' := 6) (atype := .int) (ty0 := .int) hC hK hB hW wArr_int rfl rfl (by decide) (by decide) (by decide) rfl (fun h => h) (by decide) hq25 (Nat.le_of_ble_eq_true rfl) (Nat.le_of_ble_eq_true rfl) dX12_init_104 (fun H hW => ?_)
  obtain ⟨M26, hM26, hf⟩ := ob hf
  refine z_pF hC hK hAd hW hmn cfX12 (by decide) wF_X12_47 rfl rfl rfl rfl rfl rfl hM26 dX12_init_106 (fun H locs hW => ?_)
  refine lv_aload_n hx hb dX12_init_109 rfl (lv_at hl 0 rfl) ?_
  refine lv_bipush (v := (6 : Int32)) hx hb dX12_init_110 (by decide) ?_
  obtain ⟨q27, hq27, hf⟩ := ob hf
  refine z_nA (t := 20) (N' := 6) (atype := .int) (ty0 := .int) hC hK hB hW wArr_int rfl rfl (by decide) (by decide) (by decide) rfl (fun h => h) (by decide) hq27 (Nat.le_of_ble_eq_true rfl) (Nat.le_of_ble_eq_true rfl) dX12_init_112 (fun H hW => ?_)
  obtain ⟨M28, hM28, hf⟩ := ob hf
  refine z_pF hC hK hAd hW hmn cfX12 (by decide) wF_X12_50 rfl rfl rfl rfl rfl rfl hM28 dX12_init_114 (fun H locs hW => ?_)
  refine lv_aload_n hx hb dX12_init_117 rfl (lv_at hl 0 rfl) ?_
  refine lv_bipush (v := (6 : Int32)) hx hb dX12_init_118 (by decide) ?_
  obtain ⟨q29, hq29, hf⟩ := ob hf
  refine z_nA (t := 20) (N' := 6) (atype := .int) (ty0 := .int) hC hK hB hW wArr_int rfl rfl (by decide) (by decide) (by decide) rfl (fun h => h) (by decide) hq29 (Nat.le_of_ble_eq_true rfl) (Nat.le_of_ble_eq_true rfl) dX12_init_120 (fun H hW => ?_)
  obtain ⟨M30, hM30, hf⟩ := ob hf
  refine z_pF hC hK hAd hW hmn cfX12 (by decide) wF_X12_53 rfl rfl rfl rfl rfl rfl hM30 dX12_init_122 (fun H locs hW => ?_)
  refine lv_aload_n hx hb dX12_init_125 rfl (lv_at hl 0 rfl) ?_
  refine lv_bipush (v := (6 : Int32)) hx hb dX12_init_126 (by decide) ?_
  obtain ⟨q31, hq31, hf⟩ := ob hf
  refine z_nA (t := 20) (N' := 6) (atype := .int) (ty0 := .int) hC hK hB hW wArr_int rfl rfl (by decide) (by decide) (by decide) rfl (fun h => h) (by decide) hq31 (Nat.le_of_ble_eq_true rfl) (Nat.le_of_ble_eq_true rfl) dX12_init_128 (fun H hW => ?_)
  obtain ⟨M32, hM32, hf⟩ := ob hf
  refine z_pF hC hK hAd hW hmn cfX12 (by decide) wF_X12_56 rfl rfl rfl rfl rfl rfl hM32 dX12_init_130 (fun H locs hW => ?_)
  refine lv_aload_n hx hb dX12_init_133 rfl (lv_at hl 0 rfl) ?_
  have hW := hW.1
  obtain ⟨M33, hM33, hf⟩ := ob hf
  refine k_vV hC hK hW cfX12 (c_X12_begins l hAd (cv_s hM33).2) (cv_s hM33).1 my_X12_begins wI_X12_begins wQ_X12_begins wM_X12_59 ⟨Nat.le_of_ble_eq_true rfl, Nat.le_of_ble_eq_true rfl⟩ rfl hl.1 rfl (Nat.le_of_ble_eq_true rfl) ⟨Nat.le_of_ble_eq_true rfl, Nat.le_of_ble_eq_true rfl⟩ dX12_init_134 (fun H locs hW => ?_)
  refine lv_aload_n hx hb dX12_init_137 rfl (lv_at hl 0 rfl) ?_
  obtain ⟨M34, hM34, hf⟩ := ob hf
  refine k_vV hC hK hW cfX12 (c_X12_settles l hAd (cv_s hM34).2) (cv_s hM34).1 my_X12_settles wI_X12_settles wQ_X12_settles wM_X12_62 ⟨Nat.le_of_ble_eq_true rfl, Nat.le_of_ble_eq_true rfl⟩ rfl hl.1 rfl (Nat.le_of_ble_eq_true rfl) ⟨Nat.le_of_ble_eq_true rfl, Nat.le_of_ble_eq_true rfl⟩ dX12_init_138 (fun H locs hW => ?_)
  exact r_vret hC hr hlk hW hf dX12_init_141
