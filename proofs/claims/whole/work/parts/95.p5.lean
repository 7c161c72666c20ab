theorem z10 : ¬ (1 : Int32) = 0 := by decide
/-! ===== dish, sees, who, look ===== -/
section S5
variable {σ : St} {p : Nat} {kn : Nat → Nat} {I : Nat → Nat → Int32} {L : Nat → Nat → Int64}
theorem m119 {R : Nat → Nat → Option Nat} {j : Nat} (h : j < 25) : aI 20 (129, I, R, L) 119 (nI j) = some (I 119 j) := aI_n (k := 119) (n := 25) (by decide) rfl h (by decide)
theorem m117 {R : Nat → Nat → Option Nat} {j : Nat} (h : j < 12) : aI 20 (129, I, R, L) 117 (nI j) = some (I 117 j) := aI_n (k := 117) (n := 12) (by decide) rfl h (by decide)
theorem c30 {R : Nat → Nat → Option Nat} {j : Nat} (h : j < 6) : aI 20 (129, I, R, L) 30 (nI j) = some (I 30 j) := aI_n (k := 30) (n := 6) (by decide) rfl h (by decide)
theorem c31 {R : Nat → Nat → Option Nat} {j : Nat} (h : j < 6) : aI 20 (129, I, R, L) 31 (nI j) = some (I 31 j) := aI_n (k := 31) (n := 6) (by decide) rfl h (by decide)
theorem r291 : gR (129, I, Rof p kn, L) 29 7 1 = some 30 := n_gR isN_29 (by decide) (by decide)
theorem r292 : gR (129, I, Rof p kn, L) 29 7 2 = some 31 := n_gR isN_29 (by decide) (by decide)
theorem r293 : gR (129, I, Rof p kn, L) 29 7 3 = some 32 := n_gR isN_29 (by decide) (by decide)
theorem r294 : gR (129, I, Rof p kn, L) 29 7 4 = some 33 := n_gR isN_29 (by decide) (by decide)
theorem seatBefore_c {P : PtyS} {w : NowS} {c k d : Nat} (hc : isP c) (hk : isN k) (hP : PtyC I c P) (hw : NowC I k P.2.1 P.2.2.1 w) (okP : PtyOk P) (ok : NowOk P.1 P.2.1 P.2.2.1 w) (hd : d < P.2.2.1) : f_X8_seatBefore c k (nI d) (129, I, Rof p kn, L) = some (nI ((w.2.2.1 d + w.1) % P.1)) := by
  obtain ⟨⟨hn3, hn9, hG, hD⟩, -, -⟩ := id okP
  have h1 := (ok.2.1 d hd).2
  have h2 := ok.1
  have a2 : aI 20 (129, I, Rof p kn, L) (k + 2) (nI d) = some (nI (w.2.2.1 d)) := by rw [n_aI hk (by decide) (by decide) (by omega), (hw.2.1 d hd).2]
  unfold f_X8_seatBefore
  simp only [n_gR hk (show 1 ≤ 2 by decide) (show 2 ≤ 4 by decide), bs, a2, n_gI hk, hw.1, p_cv hc, nI_add]
  rw [around_c hc hP okP (fm_pos hn3 hn9 (by omega))]
  rfl
set_option maxRecDepth 100000 in
theorem st_dish (M : Mem) (a1 a2 : Int32) (h : Rel M) : StepP (f_X11_dish 0 a1 a2 M) M (fun M => f_X12_dish 112 a1 a2 M) Rel := by
  obtain ⟨σ, p, kn, I, L, rfl, ok, hC, hM⟩ := h
  have hp := isP_of hC.1.1
  have hM' := RM_th ok hM
  obtain ⟨hn3, hn9, hG, hD⟩ := okn ok
  rcases ixn a1 (sD σ) (by omega) with hx | ⟨d, hd, rfl⟩
  · refine ⟨-1, (129, up2 I 112 0 0, Rof p kn, L), ?_, ?_, Rel_th ok hC hM⟩
    · unfold f_X11_dish
      simp only [c_cv, isD_c_no hC ok hx, bs, ↓reduceIte]
    · show f_X12_dish 112 _ _ _ = _
      unfold f_X12_dish
      simp only [m_pI, bs, m_cv, isD_m_no hM' ok hx, ↓reduceIte]
  · rcases ixn a2 5 (by decide) with hx | ⟨j, hj, rfl⟩
    · refine ⟨-1, (129, up2 I 112 0 0, Rof p kn, L), ?_, ?_, Rel_th ok hC hM⟩
      · unfold f_X11_dish
        simp only [c_cv, isD_c_yes hC ok hd, bs, z10, ↓reduceIte, no_0 hx (by decide), no_1 hx (by decide), no_2 hx (by decide), no_3 hx (by decide), no_4 hx (by decide)]
      · show f_X12_dish 112 _ _ _ = _
        unfold f_X12_dish
        simp only [m_pI, bs, m_cv, isD_m_yes hM' ok hd, z10, ↓reduceIte, in5_no hx]
    · have e1 : (1 : Int32) + nI d = nI (1 + d) := nI_add 1 d
      have e7 : (7 : Int32) + nI d = nI (7 + d) := nI_add 7 d
      have mw := hM'.2.1.2.1 d hd
      rw [Nat.zero_add, Nat.zero_add] at mw
      have w2 : up2 I 112 0 0 119 0 = nI (sW σ).1 := hM'.2.1.1
      have k1 : I 30 d = nI ((sW σ).2.1 d) ∧ I 31 d = nI ((sW σ).2.2.1 d) := hC.2.2.1.2.1 d hd
      have q3 : aI 20 (129, I, Rof p kn, L) (p + 3) (nI d) = some (nI ((sP σ).2.2.2.2.2 d)) := by rw [p_aI hp (by decide) (by decide) (by omega), hC.2.1.2.2 d hd]
      have b7 : (sW σ).2.2.1 d < sn σ := (ok.2.1.2.1 d hd).2
      have b0 : (sW σ).1 < sn σ := ok.2.1.1
      rcases (show j = 0 ∨ j = 1 ∨ j = 2 ∨ j = 3 ∨ j = 4 by omega) with rfl | rfl | rfl | rfl | rfl
      · refine ⟨nI ((sW σ).2.2.1 d), (129, up2 I 112 0 0, Rof p kn, L), ?_, ?_, Rel_th ok hC hM⟩
        · unfold f_X11_dish
          simp only [c_cv, isD_c_yes hC ok hd, bs, z10, ↓reduceIte]
          rw [if_pos (by decide)]; simp only [c_r5, bs, r292, c31 (show d < 6 by omega), k1.2]
        · show f_X12_dish 112 _ _ _ = _
          unfold f_X12_dish
          simp only [m_pI, bs, m_cv, isD_m_yes hM' ok hd, z10, ↓reduceIte, in5_yes hj]
          rw [if_neg (by decide), if_pos (by decide)]; simp only [m_r14, bs, e7, m119 (show 7 + d < 25 by omega), mw.2]
      · refine ⟨nI ((sW σ).2.1 d), (129, up2 I 112 0 0, Rof p kn, L), ?_, ?_, Rel_th ok hC hM⟩
        · unfold f_X11_dish
          simp only [c_cv, isD_c_yes hC ok hd, bs, z10, ↓reduceIte]
          rw [if_neg (by decide), if_pos (by decide)]; simp only [c_r5, bs, r291, c30 (show d < 6 by omega), k1.1]
        · show f_X12_dish 112 _ _ _ = _
          unfold f_X12_dish
          simp only [m_pI, bs, m_cv, isD_m_yes hM' ok hd, z10, ↓reduceIte, in5_yes hj]
          rw [if_neg (by decide), if_neg (by decide), if_pos (by decide)]; simp only [m_r14, bs, e1, m119 (show 1 + d < 25 by omega), mw.1]
      · refine ⟨nI ((sP σ).2.2.2.2.2 d), (129, up2 I 112 0 0, Rof p kn, L), ?_, ?_, Rel_th ok hC hM⟩
        · unfold f_X11_dish
          simp only [c_cv, isD_c_yes hC ok hd, bs, z10, ↓reduceIte]
          rw [if_neg (by decide), if_neg (by decide), if_pos (by decide)]; simp only [c_r4, bs, p_r5 hp, q3]
        · show f_X12_dish 112 _ _ _ = _
          unfold f_X12_dish
          simp only [m_pI, bs, m_cv, isD_m_yes hM' ok hd, z10, ↓reduceIte, in5_yes hj]
          rw [if_neg (by decide), if_neg (by decide), if_neg (by decide)]; simp only [m_r12, bs, m117 (show d < 12 by omega), hM'.1.2.2 d hd]
      · refine ⟨nI (((sW σ).2.2.1 d + (sW σ).1) % sn σ), (129, up2 I 112 0 0, Rof p kn, L), ?_, ?_, Rel_th ok hC hM⟩
        · unfold f_X11_dish
          simp only [c_cv, isD_c_yes hC ok hd, bs, z10, ↓reduceIte]
          rw [if_neg (by decide), if_neg (by decide), if_neg (by decide), if_pos (by decide)]; simp only [c_r4, c_r5, bs, p_cv hp, seatBefore_c hp isN_29 hC.2.1 hC.2.2.1 ok.1 ok.2.1 hd]
        · show f_X12_dish 112 _ _ _ = _
          unfold f_X12_dish
          simp only [m_pI, bs, m_cv, isD_m_yes hM' ok hd, z10, ↓reduceIte, in5_yes hj]
          rw [if_pos (by decide), if_pos (by decide)]; simp only [m_r14, m_r9, bs, e7, m119 (show 7 + d < 25 by omega), mw.2, turn0, w2, many0, hM'.1.1.1, nI_add]
          rw [rm_nat (by omega) (show 0 < (sP σ).1 from by have : 3 ≤ (sP σ).1 := hn3; omega) (by have : (sP σ).1 ≤ 9 := hn9; omega)]; rfl
      · refine ⟨fOr (fun g => rch (sP σ).1 ((sP σ).2.2.2.1 g) ((sW σ).2.2.2.1 g) ((sW σ).2.2.1 d) (sW σ).1) (sP σ).2.1, (129, up2 I 112 0 0, Rof p kn, L), ?_, ?_, Rel_th ok hC hM⟩
        · unfold f_X11_dish
          simp only [c_cv, isD_c_yes hC ok hd, bs, z10, ↓reduceIte]
          rw [if_neg (by decide), if_neg (by decide), if_neg (by decide), if_neg (by decide), if_pos (by decide)]; simp only [c_r4, c_r5, bs, p_cv hp, n_gI isN_29, hC.2.2.1.1, whoReach_c hp isN_29 hC.2.1 hC.2.2.1 ok.1 ok.2.1 hd b0]
        · show f_X12_dish 112 _ _ _ = _
          unfold f_X12_dish
          simp only [m_pI, bs, m_cv, isD_m_yes hM' ok hd, z10, ↓reduceIte, in5_yes hj]
          rw [if_pos (by decide), if_neg (by decide)]; simp only [m_r14, bs, turn0, w2, whoReach_m hM'.1 hM'.2.1 ok.1 ok.2.1 hd b0]
theorem isBit_no {x : Int32} {M : Mem} (h : x < 0 ∨ nI 2 ≤ x) : f_X11_isBit x M = some 0 := by
  unfold f_X11_isBit
  rw [if_neg (no_0 h (by decide)), if_neg (no_1 h (by decide))]; rfl
theorem isBit_yes {j : Nat} {M : Mem} (h : j < 2) : f_X11_isBit (nI j) M = some 1 := by
  unfold f_X11_isBit f_X11_isBit_9
  rcases (show j = 0 ∨ j = 1 by omega) with rfl | rfl
  · rw [if_pos (by decide)]; rfl
  · rw [if_neg (by decide), if_pos (by decide)]; rfl
theorem c42 {R : Nat → Nat → Option Nat} {j : Nat} {v : Int32} (h : j < 6) : sI (129, I, R, L) 42 (nI j) v = some (129, up2 I 42 j v, R, L) := sI_n (k := 42) (n := 6) (by decide) rfl h (by decide)
theorem c43 {R : Nat → Nat → Option Nat} {j : Nat} {v : Int32} (h : j < 6) : sI (129, I, R, L) 43 (nI j) v = some (129, up2 I 43 j v, R, L) := sI_n (k := 43) (n := 6) (by decide) rfl h (by decide)
theorem c44 {R : Nat → Nat → Option Nat} {j b : Nat} (h : j < 6) (hb : b < 2) : sZ (129, I, R, L) 44 (nI j) (nI b) = some (129, up2 I 44 j (nI b), R, L) := by
  unfold sZ
  rw [show vp_nar .boolean (nI b) = nI b by rcases (show b = 0 ∨ b = 1 by omega) with rfl | rfl <;> decide]
  exact sA_n (k := 44) (n := 6) (by decide) rfl h (by decide)
theorem m123 {R : Nat → Nat → Option Nat} {j : Nat} {v : Int32} (h : j < 6) : sI (129, I, R, L) 123 (nI j) v = some (129, up2 I 123 j v, R, L) := sI_n (k := 123) (n := 6) (by decide) rfl h (by decide)
theorem m124 {R : Nat → Nat → Option Nat} {j : Nat} {v : Int32} (h : j < 6) : sI (129, I, R, L) 124 (nI j) v = some (129, up2 I 124 j v, R, L) := sI_n (k := 124) (n := 6) (by decide) rfl h (by decide)
theorem m125 {R : Nat → Nat → Option Nat} {j : Nat} {v : Int32} (h : j < 6) : sI (129, I, R, L) 125 (nI j) v = some (129, up2 I 125 j v, R, L) := sI_n (k := 125) (n := 6) (by decide) rfl h (by decide)
set_option maxRecDepth 100000 in
theorem st_sees (M : Mem) (a1 a2 a3 : Int32) (h : Rel M) : StepI (f_X11_sees 0 a1 a2 a3 M) (fun M => f_X12_sees 112 a1 a2 a3 M) Rel := by
  obtain ⟨σ, p, kn, I, L, rfl, ok, hC, hM⟩ := h
  have hp := isP_of hC.1.1
  have hM' := RM_th ok hM
  obtain ⟨hn3, hn9, hG, hD⟩ := okn ok
  rcases ixn a1 (sD σ) (by omega) with hx | ⟨d, hd, rfl⟩
  · refine stepI (r := -1) (I1 := I) (R1 := Rof p kn) (L1 := L) ?_ ?_ (Rel_th ok hC hM)
    · unfold f_X11_sees
      simp only [c_cv, isD_c_no hC ok hx, bs, ↓reduceIte]
    · show f_X12_sees 112 _ _ _ _ = _
      unfold f_X12_sees
      simp only [m_pI, bs, m_cv, isD_m_no hM' ok hx, ↓reduceIte]
  rcases ixn a2 (sn σ) (by omega) with hx | ⟨t, ht, rfl⟩
  · refine stepI (r := -1) (I1 := I) (R1 := Rof p kn) (L1 := L) ?_ ?_ (Rel_th ok hC hM)
    · unfold f_X11_sees
      simp only [c_cv, isD_c_yes hC ok hd, isT_c_no hC ok hx, z10, bs, ↓reduceIte]
    · show f_X12_sees 112 _ _ _ _ = _
      unfold f_X12_sees
      simp only [m_pI, bs, m_cv, isD_m_yes hM' ok hd, isT_m_no hM' ok hx, z10, ↓reduceIte]
  rcases ixn a3 2 (by decide) with hx | ⟨b, hb, rfl⟩
  · refine stepI (r := -1) (I1 := I) (R1 := Rof p kn) (L1 := L) ?_ ?_ (Rel_th ok hC hM)
    · unfold f_X11_sees
      simp only [c_cv, isD_c_yes hC ok hd, isT_c_yes hC ok ht, isBit_no hx, z10, bs, ↓reduceIte]
    · show f_X12_sees 112 _ _ _ _ = _
      unfold f_X12_sees
      simp only [m_pI, bs, m_cv, isD_m_yes hM' ok hd, isT_m_yes hM' ok ht, in2_no hx, z10, ↓reduceIte]
  have hS := hC.2.2.2.2.2.1.1
  have mS := hM.2.2.2.2.1.1
  have mS' : up2 I 112 0 0 112 22 = nI (sS σ) := mS
  have hS6 : sS σ ≤ 6 := ok.2.2.2.2.1.1
  by_cases hf : sS σ = 6
  · have c1 : ¬ nI (sS σ) < (6 : Int32) := by rw [hf]; decide
    have c2 : nI (sS σ) = (6 : Int32) := by rw [hf]; rfl
    refine stepI (r := -3) (I1 := I) (R1 := Rof p kn) (L1 := L) ?_ ?_ (Rel_th ok hC hM)
    · unfold f_X11_sees
      simp only [c_cv, isD_c_yes hC ok hd, isT_c_yes hC ok ht, isBit_yes hb, z10, bs, ↓reduceIte, c_gI, hS, c1]
    · show f_X12_sees 112 _ _ _ _ = _
      unfold f_X12_sees
      simp only [m_pI, bs, m_cv, isD_m_yes hM' ok hd, isT_m_yes hM' ok ht, in2_yes hb, z10, ↓reduceIte, m_gI, mS', c2]
  · have h6 : sS σ < 6 := by omega
    have c1 : nI (sS σ) < (6 : Int32) := nI_lt (b := 6) h6 (by decide)
    have c2 : ¬ nI (sS σ) = (6 : Int32) := fun z => hf ((nI_eq (a := sS σ) (b := 6) (by omega) (by decide)).mp z)
    have e1 : f_X11_sees 0 (nI d) (nI t) (nI b) (129, I, Rof p kn, L) = some (nI (sS σ + 1), (129, up2 (up2 (up2 (up2 I 42 (sS σ) (nI d)) 43 (sS σ) (nI t)) 44 (sS σ) (nI b)) 0 14 (nI (sS σ + 1)), Rof p kn, L)) := by
      unfold f_X11_sees f_X11_sees_75
      simp only [c_cv, isD_c_yes hC ok hd, isT_c_yes hC ok ht, isBit_yes hb, z10, bs, ↓reduceIte, c_gI, hS, c1, c_r11, c_r12, c_r13, c42 h6, c43 h6, ul, Nat.reduceLT]
      rcases (show b = 0 ∨ b = 1 by omega) with rfl | rfl
      · rw [if_neg (by decide)]
        have z := c44 (I := up2 (up2 I 42 (sS σ) (nI d)) 43 (sS σ) (nI t)) (L := L) (R := Rof p kn) (j := sS σ) (b := 0) h6 (by decide)
        have z' : sZ (129, up2 (up2 I 42 (sS σ) (nI d)) 43 (sS σ) (nI t), Rof p kn, L) 44 (nI (sS σ)) 0 = _ := z
        simp only [z', bs, c_gI, c_pI, ul, Nat.reduceLT, hS, nI_1, us]
      · rw [if_pos (by decide)]
        have z := c44 (I := up2 (up2 I 42 (sS σ) (nI d)) 43 (sS σ) (nI t)) (L := L) (R := Rof p kn) (j := sS σ) (b := 1) h6 (by decide)
        have z' : sZ (129, up2 (up2 I 42 (sS σ) (nI d)) 43 (sS σ) (nI t), Rof p kn, L) 44 (nI (sS σ)) 1 = _ := z
        simp only [z', bs, c_gI, c_pI, ul, Nat.reduceLT, hS, nI_1, us]
    generalize hI1 : up2 (up2 (up2 (up2 I 42 (sS σ) (nI d)) 43 (sS σ) (nI t)) 44 (sS σ) (nI b)) 0 14 (nI (sS σ + 1)) = I1 at e1
    have hhi : hiEq I I1 := by rw [← hI1]; exact (((hiEq.rf.up (by decide)).up (by decide)).up (by decide)).up (by decide)
    have hM1 : RM σ I1 L := RM_hi hhi hiEq.rf ok hM
    have hM1' := RM_th ok hM1
    have mS1 : up2 I1 112 0 0 112 22 = nI (sS σ) := hM1'.2.2.2.2.1.1
    have e2 : f_X12_sees 112 (nI d) (nI t) (nI b) (129, I1, Rof p kn, L) = some (nI (sS σ + 1), (129, up2 (up2 (up2 (up2 (up2 I1 112 0 0) 123 (sS σ) (nI d)) 124 (sS σ) (nI t)) 125 (sS σ) (nI b)) 112 22 (nI (sS σ + 1)), Rof p kn, L)) := by
      unfold f_X12_sees
      simp only [m_pI, bs, m_cv, isD_m_yes hM1' ok hd, isT_m_yes hM1' ok ht, in2_yes hb, z10, ↓reduceIte, m_gI, mS1, c2, m_r19, m_r20, m_r21, m123 h6, m124 h6, m125 h6, ul, Nat.reduceLT, nI_1, us]
    have ok' : SOk (setS σ (sS σ + 1) (fun i => if i = sS σ then d else ssd σ i) (fun i => if i = sS σ then t else sst σ i) (fun i => if i = sS σ then b else ssr σ i)) := SOk_S ok h6 (fun i hi => by
      by_cases z : i = sS σ
      · simp only [z, ↓reduceIte]; exact ⟨hd, ht, by omega⟩
      · simp only [z, ↓reduceIte]; exact ok.2.2.2.2.1.2 i (by omega))
    refine stepI e1 e2 ⟨_, p, kn, _, _, rfl, ok', ?_, ?_⟩
    · refine RC_lo (I := I1) (((((loEq.rf.up (by decide)).up (by decide)).up (by decide)).up (by decide)).up (by decide)) loEq.rf ok' (RC_S hC ok (fun a b ha hn => by rw [← hI1]; simp only [up2_e]; repeat rw [if_neg (by omega)]) rfl ?_)
      rw [← hI1]
      refine ⟨us, fun i hi => ?_⟩
      simp only [up2_e, Nat.reduceEqDiff, false_and, true_and, ↓reduceIte]
      by_cases z : i = sS σ
      · simp [z]
      · simp only [z, ↓reduceIte]
        have := hC.2.2.2.2.2.1.2 i (by omega)
        simpa using this
    · refine RM_S hM1 ok (fun a b ha hn => by simp only [up2_e]; repeat rw [if_neg (by omega)]) rfl ⟨us, fun i hi => ?_⟩
      simp only [up2_e, Nat.reduceEqDiff, false_and, true_and, ↓reduceIte]
      by_cases z : i = sS σ
      · simp [z]
      · simp only [z, ↓reduceIte]
        have := hM1.2.2.2.2.1.2 i (by omega)
        simpa using this
end S5
