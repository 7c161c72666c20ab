/-! ===== keep, back ===== -/
section S9
variable {σ : St} {p : Nat} {kn : Nat → Nat} {I : Nat → Nat → Int32} {L : Nat → Nat → Int64}
theorem isIm_no {x : Int32} {M : Mem} (h : x < 0 ∨ nI 2 ≤ x) : f_X11_isImage 0 x M = some 0 := by
  unfold f_X11_isImage f_X11_isImage_13
  by_cases h0 : x < 0
  · rw [if_pos h0]; rfl
  · rw [if_neg h0, if_pos (show (2 : Int32) ≤ x from h.resolve_left h0)]; rfl
theorem isIm_yes {j : Nat} {M : Mem} (h : j < 2) : f_X11_isImage 0 (nI j) M = some 1 := by
  unfold f_X11_isImage
  rw [if_neg (nI_pos (by omega)), if_neg (show ¬ (2 : Int32) ≤ nI j from nI_ge (b := 2) h (by decide))]; rfl
theorem k40 {i : Nat} (hi : i < 2) : aR 23 (129, I, Rof p kn, L) 40 (nI i) = some (96 + 5 * i) := by
  rw [aR_n (k := 40) (n := 2) (by decide) rfl hi (by decide)]
  rcases (show i = 0 ∨ i = 1 by omega) with rfl | rfl <;> rfl
theorem isN_im {i : Nat} (hi : i < 2) : isN (96 + 5 * i) := by
  have := isN_kn (j := 10 + i) (by omega)
  rw [show 46 + 5 * (10 + i) = 96 + 5 * i by omega] at this
  exact this
theorem sZ_1 {R : Nat → Nat → Option Nat} {k j n : Nat} (hk : k < 129) (hl : lay k = (22, n)) (hj : j < n) (hn : n ≤ 1000) : sZ (129, I, R, L) k (nI j) 1 = some (129, up2 I k j 1, R, L) := by
  unfold sZ
  rw [show vp_nar .boolean 1 = 1 by decide]
  exact sA_n hk hl hj hn
theorem st_keep (M : Mem) (a1 : Int32) (h : Rel M) : StepI (f_X11_keep 0 a1 M) (fun M => f_X12_keep 112 a1 M) Rel := by
  obtain ⟨σ, p, kn, I, L, rfl, ok, hC, hM⟩ := h
  have hM' := RM_th ok hM
  obtain ⟨hn3, hn9, hG, hD⟩ := okn ok
  rcases ixn a1 2 (by decide) with hx | ⟨i, hi, rfl⟩
  · refine stepI (r := -1) (I1 := I) (R1 := Rof p kn) (L1 := L) ?_ ?_ (Rel_th ok hC hM)
    · unfold f_X11_keep
      simp only [c_cv, isIm_no hx, bs, ↓reduceIte]
    · show f_X12_keep 112 _ _ = _
      unfold f_X12_keep
      simp only [m_pI, bs, in2_no hx, ↓reduceIte]
  · obtain ⟨I0, b1, f1, f2, f3⟩ := become_c (p := p) (kn := kn) (I := I) (L := L) (k := 96 + 5 * i) (j := 29) (isN_im hi) isN_29 (by omega)
    have t0 : up2 I0 41 i 1 29 0 = nI (sW σ).1 := by rw [up2_e, if_neg (by omega), f1 29 0 (by omega)]; exact hC.2.2.1.1
    have e1 : f_X11_keep 0 (nI i) (129, I, Rof p kn, L) = some (nI (sW σ).1, (129, up2 I0 41 i 1, Rof p kn, L)) := by
      unfold f_X11_keep
      simp only [c_cv, isIm_yes hi, bs, z10, ↓reduceIte, c_r9, k40 hi, c_r5, n_cv (isN_im hi), b1, c_r10, sZ_1 (k := 41) (n := 2) (by decide) rfl hi (by decide), n_gI isN_29, t0]
    generalize hI1 : up2 I0 41 i 1 = I1 at e1
    have g1 : ∀ a b, a ≠ 41 → a < 96 + 5 * i ∨ 96 + 5 * i + 4 < a → I1 a b = I a b := fun a b h1 h2 => by rw [← hI1, up2_e, if_neg (by omega)]; exact f1 a b h2
    have hhi : hiEq I I1 := fun a b ha => g1 a b (by omega) (by omega)
    have hM1 : RM σ I1 L := RM_hi hhi hiEq.rf ok hM
    have hM1' := RM_th ok hM1
    have w0 : up2 (cpK (up2 I1 112 0 0) 120 (25 * i) 119 0 25) 121 i 1 119 0 = nI (sW σ).1 := by rw [up2_e, if_neg (by omega), cpK_o (by omega)]; exact hM1'.2.1.1
    have e2 : f_X12_keep 112 (nI i) (129, I1, Rof p kn, L) = some (nI (sW σ).1, (129, up2 (cpK (up2 I1 112 0 0) 120 (25 * i) 119 0 25) 121 i 1, Rof p kn, L)) := by
      unfold f_X12_keep
      simp only [m_pI, bs, in2_yes hi, z10, ↓reduceIte]
      unfold f_X12_keep_18
      have z0 := lup0 (fun ag (s : Int32 × Mem) => f_X12_keep_18b 112 (nI i) ag s.1 s.2) (fun j => (nI j, (129, cpK (up2 I1 112 0 0) 120 (25 * i) 119 0 j, Rof p kn, L))) 25 (FU_big (by decide)) (some (nI (sW σ).1, (129, up2 (cpK (up2 I1 112 0 0) 120 (25 * i) 119 0 25) 121 i 1, Rof p kn, L))) (fun ag => ?_) (fun j hj ag => ?_)
      · rw [cpK_0] at z0; exact z0
      · show f_X12_keep_18b 112 (nI i) ag (nI 25) (129, cpK (up2 I1 112 0 0) 120 (25 * i) 119 0 25, Rof p kn, L) = _
        unfold f_X12_keep_18b
        rw [if_pos (by decide)]
        simp only [m_r16, bs, sZ_1 (k := 121) (n := 2) (by decide) rfl hi (by decide), m_r14, turn0, w0]
      · show f_X12_keep_18b 112 (nI i) ag (nI j) (129, cpK (up2 I1 112 0 0) 120 (25 * i) 119 0 j, Rof p kn, L) = ag (nI (j + 1), (129, cpK (up2 I1 112 0 0) 120 (25 * i) 119 0 (j + 1), Rof p kn, L))
        unfold f_X12_keep_18b
        rw [if_neg (show ¬ (25 : Int32) ≤ nI j from nI_ge (b := 25) hj (by decide))]
        have hv : cpK (up2 I1 112 0 0) 120 (25 * i) 119 0 j 119 j = up2 I1 112 0 0 119 (0 + j) := by rw [cpK_o (by omega), Nat.zero_add]
        simp only [m_r15, m_r14, bs, m119 hj, hv, ix25, s120 (show 25 * i + j < 50 by omega), cpK_s, nI_1]
    have ok' : SOk (setI σ (fun q => if q = i then 1 else skp σ q) (fun q => if q = i then sW σ else sim σ q)) := SOk_I ok (fun q hq => by
      by_cases z : q = i
      · simp only [z, ↓reduceIte]; exact ⟨Nat.le_refl _, fun _ => ok.2.1⟩
      · simp only [z, ↓reduceIte]; exact ok.2.2.2.1 q hq)
    refine stepI e1 e2 ⟨_, p, kn, _, _, rfl, ok', ?_, ?_⟩
    · refine RC_lo (I := I1) (fun a b ha => by rw [up2_e, if_neg (by omega), cpK_o (by omega), up2_e, if_neg (by omega)]) loEq.rf ok' (RC_I hC ok (fun a b ha hn => g1 a b (by omega) (by omega)) rfl (fun q hq => ?_))
      by_cases z : q = i
      · subst z
        simp only [↓reduceIte]
        refine ⟨by rw [← hI1]; exact us, fun _ => NowC_cp (k' := 29) hG hD ?_ (fun y b h1 h4 hb => ?_) hC.2.2.1⟩
        · rw [← hI1, up2_e, if_neg (by omega)]; exact f2
        · rw [← hI1, up2_e, if_neg (by omega)]; exact f3 y b h1 h4 hb
      · simp only [z, ↓reduceIte]
        refine ⟨by rw [← hI1, up2_e, if_neg (by omega), f1 41 q (by omega)]; exact (hC.2.2.2.2.1 q hq).1, fun hk1 => NowC_fr (fun y b hy => g1 _ b (by omega) (by omega)) ((hC.2.2.2.2.1 q hq).2 hk1)⟩
    · refine RM_I hM1 ok (fun a b ha hn => by rw [up2_e, if_neg (by omega), cpK_o (by omega), up2_e, if_neg (by omega)]) rfl (fun q hq => ?_)
      by_cases z : q = i
      · subst z
        simp only [↓reduceIte]
        refine ⟨us, fun _ => NowM_cp (c' := 119) (o' := 0) hG hD (fun b hb => ?_) hM1.2.1⟩
        rw [up2_e, if_neg (by omega), cpK_i (by omega) (by omega), up2_e, if_neg (by omega), Nat.add_sub_cancel_left]
      · simp only [z, ↓reduceIte]
        refine ⟨by rw [up2_e, if_neg (by omega), cpK_o (by omega), up2_e, if_neg (by omega)]; exact (hM1.2.2.2.1 q hq).1, fun hk1 => NowM_fr hG hD (fun b h1 h2 => by rw [up2_e, if_neg (by omega), cpK_o (by omega), up2_e, if_neg (by omega)]) ((hM1.2.2.2.1 q hq).2 hk1)⟩
theorem a41 {R : Nat → Nat → Option Nat} {j : Nat} (h : j < 2) : aI 22 (129, I, R, L) 41 (nI j) = some (I 41 j) := aI_n (k := 41) (n := 2) (by decide) rfl h (by decide)
theorem a121 {R : Nat → Nat → Option Nat} {j : Nat} (h : j < 2) : aI 22 (129, I, R, L) 121 (nI j) = some (I 121 j) := aI_n (k := 121) (n := 2) (by decide) rfl h (by decide)
theorem st_back (M : Mem) (a1 : Int32) (h : Rel M) : StepI (f_X11_back 0 a1 M) (fun M => f_X12_back 112 a1 M) Rel := by
  obtain ⟨σ, p, kn, I, L, rfl, ok, hC, hM⟩ := h
  have hM' := RM_th ok hM
  obtain ⟨hn3, hn9, hG, hD⟩ := okn ok
  rcases ixn a1 2 (by decide) with hx | ⟨i, hi, rfl⟩
  · refine stepI (r := -1) (I1 := I) (R1 := Rof p kn) (L1 := L) ?_ ?_ (Rel_th ok hC hM)
    · unfold f_X11_back
      simp only [c_cv, isIm_no hx, bs, ↓reduceIte]
    · show f_X12_back 112 _ _ = _
      unfold f_X12_back
      simp only [m_pI, bs, in2_no hx, ↓reduceIte]
  have hkc := (hC.2.2.2.2.1 i hi).1
  have hkm : up2 I 112 0 0 121 i = nI (skp σ i) := (hM'.2.2.2.1 i hi).1
  have hk1 := (ok.2.2.2.1 i hi).1
  by_cases h0 : skp σ i = 0
  · have z0 : nI (skp σ i) = 0 := by rw [h0]; rfl
    refine stepI (r := -2) (I1 := I) (R1 := Rof p kn) (L1 := L) ?_ ?_ (Rel_th ok hC hM)
    · unfold f_X11_back
      simp only [c_cv, isIm_yes hi, bs, z10, ↓reduceIte, c_r10, a41 hi, hkc, z0]
    · show f_X12_back 112 _ _ = _
      unfold f_X12_back
      simp only [m_pI, bs, in2_yes hi, z10, ↓reduceIte, m_r16, a121 hi, hkm, z0]
  · have hs1 : skp σ i = 1 := by omega
    have z0 : ¬ nI (skp σ i) = 0 := by rw [hs1]; decide
    obtain ⟨I0, b1, f1, f2, f3⟩ := become_c (p := p) (kn := kn) (I := I) (L := L) (k := 29) (j := 96 + 5 * i) isN_29 (isN_im hi) (by omega)
    have hcw := (hC.2.2.2.2.1 i hi).2 hs1
    have t0 : up2 I0 0 8 0 29 0 = nI (sim σ i).1 := by rw [up2_e, if_neg (by omega), f2]; exact hcw.1
    have e1 : f_X11_back 0 (nI i) (129, I, Rof p kn, L) = some (nI (sim σ i).1, (129, up2 I0 0 8 0, Rof p kn, L)) := by
      unfold f_X11_back
      simp only [c_cv, isIm_yes hi, bs, z10, ↓reduceIte, c_r10, a41 hi, hkc, z0, c_r5, c_r9, k40 hi, n_cv isN_29, b1, c_pI, n_gI isN_29, t0]
    generalize hI1 : up2 I0 0 8 0 = I1 at e1
    have g1 : ∀ a b, ¬ (a = 0 ∧ b = 8) → a < 29 ∨ 33 < a → I1 a b = I a b := fun a b h1 h2 => by rw [← hI1, up2_e, if_neg h1]; exact f1 a b (by omega)
    have hhi : hiEq I I1 := fun a b ha => g1 a b (by omega) (by omega)
    have hM1 : RM σ I1 L := RM_hi hhi hiEq.rf ok hM
    have hM1' := RM_th ok hM1
    have hkm1 : up2 I1 112 0 0 121 i = nI (skp σ i) := (hM1'.2.2.2.1 i hi).1
    have hmw := (hM1'.2.2.2.1 i hi).2 hs1
    have w0 : up2 (cpK (up2 I1 112 0 0) 119 0 120 (25 * i) 25) 112 18 0 119 0 = nI (sim σ i).1 := by
      rw [up2_e, if_neg (by omega), cpK_i (by omega) (by omega)]; exact hmw.1
    have e2 : f_X12_back 112 (nI i) (129, I1, Rof p kn, L) = some (nI (sim σ i).1, (129, up2 (cpK (up2 I1 112 0 0) 119 0 120 (25 * i) 25) 112 18 0, Rof p kn, L)) := by
      unfold f_X12_back
      simp only [m_pI, bs, in2_yes hi, z10, ↓reduceIte, m_r16, a121 hi, hkm1, z0]
      unfold f_X12_back_30
      have z1 := lup0 (fun ag (s : Int32 × Mem) => f_X12_back_30b 112 (nI i) ag s.1 s.2) (fun j => (nI j, (129, cpK (up2 I1 112 0 0) 119 0 120 (25 * i) j, Rof p kn, L))) 25 (FU_big (by decide)) (some (nI (sim σ i).1, (129, up2 (cpK (up2 I1 112 0 0) 119 0 120 (25 * i) 25) 112 18 0, Rof p kn, L))) (fun ag => ?_) (fun j hj ag => ?_)
      · rw [cpK_0] at z1; exact z1
      · show f_X12_back_30b 112 (nI i) ag (nI 25) (129, cpK (up2 I1 112 0 0) 119 0 120 (25 * i) 25, Rof p kn, L) = _
        unfold f_X12_back_30b
        rw [if_pos (by decide)]
        simp only [m_pI, bs, m_r14, turn0, w0]
      · show f_X12_back_30b 112 (nI i) ag (nI j) (129, cpK (up2 I1 112 0 0) 119 0 120 (25 * i) j, Rof p kn, L) = ag (nI (j + 1), (129, cpK (up2 I1 112 0 0) 119 0 120 (25 * i) (j + 1), Rof p kn, L))
        unfold f_X12_back_30b
        rw [if_neg (show ¬ (25 : Int32) ≤ nI j from nI_ge (b := 25) hj (by decide))]
        have hv : cpK (up2 I1 112 0 0) 119 0 120 (25 * i) j 120 (25 * i + j) = up2 I1 112 0 0 120 (25 * i + j) := cpK_o (by omega)
        have hs2 := cpK_s (I := up2 I1 112 0 0) (dc := 119) (d0 := 0) (sc := 120) (s0 := 25 * i) (j := j)
        rw [Nat.zero_add] at hs2
        simp only [m_r15, m_r14, bs, ix25, a120 (show 25 * i + j < 50 by omega), hv, s119 hj, hs2, nI_1]
    have ok' : SOk (setW σ (sim σ i) 0 (sun σ)) := SOk_W ok ((ok.2.2.2.1 i hi).2 hs1) (by omega) (fun q hq => absurd hq (Nat.not_lt_zero _))
    refine stepI e1 e2 ⟨_, p, kn, _, _, rfl, ok', ?_, ?_⟩
    · refine RC_lo (I := I1) (fun a b ha => by rw [up2_e, if_neg (by omega), cpK_o (by omega), up2_e, if_neg (by omega)]) loEq.rf ok' (RC_W hC ok (fun a b ha hn => g1 a b (by omega) (by omega)) rfl hC.1 ?_ ⟨by rw [← hI1]; exact us, fun q hq => absurd hq (Nat.not_lt_zero _)⟩)
      refine NowC_cp (k' := 96 + 5 * i) hG hD ?_ (fun y b h1 h4 hb => ?_) hcw
      · rw [← hI1, up2_e, if_neg (by omega)]; exact f2
      · rw [← hI1, up2_e, if_neg (by omega)]; exact f3 y b h1 h4 hb
    · refine RM_W hM1 ok (fun a b ha hn => by rw [up2_e, if_neg (by omega), cpK_o (by omega), up2_e, if_neg (by omega)]) rfl ?_ ⟨us, fun q hq => absurd hq (Nat.not_lt_zero _)⟩
      refine NowM_cp (c' := 120) (o' := 25 * i) hG hD (fun b hb => ?_) hmw
      rw [up2_e, if_neg (by omega), cpK_i (by omega) (by omega)]
      congr 1; omega
/-! ===== the state written ===== -/
theorem RC_Ws {I1 : Nat → Nat → Int32} {W' : NowS} (hC : RC σ p kn I L) (ok : SOk σ) (F : ∀ a b, a < 112 → a < 29 ∨ 33 < a → I1 a b = I a b) (hW : NowC I1 29 (sG σ) (sD σ) W') : RC (setW σ W' (sU σ) (sun σ)) p kn I1 L := by
  refine RC_W hC ok (fun a b ha hn => F a b ha (by omega)) rfl hC.1 hW ⟨by rw [F 0 8 (by omega) (by omega)]; exact hC.2.2.2.1.1, fun i hi => NowC_fr (fun q b hq => ?_) (hC.2.2.2.1.2 i hi)⟩
  have hki := kn_N hC.1 (i := i) (by have := ok.2.2.1.1; omega)
  exact F _ b (by omega) (by omega)
theorem RM_Ws {I1 : Nat → Nat → Int32} {W' : NowS} (hM : RM σ I L) (ok : SOk σ) (F : ∀ a b, 112 ≤ a → a ≠ 119 → I1 a b = I a b) (hW : NowM I1 119 0 (sG σ) (sD σ) W') : RM (setW σ W' (sU σ) (sun σ)) I1 L := by
  obtain ⟨hn3, hn9, hG, hD⟩ := okn ok
  exact RM_W hM ok (fun a b ha hn => F a b ha (by omega)) rfl hW ⟨by rw [F 112 18 (by omega) (by omega)]; exact hM.2.2.1.1, fun i hi => NowM_fr hG hD (fun b _ _ => F _ b (by omega) (by omega)) (hM.2.2.1.2 i hi)⟩
end S9
