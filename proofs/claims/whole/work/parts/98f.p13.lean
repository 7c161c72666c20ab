/-! ===== spins, steps ===== -/
theorem PtyC_fr {I I1 : Nat → Nat → Int32} {c : Nat} {P : PtyS} (h : ∀ i b, i ≤ 3 → I1 (c + i) b = I (c + i) b) (hP : PtyC I c P) : PtyC I1 c P := by
  refine ⟨⟨(h 0 0 (by omega)).trans hP.1.1, (h 0 1 (by omega)).trans hP.1.2.1, (h 0 2 (by omega)).trans hP.1.2.2⟩, fun g hg => ⟨by rw [h 1 g (by omega)]; exact (hP.2.1 g hg).1, by rw [h 2 g (by omega)]; exact (hP.2.1 g hg).2⟩, fun d hd => by rw [h 3 d (by omega)]; exact hP.2.2 d hd⟩
theorem PtyM_fr {I I1 : Nat → Nat → Int32} {P : PtyS} (h : ∀ a b, 114 ≤ a → a ≤ 117 → I1 a b = I a b) (hP : PtyM I P) : PtyM I1 P := by
  refine ⟨⟨by rw [h 114 0 (by omega) (by omega)]; exact hP.1.1, by rw [h 114 1 (by omega) (by omega)]; exact hP.1.2.1, by rw [h 114 2 (by omega) (by omega)]; exact hP.1.2.2⟩, fun g hg => ⟨by rw [h 115 g (by omega) (by omega)]; exact (hP.2.1 g hg).1, by rw [h 116 g (by omega) (by omega)]; exact (hP.2.1 g hg).2⟩, fun d hd => by rw [h 117 d (by omega) (by omega)]; exact hP.2.2 d hd⟩
def spT (n t k b : Nat) : Nat := (t + (if b = 0 then k else n - k)) % n
section S13
variable {σ : St} {p : Nat} {kn : Nat → Nat} {I : Nat → Nat → Int32} {L : Nat → Nat → Int64}
theorem z119_0 {R : Nat → Nat → Option Nat} {v : Int32} : sI (129, I, R, L) 119 (0 : Int32) v = some (129, up2 I 119 0 v, R, L) := s119 (j := 0) (by decide)
theorem spins_m {k b : Nat} (hM : RM σ I L) (ok : SOk σ) (hk1 : 1 ≤ k) (hkn : k < sn σ) (hb : b < 2) : ∃ I3, f_X12_spins 112 (nI k) (nI b) (129, I, Rof p kn, L) = f_X12_spins_75 112 (nI k) 0 0 (129, up2 I3 119 0 (nI (spT (sn σ) (sW σ).1 k b)), Rof p kn, L) ∧ RM (push σ) I3 L ∧ (∀ a b, a ≠ 122 → a ≠ 112 → I3 a b = I a b) := by
  have hM' := RM_th ok hM
  obtain ⟨hn3, hn9, hG, hD⟩ := okn ok
  obtain ⟨I3, n3, hM3, f3⟩ := notes_th (p := p) (kn := kn) hM ok
  refine ⟨I3, ?_, hM3, f3⟩
  have m0 : I3 114 0 = nI (sn σ) := hM3.1.1.1
  have t0 : I3 119 0 = nI (sW σ).1 := hM3.2.1.1
  have bt : (sW σ).1 < sn σ := ok.2.1.1
  have q0 : up2 I 112 0 0 114 0 = nI (sn σ) := hM'.1.1.1
  unfold f_X12_spins f_X12_spins_65
  simp only [m_pI, bs, m_r9, many0, q0, in1_yes (show sn σ < 2 ^ 30 by omega) hk1 hkn, in2_yes hb, z10, ↓reduceIte, m_cv, n3, m0, m_r14, turn0, t0, pk_sub (show k ≤ sn σ by omega), nI_add]
  rcases (show b = 0 ∨ b = 1 by omega) with rfl | rfl
  · rw [if_pos (by decide), rm_nat (by omega) (by omega) (by omega), bs]; simp only [z119_0, bs]; rfl
  · rw [if_neg (by decide), rm_nat (by omega) (by omega) (by omega), bs]; simp only [z119_0, bs]; rfl
theorem st_spins (M : Mem) (a1 a2 : Int32) (h : Rel M) : StepI (f_X11_spins 0 a1 a2 M) (fun M => f_X12_spins 112 a1 a2 M) Rel := by
  obtain ⟨σ, p, kn, I, L, rfl, ok, hC, hM⟩ := h
  have hp := isP_of hC.1.1
  have hp3 := hC.1.1
  have hM' := RM_th ok hM
  obtain ⟨hn3, hn9, hG, hD⟩ := okn ok
  have c0 : I p 0 = nI (sn σ) := hC.2.1.1.1
  have q0 : up2 I 112 0 0 114 0 = nI (sn σ) := hM'.1.1.1
  rcases ixn a1 (sn σ) (by omega) with hx | ⟨k, hk, rfl⟩
  · refine stepI (r := -1) (I1 := I) (R1 := Rof p kn) (L1 := L) ?_ ?_ (Rel_th ok hC hM)
    · unfold f_X11_spins
      by_cases z : a1 < 1
      · rw [if_pos z]
      · have hx0 : ¬ a1 < 0 := fun y => z (by
          have z' := Int32.lt_iff_toInt_lt.mp y
          apply Int32.lt_iff_toInt_lt.mpr
          have e0 : (0 : Int32).toInt = 0 := rfl
          have e1 : (1 : Int32).toInt = 1 := rfl
          omega)
        rw [if_neg z]
        simp only [c_r4, bs, p_gI hp, c0]
        rw [if_pos (hx.resolve_left hx0)]
    · show f_X12_spins 112 _ _ _ = _
      unfold f_X12_spins
      simp only [m_pI, bs, m_r9, many0, q0, in1_no (show sn σ < 2 ^ 30 by omega) hx, ↓reduceIte]
  by_cases hk0 : k = 0
  · subst hk0
    refine stepI (r := -1) (I1 := I) (R1 := Rof p kn) (L1 := L) ?_ ?_ (Rel_th ok hC hM)
    · unfold f_X11_spins
      rw [if_pos (by decide)]
    · show f_X12_spins 112 _ _ _ = _
      unfold f_X12_spins f_X12_in f_X12_in_14
      simp only [m_pI, bs, m_r9, many0, q0]
      rw [if_pos (by decide)]; simp only [zr_0, bs, ↓reduceIte]
  have hk1 : ¬ nI k < (1 : Int32) := nI_nlt (b := 1) (by omega) (by omega)
  rcases ixn a2 2 (by decide) with hx | ⟨b, hb, rfl⟩
  · refine stepI (r := -1) (I1 := I) (R1 := Rof p kn) (L1 := L) ?_ ?_ (Rel_th ok hC hM)
    · unfold f_X11_spins
      rw [if_neg hk1]
      simp only [c_r4, bs, p_gI hp, c0]
      rw [if_neg (nI_ge hk (by omega))]
      simp only [isBit_no hx, bs, ↓reduceIte]
    · show f_X12_spins 112 _ _ _ = _
      unfold f_X12_spins
      simp only [m_pI, bs, m_r9, many0, q0, in1_yes (show sn σ < 2 ^ 30 by omega) (show 1 ≤ k by omega) hk, in2_no hx, z10, ↓reduceIte]
  obtain ⟨I1, kn1, r1, hC1, f1⟩ := remember_c hC ok
  have t1 : I1 29 0 = nI (sW σ).1 := hC1.2.2.1.1
  have bt : (sW σ).1 < sn σ := ok.2.1.1
  have hlt : spT (sn σ) (sW σ).1 k b < sn σ := Nat.mod_lt _ (by omega)
  have har : ∀ v, f_J9_floorMod_7cf53 v (nI (sn σ)) (129, I1, Rof p kn1, L) = some (nI (spT (sn σ) (sW σ).1 k b)) → f_X8_around p v (129, I1, Rof p kn1, L) = some (nI (spT (sn σ) (sW σ).1 k b)) := fun v hv => around_c hp hC1.2.1 ok.1 hv
  have A : f_X11_spins 0 (nI k) (nI b) (129, I, Rof p kn, L) = if nI k < (3 : Int32) then some (0, (129, up2 I1 29 0 (nI (spT (sn σ) (sW σ).1 k b)), Rof p kn1, L)) else Option.bind (f_X11_spill 0 (129, up2 I1 29 0 (nI (spT (sn σ) (sW σ).1 k b)), Rof p kn1, L)) (fun q => some (q.1, q.2)) := by
    unfold f_X11_spins f_X11_spins_62
    rw [if_neg hk1]
    simp only [c_r4, bs, p_gI hp, c0]
    rw [if_neg (nI_ge hk (by omega))]
    simp only [isBit_yes hb, bs, z10, ↓reduceIte, c_cv, r1, c_r4, c_r5, n_gI isN_29, t1, p_cv hp]
    rcases (show b = 0 ∨ b = 1 by omega) with rfl | rfl
    · rw [if_pos (show nI 0 = (0 : Int32) by decide), nI_add, har (nI ((sW σ).1 + k)) (fm_pos (a := (sW σ).1 + k) hn3 hn9 (by omega))]
      simp only [bs, n_pI isN_29, c_cv]
    · rw [if_neg (show ¬ nI 1 = (0 : Int32) by decide), har _ (fm_neg hn3 hn9 bt hk)]
      simp only [bs, n_pI isN_29, c_cv]
  generalize hT : spT (sn σ) (sW σ).1 k b = t' at A hlt
  have hW1 := NowC_turn (v := t') hC1.2.2.1
  have okW1 : NowOk (sn σ) (sG σ) (sD σ) (t', (sW σ).2.1, (sW σ).2.2.1, (sW σ).2.2.2.1, (sW σ).2.2.2.2) := ⟨hlt, ok.2.1.2.1, ok.2.1.2.2⟩
  have hM2 : ∀ I2, (∀ x y, x < 29 ∨ 33 < x → I2 x y = I1 x y) → RM σ I2 L := fun I2 F => RM_hi (fun x y hx => by rw [F x y (by omega)]; exact f1 x y (by omega) (by omega)) hiEq.rf ok hM
  by_cases h3 : k < 3
  · rw [if_pos (show nI k < (3 : Int32) from nI_lt (b := 3) h3 (by decide))] at A
    have F2 : ∀ x y, x < 29 ∨ 33 < x → up2 I1 29 0 (nI t') x y = I1 x y := fun x y hx => by rw [up2_e, if_neg (by omega)]
    obtain ⟨I3, e3, hM3, f3⟩ := spins_m (p := p) (kn := kn1) (hM2 _ F2) ok (show 1 ≤ k by omega) hk hb
    rw [hT] at e3
    have m2 : up2 I3 119 0 (nI t') 114 2 = nI (sD σ) := by rw [up2_e, if_neg (by omega)]; exact hM3.1.1.2.2
    have E2 : f_X12_spins 112 (nI k) (nI b) (129, up2 I1 29 0 (nI t'), Rof p kn1, L) = some (0, (129, up2 I3 119 0 (nI t'), Rof p kn1, L)) := by
      rw [e3]
      unfold f_X12_spins_75
      refine lup0 _ (fun _ => (0, 0, (129, up2 I3 119 0 (nI t'), Rof p kn1, L))) 0 (FU_big (by decide)) _ (fun ag => ?_) (fun j hj ag => absurd hj (Nat.not_lt_zero _))
      show f_X12_spins_75b 112 (nI k) ag 0 0 (129, up2 I3 119 0 (nI t'), Rof p kn1, L) = _
      unfold f_X12_spins_75b
      simp only [m_r9, many2, bs, m2]
      by_cases z : nI (sD σ) ≤ 0
      · rw [if_pos z]
      · rw [if_neg z, if_pos (show nI k ≤ (2 : Int32) from nI_le (b := 2) (by omega) (by decide))]
    exact stepI A E2 (fin_W ok hC1 hM3 F2 f3 (fun x y hx => by rw [up2_e, if_neg (by omega)]) okW1 hW1 (NowM_turn (v := t') hM3.2.1))
  · rw [if_neg (show ¬ nI k < (3 : Int32) from nI_nlt (b := 3) (by omega) (by omega)), spill_c (kn := kn1) (L := L) hp (PtyC_fr (fun i y hi => by rw [up2_e, if_neg (by omega)]) hC1.2.1) hW1 ok.1 okW1 hp3, bs] at A
    have F2 : ∀ x y, x < 29 ∨ 33 < x → spC (up2 I1 29 0 (nI t')) (sP σ).2.2.2.2.2 (sW σ).2.1 (sD σ) x y = I1 x y := fun x y hx => by rw [spC_o _ _ _ (by omega), up2_e, if_neg (by omega)]
    obtain ⟨I3, e3, hM3, f3⟩ := spins_m (p := p) (kn := kn1) (hM2 _ F2) ok (show 1 ≤ k by omega) hk hb
    rw [hT] at e3
    have hWm := NowM_turn (v := t') hM3.2.1
    rw [spill_m (p := p) (kn := kn1) (L := L) (PtyM_fr (fun x y _ _ => by rw [up2_e, if_neg (by omega)]) hM3.1) hWm ok.1 okW1 (by omega) (by omega)] at e3
    refine stepI A e3 (fin_W ok hC1 hM3 F2 f3 (fun x y hx => by rw [spM_o _ _ _ hx, up2_e, if_neg (by omega)]) ?_ (spC_N hW1 (sD σ)) (spM_N hG hD hWm (sD σ) (Nat.le_refl _)))
    exact ⟨hlt, fun d hd => ⟨Nat.le_trans (spP_le _ _) (ok.2.1.2.1 d hd).1, (ok.2.1.2.1 d hd).2⟩, ok.2.1.2.2⟩
end S13
