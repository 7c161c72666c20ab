/-! ===== takes, moves, changes, spins ===== -/
theorem had1 : ((List.range 64).all fun h => (List.range 6).all fun d => decide ((nI h ||| ((1 : Int32) <<< (nI d &&& 31))) = nI (h ||| 2 ^ d)) && decide (h ||| 2 ^ d < 64)) = true := by decide +kernel
theorem hadV {h d : Nat} (hh : h < 64) (hd : d < 6) : (nI h ||| ((1 : Int32) <<< (nI d &&& 31))) = nI (h ||| 2 ^ d) ∧ h ||| 2 ^ d < 64 := by
  have z := rall (rall had1 hh) hd
  rw [Bool.and_eq_true] at z
  exact ⟨of_decide_eq_true z.1, of_decide_eq_true z.2⟩
def i_lt6 (n : Nat) : Prop := n ≤ 6
section S10
variable {σ : St} {p : Nat} {kn : Nat → Nat} {I : Nat → Nat → Int32} {L : Nat → Nat → Int64}
theorem w30 {R : Nat → Nat → Option Nat} {j : Nat} {v : Int32} (h : j < 6) : sI (129, I, R, L) 30 (nI j) v = some (129, up2 I 30 j v, R, L) := sI_n (k := 30) (n := 6) (by decide) rfl h (by decide)
theorem w31 {R : Nat → Nat → Option Nat} {j : Nat} {v : Int32} (h : j < 6) : sI (129, I, R, L) 31 (nI j) v = some (129, up2 I 31 j v, R, L) := sI_n (k := 31) (n := 6) (by decide) rfl h (by decide)
theorem w32 {R : Nat → Nat → Option Nat} {j : Nat} {v : Int32} (h : j < 6) : sI (129, I, R, L) 32 (nI j) v = some (129, up2 I 32 j v, R, L) := sI_n (k := 32) (n := 6) (by decide) rfl h (by decide)
theorem w33 {R : Nat → Nat → Option Nat} {j : Nat} {v : Int32} (h : j < 6) : sI (129, I, R, L) 33 (nI j) v = some (129, up2 I 33 j v, R, L) := sI_n (k := 33) (n := 6) (by decide) rfl h (by decide)
theorem c32 {R : Nat → Nat → Option Nat} {j : Nat} (h : j < 6) : aI 20 (129, I, R, L) 32 (nI j) = some (I 32 j) := aI_n (k := 32) (n := 6) (by decide) rfl h (by decide)
theorem c33 {R : Nat → Nat → Option Nat} {j : Nat} (h : j < 6) : aI 20 (129, I, R, L) 33 (nI j) = some (I 33 j) := aI_n (k := 33) (n := 6) (by decide) rfl h (by decide)
/-- the model, from a memory whose class cells have changed: thrown = 0, then the state is noted -/
theorem notes_th (hM : RM σ I L) (ok : SOk σ) : ∃ I3, f_X12_notes 112 (129, up2 I 112 0 0, Rof p kn, L) = some (129, I3, Rof p kn, L) ∧ RM (push σ) I3 L ∧ (∀ a b, a ≠ 122 → a ≠ 112 → I3 a b = I a b) := by
  obtain ⟨I3, e, h, f⟩ := notes_m (p := p) (kn := kn) (RM_th ok hM) ok
  exact ⟨I3, e, h, fun a b h1 h2 => by rw [f a b h1 (by omega), up2_e, if_neg (by omega)]⟩
theorem st_takes (M : Mem) (a1 a2 : Int32) (h : Rel M) : StepI (f_X11_takes 0 a1 a2 M) (fun M => f_X12_takes 112 a1 a2 M) Rel := by
  obtain ⟨σ, p, kn, I, L, rfl, ok, hC, hM⟩ := h
  have hp := isP_of hC.1.1
  have hM' := RM_th ok hM
  obtain ⟨hn3, hn9, hG, hD⟩ := okn ok
  rcases ixn a1 (sG σ) (by omega) with hx | ⟨g, hg, rfl⟩
  · refine stepI (r := -1) (I1 := I) (R1 := Rof p kn) (L1 := L) ?_ ?_ (Rel_th ok hC hM)
    · unfold f_X11_takes
      simp only [c_cv, isG_c_no hC ok hx, bs, ↓reduceIte]
    · show f_X12_takes 112 _ _ _ = _
      unfold f_X12_takes
      simp only [m_pI, bs, m_cv, isG_m_no hM' ok hx, ↓reduceIte]
  rcases ixn a2 (sD σ) (by omega) with hx | ⟨d, hd, rfl⟩
  · refine stepI (r := -1) (I1 := I) (R1 := Rof p kn) (L1 := L) ?_ ?_ (Rel_th ok hC hM)
    · unfold f_X11_takes
      simp only [c_cv, isG_c_yes hC ok hg, isD_c_no hC ok hx, z10, bs, ↓reduceIte]
    · show f_X12_takes 112 _ _ _ = _
      unfold f_X12_takes
      simp only [m_pI, bs, m_cv, isG_m_yes hM' ok hg, isD_m_no hM' ok hx, z10, ↓reduceIte]
  have hrc := reaches_c (p := p) (kn := kn) (L := L) hp isN_29 hC.2.1 hC.2.2.1 ok.1 ok.2.1 hg hd ok.2.1.1
  have hrm := reaches_m (p := p) (kn := kn) (L := L) hM'.1 hM'.2.1 ok.1 ok.2.1 hg hd ok.2.1.1
  have t0 : up2 I 112 0 0 119 0 = nI (sW σ).1 := hM'.2.1.1
  have e1 : (1 : Int32) + nI d = nI (1 + d) := nI_add 1 d
  have e19 : (19 : Int32) + nI g = nI (19 + g) := nI_add 19 g
  have k1 : I 30 d = nI ((sW σ).2.1 d) := (hC.2.2.1.2.1 d hd).1
  have m1 : up2 I 112 0 0 119 (1 + d) = nI ((sW σ).2.1 d) := by have := (hM'.2.1.2.1 d hd).1; rwa [Nat.zero_add] at this
  have hpor := (ok.2.1.2.1 d hd).1
  have hh := (ok.2.1.2.2 g hg).2
  rcases (Bool.eq_false_or_eq_true (rch (sP σ).1 ((sP σ).2.2.2.1 g) ((sW σ).2.2.2.1 g) ((sW σ).2.2.1 d) (sW σ).1)).symm with hr | hr
  · rw [hr] at hrc hrm
    refine stepI (r := -2) (I1 := I) (R1 := Rof p kn) (L1 := L) ?_ ?_ (Rel_th ok hC hM)
    · unfold f_X11_takes
      simp only [c_cv, isG_c_yes hC ok hg, isD_c_yes hC ok hd, z10, bs, ↓reduceIte, c_r4, c_r5, n_gI isN_29, hC.2.2.1.1, p_cv hp, hrc, bi_f]
    · show f_X12_takes 112 _ _ _ = _
      unfold f_X12_takes
      simp only [m_pI, bs, m_cv, isG_m_yes hM' ok hg, isD_m_yes hM' ok hd, z10, ↓reduceIte, m_r14, turn0, t0, hrm, bi_f]
  rw [hr] at hrc hrm
  by_cases h0 : (sW σ).2.1 d = 0
  · have z1 : ¬ (1 : Int32) ≤ nI ((sW σ).2.1 d) := by rw [h0]; decide
    have z2 : nI ((sW σ).2.1 d) = 0 := by rw [h0]; rfl
    refine stepI (r := -2) (I1 := I) (R1 := Rof p kn) (L1 := L) ?_ ?_ (Rel_th ok hC hM)
    · unfold f_X11_takes
      simp only [c_cv, isG_c_yes hC ok hg, isD_c_yes hC ok hd, z10, bs, ↓reduceIte, c_r4, c_r5, n_gI isN_29, hC.2.2.1.1, p_cv hp, hrc, bi_t, r291, c30 (show d < 6 by omega), k1, z1]
    · show f_X12_takes 112 _ _ _ = _
      unfold f_X12_takes
      simp only [m_pI, bs, m_cv, isG_m_yes hM' ok hg, isD_m_yes hM' ok hd, z10, ↓reduceIte, m_r14, turn0, t0, hrm, bi_t, e1, m119 (show 1 + d < 25 by omega), m1, z2]
  · obtain ⟨q, hq⟩ : ∃ q, (sW σ).2.1 d = q + 1 := ⟨(sW σ).2.1 d - 1, by omega⟩
    have z1 : (1 : Int32) ≤ nI (q + 1) := nI_le (a := 1) (by omega) (by omega)
    have z2 : ¬ nI (q + 1) = 0 := nI_ne0 (by omega) (by omega)
    rw [hq] at k1 m1
    have hhv := hadV hh (show d < 6 by omega)
    obtain ⟨I1, kn1, r1, hC1, f1⟩ := remember_c hC ok
    have okp := SOk_push ok
    have c1 : I1 30 d = nI (q + 1) := by rw [f1 30 d (by omega) (by omega)]; exact k1
    have c2 : I1 33 g = nI ((sW σ).2.2.2.2 g) := (hC1.2.2.1.2.2 g hg).2
    have E1 : f_X11_takes 0 (nI g) (nI d) (129, I, Rof p kn, L) = some (nI q, (129, up2 (up2 I1 30 d (nI q)) 33 g (nI ((sW σ).2.2.2.2 g ||| 2 ^ d)), Rof p kn1, L)) := by
      unfold f_X11_takes
      simp only [c_cv, isG_c_yes hC ok hg, isD_c_yes hC ok hd, z10, bs, ↓reduceIte, c_r4, c_r5, n_gI isN_29, hC.2.2.1.1, p_cv hp, hrc, bi_t, r291, r294, c30 (show d < 6 by omega), k1, z1, r1, c1, nI_pred, w30 (show d < 6 by omega), c33 (show g < 6 by omega), w33 (show g < 6 by omega), ug, ul, Nat.reduceLT, c2, hhv.1, us]
    generalize hI2 : up2 (up2 I1 30 d (nI q)) 33 g (nI ((sW σ).2.2.2.2 g ||| 2 ^ d)) = I2 at E1
    have g2 : ∀ a b, a ≠ 30 → a ≠ 33 → I2 a b = I1 a b := fun a b h1 h2 => by rw [← hI2, up2_e, if_neg (by omega), up2_e, if_neg (by omega)]
    have hhi : hiEq I I2 := fun a b ha => by rw [g2 a b (by omega) (by omega), f1 a b (by omega) (by omega)]
    have hM2 : RM σ I2 L := RM_hi hhi hiEq.rf ok hM
    have hM2' := RM_th ok hM2
    obtain ⟨I3, n3, hM3, f3⟩ := notes_th (p := p) (kn := kn1) hM2 ok
    have t2 : up2 I2 112 0 0 119 0 = nI (sW σ).1 := hM2'.2.1.1
    have hrm2 := reaches_m (p := p) (kn := kn1) (L := L) hM2'.1 hM2'.2.1 ok.1 ok.2.1 hg hd ok.2.1.1
    rw [hr] at hrm2
    have m2 : up2 I2 112 0 0 119 (1 + d) = nI (q + 1) := by have := (hM2'.2.1.2.1 d hd).1; rwa [Nat.zero_add, hq] at this
    have m3 : I3 119 (1 + d) = nI (q + 1) := by have := (hM3.2.1.2.1 d hd).1; rw [Nat.zero_add] at this; rw [← hq]; exact this
    have m4 : I3 119 (19 + g) = nI ((sW σ).2.2.2.2 g) := by have := (hM3.2.1.2.2 g hg).2; rwa [Nat.zero_add] at this
    have u4 : up2 I3 119 (1 + d) (nI q) 119 (19 + g) = nI ((sW σ).2.2.2.2 g) := by rw [up2_e, if_neg (by omega)]; exact m4
    have u5 : up2 (up2 I3 119 (1 + d) (nI q)) 119 (19 + g) (nI ((sW σ).2.2.2.2 g ||| 2 ^ d)) 119 (1 + d) = nI q := by rw [up2_e, if_neg (by omega)]; exact us
    have E2 : f_X12_takes 112 (nI g) (nI d) (129, I2, Rof p kn1, L) = some (nI q, (129, up2 (up2 I3 119 (1 + d) (nI q)) 119 (19 + g) (nI ((sW σ).2.2.2.2 g ||| 2 ^ d)), Rof p kn1, L)) := by
      unfold f_X12_takes
      simp only [m_pI, bs, m_cv, isG_m_yes hM2' ok hg, isD_m_yes hM2' ok hd, z10, ↓reduceIte, m_r14, turn0, t2, hrm2, bi_t, e1, e19, m119 (show 1 + d < 25 by omega), m119 (show 19 + g < 25 by omega), m2, z2, n3, m3, nI_pred, s119 (show 1 + d < 25 by omega), s119 (show 19 + g < 25 by omega), u4, hhv.1, u5]
    have okW : NowOk (sn σ) (sG σ) (sD σ) ((sW σ).1, (fun i => if i = d then q else (sW σ).2.1 i), (sW σ).2.2.1, (sW σ).2.2.2.1, (fun i => if i = g then (sW σ).2.2.2.2 g ||| 2 ^ d else (sW σ).2.2.2.2 i)) := by
      refine ⟨ok.2.1.1, fun i hi => ⟨?_, (ok.2.1.2.1 i hi).2⟩, fun i hi => ⟨(ok.2.1.2.2 i hi).1, ?_⟩⟩
      · by_cases z : i = d
        · simp only [z, ↓reduceIte]; omega
        · simp only [z, ↓reduceIte]; exact (ok.2.1.2.1 i hi).1
      · by_cases z : i = g
        · simp only [z, ↓reduceIte]; exact hhv.2
        · simp only [z, ↓reduceIte]; exact (ok.2.1.2.2 i hi).2
    have ok' := SOk_W okp (W' := ((sW σ).1, (fun i => if i = d then q else (sW σ).2.1 i), (sW σ).2.2.1, (sW σ).2.2.2.1, (fun i => if i = g then (sW σ).2.2.2.2 g ||| 2 ^ d else (sW σ).2.2.2.2 i))) (U' := sU (push σ)) (un' := sun (push σ)) okW okp.2.2.1.1 okp.2.2.1.2
    refine stepI E1 E2 ⟨_, p, kn1, _, _, rfl, ok', ?_, ?_⟩
    · refine RC_lo (I := I2) (fun a b ha => by rw [up2_e, if_neg (by omega), up2_e, if_neg (by omega)]; exact f3 a b (by omega) (by omega)) loEq.rf ok' (RC_Ws hC1 okp (fun a b ha hn => g2 a b (by omega) (by omega)) ⟨?_, fun i hi => ⟨?_, ?_⟩, fun i hi => ⟨?_, ?_⟩⟩)
      · rw [g2 29 0 (by omega) (by omega)]; exact hC1.2.2.1.1
      · rw [← hI2, up2_e, if_neg (by omega), up2_e]
        show (if 29 + 1 = 30 ∧ i = d then nI q else I1 (29 + 1) i) = nI (if i = d then q else (sW σ).2.1 i)
        by_cases z : i = d
        · rw [if_pos ⟨rfl, z⟩, if_pos z]
        · rw [if_neg (fun y => z y.2), if_neg z]; exact (hC1.2.2.1.2.1 i hi).1
      · rw [g2 _ i (by omega) (by omega)]; exact (hC1.2.2.1.2.1 i hi).2
      · rw [g2 _ i (by omega) (by omega)]; exact (hC1.2.2.1.2.2 i hi).1
      · rw [← hI2, up2_e]
        show (if 29 + 4 = 33 ∧ i = g then nI ((sW σ).2.2.2.2 g ||| 2 ^ d) else up2 I1 30 d (nI q) (29 + 4) i) = nI (if i = g then (sW σ).2.2.2.2 g ||| 2 ^ d else (sW σ).2.2.2.2 i)
        by_cases z : i = g
        · rw [if_pos ⟨rfl, z⟩, if_pos z]
        · rw [if_neg (fun y => z y.2), if_neg z, up2_e, if_neg (by omega)]; exact (hC1.2.2.1.2.2 i hi).2
    · have hGp : i_lt6 (sG σ) := hG
      have hDp : i_lt6 (sD σ) := hD
      refine RM_Ws hM3 okp (fun a b ha hn => by rw [up2_e, if_neg (by omega), up2_e, if_neg (by omega)]) ⟨?_, fun i hi => ⟨?_, ?_⟩, fun i hi => ⟨?_, ?_⟩⟩
      · rw [up2_e, if_neg (by omega), up2_e, if_neg (by omega)]; exact hM3.2.1.1
      · have hi6 : i < sD σ := hi
        rw [up2_e, if_neg (by unfold i_lt6 at hGp hDp; omega), up2_e]
        show (if 119 = 119 ∧ 0 + 1 + i = 1 + d then nI q else I3 119 (0 + 1 + i)) = nI (if i = d then q else (sW σ).2.1 i)
        by_cases z : i = d
        · rw [if_pos ⟨rfl, by omega⟩, if_pos z]
        · rw [if_neg (by omega), if_neg z]; exact (hM3.2.1.2.1 i hi).1
      · have hi6 : i < sD σ := hi
        rw [up2_e, if_neg (by unfold i_lt6 at hGp hDp; omega), up2_e, if_neg (by unfold i_lt6 at hGp hDp; omega)]; exact (hM3.2.1.2.1 i hi).2
      · have hi6 : i < sG σ := hi
        rw [up2_e, if_neg (by unfold i_lt6 at hGp hDp; omega), up2_e, if_neg (by unfold i_lt6 at hGp hDp; omega)]; exact (hM3.2.1.2.2 i hi).1
      · have hi6 : i < sG σ := hi
        rw [up2_e]
        show (if 119 = 119 ∧ 0 + 19 + i = 19 + g then nI ((sW σ).2.2.2.2 g ||| 2 ^ d) else up2 I3 119 (1 + d) (nI q) 119 (0 + 19 + i)) = nI (if i = g then (sW σ).2.2.2.2 g ||| 2 ^ d else (sW σ).2.2.2.2 i)
        by_cases z : i = g
        · rw [if_pos ⟨rfl, by omega⟩, if_pos z]
        · rw [if_neg (by omega), if_neg z, up2_e, if_neg (by unfold i_lt6 at hGp hDp; omega)]; exact (hM3.2.1.2.2 i hi).2
end S10
