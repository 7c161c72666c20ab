/-! ===== which two had better change ===== -/
def swIn (P : PtyS) (w : NowS) (a : Nat) (s : Int32 × Int32) : Nat → Int32 × Int32
  | 0 => s
  | j + 1 => if (swIn P w a s j).2 ≤ touI P (swS w a (a + 1 + j)) then swIn P w a s j else (nI (10 * a + (a + 1 + j)), touI P (swS w a (a + 1 + j)))
def swOut (P : PtyS) (w : NowS) : Nat → Int32 × Int32
  | 0 => (-9, touI P w)
  | a + 1 => swIn P w a (swOut P w a) (P.2.1 - (a + 1))
theorem i10 (a b : Nat) : ((10 : Int32) * nI a) + nI b = nI (10 * a + b) := by
  rw [show (10 : Int32) = nI 10 from rfl, pk_mul, nI_add]
section S20
variable {P : PtyS} {w : NowS}
theorem cnt_sw (d a b : Nat) : ∀ g, cntP P (swS w a b) d g = cntP P w d g := by
  intro g
  induction g with
  | zero => rfl
  | succ g ih =>
    show cntP P (swS w a b) d g + ndG P (swS w a b) g / 2 ^ d % 2 = cntP P w d g + ndG P w g / 2 ^ d % 2
    rw [ih]; rfl
theorem en_sw (a b : Nat) : enP P (swS w a b) = enP P w := by
  funext d; unfold enP; rw [cnt_sw]; rfl
theorem sw_no (h : allB (enP P w) P.2.2.1 = false) : ∀ a, swOut P w a = (-9, -9) := by
  have ht : ∀ a b, touI P (swS w a b) = -9 := fun a b => by
    unfold touI
    rw [en_sw, h]; rfl
  have hi : ∀ a j, swIn P w a (-9, -9) j = (-9, -9) := by
    intro a j
    induction j with
    | zero => rfl
    | succ j ih => simp only [swIn, ih, ht]; rw [if_pos (by decide)]
  intro a
  induction a with
  | zero => show (-9, touI P w) = _; unfold touI; rw [h]; rfl
  | succ a ih => show swIn P w a (swOut P w a) _ = _; rw [ih]; exact hi a _
theorem sw_yes (okP : PtyOk P) (ok : NowOk P.1 P.2.1 P.2.2.1 w) (h : allB (enP P w) P.2.2.1 = true) : ∀ a, a ≤ P.2.1 → ¬ (swOut P w a).2 = -9 := by
  have ht : ∀ a b, a < P.2.1 → b < P.2.1 → ¬ touI P (swS w a b) = -9 := fun a b ha hb => by
    have e : touI P (swS w a b) = nI (touN P (swS w a b)) := by unfold touI; rw [en_sw, h]; rfl
    rw [e]
    have := touN_le okP (swS_ok ok ha hb)
    have := okP.1.2.1
    exact n9 (by omega)
  have hi : ∀ a s j, a < P.2.1 → ¬ s.2 = (-9 : Int32) → a + 1 + j ≤ P.2.1 → ¬ (swIn P w a s j).2 = -9 := by
    intro a s j ha hs
    induction j with
    | zero => intro _; exact hs
    | succ j ih =>
      intro hj
      simp only [swIn]
      split
      · exact ih (by omega)
      · exact ht a _ ha (by omega)
  intro a
  induction a with
  | zero =>
    intro _
    show ¬ touI P w = -9
    have e : touI P w = nI (touN P w) := by unfold touI; rw [h]; rfl
    rw [e]
    have := touN_le okP ok
    have := okP.1.2.1
    exact n9 (by omega)
  | succ a ih => intro ha; exact hi a _ _ (by omega) (ih (by omega)) (by omega)
end S20
section S20b
variable {σ : St} {p : Nat} {kn : Nat → Nat} {I : Nat → Nat → Int32} {L : Nat → Nat → Int64}
theorem swap_c (hC : RC σ p kn I L) (ok : SOk σ) : ∃ I1, f_X11_swap 0 (129, I, Rof p kn, L) = some ((swOut (sP σ) (sW σ) (sG σ)).1, (129, I1, Rof p kn, L)) ∧ trF p I I1 := by
  have hp := isP_of hC.1.1
  have hp3 := hC.1.1
  obtain ⟨hn3, hn9, hG, hD⟩ := okn ok
  obtain ⟨Ia, t1, t2⟩ := tour_c (p := p) (kn := kn) (L := L) hp isN_29 (by omega) hC.2.1 hC.2.2.1 ok.1 ok.2.1
  have hFa : trF p I Ia := fun a b h1 _ => t2 a b h1
  have hCa := trF_RC hFa hC ok
  obtain ⟨I0, b1, b2, b3, b4⟩ := become_c (p := p) (kn := kn) (I := Ia) (L := L) (k := 34) (j := 29) isN_34 isN_29 (by omega)
  have hw0 : NowC I0 34 (sG σ) (sD σ) (sW σ) := NowC_cp (k' := 29) hG hD b3 (fun i b h1 h4 hb => b4 i b h1 h4 hb) hCa.2.2.1
  have hF0 : trF p I I0 := fun a b h1 h2 => by rw [b2 a b (by omega)]; exact hFa a b h1 h2
  have c1 : ∀ I1, trF p I I1 → I1 p 1 = nI (sG σ) := fun I1 F => by rw [F p 1 (by omega) (by omega)]; exact hC.2.1.1.2.1
  unfold f_X11_swap
  simp only [c_r4, c_r5, c_r6, bs, p_cv hp, t1, n_cv isN_34, b1]
  unfold f_X11_swap_28
  refine lupR0 (fun ag (s : Int32 × Int32 × Int32 × Mem) => f_X11_swap_28b 0 ag s.1 s.2.1 s.2.2.1 s.2.2.2) (fun a s => ∃ I1, s = ((swOut (sP σ) (sW σ) a).1, (swOut (sP σ) (sW σ) a).2, nI a, (129, I1, Rof p kn, L)) ∧ trF p I I1 ∧ NowC I1 34 (sG σ) (sD σ) (sW σ)) (sG σ) (FU_big (by omega)) (fun r => ∃ I1, r = some ((swOut (sP σ) (sW σ) (sG σ)).1, (129, I1, Rof p kn, L)) ∧ trF p I I1) _ ⟨I0, rfl, hF0, hw0⟩ ?_ ?_
  · rintro s ⟨I1, rfl, hF, hw⟩ ag
    refine ⟨I1, ?_, hF⟩
    show f_X11_swap_28b 0 ag _ _ (nI (sG σ)) (129, I1, Rof p kn, L) = _
    unfold f_X11_swap_28b
    simp only [c_r4, bs, p_gI hp, c1 I1 hF]
    rw [if_pos (nI_le (Nat.le_refl _) (by omega))]
  · rintro a s ha ⟨I1, rfl, hF, hw⟩ ag
    show ∃ s', _ ∧ f_X11_swap_28b 0 ag (swOut (sP σ) (sW σ) a).1 (swOut (sP σ) (sW σ) a).2 (nI a) (129, I1, Rof p kn, L) = ag s'
    have hE : swOut (sP σ) (sW σ) (a + 1) = swIn (sP σ) (sW σ) a (swOut (sP σ) (sW σ) a) (sG σ - (a + 1)) := rfl
    rw [hE]
    generalize swOut (sP σ) (sW σ) a = y
    unfold f_X11_swap_28b
    simp only [c_r4, bs, p_gI hp, c1 I1 hF]
    rw [if_neg (nI_ge ha (by omega)), nI_1]
    unfold f_X11_swap_44
    refine lupR0 (fun ag44 (s : Int32 × Int32 × Int32 × Mem) => f_X11_swap_44b ag 0 (nI a) ag44 s.1 s.2.1 s.2.2.1 s.2.2.2) (fun j s => ∃ I1, s = ((swIn (sP σ) (sW σ) a y j).1, (swIn (sP σ) (sW σ) a y j).2, nI (a + 1 + j), (129, I1, Rof p kn, L)) ∧ trF p I I1 ∧ NowC I1 34 (sG σ) (sD σ) (sW σ)) (sG σ - (a + 1)) (FU_big (by omega)) (fun r => ∃ s', (∃ I1, s' = ((swIn (sP σ) (sW σ) a y (sG σ - (a + 1))).1, (swIn (sP σ) (sW σ) a y (sG σ - (a + 1))).2, nI (a + 1), (129, I1, Rof p kn, L)) ∧ trF p I I1 ∧ NowC I1 34 (sG σ) (sD σ) (sW σ)) ∧ r = ag s') _ ⟨I1, rfl, hF, hw⟩ ?_ ?_
    · rintro s ⟨I2, rfl, hF2, hw2⟩ ag44
      refine ⟨_, ⟨I2, rfl, hF2, hw2⟩, ?_⟩
      show f_X11_swap_44b ag 0 (nI a) ag44 _ _ (nI (a + 1 + (sG σ - (a + 1)))) (129, I2, Rof p kn, L) = _
      unfold f_X11_swap_44b
      simp only [c_r4, bs, p_gI hp, c1 I2 hF2]
      rw [if_pos (nI_le (by omega) (by omega)), nI_1]
    · rintro j s hj ⟨I2, rfl, hF2, hw2⟩ ag44
      have hb : a + 1 + j < sG σ := by omega
      show ∃ s', _ ∧ f_X11_swap_44b ag 0 (nI a) ag44 (swIn (sP σ) (sW σ) a y j).1 (swIn (sP σ) (sW σ) a y j).2 (nI (a + 1 + j)) (129, I2, Rof p kn, L) = ag44 s'
      have hS : swIn (sP σ) (sW σ) a y (j + 1) = if (swIn (sP σ) (sW σ) a y j).2 ≤ touI (sP σ) (swS (sW σ) a (a + 1 + j)) then swIn (sP σ) (sW σ) a y j else (nI (10 * a + (a + 1 + j)), touI (sP σ) (swS (sW σ) a (a + 1 + j))) := rfl
      rw [hS]
      generalize swIn (sP σ) (sW σ) a y j = z
      have cN := chg_N hw2 ha hb
      have hP2 := (trF_RC hF2 hC ok).2.1
      have hP3 : PtyC (up2 (up2 I2 (34 + 3) a (I2 (34 + 3) (a + 1 + j))) (34 + 3) (a + 1 + j) (I2 (34 + 3) a)) p (sP σ) := PtyC_fr (fun i b hi => by rw [up2_e, if_neg (by omega), up2_e, if_neg (by omega)]) hP2
      obtain ⟨I3, u1, u2⟩ := tour_c (p := p) (kn := kn) (L := L) hp isN_34 (by omega) hP3 cN ok.1 (swS_ok ok.2.1 ha hb)
      have cN3 : NowC I3 34 (sG σ) (sD σ) (swS (sW σ) a (a + 1 + j)) := NowC_fr (fun i b hi => u2 _ b (by omega)) cN
      have cN4 := chg_N cN3 ha hb
      rw [swS_2 (by omega)] at cN4
      refine ⟨_, ⟨_, rfl, ?_, cN4⟩, ?_⟩
      · intro x v h1 h2
        rw [up2_e, if_neg (by omega), up2_e, if_neg (by omega), u2 x v h1, up2_e, if_neg (by omega), up2_e, if_neg (by omega)]
        exact hF2 x v h1 h2
      · unfold f_X11_swap_44b f_X11_swap_96
        simp only [c_r4, bs, p_gI hp, c1 I2 hF2]
        rw [if_neg (nI_ge hb (by omega))]
        simp only [c_r6, bs, n_cv isN_34, chg_c (p := p) (kn := kn) (L := L) isN_34 (show a < 6 by omega) (show a + 1 + j < 6 by omega), c_r4, p_cv hp, u1, i10, nI_1]
        by_cases v : z.2 ≤ touI (sP σ) (swS (sW σ) a (a + 1 + j))
        · simp only [v, ↓reduceIte] <;> rfl
        · simp only [v, ↓reduceIte] <;> rfl
theorem swap_m (hM : RM σ I L) (ok : SOk σ) : ∃ I1, f_X12_swapOf 112 (129, I, Rof p kn, L) = some ((swOut (sP σ) (sW σ) (sG σ)).1, (129, I1, Rof p kn, L)) ∧ RM σ I1 L ∧ (∀ a b, a ≠ 119 → I1 a b = I a b) := by
  obtain ⟨hn3, hn9, hG, hD⟩ := okn ok
  have t1 := tour_m (p := p) (kn := kn) (L := L) hM.1 hM.2.1 ok.1 ok.2.1
  unfold f_X12_swapOf
  simp only [m_cv, t1, bs]
  have q1 : ∀ I1, RM σ I1 L → I1 114 1 = nI (sG σ) := fun I1 h => h.1.1.2.1
  rcases (Bool.eq_false_or_eq_true (allB (enP (sP σ) (sW σ)) (sD σ))).symm with h | h
  · have e0 : touI (sP σ) (sW σ) = -9 := by unfold touI; rw [show allB (enP (sP σ) (sW σ)) (sP σ).2.2.1 = false from h]; rfl
    refine ⟨I, ?_, hM, fun _ _ _ => rfl⟩
    rw [sw_no h, e0]
    unfold f_X12_swapOf_10
    refine lup0 _ (fun _ => (-9, -9, 0, (129, I, Rof p kn, L))) 0 (FU_big (by decide)) _ (fun ag => ?_) (fun j hj ag => absurd hj (Nat.not_lt_zero _))
    show f_X12_swapOf_10b 112 ag (-9) (-9) 0 (129, I, Rof p kn, L) = _
    unfold f_X12_swapOf_10b
    simp only [m_r9, bs, many1, q1 I hM]
    by_cases z : nI (sG σ) ≤ 0
    · rw [if_pos z]
    · rw [if_neg z, if_pos trivial]
  · have hne := sw_yes ok.1 ok.2.1 h
    unfold f_X12_swapOf_10
    refine lupR0 (fun ag (s : Int32 × Int32 × Int32 × Mem) => f_X12_swapOf_10b 112 ag s.1 s.2.1 s.2.2.1 s.2.2.2) (fun a s => ∃ I1, s = ((swOut (sP σ) (sW σ) a).1, (swOut (sP σ) (sW σ) a).2, nI a, (129, I1, Rof p kn, L)) ∧ RM σ I1 L ∧ (∀ a b, a ≠ 119 → I1 a b = I a b)) (sG σ) (FU_big (by omega)) (fun r => ∃ I1, r = some ((swOut (sP σ) (sW σ) (sG σ)).1, (129, I1, Rof p kn, L)) ∧ RM σ I1 L ∧ (∀ a b, a ≠ 119 → I1 a b = I a b)) _ ⟨I, rfl, hM, fun _ _ _ => rfl⟩ ?_ ?_
    · rintro s ⟨I1, rfl, hM1, hF⟩ ag
      refine ⟨I1, ?_, hM1, hF⟩
      show f_X12_swapOf_10b 112 ag _ _ (nI (sG σ)) (129, I1, Rof p kn, L) = _
      unfold f_X12_swapOf_10b
      simp only [m_r9, bs, many1, q1 I1 hM1]
      rw [if_pos (nI_le (Nat.le_refl _) (by omega))]
    · rintro a s ha ⟨I1, rfl, hM1, hF⟩ ag
      show ∃ s', _ ∧ f_X12_swapOf_10b 112 ag (swOut (sP σ) (sW σ) a).1 (swOut (sP σ) (sW σ) a).2 (nI a) (129, I1, Rof p kn, L) = ag s'
      have hE : swOut (sP σ) (sW σ) (a + 1) = swIn (sP σ) (sW σ) a (swOut (sP σ) (sW σ) a) (sG σ - (a + 1)) := rfl
      have hna := hne a (by show a ≤ sG σ; omega)
      rw [hE]
      generalize swOut (sP σ) (sW σ) a = y at *
      unfold f_X12_swapOf_10b
      simp only [m_r9, bs, many1, q1 I1 hM1]
      rw [if_neg (nI_ge ha (by omega)), if_neg hna, nI_1]
      unfold f_X12_swapOf_31
      refine lupR0 (fun ag31 (s : Int32 × Int32 × Int32 × Mem) => f_X12_swapOf_31b ag 112 (nI a) ag31 s.1 s.2.1 s.2.2.1 s.2.2.2) (fun j s => ∃ I1, s = ((swIn (sP σ) (sW σ) a y j).1, (swIn (sP σ) (sW σ) a y j).2, nI (a + 1 + j), (129, I1, Rof p kn, L)) ∧ RM σ I1 L ∧ (∀ a b, a ≠ 119 → I1 a b = I a b)) (sG σ - (a + 1)) (FU_big (by omega)) (fun r => ∃ s', (∃ I1, s' = ((swIn (sP σ) (sW σ) a y (sG σ - (a + 1))).1, (swIn (sP σ) (sW σ) a y (sG σ - (a + 1))).2, nI (a + 1), (129, I1, Rof p kn, L)) ∧ RM σ I1 L ∧ (∀ a b, a ≠ 119 → I1 a b = I a b)) ∧ r = ag s') _ ⟨I1, rfl, hM1, hF⟩ ?_ ?_
      · rintro s ⟨I2, rfl, hM2, hF2⟩ ag31
        refine ⟨_, ⟨I2, rfl, hM2, hF2⟩, ?_⟩
        show f_X12_swapOf_31b ag 112 (nI a) ag31 _ _ (nI (a + 1 + (sG σ - (a + 1)))) (129, I2, Rof p kn, L) = _
        unfold f_X12_swapOf_31b
        simp only [m_r9, bs, many1, q1 I2 hM2]
        rw [if_pos (nI_le (by omega) (by omega)), nI_1]
      · rintro j s hj ⟨I2, rfl, hM2, hF2⟩ ag31
        have hb : a + 1 + j < sG σ := by omega
        show ∃ s', _ ∧ f_X12_swapOf_31b ag 112 (nI a) ag31 (swIn (sP σ) (sW σ) a y j).1 (swIn (sP σ) (sW σ) a y j).2 (nI (a + 1 + j)) (129, I2, Rof p kn, L) = ag31 s'
        have hS : swIn (sP σ) (sW σ) a y (j + 1) = if (swIn (sP σ) (sW σ) a y j).2 ≤ touI (sP σ) (swS (sW σ) a (a + 1 + j)) then swIn (sP σ) (sW σ) a y j else (nI (10 * a + (a + 1 + j)), touI (sP σ) (swS (sW σ) a (a + 1 + j))) := rfl
        rw [hS]
        generalize swIn (sP σ) (sW σ) a y j = z
        have mN := trd_N hG hD hM2.2.1 ha hb
        have hP3 : PtyM (up2 (up2 I2 119 (13 + a) (I2 119 (13 + (a + 1 + j)))) 119 (13 + (a + 1 + j)) (I2 119 (13 + a))) (sP σ) := PtyM_fr (fun x v _ _ => by rw [up2_e, if_neg (by omega), up2_e, if_neg (by omega)]) hM2.1
        have u1 := tour_m (p := p) (kn := kn) (L := L) hP3 mN ok.1 (swS_ok ok.2.1 ha hb)
        have mN4 := trd_N hG hD mN ha hb
        rw [swS_2 (by omega)] at mN4
        refine ⟨_, ⟨_, rfl, RM_Ws hM2 ok (fun x v _ hx => ?_) mN4, fun x v hx => ?_⟩, ?_⟩
        · rw [up2_e, if_neg (by omega), up2_e, if_neg (by omega), up2_e, if_neg (by omega), up2_e, if_neg (by omega)]
        · rw [up2_e, if_neg (by omega), up2_e, if_neg (by omega), up2_e, if_neg (by omega), up2_e, if_neg (by omega)]; exact hF2 x v hx
        · unfold f_X12_swapOf_31b f_X12_swapOf_72 f_X12_swapOf_85
          simp only [m_r9, bs, many1, q1 I2 hM2]
          rw [if_neg (nI_ge hb (by omega))]
          simp only [m_cv, trd_m (p := p) (kn := kn) (L := L) (show a < 6 by omega) (show a + 1 + j < 6 by omega), bs, u1, i10, nI_1]
          by_cases v : z.2 ≤ touI (sP σ) (swS (sW σ) a (a + 1 + j))
          · simp only [v, ↓reduceIte] <;> rfl
          · simp only [v, ↓reduceIte] <;> rfl
end S20b
