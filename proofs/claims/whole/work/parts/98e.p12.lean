/-! ===== changes, spins ===== -/
def swS (w : NowS) (a b : Nat) : NowS := (w.1, w.2.1, w.2.2.1, udn (udn w.2.2.2.1 a (w.2.2.2.1 b)) b (w.2.2.2.1 a), w.2.2.2.2)
theorem swS_ok {n G D a b : Nat} {w : NowS} (ok : NowOk n G D w) (ha : a < G) (hb : b < G) : NowOk n G D (swS w a b) := by
  refine ⟨ok.1, ok.2.1, fun i hi => ⟨?_, (ok.2.2 i hi).2⟩⟩
  show udn (udn w.2.2.2.1 a (w.2.2.2.1 b)) b (w.2.2.2.1 a) i < n
  unfold udn
  split
  · exact (ok.2.2 a ha).1
  · split
    · exact (ok.2.2 b hb).1
    · exact (ok.2.2 i hi).1
/-- portions after the spilling -/
def spB (tl po : Nat → Nat) (d : Nat) : Nat := if tl d = 1 ∧ 0 < po d then 1 else 0
def spP (tl po : Nat → Nat) : Nat → Nat → Nat
  | 0 => po
  | j + 1 => udn (spP tl po j) j (po j - spB tl po j)
def spN (tl po : Nat → Nat) : Nat → Nat
  | 0 => 0
  | j + 1 => spN tl po j + spB tl po j
theorem spP_ge {tl po : Nat → Nat} : ∀ j d, j ≤ d → spP tl po j d = po d := by
  intro j
  induction j with
  | zero => intro d _; rfl
  | succ j ih => intro d hd; show udn _ _ _ d = _; rw [udn_o (by omega)]; exact ih d (by omega)
theorem spP_le {tl po : Nat → Nat} : ∀ j d, spP tl po j d ≤ po d := by
  intro j
  induction j with
  | zero => intro d; exact Nat.le_refl _
  | succ j ih =>
    intro d
    show udn _ _ _ d ≤ _
    unfold udn; split
    · rename_i h; subst h; omega
    · exact ih d
theorem udn_id {f : Nat → Nat} {j v : Nat} (h : f j = v) : udn f j v = f := by
  funext i; unfold udn; split
  · rename_i z; rw [z, h]
  · rfl
def spC (I : Nat → Nat → Int32) (tl po : Nat → Nat) : Nat → Nat → Nat → Int32
  | 0 => I
  | j + 1 => if tl j = 1 ∧ 0 < po j then up2 (spC I tl po j) 30 j (nI (po j - 1)) else spC I tl po j
def spM (I : Nat → Nat → Int32) (tl po : Nat → Nat) : Nat → Nat → Nat → Int32
  | 0 => I
  | j + 1 => up2 (spM I tl po j) 119 (1 + j) (nI (po j - spB tl po j))
theorem spC_o {I : Nat → Nat → Int32} {tl po : Nat → Nat} : ∀ j a b, a ≠ 30 → spC I tl po j a b = I a b := by
  intro j
  induction j with
  | zero => intro a b _; rfl
  | succ j ih =>
    intro a b h
    simp only [spC]
    split
    · rw [up2_e, if_neg (by omega)]; exact ih a b h
    · exact ih a b h
theorem spM_o {I : Nat → Nat → Int32} {tl po : Nat → Nat} : ∀ j a b, a ≠ 119 → spM I tl po j a b = I a b := by
  intro j
  induction j with
  | zero => intro a b _; rfl
  | succ j ih =>
    intro a b h
    simp only [spM]
    rw [up2_e, if_neg (by omega)]; exact ih a b h
theorem spC_N {I : Nat → Nat → Int32} {tl : Nat → Nat} {G D : Nat} {w : NowS} (hw : NowC I 29 G D w) : ∀ j, NowC (spC I tl w.2.1 j) 29 G D (w.1, spP tl w.2.1 j, w.2.2.1, w.2.2.2.1, w.2.2.2.2) := by
  intro j
  induction j with
  | zero => exact hw
  | succ j ih =>
    simp only [spC, spP, spB]
    split
    · exact NowC_por (d := j) (v := w.2.1 j - 1) ih
    · rw [udn_id (by rw [spP_ge j j (Nat.le_refl _)]; rfl)]; exact ih
theorem spM_N {I : Nat → Nat → Int32} {tl : Nat → Nat} {G D : Nat} {w : NowS} (hG : G ≤ 6) (hD : D ≤ 6) (hw : NowM I 119 0 G D w) : ∀ j, j ≤ D → NowM (spM I tl w.2.1 j) 119 0 G D (w.1, spP tl w.2.1 j, w.2.2.1, w.2.2.2.1, w.2.2.2.2) := by
  intro j
  induction j with
  | zero => intro _; exact hw
  | succ j ih =>
    intro hj
    have h := NowM_por (d := j) (v := w.2.1 j - spB tl w.2.1 j) hG hD (by omega) (ih (by omega))
    rw [Nat.zero_add] at h
    exact h
section S12
variable {σ : St} {p : Nat} {kn : Nat → Nat} {I : Nat → Nat → Int32} {L : Nat → Nat → Int64}
theorem chg_c {k a b : Nat} (hk : isN k) (ha : a < 6) (hb : b < 6) : f_X7_changeSeats k (nI a) (nI b) (129, I, Rof p kn, L) = some (129, up2 (up2 I (k + 3) a (I (k + 3) b)) (k + 3) b (I (k + 3) a), Rof p kn, L) := by
  unfold f_X7_changeSeats
  simp only [n_gR hk (show 1 ≤ 3 by decide) (show 3 ≤ 4 by decide), bs, n_aI hk (show 1 ≤ 3 by decide) (show 3 ≤ 4 by decide) ha, n_aI hk (show 1 ≤ 3 by decide) (show 3 ≤ 4 by decide) hb, n_sI hk (show 1 ≤ 3 by decide) (show 3 ≤ 4 by decide) ha, n_sI hk (show 1 ≤ 3 by decide) (show 3 ≤ 4 by decide) hb]
theorem chg_N {k a b G D : Nat} {w : NowS} (hw : NowC I k G D w) (ha : a < G) (hb : b < G) : NowC (up2 (up2 I (k + 3) a (I (k + 3) b)) (k + 3) b (I (k + 3) a)) k G D (swS w a b) := by
  rw [(hw.2.2 a ha).1, (hw.2.2 b hb).1]
  exact NowC_sit (d := b) (v := w.2.2.2.1 a) (NowC_sit (d := a) (v := w.2.2.2.1 b) hw)
theorem trd_m {a b : Nat} (ha : a < 6) (hb : b < 6) : f_X12_trades 112 (nI a) (nI b) (129, I, Rof p kn, L) = some (129, up2 (up2 I 119 (13 + a) (I 119 (13 + b))) 119 (13 + b) (I 119 (13 + a)), Rof p kn, L) := by
  have ea : (13 : Int32) + nI a = nI (13 + a) := nI_add 13 a
  have eb : (13 : Int32) + nI b = nI (13 + b) := nI_add 13 b
  unfold f_X12_trades
  simp only [m_r14, bs, ea, eb, m119 (show 13 + a < 25 by omega), m119 (show 13 + b < 25 by omega), s119 (show 13 + a < 25 by omega), s119 (show 13 + b < 25 by omega)]
theorem trd_N {a b G D : Nat} {w : NowS} (hG : G ≤ 6) (hD : D ≤ 6) (hw : NowM I 119 0 G D w) (ha : a < G) (hb : b < G) : NowM (up2 (up2 I 119 (13 + a) (I 119 (13 + b))) 119 (13 + b) (I 119 (13 + a))) 119 0 G D (swS w a b) := by
  have h1 := (hw.2.2 a ha).1
  have h2 := (hw.2.2 b hb).1
  rw [Nat.zero_add] at h1 h2
  rw [h1, h2]
  have z1 := NowM_sit (d := a) (v := w.2.2.2.1 b) hG hD (by omega) hw
  have z2 := NowM_sit (d := b) (v := w.2.2.2.1 a) hG hD (by omega) z1
  rw [Nat.zero_add] at z2
  exact z2
theorem st_changes (M : Mem) (a1 a2 : Int32) (h : Rel M) : StepI (f_X11_changes 0 a1 a2 M) (fun M => f_X12_changes 112 a1 a2 M) Rel := by
  obtain ⟨σ, p, kn, I, L, rfl, ok, hC, hM⟩ := h
  have hp := isP_of hC.1.1
  have hM' := RM_th ok hM
  obtain ⟨hn3, hn9, hG, hD⟩ := okn ok
  rcases ixn a1 (sG σ) (by omega) with hx | ⟨a, ha, rfl⟩
  · refine stepI (r := -1) (I1 := I) (R1 := Rof p kn) (L1 := L) ?_ ?_ (Rel_th ok hC hM)
    · unfold f_X11_changes
      simp only [c_cv, isG_c_no hC ok hx, bs, ↓reduceIte]
    · show f_X12_changes 112 _ _ _ = _
      unfold f_X12_changes
      simp only [m_pI, bs, m_cv, isG_m_no hM' ok hx, ↓reduceIte]
  rcases ixn a2 (sG σ) (by omega) with hx | ⟨b, hb, rfl⟩
  · refine stepI (r := -1) (I1 := I) (R1 := Rof p kn) (L1 := L) ?_ ?_ (Rel_th ok hC hM)
    · unfold f_X11_changes
      simp only [c_cv, isG_c_yes hC ok ha, isG_c_no hC ok hx, z10, bs, ↓reduceIte]
    · show f_X12_changes 112 _ _ _ = _
      unfold f_X12_changes
      simp only [m_pI, bs, m_cv, isG_m_yes hM' ok ha, isG_m_no hM' ok hx, z10, ↓reduceIte]
  by_cases hab : a = b
  · subst hab
    refine stepI (r := -1) (I1 := I) (R1 := Rof p kn) (L1 := L) ?_ ?_ (Rel_th ok hC hM)
    · unfold f_X11_changes
      simp only [c_cv, isG_c_yes hC ok ha, z10, bs, ↓reduceIte]
    · show f_X12_changes 112 _ _ _ = _
      unfold f_X12_changes
      simp only [m_pI, bs, m_cv, isG_m_yes hM' ok ha, z10, ↓reduceIte]
  have hne : ¬ nI a = nI b := fun z => hab ((nI_eq (by omega) (by omega)).mp z)
  obtain ⟨I1, kn1, r1, hC1, f1⟩ := remember_c hC ok
  have cN := chg_N hC1.2.2.1 ha hb
  have c1 := (cN.2.2 a ha).1
  have c1' : up2 (up2 I1 (29 + 3) a (I1 (29 + 3) b)) (29 + 3) b (I1 (29 + 3) a) 32 a = nI ((swS (sW σ) a b).2.2.2.1 a) := c1
  have E1 : f_X11_changes 0 (nI a) (nI b) (129, I, Rof p kn, L) = some (nI ((swS (sW σ) a b).2.2.2.1 a), (129, up2 (up2 I1 (29 + 3) a (I1 (29 + 3) b)) (29 + 3) b (I1 (29 + 3) a), Rof p kn1, L)) := by
    unfold f_X11_changes
    simp only [c_cv, isG_c_yes hC ok ha, isG_c_yes hC ok hb, z10, bs, ↓reduceIte, hne, r1, c_r5, n_cv isN_29, chg_c (p := p) (kn := kn1) (L := L) (I := I1) isN_29 (show a < 6 by omega) (show b < 6 by omega), r293, c32 (show a < 6 by omega)]
    rw [c1']
  generalize hI2 : up2 (up2 I1 (29 + 3) a (I1 (29 + 3) b)) (29 + 3) b (I1 (29 + 3) a) = I2 at *
  have F2 : ∀ x y, x < 29 ∨ 33 < x → I2 x y = I1 x y := fun x y hx => by rw [← hI2, up2_e, if_neg (by omega), up2_e, if_neg (by omega)]
  have hM2 : RM σ I2 L := RM_hi (fun x y hx => by rw [F2 x y (by omega)]; exact f1 x y (by omega) (by omega)) hiEq.rf ok hM
  have hM2' := RM_th ok hM2
  obtain ⟨I3, n3, hM3, f3⟩ := notes_th (p := p) (kn := kn1) hM2 ok
  have mN := trd_N hG hD hM3.2.1 ha hb
  have m1 := (mN.2.2 a ha).1
  rw [Nat.zero_add] at m1
  have e13 : (13 : Int32) + nI a = nI (13 + a) := nI_add 13 a
  have E2 : f_X12_changes 112 (nI a) (nI b) (129, I2, Rof p kn1, L) = some (nI ((swS (sW σ) a b).2.2.2.1 a), (129, up2 (up2 I3 119 (13 + a) (I3 119 (13 + b))) 119 (13 + b) (I3 119 (13 + a)), Rof p kn1, L)) := by
    unfold f_X12_changes
    simp only [m_pI, bs, m_cv, isG_m_yes hM2' ok ha, isG_m_yes hM2' ok hb, z10, ↓reduceIte, hne, n3, trd_m (p := p) (kn := kn1) (L := L) (I := I3) (show a < 6 by omega) (show b < 6 by omega), m_r14, e13, m119 (show 13 + a < 25 by omega)]
    rw [m1]; rfl
  exact stepI E1 E2 (fin_W ok hC1 hM3 F2 f3 (fun x y hx => by rw [up2_e, if_neg (by omega), up2_e, if_neg (by omega)]) (swS_ok ok.2.1 ha hb) cN mN)
theorem sub0 (v : Nat) : nI v - (0 : Int32) = nI v := pk_sub (a := v) (b := 0) (Nat.zero_le _)
theorem spill_c {P : PtyS} {w : NowS} (hp : isP p) (hP : PtyC I p P) (hw : NowC I 29 P.2.1 P.2.2.1 w) (okP : PtyOk P) (ok : NowOk P.1 P.2.1 P.2.2.1 w) (hq : p = 3 ∨ p = 19) : f_X11_spill 0 (129, I, Rof p kn, L) = some (nI (spN P.2.2.2.2.2 w.2.1 P.2.2.1), (129, spC I P.2.2.2.2.2 w.2.1 P.2.2.1, Rof p kn, L)) := by
  obtain ⟨⟨hn3, hn9, hG, hD⟩, -, htl⟩ := id okP
  unfold f_X11_spill f_X11_spill_4
  refine lup0 _ (fun j => (nI (spN P.2.2.2.2.2 w.2.1 j), nI j, (129, spC I P.2.2.2.2.2 w.2.1 j, Rof p kn, L))) P.2.2.1 (FU_big (by omega)) _ (fun ag => ?_) (fun j hj ag => ?_)
  · show f_X11_spill_4b 0 ag _ (nI P.2.2.1) (129, spC I P.2.2.2.2.2 w.2.1 P.2.2.1, Rof p kn, L) = _
    unfold f_X11_spill_4b
    simp only [c_r4, p_gI hp, bs, spC_o _ p _ (by omega), hP.1.2.2]
    rw [if_pos (nI_le (Nat.le_refl _) (by omega))]
  · have hN := spC_N (tl := P.2.2.2.2.2) hw j
    have h30 := (hN.2.1 j hj).1
    have h30' : spC I P.2.2.2.2.2 w.2.1 j 30 j = nI (w.2.1 j) := by rw [← spP_ge (tl := P.2.2.2.2.2) (po := w.2.1) j j (Nat.le_refl _)]; exact h30
    have ht : spC I P.2.2.2.2.2 w.2.1 j (p + 3) j = nI (P.2.2.2.2.2 j) := by rw [spC_o _ _ _ (by omega)]; exact hP.2.2 j hj
    have htj := htl j hj
    have hpj := (ok.2.1 j hj).1
    show f_X11_spill_4b 0 ag (nI (spN P.2.2.2.2.2 w.2.1 j)) (nI j) (129, spC I P.2.2.2.2.2 w.2.1 j, Rof p kn, L) = ag (nI (spN P.2.2.2.2.2 w.2.1 j + spB P.2.2.2.2.2 w.2.1 j), nI (j + 1), (129, (if P.2.2.2.2.2 j = 1 ∧ 0 < w.2.1 j then up2 (spC I P.2.2.2.2.2 w.2.1 j) 30 j (nI (w.2.1 j - 1)) else spC I P.2.2.2.2.2 w.2.1 j), Rof p kn, L))
    unfold f_X11_spill_4b
    simp only [c_r4, p_gI hp, bs, spC_o _ p _ (show p ≠ 30 by omega), hP.1.2.2]
    rw [if_neg (nI_ge hj (by omega))]
    simp only [p_r5 hp, bs, p_aI hp (show 1 ≤ 3 by decide) (show 3 ≤ 3 by decide) (show j < 6 by omega), ht, c_r5, r291, c30 (show j < 6 by omega), h30', w30 (show j < 6 by omega), nI_1]
    by_cases z : P.2.2.2.2.2 j = 1
    · rw [if_pos (by rw [z]; rfl)]
      by_cases y : w.2.1 j = 0
      · rw [y, if_pos (by decide), if_neg (by omega)]
        unfold spB; rw [if_neg (by omega)]; rfl
      · rw [if_neg (nI_nle (by omega) (by omega)), if_pos ⟨z, by omega⟩]
        unfold spB; rw [if_pos ⟨z, by omega⟩]
        obtain ⟨q, hq⟩ : ∃ q, w.2.1 j = q + 1 := ⟨w.2.1 j - 1, by omega⟩
        rw [hq, nI_pred]; rfl
    · rw [if_neg (show ¬ nI (P.2.2.2.2.2 j) = (1 : Int32) from fun q => z ((nI_eq (b := 1) (by omega) (by decide)).mp q)), if_neg (by omega)]
      unfold spB; rw [if_neg (by omega)]; rfl
theorem spill_m {P : PtyS} {w : NowS} {k : Nat} (hP : PtyM I P) (hw : NowM I 119 0 P.2.1 P.2.2.1 w) (okP : PtyOk P) (ok : NowOk P.1 P.2.1 P.2.2.1 w) (hk : 3 ≤ k) (hk9 : k < 9) : f_X12_spins_75 112 (nI k) 0 0 (129, I, Rof p kn, L) = some (nI (spN P.2.2.2.2.2 w.2.1 P.2.2.1), (129, spM I P.2.2.2.2.2 w.2.1 P.2.2.1, Rof p kn, L)) := by
  obtain ⟨⟨hn3, hn9, hG, hD⟩, -, htl⟩ := id okP
  unfold f_X12_spins_75
  refine lup0 _ (fun j => (nI (spN P.2.2.2.2.2 w.2.1 j), nI j, (129, spM I P.2.2.2.2.2 w.2.1 j, Rof p kn, L))) P.2.2.1 (FU_big (by omega)) _ (fun ag => ?_) (fun j hj ag => ?_)
  · show f_X12_spins_75b 112 (nI k) ag _ (nI P.2.2.1) (129, spM I P.2.2.2.2.2 w.2.1 P.2.2.1, Rof p kn, L) = _
    unfold f_X12_spins_75b
    simp only [m_r9, many2, bs, spM_o _ 114 _ (show 114 ≠ 119 by decide), hP.1.2.2]
    rw [if_pos (nI_le (Nat.le_refl _) (by omega))]
  · have hN := spM_N (tl := P.2.2.2.2.2) hG hD hw j (by omega)
    have h30 := (hN.2.1 j hj).1
    rw [Nat.zero_add] at h30
    have h30' : spM I P.2.2.2.2.2 w.2.1 j 119 (1 + j) = nI (w.2.1 j) := by rw [← spP_ge (tl := P.2.2.2.2.2) (po := w.2.1) j j (Nat.le_refl _)]; exact h30
    have ht : spM I P.2.2.2.2.2 w.2.1 j 117 j = nI (P.2.2.2.2.2 j) := by rw [spM_o _ _ _ (by omega)]; exact hP.2.2 j hj
    have htj := htl j hj
    have hpj := (ok.2.1 j hj).1
    have e1 : (1 : Int32) + nI j = nI (1 + j) := nI_add 1 j
    have ea : nI (spN P.2.2.2.2.2 w.2.1 j) + (0 : Int32) = nI (spN P.2.2.2.2.2 w.2.1 j) := nI_add _ 0
    show f_X12_spins_75b 112 (nI k) ag (nI (spN P.2.2.2.2.2 w.2.1 j)) (nI j) (129, spM I P.2.2.2.2.2 w.2.1 j, Rof p kn, L) = ag (nI (spN P.2.2.2.2.2 w.2.1 j + spB P.2.2.2.2.2 w.2.1 j), nI (j + 1), (129, up2 (spM I P.2.2.2.2.2 w.2.1 j) 119 (1 + j) (nI (w.2.1 j - spB P.2.2.2.2.2 w.2.1 j)), Rof p kn, L))
    unfold f_X12_spins_75b f_X12_spins_118 f_X12_spins_119
    simp only [m_r9, many2, bs, spM_o _ 114 _ (show 114 ≠ 119 by decide), hP.1.2.2]
    rw [if_neg (nI_ge hj (by omega)), if_neg (show ¬ nI k ≤ (2 : Int32) from nI_ge (a := 2) (by omega) (by omega))]
    simp only [m_r12, m_r14, bs, m117 (show j < 12 by omega), ht, e1, m119 (show 1 + j < 25 by omega), h30', s119 (show 1 + j < 25 by omega), nI_1, sub0, ea]
    by_cases z : P.2.2.2.2.2 j = 1
    · rw [if_pos (by rw [z]; rfl)]
      by_cases y : w.2.1 j = 0
      · rw [show spB P.2.2.2.2.2 w.2.1 j = 0 from if_neg (by omega), y, if_pos (by decide)]; rfl
      · rw [if_neg (nI_nle (by omega) (by omega))]
        unfold spB; rw [if_pos ⟨z, by omega⟩]
        obtain ⟨q, hq⟩ : ∃ q, w.2.1 j = q + 1 := ⟨w.2.1 j - 1, by omega⟩
        rw [hq, nI_pred]; rfl
    · rw [if_neg (show ¬ nI (P.2.2.2.2.2 j) = (1 : Int32) from fun q => z ((nI_eq (b := 1) (by omega) (by decide)).mp q))]
      unfold spB; rw [if_neg (by omega)]; rfl
theorem in1_no {x : Int32} {m : Nat} {M : Mem} (hm : m < 2 ^ 30) (h : x < 0 ∨ nI m ≤ x) : f_X12_in x 1 (nI m - 1) M = some 0 := by
  unfold f_X12_in f_X12_in_14
  by_cases h0 : x < 1
  · rw [if_pos h0]; rfl
  · rw [if_neg h0, if_pos]
    · rfl
    · have hx : ¬ x < 0 := fun z => h0 (by
        have z' := Int32.lt_iff_toInt_lt.mp z
        apply Int32.lt_iff_toInt_lt.mpr
        have e0 : (0 : Int32).toInt = 0 := rfl
        have e1 : (1 : Int32).toInt = 1 := rfl
        omega)
      have h1 : nI m ≤ x := h.resolve_left hx
      apply Int32.lt_iff_toInt_lt.mpr
      have e1 : (nI m - 1).toInt = (m : Int) - 1 := pk_sub_toInt (a := m) (b := 1) hm (by omega)
      have e2 := Int32.le_iff_toInt_le.mp h1
      rw [nI_toInt (by omega)] at e2
      omega
theorem in1_yes {j m : Nat} {M : Mem} (hm : m < 2 ^ 30) (h0 : 1 ≤ j) (h : j < m) : f_X12_in (nI j) 1 (nI m - 1) M = some 1 := by
  unfold f_X12_in
  rw [if_neg (show ¬ nI j < (1 : Int32) from nI_nlt (b := 1) h0 (by omega)), if_neg]
  · rfl
  · intro h1
    have e1 : (nI m - 1).toInt = (m : Int) - 1 := pk_sub_toInt (a := m) (b := 1) hm (by omega)
    have e2 := Int32.lt_iff_toInt_lt.mp h1
    rw [e1, nI_toInt (by omega)] at e2
    omega
end S12
