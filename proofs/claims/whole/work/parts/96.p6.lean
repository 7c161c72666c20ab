/-! ===== who, look ===== -/
theorem lupX {S R : Type} (F : (S → Option R) → S → Option R) (st : Nat → S) (e : Nat) (res : Option R) (Inv : Nat → Prop) (hx : Inv e → ∀ ag, F ag (st e) = res) (hs : ∀ j, j < e → Inv j → ∀ ag, F ag (st j) = res ∨ (Inv (j + 1) ∧ F ag (st j) = ag (st (j + 1)))) : ∀ n j, j ≤ e → e - j < n → Inv j → loopF F n (st j) = res := by
  intro n
  induction n with
  | zero => intro j _ h; exact absurd h (Nat.not_lt_zero _)
  | succ n ih =>
    intro j hj hn hI
    show F (loopF F n) (st j) = res
    by_cases h : j = e
    · subst h; exact hx hI _
    · rcases hs j (by omega) hI (loopF F n) with h1 | ⟨h1, h2⟩
      · exact h1
      · rw [h2]; exact ih (j + 1) (by omega) (by omega) h1
def fitB (σ : St) (g : Nat) : Nat → Bool
  | 0 => true
  | i + 1 => fitB σ g i && (rch (sn σ) ((sP σ).2.2.2.1 g) ((sW σ).2.2.2.1 g) ((sW σ).2.2.1 (ssd σ i)) (sst σ i) == (ssr σ i == 1))
theorem fitB_f {σ : St} {g i : Nat} (h : fitB σ g i = false) : ∀ j, i ≤ j → fitB σ g j = false := by
  intro j
  induction j with
  | zero => intro hj; rw [show i = 0 by omega] at h; exact h
  | succ j ih =>
    intro hj
    by_cases z : i = j + 1
    · subst z; exact h
    · simp only [fitB, ih (by omega), Bool.false_and]
section S6
variable {σ : St} {p : Nat} {kn : Nat → Nat} {I : Nat → Nat → Int32} {L : Nat → Nat → Int64}
theorem a42 {R : Nat → Nat → Option Nat} {j : Nat} (h : j < 6) : aI 20 (129, I, R, L) 42 (nI j) = some (I 42 j) := aI_n (k := 42) (n := 6) (by decide) rfl h (by decide)
theorem a43 {R : Nat → Nat → Option Nat} {j : Nat} (h : j < 6) : aI 20 (129, I, R, L) 43 (nI j) = some (I 43 j) := aI_n (k := 43) (n := 6) (by decide) rfl h (by decide)
theorem a44 {R : Nat → Nat → Option Nat} {j : Nat} (h : j < 6) : aI 22 (129, I, R, L) 44 (nI j) = some (I 44 j) := aI_n (k := 44) (n := 6) (by decide) rfl h (by decide)
theorem a123 {R : Nat → Nat → Option Nat} {j : Nat} (h : j < 6) : aI 20 (129, I, R, L) 123 (nI j) = some (I 123 j) := aI_n (k := 123) (n := 6) (by decide) rfl h (by decide)
theorem a124 {R : Nat → Nat → Option Nat} {j : Nat} (h : j < 6) : aI 20 (129, I, R, L) 124 (nI j) = some (I 124 j) := aI_n (k := 124) (n := 6) (by decide) rfl h (by decide)
theorem a125 {R : Nat → Nat → Option Nat} {j : Nat} (h : j < 6) : aI 20 (129, I, R, L) 125 (nI j) = some (I 125 j) := aI_n (k := 125) (n := 6) (by decide) rfl h (by decide)
theorem fits_c {g : Nat} (hC : RC σ p kn I L) (ok : SOk σ) (hg : g < sG σ) : f_X11_fitsAllSeen 0 (nI g) (129, I, Rof p kn, L) = some (bi (fitB σ g (sS σ))) := by
  have hp := isP_of hC.1.1
  have hS6 : sS σ ≤ 6 := ok.2.2.2.2.1.1
  have hS := hC.2.2.2.2.2.1.1
  unfold f_X11_fitsAllSeen f_X11_fitsAllSeen_2
  refine lupX _ (fun j => nI j) (sS σ) _ (fun j => fitB σ g j = true) (fun hI ag => ?_) (fun j hj hI ag => ?_) FU 0 (Nat.zero_le _) (by have := FU_big (e := sS σ) (by omega); omega) rfl
  · show f_X11_fitsAllSeen_2b 0 (nI g) _ ag (nI (sS σ)) = _
    unfold f_X11_fitsAllSeen_2b
    simp only [c_gI, bs, hS]
    rw [if_pos (nI_le (Nat.le_refl _) (by omega)), hI]; rfl
  · obtain ⟨s1, s2, s3⟩ := hC.2.2.2.2.2.1.2 j hj
    obtain ⟨o1, o2, o3⟩ := ok.2.2.2.2.1.2 j hj
    have hr := reaches_c (p := p) (kn := kn) (L := L) hp isN_29 hC.2.1 hC.2.2.1 ok.1 ok.2.1 hg o1 o2
    have hb : f_X11_fitsAllSeen_2b 0 (nI g) (129, I, Rof p kn, L) ag (nI j) = if bi (rch (sP σ).1 ((sP σ).2.2.2.1 g) ((sW σ).2.2.2.1 g) ((sW σ).2.2.1 (ssd σ j)) (sst σ j)) = nI (ssr σ j) then ag (nI (j + 1)) else some 0 := by
      unfold f_X11_fitsAllSeen_2b
      simp only [c_gI, bs, hS]
      rw [if_neg (nI_ge hj (by omega))]
      simp only [c_r4, c_r5, c_r11, c_r12, c_r13, bs, a42 (show j < 6 by omega), a43 (show j < 6 by omega), a44 (show j < 6 by omega), s1, s2, s3, p_cv hp, hr, nI_1, zr_0]
    have hfit : fitB σ g (j + 1) = (fitB σ g j && (rch (sP σ).1 ((sP σ).2.2.2.1 g) ((sW σ).2.2.2.1 g) ((sW σ).2.2.1 (ssd σ j)) (sst σ j) == (ssr σ j == 1))) := rfl
    show f_X11_fitsAllSeen_2b 0 (nI g) _ ag (nI j) = _ ∨ (_ ∧ f_X11_fitsAllSeen_2b 0 (nI g) _ ag (nI j) = _)
    rw [hb]
    generalize rch (sP σ).1 ((sP σ).2.2.2.1 g) ((sW σ).2.2.2.1 g) ((sW σ).2.2.1 (ssd σ j)) (sst σ j) = b at hfit ⊢
    rw [hI, Bool.true_and] at hfit
    rcases (show ssr σ j = 0 ∨ ssr σ j = 1 by omega) with hz | hz <;> rw [hz] at hfit ⊢ <;> cases b
    · right; exact ⟨hfit, rfl⟩
    · left; rw [fitB_f (i := j + 1) hfit _ (by omega)]; rfl
    · left; rw [fitB_f (i := j + 1) hfit _ (by omega)]; rfl
    · right; exact ⟨hfit, rfl⟩
theorem who_c (hC : RC σ p kn I L) (ok : SOk σ) : f_X11_who 0 (129, I, Rof p kn, L) = some (nI (fN (fun g => fitB σ g (sS σ)) (sG σ))) := by
  have hp := isP_of hC.1.1
  obtain ⟨hn3, hn9, hG, hD⟩ := okn ok
  rw [← fOr_N _ _ hG]
  unfold f_X11_who f_X11_who_4
  refine lup0 _ (fun j => (fOr (fun g => fitB σ g (sS σ)) j, nI j)) (sG σ) (FU_big (by omega)) _ (fun ag => ?_) (fun j hj ag => ?_)
  · show f_X11_who_4b 0 _ ag _ (nI (sG σ)) = _
    unfold f_X11_who_4b
    simp only [c_r4, bs, p_gI hp, hC.2.1.1.2.1]
    rw [if_pos (nI_le (Nat.le_refl _) (by show sG σ < _; omega))]
  · show f_X11_who_4b 0 _ ag _ (nI j) = _
    unfold f_X11_who_4b
    simp only [c_r4, bs, p_gI hp, hC.2.1.1.2.1]
    rw [if_neg (nI_ge hj (by show sG σ < _; omega))]
    simp only [c_cv, fits_c hC ok hj, bs, nI_1, fOr]
    rcases Bool.eq_false_or_eq_true (fitB σ j (sS σ)) with h | h <;> simp [h, bi]
theorem one1 : ((List.range 7).all fun G => decide (((1 : Int32) <<< (nI G &&& 31)) - (1 : Int32) = nI (2 ^ G - 1))) = true := by decide +kernel
theorem fN_all : ∀ j, fN (fun _ => true) j = 2 ^ j - 1 := by
  intro j
  induction j with
  | zero => rfl
  | succ j ih =>
    show fN (fun _ => true) j + 1 * 2 ^ j = _
    rw [ih]
    have hp : 2 ^ (j + 1) = 2 * 2 ^ j := by rw [Nat.pow_succ]; omega
    have := Nat.one_le_two_pow (n := j)
    omega
theorem who_m (hM : RM σ I L) (ok : SOk σ) : f_X12_whoCan 112 (129, I, Rof p kn, L) = some (nI (fN (fun g => fitB σ g (sS σ)) (sG σ))) := by
  obtain ⟨hn3, hn9, hG, hD⟩ := okn ok
  have hS6 : sS σ ≤ 6 := ok.2.2.2.2.1.1
  have mS := hM.2.2.2.2.1.1
  unfold f_X12_whoCan
  simp only [m_r9, bs, many1, hM.1.1.2.1]
  rw [of_decide_eq_true (rall one1 (show (sP σ).2.1 < 7 by have : (sP σ).2.1 ≤ 6 := hG; omega)), ← fN_all]
  unfold f_X12_whoCan_13
  refine lup0 _ (fun j => (nI (fN (fun g => fitB σ g j) (sG σ)), nI j)) (sS σ) (FU_big (by omega)) _ (fun ag => ?_) (fun j hj ag => ?_)
  · show f_X12_whoCan_13b 112 _ ag _ (nI (sS σ)) = _
    unfold f_X12_whoCan_13b
    simp only [m_gI, bs, mS]
    rw [if_pos (nI_le (Nat.le_refl _) (by omega))]
  · obtain ⟨s1, s2, s3⟩ := hM.2.2.2.2.1.2 j hj
    obtain ⟨o1, o2, o3⟩ := ok.2.2.2.2.1.2 j hj
    have hr := whoReach_m (p := p) (kn := kn) (L := L) hM.1 hM.2.1 ok.1 ok.2.1 o1 o2
    rw [fOr_N _ _ hG] at hr
    show f_X12_whoCan_13b 112 _ ag _ (nI j) = _
    unfold f_X12_whoCan_13b
    simp only [m_gI, bs, mS]
    rw [if_neg (nI_ge hj (by omega))]
    simp only [m_r19, m_r20, m_r21, bs, a123 (show j < 6 by omega), a124 (show j < 6 by omega), a125 (show j < 6 by omega), s1, s2, s3, m_cv, hr, nI_1]
    obtain ⟨f1, f2⟩ := fN_and (fun g => fitB σ g j) (fun g => rch (sP σ).1 ((sP σ).2.2.2.1 g) ((sW σ).2.2.2.1 g) ((sW σ).2.2.1 (ssd σ j)) (sst σ j)) (sG σ) hG
    rcases (show ssr σ j = 0 ∨ ssr σ j = 1 by omega) with hz | hz
    · rw [hz, if_neg (by decide)]
      have e := of_decide_eq_true (rall (rall (rall andN (show sG σ < 7 by omega)) (fN_lt (fun g => fitB σ g j) (sG σ))) (fN_lt (fun g => rch (sP σ).1 ((sP σ).2.2.2.1 g) ((sW σ).2.2.2.1 g) ((sW σ).2.2.1 (ssd σ j)) (sst σ j)) (sG σ)))
      have e' : nI (fN (fun g => fitB σ g j) (sG σ)) &&& (nI (fN (fun g => rch (sP σ).1 ((sP σ).2.2.2.1 g) ((sW σ).2.2.2.1 g) ((sW σ).2.2.1 (ssd σ j)) (sst σ j)) (sP σ).2.1) ^^^ -1) = _ := e
      rw [e', f2]
      rw [fN_congr (g := fun g => fitB σ g (j + 1)) (sG σ) (fun g _ => by simp only [fitB, hz]; cases rch (sn σ) ((sP σ).2.2.2.1 g) ((sW σ).2.2.2.1 g) ((sW σ).2.2.1 (ssd σ j)) (sst σ j) <;> rfl)]
    · rw [hz, if_pos (by decide)]
      have e := of_decide_eq_true (rall (rall andI (fN_64 (fun g => fitB σ g j) hG)) (fN_64 (fun g => rch (sP σ).1 ((sP σ).2.2.2.1 g) ((sW σ).2.2.2.1 g) ((sW σ).2.2.1 (ssd σ j)) (sst σ j)) hG))
      have e' : nI (fN (fun g => fitB σ g j) (sG σ)) &&& nI (fN (fun g => rch (sP σ).1 ((sP σ).2.2.2.1 g) ((sW σ).2.2.2.1 g) ((sW σ).2.2.1 (ssd σ j)) (sst σ j)) (sP σ).2.1) = _ := e
      rw [e', f1]
      rw [fN_congr (g := fun g => fitB σ g (j + 1)) (sG σ) (fun g _ => by simp only [fitB, hz]; cases rch (sn σ) ((sP σ).2.2.2.1 g) ((sW σ).2.2.2.1 g) ((sW σ).2.2.1 (ssd σ j)) (sst σ j) <;> rfl)]
theorem st_who (M : Mem) (h : Rel M) : StepP (f_X11_who 0 M) M (fun M => f_X12_who 112 M) Rel := by
  obtain ⟨σ, p, kn, I, L, rfl, ok, hC, hM⟩ := h
  refine ⟨_, (129, up2 I 112 0 0, Rof p kn, L), who_c hC ok, ?_, Rel_th ok hC hM⟩
  show f_X12_who 112 _ = _
  unfold f_X12_who
  simp only [m_pI, bs, m_cv, who_m (RM_th ok hM) ok]
/-- the first of the least -/
def lkS (gr : Nat → Nat) : Nat → Nat × Nat
  | 0 => (0, gr 0)
  | j + 1 => if gr (j + 1) < (lkS gr j).2 then (j + 1, gr (j + 1)) else lkS gr j
theorem lkS_le (gr : Nat → Nat) (B : Nat) (h : ∀ j, gr j ≤ B) : ∀ j, (lkS gr j).1 ≤ j ∧ (lkS gr j).2 ≤ B := by
  intro j
  induction j with
  | zero => exact ⟨Nat.le_refl _, h 0⟩
  | succ j ih =>
    simp only [lkS]
    split
    · exact ⟨Nat.le_refl _, h _⟩
    · exact ⟨by omega, ih.2⟩
theorem st_look (M : Mem) (a1 : Int32) (h : Rel M) : StepP (f_X11_look 0 a1 M) M (fun M => f_X12_look 112 a1 M) Rel := by
  obtain ⟨σ, p, kn, I, L, rfl, ok, hC, hM⟩ := h
  have hp := isP_of hC.1.1
  have hM' := RM_th ok hM
  obtain ⟨hn3, hn9, hG, hD⟩ := okn ok
  rcases ixn a1 (sD σ) (by omega) with hx | ⟨d, hd, rfl⟩
  · refine ⟨-1, (129, up2 I 112 0 0, Rof p kn, L), ?_, ?_, Rel_th ok hC hM⟩
    · unfold f_X11_look
      simp only [c_cv, isD_c_no hC ok hx, bs, ↓reduceIte]
    · show f_X12_look 112 _ _ = _
      unfold f_X12_look
      simp only [m_pI, bs, m_cv, isD_m_no hM' ok hx, ↓reduceIte]
  have hv : fN (fun g => fitB σ g (sS σ)) (sG σ) < 64 := fN_64 _ hG
  have hwc := who_c hC ok
  have hwm := who_m (p := p) (kn := kn) hM' ok
  generalize fN (fun g => fitB σ g (sS σ)) (sG σ) = v at hv hwc hwm
  have hpc := pc_le v
  -- how many of these reach it, at a turn
  have hy : ∀ t, ∃ y, y < 64 ∧ (t < sn σ → f_X8_whoReach p 29 (nI d) (nI t) (129, I, Rof p kn, L) = some (nI y) ∧ f_X12_whoReach 112 (nI d) (nI t) (129, up2 I 112 0 0, Rof p kn, L) = some (nI y)) := fun t => ⟨fN (fun g => rch (sP σ).1 ((sP σ).2.2.2.1 g) ((sW σ).2.2.2.1 g) ((sW σ).2.2.1 d) t) (sP σ).2.1, fN_64 _ hG, fun ht => by
    have a := whoReach_c (p := p) (kn := kn) (L := L) hp isN_29 hC.2.1 hC.2.2.1 ok.1 ok.2.1 hd ht
    have b := whoReach_m (p := p) (kn := kn) (L := L) hM'.1 hM'.2.1 ok.1 ok.2.1 hd ht
    rw [fOr_N _ _ hG] at a b
    exact ⟨a, b⟩⟩
  have hY : ∃ Y : Nat → Nat, ∀ t, Y t < 64 ∧ (t < sn σ → f_X8_whoReach p 29 (nI d) (nI t) (129, I, Rof p kn, L) = some (nI (Y t)) ∧ f_X12_whoReach 112 (nI d) (nI t) (129, up2 I 112 0 0, Rof p kn, L) = some (nI (Y t))) := ⟨fun t => Classical.choose (hy t), fun t => Classical.choose_spec (hy t)⟩
  obtain ⟨Y, hY⟩ := hY
  have hand : ∀ t, nI v &&& nI (Y t) = nI (v &&& Y t) ∧ v &&& Y t < 64 := fun t => ⟨of_decide_eq_true (rall (rall andI hv) (hY t).1), Nat.lt_of_le_of_lt Nat.and_le_left hv⟩
  have hsub1 : ((List.range 64).all fun a => (List.range 64).all fun b => decide (pc (a &&& b) ≤ pc a)) = true := by decide +kernel
  have hyle : ∀ t, pc (v &&& Y t) ≤ pc v := fun t => of_decide_eq_true (rall (rall hsub1 hv) (hY t).1)
  by_cases h2 : pc v < 2
  · refine ⟨-9, (129, up2 I 112 0 0, Rof p kn, L), ?_, ?_, Rel_th ok hC hM⟩
    · unfold f_X11_look
      simp only [c_cv, isD_c_yes hC ok hd, hwc, bitCount_c hv, bs, z10, ↓reduceIte]
      rw [if_neg (show ¬ (2 : Int32) ≤ nI (pc v) from nI_ge (b := 2) h2 (by decide))]
    · show f_X12_look 112 _ _ = _
      unfold f_X12_look
      simp only [m_pI, bs, m_cv, isD_m_yes hM' ok hd, hwm, ones_m hv, z10, ↓reduceIte]
      unfold f_X12_look_33
      refine lup0 _ (fun _ => (-9, 99, 0)) 0 (FU_big (by decide)) _ (fun ag => ?_) (fun j hj ag => absurd hj (Nat.not_lt_zero _))
      show f_X12_look_33b 112 (nI d) (nI (pc v)) _ ag (-9) 99 0 = _
      unfold f_X12_look_33b
      simp only [m_r9, bs, many0, hM'.1.1.1]
      rw [if_neg (nI_nle (n := (sP σ).1) (by have : 3 ≤ (sP σ).1 := hn3; omega) (by have : (sP σ).1 ≤ 9 := hn9; omega)), if_pos (show nI (pc v) ≤ (1 : Int32) from nI_le (b := 1) (by omega) (by decide))]
  · generalize hgr : (fun t => if pc (v &&& Y t) < pc v - pc (v &&& Y t) then pc v - pc (v &&& Y t) else pc (v &&& Y t)) = gr
    have hgrt : ∀ t, gr t = if pc (v &&& Y t) < pc v - pc (v &&& Y t) then pc v - pc (v &&& Y t) else pc (v &&& Y t) := fun t => by rw [← hgr]
    have hgle : ∀ t, gr t ≤ pc v := fun t => by
      rw [hgrt]
      have := hyle t
      split <;> omega
    have hlk := lkS_le gr (pc v) hgle
    have hgi : ∀ t, (if nI (pc (v &&& Y t)) < nI (pc v) - nI (pc (v &&& Y t)) then nI (pc v) - nI (pc (v &&& Y t)) else nI (pc (v &&& Y t))) = nI (gr t) := fun t => by
      rw [pk_sub (hyle t), hgrt]
      have := pc_le (v &&& Y t)
      by_cases z : pc (v &&& Y t) < pc v - pc (v &&& Y t)
      · rw [if_pos z, if_pos (nI_lt z (by omega))]
      · rw [if_neg z, if_neg (nI_nlt (by omega) (by omega))]
    have hn1 : sn σ = (sn σ - 1) + 1 := by omega
    refine ⟨nI (lkS gr (sn σ - 1)).1, (129, up2 I 112 0 0, Rof p kn, L), ?_, ?_, Rel_th ok hC hM⟩
    · unfold f_X11_look
      simp only [c_cv, isD_c_yes hC ok hd, hwc, bitCount_c hv, bs, z10, ↓reduceIte]
      rw [if_pos (show (2 : Int32) ≤ nI (pc v) from nI_le (a := 2) (by omega) (by omega))]
      unfold f_X11_look_40
      refine lup0 _ (fun j => match j with | 0 => (-9, nI (pc v) + 1, 0) | j + 1 => (nI (lkS gr j).1, nI (lkS gr j).2, nI (j + 1))) (sn σ) (FU_big (by omega)) _ (fun ag => ?_) (fun j hj ag => ?_)
      · rw [hn1]
        show f_X11_look_40b 0 (nI d) (nI v) (nI (pc v)) _ ag _ _ (nI (sn σ - 1 + 1)) = _
        unfold f_X11_look_40b
        simp only [c_r4, bs, p_gI hp, hC.2.1.1.1]
        rw [if_pos (nI_le (by show sn σ ≤ _; omega) (by omega)), Nat.add_sub_cancel]
      · cases j with
        | zero =>
          show f_X11_look_40b 0 (nI d) (nI v) (nI (pc v)) _ ag (-9) (nI (pc v) + 1) (nI 0) = ag (nI 0, nI (gr 0), nI 1)
          unfold f_X11_look_40b
          simp only [c_r4, c_r5, bs, p_gI hp, hC.2.1.1.1]
          rw [if_neg (nI_ge (a := 0) (by show 0 < sn σ; omega) (by show sn σ < _; omega))]
          simp only [p_cv hp, ((hY 0).2 hj).1, (hand 0).1, bitCount_c (hand 0).2, bs, hgi, nI_1]
          rw [if_neg (nI_ge (by have := hgle 0; omega) (by omega))]
        | succ j =>
          show f_X11_look_40b 0 (nI d) (nI v) (nI (pc v)) _ ag (nI (lkS gr j).1) (nI (lkS gr j).2) (nI (j + 1)) = ag (nI (lkS gr (j + 1)).1, nI (lkS gr (j + 1)).2, nI (j + 1 + 1))
          unfold f_X11_look_40b
          simp only [c_r4, c_r5, bs, p_gI hp, hC.2.1.1.1]
          rw [if_neg (nI_ge hj (by show sn σ < _; omega))]
          simp only [p_cv hp, ((hY (j + 1)).2 hj).1, (hand (j + 1)).1, bitCount_c (hand (j + 1)).2, bs, hgi, nI_1, lkS]
          have b1 := hgle (j + 1)
          have b2 := (hlk j).2
          by_cases z : gr (j + 1) < (lkS gr j).2
          · rw [if_neg (nI_ge z (by omega)), if_pos z]
          · rw [if_pos (nI_le (by omega) (by omega)), if_neg z]
    · show f_X12_look 112 _ _ = _
      unfold f_X12_look
      simp only [m_pI, bs, m_cv, isD_m_yes hM' ok hd, hwm, ones_m hv, z10, ↓reduceIte]
      unfold f_X12_look_33
      refine lup0 _ (fun j => match j with | 0 => (-9, 99, 0) | j + 1 => (nI (lkS gr j).1, nI (lkS gr j).2, nI (j + 1))) (sn σ) (FU_big (by omega)) _ (fun ag => ?_) (fun j hj ag => ?_)
      · rw [hn1]
        show f_X12_look_33b 112 (nI d) (nI (pc v)) _ ag _ _ (nI (sn σ - 1 + 1)) = _
        unfold f_X12_look_33b
        simp only [m_r9, bs, many0, hM'.1.1.1]
        rw [if_pos (nI_le (by show sn σ ≤ _; omega) (by omega)), Nat.add_sub_cancel]
      · have hcm : ∀ (x3 x4 : Int32) (j : Nat), j < sn σ → f_X12_look_33b 112 (nI d) (nI (pc v)) (129, up2 I 112 0 0, Rof p kn, L) ag x3 x4 (nI j) = ag (if x4 ≤ nI (gr j) then x3 else nI j, if x4 ≤ nI (gr j) then x4 else nI (gr j), nI (j + 1)) := by
          intro x3 x4 j hj
          have hy1 := hyle j
          have hy6 := pc_le (v &&& Y j)
          have h84 : ∀ y : Int32, f_X12_look_84 ag 112 (nI d) (nI (pc v)) x3 x4 (nI j) y (129, up2 I 112 0 0, Rof p kn, L) = ag (if x4 ≤ y then x3 else nI j, if x4 ≤ y then x4 else y, nI (j + 1)) := by
            intro y
            unfold f_X12_look_84 f_X12_look_99
            rw [nI_1]
            by_cases z : x4 ≤ y <;> simp only [z, ↓reduceIte]
          unfold f_X12_look_33b
          simp only [m_r9, bs, many0, hM'.1.1.1]
          rw [if_neg (nI_ge hj (by show sn σ < _; omega)), if_neg (show ¬ nI (pc v) ≤ (1 : Int32) from nI_ge (a := 1) (by omega) (by omega))]
          simp only [m_cv, hwm, ((hY j).2 hj).2, (hand j).1, ones_m (hand j).2, bs, pk_sub hy1, h84]
          have hg := hgrt j
          by_cases z : pc (v &&& Y j) ≤ pc v - pc (v &&& Y j)
          · rw [if_pos (nI_le z (by omega))]
            rw [show pc v - pc (v &&& Y j) = gr j by rw [hg]; split <;> omega]
          · rw [if_neg (nI_ge (by omega) (by omega))]
            rw [show pc (v &&& Y j) = gr j by rw [hg]; split <;> omega]
        cases j with
        | zero =>
          show f_X12_look_33b 112 (nI d) (nI (pc v)) _ ag (-9) 99 (nI 0) = ag (nI 0, nI (gr 0), nI 1)
          have hc : ¬ (99 : Int32) ≤ nI (gr 0) := nI_ge (b := 99) (by have := hgle 0; omega) (by decide)
          rw [hcm _ _ 0 hj, if_neg hc, if_neg hc]
        | succ j =>
          show f_X12_look_33b 112 (nI d) (nI (pc v)) _ ag (nI (lkS gr j).1) (nI (lkS gr j).2) (nI (j + 1)) = ag (nI (lkS gr (j + 1)).1, nI (lkS gr (j + 1)).2, nI (j + 1 + 1))
          rw [hcm _ _ (j + 1) hj]
          simp only [lkS]
          have b1 := hgle (j + 1)
          have b2 := (hlk j).2
          by_cases z : gr (j + 1) < (lkS gr j).2
          · rw [if_neg (nI_ge z (by omega)), if_neg (nI_ge z (by omega)), if_pos z]
          · rw [if_pos (nI_le (by omega) (by omega)), if_pos (nI_le (by omega) (by omega)), if_neg z]
end S6
