/-! ===== rate ===== -/
section S15
variable {σ : St} {p : Nat} {kn : Nat → Nat} {I : Nat → Nat → Int32} {R : Nat → Nat → Option Nat} {L : Nat → Nat → Int64}
theorem q_cvk {α : Type} {o : Option α} {i : Nat} (hi : i < 6) : cvk (129, I, R, L) (106 + i) o = o := by
  unfold cvk
  rcases (show i = 0 ∨ i = 1 ∨ i = 2 ∨ i = 3 ∨ i = 4 ∨ i = 5 by omega) with rfl | rfl | rfl | rfl | rfl | rfl <;> exact if_pos ⟨by show _ < 129; decide, by decide⟩
theorem wr6 {i : Nat} : f_X6_worth i 17 (129, I, R, L) = some (I 17 2, (129, I, R, up2 L 17 5 (L 17 5 + 1))) := by
  unfold f_X6_worth
  simp only [k_gL, k_pL, k_gI, bs]
theorem l75 {v : Int64} : up2 L 17 5 v 17 5 = v := us
theorem wr10 {i : Nat} (hi : i < 6) : f_X10_worth (106 + i) 17 (129, I, R, L) = some (I 17 2 + I 17 1, (129, I, R, up2 (up2 L 17 5 (L 17 5 + 10)) 17 5 (L 17 5 + 10 + 1))) := by
  unfold f_X10_worth
  simp only [k_gL, k_pL, k_gI, bs, q_cvk hi, wr6, l75]
theorem wr1 {i : Nat} (hi : i < 6) : f_X1_worth (106 + i) 17 (129, I, R, L) = some (I 17 2 - I 17 3, (129, I, R, up2 (up2 L 17 5 (L 17 5 + 100)) 17 5 (L 17 5 + 100 + 1))) := by
  unfold f_X1_worth
  simp only [k_gL, k_pL, k_gI, bs, q_cvk hi, wr6, l75]
theorem wr2 {i : Nat} (hi : i < 6) : f_X2_worth (106 + i) 17 (129, I, R, L) = some (2 * (I 17 2 + I 17 1), (129, I, R, up2 (up2 (up2 L 17 5 (L 17 5 + 1000)) 17 5 (L 17 5 + 1000 + 10)) 17 5 (L 17 5 + 1000 + 10 + 1))) := by
  unfold f_X2_worth
  simp only [k_gL, k_pL, k_gI, bs, q_cvk hi, wr10 hi, l75]
theorem wr4 {i : Nat} (hi : i < 6) : f_X4_worth (106 + i) 17 (129, I, R, L) = some (I 17 2 - I 17 3 + I 17 0, (129, I, R, up2 (up2 (up2 L 17 5 (L 17 5 + 10000)) 17 5 (L 17 5 + 10000 + 100)) 17 5 (L 17 5 + 10000 + 100 + 1))) := by
  unfold f_X4_worth
  simp only [k_gL, k_pL, k_gI, bs, q_cvk hi, wr1 hi, l75]
theorem wr3 {i : Nat} (hi : i < 6) : f_X3_worth (106 + i) 17 (129, I, R, L) = some (I 17 2 + I 17 4, (129, I, R, up2 (up2 L 17 5 (L 17 5 + 100000)) 17 5 (L 17 5 + 100000 + 1))) := by
  unfold f_X3_worth
  simp only [k_gL, k_pL, k_gI, bs, q_cvk hi, wr6, l75]
def wtT (i : Nat) : Int64 := if i = 0 then 1 else if i = 1 then 11 else if i = 2 then 101 else if i = 3 then 1011 else if i = 4 then 10101 else 100001
def wtV (i : Nat) (its arm rc g t : Int32) : Int32 := if i = 0 then its else if i = 1 then its + arm else if i = 2 then its - rc else if i = 3 then 2 * (its + arm) else if i = 4 then its - rc + g else its + t
theorem lo2 {L1 : Nat → Nat → Int64} {v : Int64} (h : ∀ a b, ¬ (a = 17 ∧ b = 5) → L1 a b = L a b) : ∀ a b, ¬ (a = 17 ∧ b = 5) → up2 L1 17 5 v a b = L a b := fun a b z => by rw [up2_e, if_neg z]; exact h a b z
theorem worth_v {i : Nat} (hi : i < 6) : ∃ L1, f_vworth (106 + i) 17 (129, I, R, L) = some (wtV i (I 17 2) (I 17 1) (I 17 3) (I 17 0) (I 17 4), (129, I, R, L1)) ∧ L1 17 5 = L 17 5 + wtT i ∧ ∀ a b, ¬ (a = 17 ∧ b = 5) → L1 a b = L a b := by
  have e : ∀ (x a b c : Int64), a + b = c → x + a + b = x + c := fun x a b c h => by rw [Int64.add_assoc, h]
  rcases (show i = 0 ∨ i = 1 ∨ i = 2 ∨ i = 3 ∨ i = 4 ∨ i = 5 by omega) with rfl | rfl | rfl | rfl | rfl | rfl
  · refine ⟨_, (show f_vworth 106 17 (129, I, R, L) = f_X6_worth 106 17 (129, I, R, L) from Eq.trans rfl rfl).trans wr6, us, lo2 (fun _ _ _ => rfl)⟩
  · refine ⟨_, (show f_vworth 107 17 (129, I, R, L) = f_X10_worth 107 17 (129, I, R, L) from Eq.trans rfl rfl).trans (wr10 (i := 1) hi), us.trans (e _ _ _ _ (by decide)), lo2 (lo2 (fun _ _ _ => rfl))⟩
  · refine ⟨_, (show f_vworth 108 17 (129, I, R, L) = f_X1_worth 108 17 (129, I, R, L) from Eq.trans rfl rfl).trans (wr1 (i := 2) hi), us.trans (e _ _ _ _ (by decide)), lo2 (lo2 (fun _ _ _ => rfl))⟩
  · refine ⟨_, (show f_vworth 109 17 (129, I, R, L) = f_X2_worth 109 17 (129, I, R, L) from Eq.trans rfl rfl).trans (wr2 (i := 3) hi), us.trans (by rw [e _ _ _ 11 (by decide), e _ _ _ 1011 (by decide)]; rfl), lo2 (lo2 (lo2 (fun _ _ _ => rfl)))⟩
  · refine ⟨_, (show f_vworth 110 17 (129, I, R, L) = f_X4_worth 110 17 (129, I, R, L) from Eq.trans rfl rfl).trans (wr4 (i := 4) hi), us.trans (by rw [e _ _ _ 101 (by decide), e _ _ _ 10101 (by decide)]; rfl), lo2 (lo2 (lo2 (fun _ _ _ => rfl)))⟩
  · refine ⟨_, (show f_vworth 111 17 (129, I, R, L) = f_X3_worth 111 17 (129, I, R, L) from Eq.trans rfl rfl).trans (wr3 (i := 5) hi), us.trans (e _ _ _ _ (by decide)), lo2 (lo2 (fun _ _ _ => rfl))⟩
theorem k18 {i : Nat} (hi : i < 6) : aR 24 (129, I, Rof p kn, L) 18 (nI i) = some (106 + i) := by
  rw [aR_n (k := 18) (n := 6) (by decide) rfl hi (by decide)]
  show (if i < 6 then some (106 + i) else none) = _
  rw [if_pos hi]
theorem m115 {j : Nat} (h : j < 12) : aI 20 (129, I, R, L) 115 (nI j) = some (I 115 j) := aI_n (k := 115) (n := 12) (by decide) rfl h (by decide)
theorem st_rate (M : Mem) (a1 a2 : Int32) (h : Rel M) : StepI (f_X11_rate 0 a1 a2 M) (fun M => f_X12_rate 112 a1 a2 M) Rel := by
  obtain ⟨σ, p, kn, I, L, rfl, ok, hC, hM⟩ := h
  have hp := isP_of hC.1.1
  have hp3 := hC.1.1
  have hM' := RM_th ok hM
  obtain ⟨hn3, hn9, hG, hD⟩ := okn ok
  rcases ixn a1 6 (by decide) with hx | ⟨i, hi, rfl⟩
  · refine stepI (r := -1000000) (I1 := I) (R1 := Rof p kn) (L1 := L) ?_ ?_ (Rel_th ok hC hM)
    · unfold f_X11_rate
      by_cases z : a1 < 0
      · rw [if_pos z]
      · rw [if_neg z, if_pos (show (6 : Int32) ≤ a1 from hx.resolve_left z)]
    · show f_X12_rate 112 _ _ _ = _
      unfold f_X12_rate
      simp only [m_pI, bs, in6_no hx, ↓reduceIte]
  have i1 : ¬ nI i < 0 := nI_pos (by omega)
  have i2 : ¬ (6 : Int32) ≤ nI i := nI_ge (b := 6) hi (by decide)
  rcases ixn a2 (sG σ) (by omega) with hx | ⟨g, hg, rfl⟩
  · refine stepI (r := -1000000) (I1 := I) (R1 := Rof p kn) (L1 := L) ?_ ?_ (Rel_th ok hC hM)
    · unfold f_X11_rate
      simp only [i1, i2, c_cv, isG_c_no hC ok hx, bs, ↓reduceIte]
    · show f_X12_rate 112 _ _ _ = _
      unfold f_X12_rate
      simp only [m_pI, bs, m_cv, in6_yes hi, isG_m_no hM' ok hx, z10, ↓reduceIte]
  have HC : ∀ I1, (∀ a b, a ≠ 17 → I1 a b = I a b) → RC σ p kn I1 L := fun I1 F => RC_fr (fun a b ha hb => F a b (fun z => hb (Or.inl (by omega)))) rfl ok.2.2.1.1 hC
  have hnd : ndG (sP σ) (sW σ) g < 64 := ndG_64 ok.1 ok.2.1 hg
  have hrb : fN (fun d => rch (sP σ).1 ((sP σ).2.2.2.1 g) ((sW σ).2.2.2.1 g) ((sW σ).2.2.1 d) (sW σ).1) (sP σ).2.2.1 < 64 := fN_64 _ hD
  have hfo := fOr_N (fun d => rch (sP σ).1 ((sP σ).2.2.2.1 g) ((sW σ).2.2.2.1 g) ((sW σ).2.2.1 d) (sW σ).1) (sP σ).2.2.1 hD
  -- what is asked
  generalize hIa : up2 (up2 I 17 0 (nI g)) 17 1 (nI ((sP σ).2.2.2.1 g)) = Ia
  have Fa : ∀ a b, a ≠ 17 → Ia a b = I a b := fun a b z => by rw [← hIa, up2_e, if_neg (by omega), up2_e, if_neg (by omega)]
  have Ca := HC Ia Fa
  have na := needs_c (p := p) (kn := kn) (L := L) hp isN_29 Ca.2.1 Ca.2.2.1 ok.1 ok.2.1 hg
  generalize hIb : up2 Ia 17 2 (nI (pc (ndG (sP σ) (sW σ) g))) = Ib
  have Fb : ∀ a b, a ≠ 17 → Ib a b = I a b := fun a b z => by rw [← hIb, up2_e, if_neg (by omega)]; exact Fa a b z
  have Cb := HC Ib Fb
  have nb := reachedBy_c (p := p) (kn := kn) (L := L) hp isN_29 Cb.2.1 Cb.2.2.1 ok.1 ok.2.1 hg
  rw [hfo] at nb
  generalize hrv : fN (fun d => rch (sP σ).1 ((sP σ).2.2.2.1 g) ((sW σ).2.2.2.1 g) ((sW σ).2.2.1 d) (sW σ).1) (sP σ).2.2.1 = rv at *
  generalize hIc : up2 (up2 Ib 17 3 (nI (pc rv))) 17 4 (nI (sW σ).1) = Ic
  have Fc : ∀ a b, a ≠ 17 → Ic a b = I a b := fun a b z => by rw [← hIc, up2_e, if_neg (by omega), up2_e, if_neg (by omega)]; exact Fb a b z
  obtain ⟨L1, wv, wl, wo⟩ := worth_v (I := Ic) (R := Rof p kn) (L := L) hi
  have v0 : Ic 17 0 = nI g := by rw [← hIc, up2_e, if_neg (by omega), up2_e, if_neg (by omega), ← hIb, up2_e, if_neg (by omega), ← hIa, up2_e, if_neg (by omega)]; exact us
  have v1 : Ic 17 1 = nI ((sP σ).2.2.2.1 g) := by rw [← hIc, up2_e, if_neg (by omega), up2_e, if_neg (by omega), ← hIb, up2_e, if_neg (by omega), ← hIa]; exact us
  have v2 : Ic 17 2 = nI (pc (ndG (sP σ) (sW σ) g)) := by rw [← hIc, up2_e, if_neg (by omega), up2_e, if_neg (by omega), ← hIb]; exact us
  have v3 : Ic 17 3 = nI (pc rv) := by rw [← hIc, up2_e, if_neg (by omega)]; exact us
  have v4 : Ic 17 4 = nI (sW σ).1 := by rw [← hIc]; exact us
  rw [v0, v1, v2, v3, v4] at wv
  have a1 : aI 20 (129, up2 I 17 0 (nI g), Rof p kn, L) (p + 1) (nI g) = some (nI ((sP σ).2.2.2.1 g)) := by rw [p_aI hp (by decide) (by decide) (by omega), up2_e, if_neg (by omega), (hC.2.1.2.1 g hg).1]
  have t3 : up2 Ib 17 3 (nI (pc rv)) 29 0 = nI (sW σ).1 := by rw [up2_e, if_neg (by omega), Fb 29 0 (by omega)]; exact hC.2.2.1.1
  have E1 : f_X11_rate 0 (nI i) (nI g) (129, I, Rof p kn, L) = some (wtV i (nI (pc (ndG (sP σ) (sW σ) g))) (nI ((sP σ).2.2.2.1 g)) (nI (pc rv)) (nI g) (nI (sW σ).1), (129, Ic, Rof p kn, L1)) := by
    unfold f_X11_rate
    simp only [i1, i2, c_cv, isG_c_yes hC ok hg, bs, z10, ↓reduceIte, c_r2, k_pI, c_r4, p_r3 hp, a1, hIa, c_r5, p_cv hp, na, bitCount_c hnd, hIb, nb, bitCount_c hrb, n_gI isN_29, t3, hIc, c_r3, k18 hi, wv]
  have hM1 : RM σ Ic L1 := RM_hi (fun a b ha => Fc a b (by omega)) (fun a b ha => wo a b (by omega)) ok hM
  have hM1' := RM_th ok hM1
  have nm := needs_m (p := p) (kn := kn) (L := L1) hM1'.1 hM1'.2.1 ok.1 ok.2.1 hg
  have rm := reachedBy_m (p := p) (kn := kn) (L := L1) hM1'.1 hM1'.2.1 ok.1 ok.2.1 hg
  rw [hfo] at rm
  have ma : up2 Ic 112 0 0 115 g = nI ((sP σ).2.2.2.1 g) := (hM1'.1.2.1 g hg).1
  have mt : up2 Ic 112 0 0 119 0 = nI (sW σ).1 := hM1'.2.1.1
  have ml : L1 112 1 = str σ := hM1'.2.2.2.2.2.2
  have E2 : f_X12_rate 112 (nI i) (nI g) (129, Ic, Rof p kn, L1) = some (wtV i (nI (pc (ndG (sP σ) (sW σ) g))) (nI ((sP σ).2.2.2.1 g)) (nI (pc rv)) (nI g) (nI (sW σ).1), (129, up2 Ic 112 0 0, Rof p kn, up2 L1 112 1 (str σ + wtT i))) := by
    unfold f_X12_rate f_X12_rate_116
    simp only [m_pI, bs, m_cv, in6_yes hi, isG_m_yes hM1' ok hg, z10, ↓reduceIte, nm, ones_m hnd, m_r10, m115 (show g < 12 by omega), ma, rm, ones_m hrb, m_gL, ml, m_pL, m_r14, turn0, mt]
    rcases (show i = 0 ∨ i = 1 ∨ i = 2 ∨ i = 3 ∨ i = 4 ∨ i = 5 by omega) with rfl | rfl | rfl | rfl | rfl | rfl <;> rfl
  have ok' : SOk (setR σ (str σ + wtT i)) := SOk_R ok
  refine stepI E1 E2 ⟨setR σ (str σ + wtT i), p, kn, _, _, rfl, ok', ?_, ?_⟩
  · refine RC_lo (I := Ic) (L := L1) (loEq.rf.up (by decide)) (loEq.rf.up (by decide)) ok' (RC_R hC ok (fun a b ha hn => Fc a b (by omega)) ?_)
    rw [wl, hC.2.2.2.2.2.2.2.2]
  · exact RM_R hM1 ok (fun a b ha hn => by rw [up2_e, if_neg (by omega)]) us
end S15
