/-! ===== fed, now ===== -/
theorem le_m9 {k : Nat} (h : k < 2 ^ 31) : (-9 : Int32) ≤ nI k := by
  apply Int32.le_iff_toInt_le.mpr
  rw [nI_toInt h, show (-9 : Int32).toInt = -9 by decide]; omega
theorem nle_m1 {k : Nat} (h : k < 2 ^ 31) : ¬ nI k ≤ (-1 : Int32) := by
  intro z
  have := Int32.le_iff_toInt_le.mp z
  rw [nI_toInt h, show (-1 : Int32).toInt = -1 by decide] at this
  omega
def smP (po : Nat → Nat) : Nat → Nat
  | 0 => 0
  | d + 1 => smP po d + po d
section S24
variable {p : Nat} {kn : Nat → Nat} {I : Nat → Nat → Int32} {L : Nat → Nat → Int64} {P : PtyS} {w : NowS}
theorem copy48 {ag14 : Int32 × Int32 × Mem → Option (Int32 × Mem)} {x1 x2 x3 : Int32} : f_X12_feeds_48 ag14 112 x1 x2 x3 0 (129, I, Rof p kn, L) = ag14 (x1, x3 + 1, (129, cpK I 127 0 126 0 6, Rof p kn, L)) := by
  unfold f_X12_feeds_48
  have z := lup0 (fun ag48 (s : Int32 × Mem) => f_X12_feeds_48b ag14 112 x1 x2 x3 ag48 s.1 s.2) (fun j => (nI j, (129, cpK I 127 0 126 0 j, Rof p kn, L))) 6 (FU_big (by decide)) (ag14 (x1, x3 + 1, (129, cpK I 127 0 126 0 6, Rof p kn, L))) (fun ag48 => ?_) (fun j hj ag48 => ?_)
  · rw [cpK_0] at z; exact z
  · show f_X12_feeds_48b ag14 112 x1 x2 x3 ag48 (nI 6) (129, cpK I 127 0 126 0 6, Rof p kn, L) = _
    unfold f_X12_feeds_48b
    rw [if_pos (by decide)]
  · show f_X12_feeds_48b ag14 112 x1 x2 x3 ag48 (nI j) (129, cpK I 127 0 126 0 j, Rof p kn, L) = ag48 (nI (j + 1), (129, cpK I 127 0 126 0 (j + 1), Rof p kn, L))
    have hv := cpK_v (I := I) (dc := 127) (d0 := 0) (sc := 126) (s0 := 0) (j := j) (Or.inl (by decide))
    have hs := cpK_s (I := I) (dc := 127) (d0 := 0) (sc := 126) (s0 := 0) (j := j)
    rw [Nat.zero_add] at hv hs
    unfold f_X12_feeds_48b
    rw [if_neg (show ¬ (6 : Int32) ≤ nI j from nI_ge (b := 6) hj (by decide))]
    simp only [m_r24, m_r23, bs, a126 hj, hv, s127 hj, hs, nI_1]
theorem feeds_m (hP : PtyM I P) (hw : NowM I 119 0 P.2.1 P.2.2.1 w) (okP : PtyOk P) (ok : NowOk P.1 P.2.1 P.2.2.1 w) : ∃ I1, f_X12_feeds 112 (129, I, Rof p kn, L) = some (nI (mx (ndG P w) P.2.1 P.2.2.1 P.2.1 w.2.1), (129, I1, Rof p kn, L)) ∧ (∀ a b, a < 126 → I1 a b = I a b) ∧ ∀ g, g < P.2.1 → I1 127 g = nI (qF (ndG P w) P.2.1 P.2.2.1 (P.2.1 - 1 - g) (lf (ndG P w) P.2.1 P.2.2.1 w.2.1 g)) := by
  obtain ⟨⟨hn3, hn9, hG, hD⟩, -, -⟩ := id okP
  have hN : ∀ g, g < P.2.1 → ndG P w g < 2 ^ P.2.2.1 := fun g hg => ndG_lt okP ok hg
  have hfi : ∀ r, fv (ndG P w) P.2.1 P.2.2.1 P.2.1 w.2.1 r = if allB (okT (ndG P w) P.2.1 w.2.1 r) P.2.1 then some (wE r P.2.1) else none := fun r => fv_iff hN P.2.1 w.2.1 (Nat.le_refl _)
  have hgr := gr_fv (N := ndG P w) (G := P.2.1) hD P.2.1 w.2.1 (Nat.le_refl _)
  have hgl := gr_lt (N := ndG P w) (G := P.2.1) hD P.2.1 w.2.1 (Nat.le_refl _)
  have hfl := fun r n => fv_le (N := ndG P w) (G := P.2.1) hD P.2.1 w.2.1 r n (Nat.le_refl _)
  have hdg := gr_dig (N := ndG P w) (G := P.2.1) (D := P.2.2.1) hD (po := w.2.1) P.2.1 (Nat.le_refl _)
  rw [Nat.sub_self] at hdg
  have hdg' : ∀ t, t < P.2.1 → eD (gr (ndG P w) P.2.1 P.2.2.1 P.2.1 w.2.1) t = qF (ndG P w) P.2.1 P.2.2.1 t (lf (ndG P w) P.2.1 P.2.2.1 w.2.1 (P.2.1 - 1 - t)) := hdg
  have hmG := mx_G (N := ndG P w) (G := P.2.1) (D := P.2.2.1) (k := P.2.1) (left := w.2.1)
  generalize hR : gr (ndG P w) P.2.1 P.2.2.1 P.2.1 w.2.1 = Rr at *
  generalize hm : mx (ndG P w) P.2.1 P.2.2.1 P.2.1 w.2.1 = m at *
  have h7 : 7 ^ P.2.1 ≤ 117649 := by
    calc 7 ^ P.2.1 ≤ 7 ^ 6 := Nat.pow_le_pow_right (by decide) hG
    _ = 117649 := by decide
  have kR : allB (okT (ndG P w) P.2.1 w.2.1 Rr) P.2.1 = true ∧ wE Rr P.2.1 = m := by
    rw [hfi] at hgr
    cases h : allB (okT (ndG P w) P.2.1 w.2.1 Rr) P.2.1
    · rw [h] at hgr; exact absurd hgr (by simp)
    · rw [h] at hgr
      refine ⟨rfl, ?_⟩
      have : some (wE Rr P.2.1) = some m := hgr
      injection this
  have kle : ∀ r, allB (okT (ndG P w) P.2.1 w.2.1 r) P.2.1 = true → wE r P.2.1 ≤ m := fun r h => (hfl r _ (by rw [hfi, h]; rfl)).1
  have klt : ∀ r, r < Rr → allB (okT (ndG P w) P.2.1 w.2.1 r) P.2.1 = true → wE r P.2.1 < m := fun r hr h => by
    obtain ⟨h1, h2⟩ := hfl r _ (by rw [hfi, h]; rfl)
    by_cases z : wE r P.2.1 = m
    · have := h2 z
      rw [Nat.mod_eq_of_lt (by omega)] at this
      omega
    · omega
  unfold f_X12_feeds
  simp only [m_r9, bs, many1, hP.1.2.1, sevens_m hG]
  unfold f_X12_feeds_14
  refine lupRX0 (fun ag (s : Int32 × Int32 × Mem) => f_X12_feeds_14b 112 (nI (7 ^ P.2.1)) ag s.1 s.2.1 s.2.2) (fun r s => ∃ I1 mo, s = (mo, nI r, (129, I1, Rof p kn, L)) ∧ (∀ a b, a < 126 → I1 a b = I a b) ∧ (r ≤ Rr → mo = -1 ∨ ∃ k, k < m ∧ mo = nI k) ∧ (Rr < r → mo = nI m ∧ ∀ g, g < P.2.1 → I1 127 g = nI (eD Rr (P.2.1 - 1 - g)))) (7 ^ P.2.1) (FU_big h7) (fun res => ∃ I1, res = some (nI m, (129, I1, Rof p kn, L)) ∧ (∀ a b, a < 126 → I1 a b = I a b) ∧ ∀ g, g < P.2.1 → I1 127 g = nI (qF (ndG P w) P.2.1 P.2.2.1 (P.2.1 - 1 - g) (lf (ndG P w) P.2.1 P.2.2.1 w.2.1 g))) _ ⟨I, -1, rfl, fun _ _ _ => rfl, fun _ => Or.inl rfl, fun h => absurd h (Nat.not_lt_zero _)⟩ ?_ ?_
  · rintro s ⟨I1, mo, rfl, hF, h1, h2⟩ ag
    obtain ⟨e1, e2⟩ := h2 hgl
    refine ⟨I1, ?_, hF, fun g hg => ?_⟩
    · show f_X12_feeds_14b 112 (nI (7 ^ P.2.1)) ag mo (nI (7 ^ P.2.1)) (129, I1, Rof p kn, L) = _
      unfold f_X12_feeds_14b
      rw [if_pos (nI_le (Nat.le_refl _) (by omega)), e1]
    · rw [e2 g hg, hdg' _ (by omega), show P.2.1 - 1 - (P.2.1 - 1 - g) = g by omega]
  · rintro r s hr ⟨I1, mo, rfl, hF, h1, h2⟩ ag
    show (∃ I2, f_X12_feeds_14b 112 (nI (7 ^ P.2.1)) ag mo (nI r) (129, I1, Rof p kn, L) = _ ∧ _) ∨ ∃ s', _ ∧ f_X12_feeds_14b 112 (nI (7 ^ P.2.1)) ag mo (nI r) (129, I1, Rof p kn, L) = ag s'
    have q1 : I1 114 1 = nI P.2.1 := by rw [hF _ _ (by omega)]; exact hP.1.2.1
    have hP1 : PtyM I1 P := PtyM_fr (fun a b _ _ => hF a b (by omega)) hP
    have hw1 : NowM I1 119 0 P.2.1 P.2.2.1 w := NowM_fr hG hD (fun b _ _ => hF _ b (by omega)) hw
    obtain ⟨I2, v1, v2, v3⟩ := having_m (p := p) (kn := kn) (L := L) (show r < 2 ^ 30 by omega) hP1 hw1 okP ok
    have F2 : ∀ a b, a < 126 → I2 a b = I a b := fun a b h => by rw [v2 a b (by omega) (by omega)]; exact hF a b h
    unfold f_X12_feeds_14b
    rw [if_neg (nI_ge hr (by omega))]
    simp only [m_r9, bs, many1, q1, m_cv, v1, copy48, nI_1]
    by_cases z : Rr < r
    · obtain ⟨e1, e2⟩ := h2 z
      by_cases y : P.2.1 ≤ m
      · left
        rw [e1, if_pos (nI_le y (by omega))]
        exact ⟨I1, rfl, hF, fun g hg => by rw [e2 g hg, hdg' _ (by omega), show P.2.1 - 1 - (P.2.1 - 1 - g) = g by omega]⟩
      · right
        rw [e1, if_neg (nI_ge (by omega) (by omega))]
        have hq : (if allB (okT (ndG P w) P.2.1 w.2.1 r) P.2.1 then nI (wE r P.2.1) else -9) ≤ nI m := by
          cases h : allB (okT (ndG P w) P.2.1 w.2.1 r) P.2.1
          · exact le_m9 (by omega)
          · have := kle r h; exact nI_le this (by omega)
        rw [if_pos hq]
        exact ⟨_, ⟨I2, nI m, rfl, F2, fun h => by omega, fun _ => ⟨rfl, fun g hg => by rw [v2 _ _ (by omega) (by omega)]; exact e2 g hg⟩⟩, rfl⟩
    · right
      have h1' := h1 (by omega)
      have hmo : ¬ nI P.2.1 ≤ mo := by
        rcases h1' with h | ⟨k, hk, h⟩
        · rw [h]; exact nle_m1 (by omega)
        · rw [h]; exact nI_ge (by omega) (by omega)
      rw [if_neg hmo]
      by_cases y : r = Rr
      · subst y
        rw [kR.1, if_pos rfl, kR.2]
        have hn : ¬ nI m ≤ mo := by
          rcases h1' with h | ⟨k, hk, h⟩
          · rw [h]; exact nle_m1 (by omega)
          · rw [h]; exact nI_ge hk (by omega)
        rw [if_neg hn]
        refine ⟨_, ⟨_, nI m, rfl, fun a b h => by rw [cpK_o (by omega)]; exact F2 a b h, fun h => by omega, fun _ => ⟨rfl, fun g hg => ?_⟩⟩, rfl⟩
        rw [cpK_i (by omega) (by omega), show 0 + (g - 0) = g by omega]
        exact v3 kR.1 g hg
      · cases h : allB (okT (ndG P w) P.2.1 w.2.1 r) P.2.1
        · have hle : (-9 : Int32) ≤ mo := by
            rcases h1' with h | ⟨k, hk, h⟩
            · rw [h]; decide
            · rw [h]; exact le_m9 (by omega)
          rw [if_pos (show (if false = true then nI (wE r P.2.1) else -9) ≤ mo from hle)]
          exact ⟨_, ⟨I2, mo, rfl, F2, fun _ => h1', fun h => by omega⟩, rfl⟩
        · have hw := klt r (by omega) h
          rw [if_pos rfl]
          by_cases x : nI (wE r P.2.1) ≤ mo
          · rw [if_pos x]
            exact ⟨_, ⟨I2, mo, rfl, F2, fun _ => h1', fun h => by omega⟩, rfl⟩
          · rw [if_neg x]
            exact ⟨_, ⟨_, nI (wE r P.2.1), rfl, fun a b h => by rw [cpK_o (by omega)]; exact F2 a b h, fun _ => Or.inr ⟨_, hw, rfl⟩, fun h => by omega⟩, rfl⟩
end S24
section S24b
variable {σ : St} {p : Nat} {kn : Nat → Nat} {I : Nat → Nat → Int32} {L : Nat → Nat → Int64}
theorem feC {I1 : Nat → Nat → Int32} (F : ∀ a b, a < 13 ∨ 16 < a → I1 a b = I a b) (hC : RC σ p kn I L) (ok : SOk σ) : RC σ p kn I1 L := RC_fr (fun a b ha hb => F a b (by apply Classical.byContradiction; intro z; apply hb; left; omega)) rfl ok.2.2.1.1 hC
theorem feM {I1 : Nat → Nat → Int32} (F : ∀ a b, a < 126 → I1 a b = I a b) (hM : RM σ I L) (ok : SOk σ) : RM σ I1 L := RM_fr (fun a b ha hb => F a b (by apply Classical.byContradiction; intro z; apply hb; unfold mscr; omega)) rfl ok hM
theorem qI_9 {q : Nat} (h : q ≤ 6) : (if nI q = (6 : Int32) then (-9 : Int32) else nI q) = qI q := by
  unfold qI
  by_cases z : q = 6
  · rw [if_pos z, if_pos (by rw [z]; rfl)]
  · rw [if_neg z, if_neg (show ¬ nI q = (6 : Int32) from fun e => z ((nI_eq (a := q) (b := 6) (by omega) (by decide)).mp e))]
theorem st_fed (M : Mem) (a1 : Int32) (h : Rel M) : StepI (f_X11_fed 0 a1 M) (fun M => f_X12_fed 112 a1 M) Rel := by
  obtain ⟨σ, p, kn, I, L, rfl, ok, hC, hM⟩ := h
  have hp := isP_of hC.1.1
  have hM' := RM_th ok hM
  obtain ⟨hn3, hn9, hG, hD⟩ := okn ok
  rcases ixn a1 (sG σ) (by omega) with hx | ⟨g, hg, rfl⟩
  · refine stepI (r := -1) (I1 := I) (R1 := Rof p kn) (L1 := L) ?_ ?_ (Rel_th ok hC hM)
    · unfold f_X11_fed
      simp only [c_cv, isG_c_no hC ok hx, bs, ↓reduceIte]
    · show f_X12_fed 112 _ _ = _
      unfold f_X12_fed
      simp only [m_pI, bs, m_cv, isG_m_no hM' ok hx, ↓reduceIte]
  obtain ⟨I1, e1, F1, v1⟩ := share_c (kn := kn) (L := L) hp hC.1.1 hC.2.1 hC.2.2.1 ok.1 ok.2.1
  have hM1 : RM σ I1 L := RM_hi (fun a b ha => F1 a b (by omega)) hiEq.rf ok hM
  have hM1' := RM_th ok hM1
  obtain ⟨I2, e2, F2, v2⟩ := feeds_m (p := p) (kn := kn) (L := L) hM1'.1 hM1'.2.1 ok.1 ok.2.1
  have v1' := v1 g hg
  have v2' := v2 g hg
  have hq6 : qF (ndG (sP σ) (sW σ)) (sP σ).2.1 (sP σ).2.2.1 ((sP σ).2.1 - 1 - g) (lf (ndG (sP σ) (sW σ)) (sP σ).2.1 (sP σ).2.2.1 (sW σ).2.1 g) ≤ 6 := by
    have hg' : g < (sP σ).2.1 := hg
    have hD' : (sP σ).2.2.1 ≤ 6 := hD
    rcases qF_ok (N := ndG (sP σ) (sW σ)) (G := (sP σ).2.1) (D := (sP σ).2.2.1) (k := (sP σ).2.1 - 1 - g) (left := lf (ndG (sP σ) (sW σ)) (sP σ).2.1 (sP σ).2.2.1 (sW σ).2.1 g) (by omega) hD with h | h <;> omega
  generalize qF (ndG (sP σ) (sW σ)) (sP σ).2.1 (sP σ).2.2.1 ((sP σ).2.1 - 1 - g) (lf (ndG (sP σ) (sW σ)) (sP σ).2.1 (sP σ).2.2.1 (sW σ).2.1 g) = q at *
  have E1 : f_X11_fed 0 (nI g) (129, I, Rof p kn, L) = some (qI q, (129, I1, Rof p kn, L)) := by
    unfold f_X11_fed
    simp only [c_cv, isG_c_yes hC ok hg, bs, z10, ↓reduceIte, c_r1, c_r4, c_r5, f_cv, e1, f_r0, a14 (show g < 6 by omega), v1']
  have E2 : f_X12_fed 112 (nI g) (129, I1, Rof p kn, L) = some (qI q, (129, I2, Rof p kn, L)) := by
    rw [← qI_9 hq6]
    unfold f_X12_fed
    simp only [m_pI, bs, m_cv, isG_m_yes hM1' ok hg, z10, ↓reduceIte, e2, m_r24, a127 (show g < 6 by omega), v2']
    split <;> rfl
  exact stepI E1 E2 ⟨σ, p, kn, _, _, rfl, ok, RC_lo (I := I1) (fun a b ha => by rw [F2 a b (by omega), up2_e, if_neg (by omega)]) loEq.rf ok (feC F1 hC ok), feM F2 hM1' ok⟩
theorem port_c (hC : RC σ p kn I L) (ok : SOk σ) : f_X11_allPortions 0 (129, I, Rof p kn, L) = some (nI (smP (sW σ).2.1 (sD σ))) := by
  have hp := isP_of hC.1.1
  obtain ⟨hn3, hn9, hG, hD⟩ := okn ok
  have c2 : I p 2 = nI (sD σ) := hC.2.1.1.2.2
  unfold f_X11_allPortions f_X11_allPortions_4
  refine lup0 _ (fun j => (nI (smP (sW σ).2.1 j), nI j)) (sD σ) (FU_big (by omega)) _ (fun ag => ?_) (fun j hj ag => ?_)
  · show f_X11_allPortions_4b 0 _ ag _ (nI (sD σ)) = _
    unfold f_X11_allPortions_4b
    simp only [c_r4, bs, p_gI hp, c2]
    rw [if_pos (nI_le (Nat.le_refl _) (by omega))]
  · show f_X11_allPortions_4b 0 _ ag (nI (smP (sW σ).2.1 j)) (nI j) = ag (nI (smP (sW σ).2.1 j + (sW σ).2.1 j), nI (j + 1))
    have k1 : I 30 j = nI ((sW σ).2.1 j) := (hC.2.2.1.2.1 j hj).1
    unfold f_X11_allPortions_4b
    simp only [c_r4, bs, p_gI hp, c2]
    rw [if_neg (nI_ge hj (by omega))]
    simp only [c_r5, bs, r291, c30 (show j < 6 by omega), k1, nI_add, nI_1]
theorem port_m {x : Int32} (hM : RM σ I L) (ok : SOk σ) : f_X12_now_25 112 x (129, I, Rof p kn, L) 0 0 = some ((if x = 0 then nI (sW σ).1 else nI (smP (sW σ).2.1 (sD σ))), (129, I, Rof p kn, L)) := by
  obtain ⟨hn3, hn9, hG, hD⟩ := okn ok
  have c2 : I 114 2 = nI (sD σ) := hM.1.1.2.2
  have t0 : I 119 0 = nI (sW σ).1 := hM.2.1.1
  unfold f_X12_now_25
  refine lup0 _ (fun j => (nI (smP (sW σ).2.1 j), nI j)) (sD σ) (FU_big (by omega)) _ (fun ag => ?_) (fun j hj ag => ?_)
  · show f_X12_now_25b 112 x _ ag _ (nI (sD σ)) = _
    unfold f_X12_now_25b
    simp only [m_r9, bs, many2, c2]
    rw [if_pos (nI_le (Nat.le_refl _) (by omega))]
    simp only [m_r14, bs, turn0, t0]
    split <;> rfl
  · show f_X12_now_25b 112 x _ ag (nI (smP (sW σ).2.1 j)) (nI j) = ag (nI (smP (sW σ).2.1 j + (sW σ).2.1 j), nI (j + 1))
    have k1 : I 119 (1 + j) = nI ((sW σ).2.1 j) := by have := (hM.2.1.2.1 j hj).1; rwa [Nat.zero_add] at this
    have e1 : (1 : Int32) + nI j = nI (1 + j) := nI_add 1 j
    unfold f_X12_now_25b
    simp only [m_r9, bs, many2, c2]
    rw [if_neg (nI_ge hj (by omega))]
    simp only [m_r14, bs, e1, m119 (show 1 + j < 25 by omega), k1, nI_add, nI_1]
theorem st_now (M : Mem) (a1 : Int32) (h : Rel M) : StepI (f_X11_now 0 a1 M) (fun M => f_X12_now 112 a1 M) Rel := by
  obtain ⟨σ, p, kn, I, L, rfl, ok, hC, hM⟩ := h
  have hp := isP_of hC.1.1
  have hp3 := hC.1.1
  have hM' := RM_th ok hM
  obtain ⟨hn3, hn9, hG, hD⟩ := okn ok
  rcases ixn a1 6 (by decide) with hx | ⟨j, hj, rfl⟩
  · refine stepI (r := -1) (I1 := I) (R1 := Rof p kn) (L1 := L) ?_ ?_ (Rel_th ok hC hM)
    · unfold f_X11_now
      simp only [↓reduceIte, no_0 hx (by decide), no_1 hx (by decide), no_2 hx (by decide), no_3 hx (by decide), no_4 hx (by decide), no_5 hx (by decide)]
    · show f_X12_now 112 _ _ = _
      unfold f_X12_now
      simp only [m_pI, bs, in6_no hx, ↓reduceIte]
  rcases (show j = 0 ∨ j = 1 ∨ j = 2 ∨ j = 3 ∨ j = 4 ∨ j = 5 by omega) with rfl | rfl | rfl | rfl | rfl | rfl
  · refine stepI (r := nI (sW σ).1) (I1 := I) (R1 := Rof p kn) (L1 := L) ?_ ?_ (Rel_th ok hC hM)
    · unfold f_X11_now
      rw [if_pos (by decide)]; simp only [c_r5, bs, n_gI isN_29, hC.2.2.1.1]
    · show f_X12_now 112 _ _ = _
      unfold f_X12_now
      simp only [m_pI, bs, in6_yes hj, z10, ↓reduceIte]
      rw [if_neg (by decide), port_m hM' ok, if_pos (by decide)]
  · refine stepI (r := nI (smP (sW σ).2.1 (sD σ))) (I1 := I) (R1 := Rof p kn) (L1 := L) ?_ ?_ (Rel_th ok hC hM)
    · unfold f_X11_now
      rw [if_neg (by decide), if_pos (by decide)]; simp only [c_cv, bs, port_c hC ok]
    · show f_X12_now 112 _ _ = _
      unfold f_X12_now
      simp only [m_pI, bs, in6_yes hj, z10, ↓reduceIte]
      rw [if_neg (by decide), port_m hM' ok, if_neg (by decide)]
  · obtain ⟨I1, t1, t2⟩ := tour_c (p := p) (kn := kn) (L := L) hp isN_29 (by omega) hC.2.1 hC.2.2.1 ok.1 ok.2.1
    have hM1 : RM σ I1 L := RM_hi (fun a b ha => t2 a b (by omega)) hiEq.rf ok hM
    have hM1' := RM_th ok hM1
    have hC1 : RC σ p kn I1 L := trF_RC (fun a b h1 _ => t2 a b h1) hC ok
    refine stepI (r := touI (sP σ) (sW σ)) (I1 := I1) (R1 := Rof p kn) (L1 := L) ?_ ?_ (Rel_th ok hC1 hM1)
    · unfold f_X11_now
      rw [if_neg (by decide), if_neg (by decide), if_pos (by decide)]; simp only [c_r4, c_r5, bs, p_cv hp, t1]
    · show f_X12_now 112 _ _ = _
      unfold f_X12_now
      simp only [m_pI, bs, in6_yes hj, z10, ↓reduceIte]
      rw [if_pos (by decide), if_pos (by decide)]; simp only [m_cv, tour_m (p := p) (kn := kn) (L := L) hM1'.1 hM1'.2.1 ok.1 ok.2.1, bs]
  · obtain ⟨I1, t1, F1⟩ := swap_c hC ok
    have hM1 : RM σ I1 L := RM_hi (fun a b ha => F1 a b (by omega) (by omega)) hiEq.rf ok hM
    have hM1' := RM_th ok hM1
    obtain ⟨I2, u1, hM2, F2⟩ := swap_m (p := p) (kn := kn) hM1' ok
    refine stepI (r := (swOut (sP σ) (sW σ) (sG σ)).1) (I1 := I1) (R1 := Rof p kn) (L1 := L) (I2 := I2) (R2 := Rof p kn) (L2 := L) ?_ ?_ ⟨σ, p, kn, _, _, rfl, ok, RC_lo (I := I1) (fun a b ha => by rw [F2 a b (by omega), up2_e, if_neg (by omega)]) loEq.rf ok (trF_RC F1 hC ok), hM2⟩
    · unfold f_X11_now
      rw [if_neg (by decide), if_neg (by decide), if_neg (by decide), if_pos (by decide)]; simp only [c_cv, bs, t1]
    · show f_X12_now 112 _ _ = _
      unfold f_X12_now
      simp only [m_pI, bs, in6_yes hj, z10, ↓reduceIte]
      rw [if_pos (by decide), if_neg (by decide), if_pos (by decide)]; simp only [m_cv, u1, bs]
  · obtain ⟨I1, e1, F1, v1⟩ := share_c (kn := kn) (L := L) hp hC.1.1 hC.2.1 hC.2.2.1 ok.1 ok.2.1
    have hM1 : RM σ I1 L := RM_hi (fun a b ha => F1 a b (by omega)) hiEq.rf ok hM
    have hM1' := RM_th ok hM1
    obtain ⟨I2, e2, F2, v2⟩ := feeds_m (p := p) (kn := kn) (L := L) hM1'.1 hM1'.2.1 ok.1 ok.2.1
    refine stepI (r := nI (mx (ndG (sP σ) (sW σ)) (sG σ) (sD σ) (sG σ) (sW σ).2.1)) (I1 := I1) (R1 := Rof p kn) (L1 := L) (I2 := I2) (R2 := Rof p kn) (L2 := L) ?_ ?_ ⟨σ, p, kn, _, _, rfl, ok, RC_lo (I := I1) (fun a b ha => by rw [F2 a b (by omega), up2_e, if_neg (by omega)]) loEq.rf ok (feC F1 hC ok), feM F2 hM1' ok⟩
    · unfold f_X11_now
      rw [if_neg (by decide), if_neg (by decide), if_neg (by decide), if_neg (by decide), if_pos (by decide)]; simp only [c_r1, c_r4, c_r5, bs, f_cv, e1]
    · show f_X12_now 112 _ _ = _
      unfold f_X12_now
      simp only [m_pI, bs, in6_yes hj, z10, ↓reduceIte]
      rw [if_pos (by decide), if_neg (by decide), if_neg (by decide), if_pos (by decide)]; simp only [m_cv, e2, bs]
  · have m18 : up2 I 112 0 0 112 18 = nI (sU σ) := hM'.2.2.1.1
    refine stepI (r := nI (sU σ)) (I1 := I) (R1 := Rof p kn) (L1 := L) ?_ ?_ (Rel_th ok hC hM)
    · unfold f_X11_now
      rw [if_neg (by decide), if_neg (by decide), if_neg (by decide), if_neg (by decide), if_neg (by decide), if_pos (by decide)]; simp only [c_gI, bs, hC.2.2.2.1.1]
    · show f_X12_now 112 _ _ = _
      unfold f_X12_now
      simp only [m_pI, bs, in6_yes hj, z10, ↓reduceIte]
      rw [if_pos (by decide), if_neg (by decide), if_neg (by decide), if_neg (by decide)]; simp only [m_gI, bs, m18]
end S24b
