/-! ===== notes, undo, keep, back ===== -/
section S8
variable {σ : St} {p : Nat} {kn : Nat → Nat} {I : Nat → Nat → Int32} {L : Nat → Nat → Int64}
theorem s119 {R : Nat → Nat → Option Nat} {j : Nat} {v : Int32} (h : j < 25) : sI (129, I, R, L) 119 (nI j) v = some (129, up2 I 119 j v, R, L) := sI_n (k := 119) (n := 25) (by decide) rfl h (by decide)
theorem a122 {R : Nat → Nat → Option Nat} {j : Nat} (h : j < 250) : aI 20 (129, I, R, L) 122 (nI j) = some (I 122 j) := aI_n (k := 122) (n := 250) (by decide) rfl h (by decide)
theorem s122 {R : Nat → Nat → Option Nat} {j : Nat} {v : Int32} (h : j < 250) : sI (129, I, R, L) 122 (nI j) v = some (129, up2 I 122 j v, R, L) := sI_n (k := 122) (n := 250) (by decide) rfl h (by decide)
theorem a120 {R : Nat → Nat → Option Nat} {j : Nat} (h : j < 50) : aI 20 (129, I, R, L) 120 (nI j) = some (I 120 j) := aI_n (k := 120) (n := 50) (by decide) rfl h (by decide)
theorem s120 {R : Nat → Nat → Option Nat} {j : Nat} {v : Int32} (h : j < 50) : sI (129, I, R, L) 120 (nI j) v = some (129, up2 I 120 j v, R, L) := sI_n (k := 120) (n := 50) (by decide) rfl h (by decide)
theorem ix25 (c j : Nat) : ((25 : Int32) * nI c) + nI j = nI (25 * c + j) := by
  rw [show (25 : Int32) * nI c = nI (25 * c) from pk_mul 25 c, nI_add]
theorem notes47 {c : Nat} (hc : c < 10) (h18 : I 112 18 = nI c) : f_X12_notes_47 112 0 (129, I, Rof p kn, L) = some (129, up2 (cpK I 122 (25 * c) 119 0 25) 112 18 (nI (c + 1)), Rof p kn, L) := by
  unfold f_X12_notes_47
  have h0 := lup0 (fun ag (s : Int32 × Mem) => f_X12_notes_47b 112 ag s.1 s.2) (fun j => (nI j, (129, cpK I 122 (25 * c) 119 0 j, Rof p kn, L))) 25 (FU_big (by decide)) (some (129, up2 (cpK I 122 (25 * c) 119 0 25) 112 18 (nI (c + 1)), Rof p kn, L)) (fun ag => ?_) (fun j hj ag => ?_)
  · rw [cpK_0] at h0; exact h0
  · show f_X12_notes_47b 112 ag (nI 25) (129, cpK I 122 (25 * c) 119 0 25, Rof p kn, L) = _
    unfold f_X12_notes_47b
    rw [if_pos (by decide)]
    have h18' : cpK I 122 (25 * c) 119 0 25 112 18 = nI c := by rw [cpK_o (by omega)]; exact h18
    simp only [m_gI, bs, h18', m_pI, nI_1]
  · show f_X12_notes_47b 112 ag (nI j) (129, cpK I 122 (25 * c) 119 0 j, Rof p kn, L) = ag (nI (j + 1), (129, cpK I 122 (25 * c) 119 0 (j + 1), Rof p kn, L))
    unfold f_X12_notes_47b
    rw [if_neg (show ¬ (25 : Int32) ≤ nI j from nI_ge (b := 25) hj (by decide))]
    have h18' : cpK I 122 (25 * c) 119 0 j 112 18 = nI c := by rw [cpK_o (by omega)]; exact h18
    have hv : cpK I 122 (25 * c) 119 0 j 119 j = I 119 (0 + j) := by rw [cpK_o (by omega), Nat.zero_add]
    simp only [m_r17, m_r14, bs, m_gI, h18', m119 hj, hv, ix25, s122 (show 25 * c + j < 250 by omega), cpK_s, nI_1]
theorem notes_m (hM : RM σ I L) (ok : SOk σ) : ∃ I1, f_X12_notes 112 (129, I, Rof p kn, L) = some (129, I1, Rof p kn, L) ∧ RM (push σ) I1 L ∧ (∀ a b, a ≠ 122 → ¬ (a = 112 ∧ b = 18) → I1 a b = I a b) := by
  obtain ⟨hn3, hn9, hG, hD⟩ := okn ok
  have hU := ok.2.2.1.1
  have h18 := hM.2.2.1.1
  by_cases h : sU σ = 10
  · refine ⟨up2 (cpK (up2 (cpK I 122 0 122 25 225) 112 18 (nI 9)) 122 (25 * 9) 119 0 25) 112 18 (nI (9 + 1)), ?_, ?_, fun a b h1 h2 => ?_⟩
    · unfold f_X12_notes
      simp only [m_gI, bs, h18]
      rw [if_pos (by rw [h]; rfl)]
      unfold f_X12_notes_11
      have h0 := lup0 (fun ag (s : Int32 × Mem) => f_X12_notes_11b 112 ag s.1 s.2) (fun j => (nI j, (129, cpK I 122 0 122 25 j, Rof p kn, L))) 225 (FU_big (by decide)) (some (129, up2 (cpK (up2 (cpK I 122 0 122 25 225) 112 18 (nI 9)) 122 (25 * 9) 119 0 25) 112 18 (nI (9 + 1)), Rof p kn, L)) (fun ag => ?_) (fun j hj ag => ?_)
      · rw [cpK_0] at h0; exact h0
      · show f_X12_notes_11b 112 ag (nI 225) (129, cpK I 122 0 122 25 225, Rof p kn, L) = _
        unfold f_X12_notes_11b
        rw [if_pos (by decide)]
        simp only [m_pI, bs]
        exact notes47 (by decide) us
      · show f_X12_notes_11b 112 ag (nI j) (129, cpK I 122 0 122 25 j, Rof p kn, L) = ag (nI (j + 1), (129, cpK I 122 0 122 25 (j + 1), Rof p kn, L))
        unfold f_X12_notes_11b
        rw [if_neg (show ¬ (225 : Int32) ≤ nI j from nI_ge (b := 225) hj (by decide))]
        have e25 : nI j + (25 : Int32) = nI (25 + j) := by rw [Nat.add_comm 25 j]; exact nI_add j 25
        have hs := s122 (I := cpK I 122 0 122 25 j) (L := L) (R := Rof p kn) (j := j) (v := I 122 (25 + j)) (by omega)
        have hs2 : up2 (cpK I 122 0 122 25 j) 122 j (I 122 (25 + j)) = cpK I 122 0 122 25 (j + 1) := by
          have := cpK_s (I := I) (dc := 122) (d0 := 0) (sc := 122) (s0 := 25) (j := j)
          rwa [Nat.zero_add] at this
        simp only [m_r17, bs, e25, a122 (show 25 + j < 250 by omega), cpK_v (I := I) (dc := 122) (d0 := 0) (sc := 122) (s0 := 25) (j := j) (Or.inr (by decide)), hs, hs2, nI_1]
    · refine RM_W hM ok (fun a b ha hn => ?_) rfl (NowM_fr hG hD (fun b _ _ => ?_) hM.2.1) ⟨by rw [if_pos h]; exact us, fun i hi => ?_⟩
      · rw [up2_e, if_neg (by omega), cpK_o (by omega), up2_e, if_neg (by omega), cpK_o (by omega)]
      · rw [up2_e, if_neg (by omega), cpK_o (by omega), up2_e, if_neg (by omega), cpK_o (by omega)]
      · rw [if_pos h] at hi; rw [if_pos h]
        by_cases z : i = 9
        · subst z
          simp only [↓reduceIte]
          refine NowM_cp (c' := 119) (o' := 0) hG hD (fun b hb => ?_) hM.2.1
          rw [up2_e, if_neg (by omega), cpK_i (by omega) (by omega), up2_e, if_neg (by omega), cpK_o (by omega), Nat.add_sub_cancel_left]
        · simp only [z, ↓reduceIte]
          refine NowM_cp (c' := 122) (o' := 25 * (i + 1)) hG hD (fun b hb => ?_) (hM.2.2.1.2 (i + 1) (by omega))
          rw [up2_e, if_neg (by omega), cpK_o (by omega), up2_e, if_neg (by omega), cpK_i (by omega) (by omega)]
          congr 1; omega
    · rw [up2_e, if_neg h2, cpK_o (Or.inl h1), up2_e, if_neg h2, cpK_o (Or.inl h1)]
  · have hlt : sU σ < 10 := by omega
    refine ⟨up2 (cpK I 122 (25 * sU σ) 119 0 25) 112 18 (nI (sU σ + 1)), ?_, ?_, fun a b h1 h2 => by rw [up2_e, if_neg h2, cpK_o (Or.inl h1)]⟩
    · unfold f_X12_notes
      simp only [m_gI, bs, h18]
      rw [if_neg (show ¬ nI (sU σ) = (10 : Int32) from fun z => h ((nI_eq (b := 10) (by omega) (by decide)).mp z))]
      exact notes47 hlt h18
    · refine RM_W hM ok (fun a b ha hn => ?_) rfl (NowM_fr hG hD (fun b _ _ => ?_) hM.2.1) ⟨by rw [if_neg h]; exact us, fun i hi => ?_⟩
      · rw [up2_e, if_neg (by omega), cpK_o (by omega)]
      · rw [up2_e, if_neg (by omega), cpK_o (by omega)]
      · rw [if_neg h] at hi; rw [if_neg h]
        by_cases z : i = sU σ
        · subst z
          simp only [↓reduceIte]
          refine NowM_cp (c' := 119) (o' := 0) hG hD (fun b hb => ?_) hM.2.1
          rw [up2_e, if_neg (by omega), cpK_i (by omega) (by omega), Nat.add_sub_cancel_left]
        · simp only [z, ↓reduceIte]
          exact NowM_fr hG hD (fun b h1 h2 => by rw [up2_e, if_neg (by omega), cpK_o (by omega)]) (hM.2.2.1.2 i (by omega))
theorem st_undo (M : Mem) (h : Rel M) : StepI (f_X11_undo 0 M) (fun M => f_X12_undo 112 M) Rel := by
  obtain ⟨σ, p, kn, I, L, rfl, ok, hC, hM⟩ := h
  have hM' := RM_th ok hM
  obtain ⟨hn3, hn9, hG, hD⟩ := okn ok
  have hU := ok.2.2.1.1
  have h8 := hC.2.2.2.1.1
  have h18' : up2 I 112 0 0 112 18 = nI (sU σ) := hM'.2.2.1.1
  by_cases h0 : sU σ = 0
  · refine stepI (r := -2) (I1 := I) (R1 := Rof p kn) (L1 := L) ?_ ?_ (Rel_th ok hC hM)
    · unfold f_X11_undo
      simp only [c_gI, bs, h8]
      rw [if_neg (by rw [h0]; decide)]
    · show f_X12_undo 112 _ = _
      unfold f_X12_undo
      simp only [m_pI, bs, m_gI, h18']
      rw [if_pos (by rw [h0]; rfl)]
  · obtain ⟨u, hu⟩ : ∃ u, sU σ = u + 1 := ⟨sU σ - 1, by omega⟩
    obtain ⟨hkN, h46, h95⟩ := kn_N hC.1 (i := u) (by omega)
    obtain ⟨I1, b1, f1, f2, f3⟩ := become_c (p := p) (kn := kn) (I := up2 I 0 8 (nI u)) (L := L) (k := 29) (j := kn u) isN_29 hkN (by omega)
    have g8 : I1 0 8 = nI u := by rw [f1 0 8 (by omega)]; exact us
    have e1 : f_X11_undo 0 (129, I, Rof p kn, L) = some (nI u, (129, I1, Rof p kn, L)) := by
      unfold f_X11_undo
      simp only [c_gI, bs, h8, hu]
      rw [if_pos (show (1 : Int32) ≤ nI (u + 1) from nI_le (a := 1) (by omega) (by omega))]
      simp only [nI_pred, c_pI, bs, c_r5, c_r7, c_gI, us, k39 (show u < 10 by omega), n_cv isN_29, b1, g8]
    have hhi : hiEq I I1 := fun a b ha => by rw [f1 a b (by omega), up2_e, if_neg (by omega)]
    have hM1 : RM σ I1 L := RM_hi hhi hiEq.rf ok hM
    have hM1' := RM_th ok hM1
    have q18 : up2 I1 112 0 0 112 18 = nI (sU σ) := hM1'.2.2.1.1
    have e2 : f_X12_undo 112 (129, I1, Rof p kn, L) = some (nI u, (129, cpK (up2 (up2 I1 112 0 0) 112 18 (nI u)) 119 0 122 (25 * u) 25, Rof p kn, L)) := by
      unfold f_X12_undo
      simp only [m_pI, bs, m_gI, q18, hu]
      rw [if_neg (nI_ne0 (by omega) (by omega)), nI_pred]
      unfold f_X12_undo_27
      have z0 := lup0 (fun ag (s : Int32 × Mem) => f_X12_undo_27b 112 ag s.1 s.2) (fun j => (nI j, (129, cpK (up2 (up2 I1 112 0 0) 112 18 (nI u)) 119 0 122 (25 * u) j, Rof p kn, L))) 25 (FU_big (by decide)) (some (nI u, (129, cpK (up2 (up2 I1 112 0 0) 112 18 (nI u)) 119 0 122 (25 * u) 25, Rof p kn, L))) (fun ag => ?_) (fun j hj ag => ?_)
      · rw [cpK_0] at z0; exact z0
      · show f_X12_undo_27b 112 ag (nI 25) (129, cpK (up2 (up2 I1 112 0 0) 112 18 (nI u)) 119 0 122 (25 * u) 25, Rof p kn, L) = _
        unfold f_X12_undo_27b
        rw [if_pos (by decide)]
        have q : cpK (up2 (up2 I1 112 0 0) 112 18 (nI u)) 119 0 122 (25 * u) 25 112 18 = nI u := by rw [cpK_o (by omega)]; exact us
        simp only [m_gI, bs, q]
      · show f_X12_undo_27b 112 ag (nI j) (129, cpK (up2 (up2 I1 112 0 0) 112 18 (nI u)) 119 0 122 (25 * u) j, Rof p kn, L) = ag (nI (j + 1), (129, cpK (up2 (up2 I1 112 0 0) 112 18 (nI u)) 119 0 122 (25 * u) (j + 1), Rof p kn, L))
        unfold f_X12_undo_27b
        rw [if_neg (show ¬ (25 : Int32) ≤ nI j from nI_ge (b := 25) hj (by decide))]
        have q : cpK (up2 (up2 I1 112 0 0) 112 18 (nI u)) 119 0 122 (25 * u) j 112 18 = nI u := by rw [cpK_o (by omega)]; exact us
        have hv : cpK (up2 (up2 I1 112 0 0) 112 18 (nI u)) 119 0 122 (25 * u) j 122 (25 * u + j) = up2 (up2 I1 112 0 0) 112 18 (nI u) 122 (25 * u + j) := cpK_o (by omega)
        have hs2 := cpK_s (I := up2 (up2 I1 112 0 0) 112 18 (nI u)) (dc := 119) (d0 := 0) (sc := 122) (s0 := 25 * u) (j := j)
        rw [Nat.zero_add] at hs2
        simp only [m_r17, m_r14, bs, m_gI, q, ix25, a122 (show 25 * u + j < 250 by omega), hv, s119 hj, hs2, nI_1]
    have ok' : SOk (setW σ (sun σ u) u (sun σ)) := SOk_W ok (ok.2.2.1.2 u (by omega)) (by omega) (fun i hi => ok.2.2.1.2 i (by omega))
    refine stepI e1 e2 ⟨_, p, kn, _, _, rfl, ok', ?_, ?_⟩
    · refine RC_lo (I := I1) (fun a b ha => by rw [cpK_o (by omega), up2_e, if_neg (by omega), up2_e, if_neg (by omega)]) loEq.rf ok' (RC_W hC ok (fun a b ha hn => ?_) rfl hC.1 ?_ ⟨g8, fun i hi => ?_⟩)
      · rw [f1 a b (by omega), up2_e, if_neg (by omega)]
      · refine NowC_cp (k' := kn u) hG hD ?_ (fun i b h1 h4 hb => ?_) (hC.2.2.2.1.2 u (by omega))
        · rw [f2, up2_e, if_neg (by omega)]
        · rw [f3 i b h1 h4 hb, up2_e, if_neg (by omega)]
      · refine NowC_fr (fun q b hq => ?_) (hC.2.2.2.1.2 i (by omega))
        have hki := kn_N hC.1 (i := i) (by omega)
        rw [f1 _ b (by omega), up2_e, if_neg (by omega)]
    · refine RM_W hM1 ok (fun a b ha hn => ?_) rfl ?_ ⟨?_, fun i hi => ?_⟩
      · rw [cpK_o (by omega), up2_e, if_neg (by omega), up2_e, if_neg (by omega)]
      · refine NowM_cp (c' := 122) (o' := 25 * u) hG hD (fun b hb => ?_) (hM1.2.2.1.2 u (by omega))
        rw [cpK_i (by omega) (by omega), up2_e, if_neg (by omega), up2_e, if_neg (by omega)]
        congr 1; omega
      · rw [cpK_o (by omega)]; exact us
      · exact NowM_fr hG hD (fun b h1 h2 => by rw [cpK_o (by omega), up2_e, if_neg (by omega), up2_e, if_neg (by omega)]) (hM1.2.2.1.2 i (by omega))
end S8
