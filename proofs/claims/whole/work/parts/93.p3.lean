/-! ===== steps: count, trace, clear, type, forget, sees, guest, dish ===== -/
theorem in3 {x : Int32} {M : Mem} (h : x < 0 ∨ nI 3 ≤ x) : f_X12_in x 0 2 M = some 0 := in_no (m := 3) (by decide) h
theorem in2_no {x : Int32} {M : Mem} (h : x < 0 ∨ nI 2 ≤ x) : f_X12_in x 0 1 M = some 0 := in_no (m := 2) (by decide) h
theorem in6_no {x : Int32} {M : Mem} (h : x < 0 ∨ nI 6 ≤ x) : f_X12_in x 0 5 M = some 0 := in_no (m := 6) (by decide) h
theorem in5_no {x : Int32} {M : Mem} (h : x < 0 ∨ nI 5 ≤ x) : f_X12_in x 0 4 M = some 0 := in_no (m := 5) (by decide) h
theorem in2_yes {j : Nat} {M : Mem} (h : j < 2) : f_X12_in (nI j) 0 1 M = some 1 := in_yes (m := 2) (by decide) h
theorem in3_yes {j : Nat} {M : Mem} (h : j < 3) : f_X12_in (nI j) 0 2 M = some 1 := in_yes (m := 3) (by decide) h
theorem in5_yes {j : Nat} {M : Mem} (h : j < 5) : f_X12_in (nI j) 0 4 M = some 1 := in_yes (m := 5) (by decide) h
theorem in6_yes {j : Nat} {M : Mem} (h : j < 6) : f_X12_in (nI j) 0 5 M = some 1 := in_yes (m := 6) (by decide) h
/-- a number is one of 0 .. n - 1, or it isn't -/
theorem ixn (x : Int32) (n : Nat) (hn : n < 2 ^ 31) : (x < 0 ∨ nI n ≤ x) ∨ ∃ j : Nat, j < n ∧ x = nI j := by
  rcases pk_ix x hn with h | h | h
  · exact Or.inl (Or.inl h)
  · exact Or.inl (Or.inr h)
  · exact Or.inr h
theorem ne_of_out {x : Int32} {n j : Nat} (hn : n < 2 ^ 31) (h : x < 0 ∨ nI n ≤ x) (hj : j < n) : ¬ x = nI j := by
  intro e; subst e
  rcases h with h | h
  · exact nI_pos (by omega) h
  · exact nI_ge hj hn h
theorem bs {α β : Type} {a : α} {f : α → Option β} : Option.bind (some a) f = f a := Eq.trans rfl rfl
theorem ul {α : Type} {f : Nat → Nat → α} {k j a b : Nat} {v : α} (h : a < k) : up2 f k j v a b = f a b := by rw [up2_e, if_neg (by omega)]
theorem ug {α : Type} {f : Nat → Nat → α} {k j a b : Nat} {v : α} (h : k < a) : up2 f k j v a b = f a b := by rw [up2_e, if_neg (by omega)]
theorem us {α : Type} {f : Nat → Nat → α} {k j : Nat} {v : α} : up2 f k j v k j = v := up2_s
theorem ujl {α : Type} {f : Nat → Nat → α} {k j b : Nat} {v : α} (h : b < j) : up2 f k j v k b = f k b := by rw [up2_e, if_neg (by omega)]
theorem ujg {α : Type} {f : Nat → Nat → α} {k j b : Nat} {v : α} (h : j < b) : up2 f k j v k b = f k b := by rw [up2_e, if_neg (by omega)]
section S3
variable {σ : St} {p : Nat} {kn : Nat → Nat} {I : Nat → Nat → Int32} {L : Nat → Nat → Int64}
theorem st_count (M : Mem) (a1 : Int32) (h : Rel M) : StepP (f_X11_count 0 a1 M) M (fun M => f_X12_count 112 a1 M) Rel := by
  obtain ⟨σ, p, kn, I, L, rfl, ok, hC, hM⟩ := h
  have hp := isP_of hC.1.1
  have hM' := RM_th ok hM
  rcases ixn a1 3 (by decide) with hx | ⟨j, hj, rfl⟩
  · have n0 : ¬ a1 = (0 : Int32) := ne_of_out (j := 0) (by decide) hx (by decide)
    have n1 : ¬ a1 = (1 : Int32) := ne_of_out (j := 1) (by decide) hx (by decide)
    have n2 : ¬ a1 = (2 : Int32) := ne_of_out (j := 2) (by decide) hx (by decide)
    by_cases h3 : a1 = 3
    · subst h3
      refine ⟨nI (sS σ), (129, up2 I 112 0 0, Rof p kn, L), ?_, ?_, Rel_th ok hC hM⟩
      · unfold f_X11_count
        rw [if_neg n0, if_neg n1, if_neg n2, if_pos rfl]; simp only [c_gI, bs, hC.2.2.2.2.2.1.1]
      · show f_X12_count 112 _ _ = _
        unfold f_X12_count
        simp only [m_pI, bs, in3 hx, m_gI]
        simp only [↓reduceIte, hM'.2.2.2.2.1.1]
    · by_cases h4 : a1 = 4
      · subst h4
        refine ⟨nI (sT σ), (129, up2 I 112 0 0, Rof p kn, L), ?_, ?_, Rel_th ok hC hM⟩
        · unfold f_X11_count
          rw [if_neg n0, if_neg n1, if_neg n2, if_neg h3, if_pos rfl]; simp only [c_r0, bs, e_gI, hC.2.2.2.2.2.2.1.1]
        · show f_X12_count 112 _ _ = _
          unfold f_X12_count
          simp only [m_pI, bs, in3 hx, m_gI]
          simp only [↓reduceIte, h3, hM'.2.2.2.2.2.1.1]
      · refine ⟨-1, (129, up2 I 112 0 0, Rof p kn, L), ?_, ?_, Rel_th ok hC hM⟩
        · unfold f_X11_count
          rw [if_neg n0, if_neg n1, if_neg n2, if_neg h3, if_neg h4]
        · show f_X12_count 112 _ _ = _
          unfold f_X12_count
          simp only [m_pI, bs, in3 hx, ↓reduceIte, h3, h4]
  · have hm : ∀ v : Int32, up2 I 112 0 0 114 j = v → f_X12_count 112 (nI j) (129, I, Rof p kn, L) = some (v, (129, up2 I 112 0 0, Rof p kn, L)) := by
      intro v hv
      unfold f_X12_count
      simp only [m_pI, bs, in3_yes hj, m_r9]
      rw [if_neg (by decide), m_aI (n := 6) (by decide) rfl (by omega) (by decide), bs, ← hv]
    rcases (show j = 0 ∨ j = 1 ∨ j = 2 by omega) with rfl | rfl | rfl
    · refine ⟨_, _, ?_, hm _ hM'.1.1.1, Rel_th ok hC hM⟩
      unfold f_X11_count
      rw [if_pos (by decide)]; simp only [c_r4, bs, p_gI hp, hC.2.1.1.1]
    · refine ⟨_, _, ?_, hm _ hM'.1.1.2.1, Rel_th ok hC hM⟩
      unfold f_X11_count
      rw [if_neg (by decide), if_pos (by decide)]; simp only [c_r4, bs, p_gI hp, hC.2.1.1.2.1]
    · refine ⟨_, _, ?_, hm _ hM'.1.1.2.2, Rel_th ok hC hM⟩
      unfold f_X11_count
      rw [if_neg (by decide), if_neg (by decide), if_pos (by decide)]; simp only [c_r4, bs, p_gI hp, hC.2.1.1.2.2]
theorem st_trace (M : Mem) (h : Rel M) : StepL (f_X11_trace 0 M) M (fun M => f_X12_trace 112 M) Rel := by
  obtain ⟨σ, p, kn, I, L, rfl, ok, hC, hM⟩ := h
  refine ⟨str σ, (129, up2 I 112 0 0, Rof p kn, L), ?_, ?_, Rel_th ok hC hM⟩
  · unfold f_X11_trace
    simp only [c_r2, bs, k_gL, hC.2.2.2.2.2.2.2.2]
  · show f_X12_trace 112 _ = _
    unfold f_X12_trace
    simp only [m_pI, bs, m_gL, hM.2.2.2.2.2.2]
/-- another text -/
theorem st_clear (M : Mem) (h : Rel M) : StepI (f_X11_clear 0 M) (fun M => f_X12_clear 112 M) Rel := by
  obtain ⟨σ, p, kn, I, L, rfl, ok, hC, hM⟩ := h
  have hT := hC.2.2.2.2.2.2.1.1
  have mT := hM.2.2.2.2.2.1.1
  have e1 : f_X11_clear 0 (129, I, Rof p kn, L) = some (nI (sT σ), (129, up2 I 1 1 0, Rof p kn, L)) := by
    unfold f_X11_clear
    simp only [c_r0, bs, e_gI, e_pI, hT]
  have e2 : f_X12_clear 112 (129, up2 I 1 1 0, Rof p kn, L) = some (nI (sT σ), (129, up2 (up2 (up2 I 1 1 0) 112 0 0) 112 3 0, Rof p kn, L)) := by
    unfold f_X12_clear
    simp only [m_pI, bs, m_gI, ujg, ug, mT, Nat.reduceLT]
  have ok' : SOk (setT σ 0 (stx σ)) := SOk_T ok (Nat.zero_le _) (fun i hi => absurd hi (Nat.not_lt_zero _))
  refine stepI e1 e2 ⟨setT σ 0 (stx σ), p, kn, _, _, rfl, ok', ?_, ?_⟩
  · exact RC_lo (I := up2 I 1 1 0) ((loEq.rf.up (by decide)).up (by decide)) loEq.rf ok' (RC_T hC ok (fun a b ha hn => by rw [up2_e, if_neg (by omega)]) rfl ⟨rfl, fun i hi => absurd hi (Nat.not_lt_zero _)⟩)
  · exact RM_T hM ok (fun a b ha hn => by simp only [up2_e]; repeat rw [if_neg (by omega)]) rfl ⟨rfl, fun i hi => absurd hi (Nat.not_lt_zero _)⟩
theorem chr0 : ∀ q, q < 256 → vp_nar .char (((nI q).toUInt32 % 65536).toInt32) = nI q := by decide +kernel
theorem st_type (M : Mem) (a1 : Int32) (h : Rel M) : StepI (f_X11_type 0 a1 M) (fun M => f_X12_type 112 a1 M) Rel := by
  obtain ⟨σ, p, kn, I, L, rfl, ok, hC, hM⟩ := h
  have hT := hC.2.2.2.2.2.2.1.1
  have mT := hM.2.2.2.2.2.1.1
  have hT140 : sT σ ≤ 140 := ok.2.2.2.2.2.1
  have mT' : up2 I 112 0 0 112 3 = nI (sT σ) := mT
  rcases ixn a1 256 (by decide) with hx | ⟨j, hj, rfl⟩
  · have e1 : f_X11_type 0 a1 (129, I, Rof p kn, L) = some (-1, (129, I, Rof p kn, L)) := by
      unfold f_X11_type
      by_cases h0 : a1 < 0
      · rw [if_pos h0]
      · rw [if_neg h0, if_neg (fun h1 => ?_)]
        have h2 : nI 256 ≤ a1 := hx.resolve_left h0
        have h3 := Int32.le_iff_toInt_le.mp h1
        have h4 := Int32.le_iff_toInt_le.mp h2
        rw [nI_toInt (by decide)] at h4
        have h5 : (255 : Int32).toInt = 255 := rfl
        rw [h5] at h3
        omega
    have e2 : f_X12_type 112 a1 (129, I, Rof p kn, L) = some (-1, (129, up2 I 112 0 0, Rof p kn, L)) := by
      unfold f_X12_type
      simp only [m_pI, bs, show f_X12_in a1 0 255 (129, up2 I 112 0 0, Rof p kn, L) = some 0 from in_no (m := 256) (by decide) hx, ↓reduceIte]
    exact stepI e1 e2 (Rel_th ok hC hM)
  · have c1 : ¬ nI j < 0 := nI_pos (by omega)
    have c2 : nI j ≤ (255 : Int32) := nI_le (b := 255) (by omega) (by decide)
    have m2 : ∀ M : Mem, f_X12_in (nI j) 0 255 M = some 1 := fun M => in_yes (m := 256) (by decide) hj
    by_cases hf : sT σ = 140
    · have e1 : f_X11_type 0 (nI j) (129, I, Rof p kn, L) = some (-3, (129, I, Rof p kn, L)) := by
        unfold f_X11_type
        rw [if_neg c1, if_pos c2]
        simp only [c_r0, bs, e_gI, hT]
        rw [hf, if_neg (by decide)]
      have e2 : f_X12_type 112 (nI j) (129, I, Rof p kn, L) = some (-3, (129, up2 I 112 0 0, Rof p kn, L)) := by
        unfold f_X12_type
        simp only [m_pI, bs, m2, m_gI, mT']
        rw [if_neg (by decide), hf, if_pos (by decide)]
      exact stepI e1 e2 (Rel_th ok hC hM)
    · have hT' : sT σ < 140 := by omega
      have c3 : nI (sT σ) < (140 : Int32) := nI_lt (b := 140) hT' (by decide)
      have c4 : ¬ nI (sT σ) = (140 : Int32) := fun z => hf ((nI_eq (a := sT σ) (b := 140) (by omega) (by decide)).mp z)
      have e1 : f_X11_type 0 (nI j) (129, I, Rof p kn, L) = some (nI (sT σ + 1), (129, up2 (up2 I 2 (sT σ) (nI j)) 1 1 (nI (sT σ + 1)), Rof p kn, L)) := by
        unfold f_X11_type
        rw [if_neg c1, if_pos c2]
        simp only [c_r0, bs, e_gI, hT, e_r0]
        rw [if_pos c3]
        unfold sC
        rw [chr0 j hj, sA_n (n := 140) (by decide) rfl hT' (by decide)]
        simp only [bs, c_r0, e_gI, e_pI, ul, hT, us, nI_1, Nat.reduceLT]
      have e2 : f_X12_type 112 (nI j) (129, up2 (up2 I 2 (sT σ) (nI j)) 1 1 (nI (sT σ + 1)), Rof p kn, L) = some (nI (sT σ + 1), (129, up2 (up2 (up2 (up2 (up2 I 2 (sT σ) (nI j)) 1 1 (nI (sT σ + 1))) 112 0 0) 113 (sT σ) (nI j)) 112 3 (nI (sT σ + 1)), Rof p kn, L)) := by
        unfold f_X12_type
        simp only [m_pI, bs, m2, m_gI, ujg, ug, ul, mT, Nat.reduceLT]
        rw [if_neg (by decide), if_neg c4]
        simp only [m_r2, bs, sI_n (k := 113) (n := 140) (by decide) rfl hT' (by decide), m_gI, ujg, ug, ul, mT, m_pI, nI_1, us, Nat.reduceLT]
      have ok' : SOk (setT σ (sT σ + 1) (fun i => if i = sT σ then j else stx σ i)) := SOk_T ok hT' (fun i hi => by
        by_cases z : i = sT σ
        · rw [if_pos z]; exact hj
        · rw [if_neg z]; exact ok.2.2.2.2.2.2 i (by omega))
      refine stepI e1 e2 ⟨setT σ (sT σ + 1) (fun i => if i = sT σ then j else stx σ i), p, kn, _, _, rfl, ok', ?_, ?_⟩
      · refine RC_lo (I := up2 (up2 I 2 (sT σ) (nI j)) 1 1 (nI (sT σ + 1))) (((loEq.rf.up (by decide)).up (by decide)).up (by decide)) loEq.rf ok' (RC_T hC ok (fun a b ha hn => by simp only [up2_e]; repeat rw [if_neg (by omega)]) rfl ⟨us, fun i hi => ?_⟩)
        rw [ug (by decide), up2_e]
        by_cases z : i = sT σ
        · rw [if_pos ⟨rfl, z⟩, if_pos z]
        · rw [if_neg (fun q => z q.2), if_neg z]; exact hC.2.2.2.2.2.2.1.2 i (by omega)
      · refine RM_T hM ok (fun a b ha hn => by simp only [up2_e]; repeat rw [if_neg (by omega)]) rfl ⟨us, fun i hi => ?_⟩
        rw [ug (by decide), up2_e]
        by_cases z : i = sT σ
        · rw [if_pos ⟨rfl, z⟩, if_pos z]
        · rw [if_neg (fun q => z q.2), if_neg z, ug (by decide), ug (by decide), ug (by decide)]; exact hM.2.2.2.2.2.1.2 i (by omega)
theorem st_forget (M : Mem) (h : Rel M) : StepI (f_X11_forget 0 M) (fun M => f_X12_forget 112 M) Rel := by
  obtain ⟨σ, p, kn, I, L, rfl, ok, hC, hM⟩ := h
  have hS := hC.2.2.2.2.2.1.1
  have mS := hM.2.2.2.2.1.1
  have e1 : f_X11_forget 0 (129, I, Rof p kn, L) = some (nI (sS σ), (129, up2 I 0 14 0, Rof p kn, L)) := by
    unfold f_X11_forget
    simp only [bs, c_gI, c_pI, hS]
  have e2 : f_X12_forget 112 (129, up2 I 0 14 0, Rof p kn, L) = some (nI (sS σ), (129, up2 (up2 (up2 I 0 14 0) 112 0 0) 112 22 0, Rof p kn, L)) := by
    unfold f_X12_forget
    simp only [m_pI, bs, m_gI, ujg, ug, mS, Nat.reduceLT]
  have ok' : SOk (setS σ 0 (ssd σ) (sst σ) (ssr σ)) := SOk_S ok (Nat.zero_le _) (fun i hi => absurd hi (Nat.not_lt_zero _))
  refine stepI e1 e2 ⟨_, p, kn, _, _, rfl, ok', ?_, ?_⟩
  · exact RC_lo (I := up2 I 0 14 0) ((loEq.rf.up (by decide)).up (by decide)) loEq.rf ok' (RC_S hC ok (fun a b ha hn => by rw [up2_e, if_neg (by omega)]) rfl ⟨rfl, fun i hi => absurd hi (Nat.not_lt_zero _)⟩)
  · exact RM_S hM ok (fun a b ha hn => by simp only [up2_e]; repeat rw [if_neg (by omega)]) rfl ⟨rfl, fun i hi => absurd hi (Nat.not_lt_zero _)⟩
end S3
