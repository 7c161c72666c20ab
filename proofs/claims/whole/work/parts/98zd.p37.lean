/-! ===== the table: one step ===== -/
theorem neg10 : ((List.range 141).all fun a => decide (¬ (0 : Int32) ≤ (-10 : Int32) - nI a)) = true := by decide +kernel
section S37
variable {p q : Nat} {kn : Nat → Nat} {I : Nat → Nat → Int32} {L : Nat → Nat → Int64} {σ : St}
theorem tab63 {r : Int32} : ∃ I1, f_X11_table_63 0 r 0 (129, I, Rof p kn, L) = some (r, (129, I1, Rof p kn, L)) ∧ (∀ i, i < 2 → I1 41 i = 0) ∧ (∀ a b, a ≠ 41 → I1 a b = I a b) := by
  unfold f_X11_table_63
  refine lupR0 (fun ag (s : Int32 × Mem) => f_X11_table_63b 0 r ag s.1 s.2) (fun j s => ∃ I1, s = (nI j, (129, I1, Rof p kn, L)) ∧ (∀ b, b < j → I1 41 b = 0) ∧ (∀ a b, a ≠ 41 → I1 a b = I a b)) 2 (FU_big (by decide)) (fun x => ∃ I1, x = some (r, (129, I1, Rof p kn, L)) ∧ (∀ i, i < 2 → I1 41 i = 0) ∧ (∀ a b, a ≠ 41 → I1 a b = I a b)) _ ⟨I, rfl, fun b hb => absurd hb (Nat.not_lt_zero _), fun _ _ _ => rfl⟩ ?_ ?_
  · rintro s ⟨I1, rfl, h1, h2⟩ ag
    refine ⟨I1, ?_, h1, h2⟩
    show f_X11_table_63b 0 r ag (nI 2) (129, I1, Rof p kn, L) = _
    unfold f_X11_table_63b
    rw [if_pos (by decide)]
  · rintro j s hj ⟨I1, rfl, h1, h2⟩ ag
    refine ⟨_, ⟨up2 I1 41 j 0, rfl, fun b hb => ?_, fun a b ha => ?_⟩, ?_⟩
    · rw [up2_e]
      by_cases z : b = j
      · rw [if_pos ⟨rfl, z⟩]
      · rw [if_neg (fun q => z q.2)]; exact h1 b (by omega)
    · rw [up2_e, if_neg (fun q => ha q.1)]; exact h2 a b ha
    · show f_X11_table_63b 0 r ag (nI j) (129, I1, Rof p kn, L) = _
      unfold f_X11_table_63b
      rw [if_neg (show ¬ (2 : Int32) ≤ nI j from nI_ge (b := 2) hj (by decide))]
      have g2 : sZ (129, I1, Rof p kn, L) 41 (nI j) 0 = some (129, up2 I1 41 j 0, Rof p kn, L) := sZ_0 (n := 2) (by decide) rfl hj (by decide)
      simp only [c_r10, bs, g2, nI_1]
theorem tab_c {I1 : Nat → Nat → Int32} {k : Nat} {δ : Dr} (hk : k ≤ 140) (hC : RC σ p kn I L) (hqe : 22 - p = q) (hr : f_X9_read 1 (129, I, Rof p kn, L) = some (nI k, (129, I1, Rof p kn, L))) (cf : cF p I I1) (hD : DC I1 q δ) (okδ : DOk δ) : ∃ I2, f_X11_table 0 (129, I, Rof p kn, L) = some (nI k, (129, I2, Rof q kn, L)) ∧ RC (begS σ δ) q kn I2 L ∧ hiEq I I2 := by
  have hp := hC.1.1
  have hq : isP q := by rw [← hqe]; exact q_ok hp
  have hq2 : q = 3 ∨ q = 19 := by omega
  have hG6 := okδ.1.1.2.2.1
  have hD6 := okδ.1.1.2.2.2
  obtain ⟨I0, b1, b2, b3, b4⟩ := become_c (p := q) (kn := kn) (I := up2 I1 1 1 0) (L := L) (k := 29) (j := q + 4) isN_29 hq.2.2.2.2.2.1 (by omega)
  obtain ⟨I3, t1, t2, t3⟩ := tab63 (p := q) (kn := kn) (I := up2 (up2 I0 0 8 0) 0 14 0) (L := L) (r := nI k)
  have e2 : ∀ J, gR (129, J, Rof p kn, L) 1 9 2 = some q := fun J => by rw [← hqe]; exact e_r2
  have pr1 : ∀ J, pR (129, J, Rof p kn, L) 1 9 2 p = some (129, J, up2 (Rof p kn) 1 2 (some p), L) := fun J => rfl
  have pr2 : ∀ J, pR (129, J, up2 (Rof p kn) 1 2 (some p), L) 0 11 4 q = some (129, J, Rof q kn, L) := fun J => by
    rw [← Rof_sw (kn := kn) hp hqe]; rfl
  have g : ∀ a b, a ≠ 41 → ¬ (a = 0 ∧ b = 8) → ¬ (a = 0 ∧ b = 14) → (a < 29 ∨ 33 < a) → ¬ (a = 1 ∧ b = 1) → I3 a b = I1 a b := fun a b h1 h2 h3 h4 h5 => by
    rw [t3 a b h1, up2_e, if_neg h3, up2_e, if_neg h2, b2 a b (by omega), up2_e, if_neg h5]
  have g29 : ∀ a b, 29 ≤ a → a ≤ 33 → I3 a b = I0 a b := fun a b h1 h2 => by
    rw [t3 a b (by omega), up2_e, if_neg (by omega), up2_e, if_neg (by omega)]
  refine ⟨I3, ?_, ?_, fun a b ha => ?_⟩
  · unfold f_X11_table f_X9_handOver
    simp only [c_r0, bs, e_cv, hr]
    rw [if_pos (nI_pos' (by omega))]
    simp only [e_pI, bs, c_r0, c_r4, e_cv, e2, pr1, pr2, c_r5, p_r6 hq, n_cv isN_29, b1, c_pI, t1]
  · obtain ⟨⟨⟨d1, d2, d3⟩, d4, d5⟩, dN, dz⟩ := hD
    have hz := hC.2.2.2.2.2.2.2.1
    refine ⟨⟨hq2, hC.1.2⟩, ⟨⟨?_, ?_, ?_⟩, fun g' hg => ⟨?_, ?_⟩, fun d hd => ?_⟩, ?_, ⟨?_, fun i hi => absurd hi (Nat.not_lt_zero _)⟩, fun i hi => ⟨t2 i hi, fun z => absurd (show (0 : Nat) = 1 from z) (by decide)⟩, ⟨?_, fun i hi => absurd hi (Nat.not_lt_zero _)⟩, ⟨?_, fun i hi => absurd hi (Nat.not_lt_zero _)⟩, ⟨?_, ?_, fun g' hg => ⟨?_, ?_⟩⟩, hC.2.2.2.2.2.2.2.2⟩
    · rw [g _ _ (by omega) (by omega) (by omega) (by omega) (by omega)]; exact d1
    · rw [g _ _ (by omega) (by omega) (by omega) (by omega) (by omega)]; exact d2
    · rw [g _ _ (by omega) (by omega) (by omega) (by omega) (by omega)]; exact d3
    · rw [g _ _ (by omega) (by omega) (by omega) (by omega) (by omega)]; exact (d4 g' hg).1
    · rw [g _ _ (by omega) (by omega) (by omega) (by omega) (by omega)]; exact (d4 g' hg).2
    · rw [g _ _ (by omega) (by omega) (by omega) (by omega) (by omega)]; exact d5 d hd
    · refine NowC_cp (k' := q + 4) hG6 hD6 ?_ (fun y b h1 h4 hb => ?_) dN
      · rw [g29 _ _ (by omega) (by omega), b3, up2_e, if_neg (by omega)]
      · rw [g29 _ _ (by omega) (by omega), b4 y b h1 h4 hb, up2_e, if_neg (by omega)]
    · rw [t3 _ _ (by omega), up2_e, if_neg (by omega)]; exact us
    · rw [t3 _ _ (by omega)]; exact us
    · rw [t3 _ _ (by omega), up2_e, if_neg (by omega), up2_e, if_neg (by omega), b2 _ _ (by omega)]; exact us
    · rw [g _ _ (by omega) (by omega) (by omega) (by omega) (by omega), cf _ _ (by unfold cscr; omega)]; exact hz.1
    · rw [g _ _ (by omega) (by omega) (by omega) (by omega) (by omega), cf _ _ (by unfold cscr; omega)]; exact hz.2.1
    · rw [g _ _ (by omega) (by omega) (by omega) (by omega) (by omega), cf _ _ (by unfold cscr; omega)]; exact (hz.2.2 g' hg).1
    · rw [g _ _ (by omega) (by omega) (by omega) (by omega) (by omega), cf _ _ (by unfold cscr; omega)]; exact (hz.2.2 g' hg).2
  · rw [g _ _ (by omega) (by omega) (by omega) (by omega) (by omega), cf _ _ (by unfold cscr; omega)]
theorem st_table (M : Mem) (h : Rel M) : StepI (f_X11_table 0 M) (fun M => f_X12_table 112 M) Rel := by
  obtain ⟨σ, p, kn, I, L, rfl, ok, hC, hM⟩ := h
  have hp := hC.1.1
  have hT := ok.2.2.2.2.2.1
  have htx := ok.2.2.2.2.2.2
  have hz := hC.2.2.2.2.2.2.2.1
  have z0 : I (22 - p + 4) 0 = 0 := by
    rcases hp with rfl | rfl
    · exact hz.2.1
    · exact hz.1
  have zh : ∀ g, g < 6 → I (22 - p + 4 + 4) g = 0 := fun g hg => by
    rcases hp with rfl | rfl
    · exact (hz.2.2 g hg).2
    · exact (hz.2.2 g hg).1
  obtain ⟨I1, r, c1, c2, c3, c4⟩ := read_c (p := p) (q := 22 - p) (kn := kn) (L := L) (T := sT σ) (tx := stx σ) (I := I) hp rfl hT htx hC.2.2.2.2.2.2.1 z0 zh
  obtain ⟨u1, u2⟩ := rdT_ok (tx := stx σ) (T := sT σ)
  cases e : rdT (stx σ) (sT σ) with
  | inl a =>
    have ha := u1 a e
    have hr := c3.1 a e
    subst hr
    have hn := of_decide_eq_true (rall neg10 (show a < 141 by omega))
    have e1 : f_X11_table 0 (129, I, Rof p kn, L) = some ((-10 : Int32) - nI a, (129, I1, Rof p kn, L)) := by
      unfold f_X11_table
      simp only [c_r0, bs, e_cv, c1]
      rw [if_neg hn]
    have hM1 : RM σ I1 L := RM_hi (fun a b ha => c2 a b (by unfold cscr; omega)) hiEq.rf ok hM
    have hC1 : RC σ p kn I1 L := RC_fr (fun a b _ hn => c2 a b hn) rfl ok.2.2.1.1 hC
    obtain ⟨I2, m1, m2⟩ := (read_m (p := p) (kn := kn) (L := L) hT htx hM1.2.2.2.2.2.1).1 a e
    refine stepI e1 m1 ⟨σ, p, kn, _, _, rfl, ok, ?_, ?_⟩
    · exact RC_lo (fun a b ha => m2 a b (by unfold mscr; omega)) loEq.rf ok hC1
    · exact RM_fr (fun a b _ hn => m2 a b hn) rfl ok hM1
  | inr x =>
    obtain ⟨k, δ⟩ := x
    obtain ⟨hk, okδ⟩ := u2 k δ e
    have hr := c3.2 k δ e
    subst hr
    obtain ⟨I2, t1, t2, t3⟩ := tab_c (by omega) hC rfl c1 c2 (c4 k δ e) okδ
    have hM1 : RM σ I2 L := RM_hi t3 hiEq.rf ok hM
    obtain ⟨I3, m1, m2, m3, m4⟩ := (read_m (p := 22 - p) (kn := kn) (L := L) hT htx hM1.2.2.2.2.2.1).2 k δ e
    obtain ⟨I4, s1, s2, s3, s4, s5, s6⟩ := settles_m (p := 22 - p) (kn := kn) (I := I3) (L := L)
    have hw : f_X12_isWell 112 (129, I3, Rof (22 - p) kn, L) = some 1 := by
      unfold f_X12_isWell
      simp only [m_gI, bs, m4]
      rw [if_neg (by decide)]; rfl
    have e2 : f_X12_table 112 (129, I2, Rof (22 - p) kn, L) = some (nI k, (129, I4, Rof (22 - p) kn, L)) := by
      rw [m1]
      unfold f_X12_table_101
      simp only [m_cv, hw, bs, z10, ↓reduceIte, s1]
    refine stepI t1 e2 ⟨begS σ δ, 22 - p, kn, _, _, rfl, begS_ok okδ, ?_, ?_⟩
    · exact RC_lo (fun a b ha => by rw [s6 a b ha]; exact m2 a b (by unfold mscr; omega)) loEq.rf (begS_ok okδ) t2
    · exact beg_RM okδ m3 s2 s3 s4 s5 hM.2.2.2.2.2.2
end S37
