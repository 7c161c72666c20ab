/-! ===== the start; the pure part ===== -/
theorem lay_z : ((List.range 129).all fun a => decide ((lay a).1 = 7 → (lay a).2 = 5) && decide ((lay a).1 = 8 → (lay a).2 = 8) && decide ((lay a).1 = 5 → (lay a).2 = 5) && decide ((lay a).1 = 9 → (lay a).2 = 7) && decide ((lay a).1 = 11 → (lay a).2 = 16) && decide ((lay a).1 = 12 → (lay a).2 = 26) && decide ((lay a).1 = 23 → (a = 39 ∧ (lay a).2 = 10) ∨ (a = 40 ∧ (lay a).2 = 2)) && decide ((lay a).1 = 24 → (lay a).2 = 6)) = true := by decide +kernel
theorem gd_o {l : List (Option Nat)} {b : Nat} (h : l.length ≤ b) : l.getD b none = none := by
  rw [List.getD_eq_getElem?_getD, List.getElem?_eq_none h]; rfl
theorem Rof_out {p : Nat} {kn : Nat → Nat} {a b : Nat} (h : kI a b) : Rof p kn a b = none := by
  unfold Rof
  by_cases w : a < 129
  · have q := rall lay_z w
    simp only [Bool.and_eq_true, decide_eq_true_eq] at q
    obtain ⟨⟨⟨⟨⟨⟨⟨q7, q8⟩, q5⟩, q9⟩, q11⟩, q12⟩, q23⟩, q24⟩ := q
    rcases h with h | h | h
    · omega
    · by_cases z7 : (lay a).1 = 7
      · rw [if_pos z7]
        have := q7 z7
        rw [if_neg (by omega), if_neg (by omega)]
      rw [if_neg z7]
      by_cases z8 : (lay a).1 = 8
      · rw [if_pos z8]
        have := q8 z8
        rw [if_neg (by omega), if_neg (by omega), if_neg (by omega), if_neg (by omega), if_neg (by omega)]
      rw [if_neg z8]
      by_cases z5 : (lay a).1 = 5
      · rw [if_pos z5]
        have := q5 z5
        rw [if_neg (by omega)]
      rw [if_neg z5]
      by_cases z9 : (lay a).1 = 9
      · rw [if_pos z9]
        have := q9 z9
        rw [if_neg (by omega), if_neg (by omega)]
      rw [if_neg z9]
      by_cases z11 : (lay a).1 = 11
      · rw [if_pos z11]
        exact gd_o (by have := q11 z11; show 16 ≤ b; omega)
      rw [if_neg z11]
      by_cases z12 : (lay a).1 = 12
      · rw [if_pos z12]
        exact gd_o (by have := q12 z12; show 26 ≤ b; omega)
      rw [if_neg z12]
      by_cases z23 : (lay a).1 = 23
      · rw [if_pos z23]
        rcases q23 z23 with ⟨y1, y2⟩ | ⟨y1, y2⟩
        · rw [if_pos y1, if_neg (by omega)]
        · rw [if_neg (by omega), if_neg (by omega), if_neg (by omega)]
      rw [if_neg z23]
      by_cases z24 : (lay a).1 = 24
      · rw [if_pos z24]
        have := q24 z24
        rw [if_neg (by omega)]
      rw [if_neg z24]
    · rw [if_neg (by omega), if_neg (by omega), if_neg (by omega), if_neg (by omega), if_neg (by omega), if_neg (by omega), if_neg (by omega), if_neg (by omega)]
  · rw [lay_o w]
    rfl
theorem ck_R {R : Nat → Nat → Option Nat} (h : ckR R = true) (ko : ∀ a b, kI a b → R a b = none) : R = Rof 19 kn0 := by
  funext a b
  by_cases z : kI a b
  · rw [ko a b z, Rof_out z]
  · have h1 : a < 129 := by unfold kI at z; omega
    have h2 : b < (lay a).2 := by unfold kI at z; omega
    have h3 : ¬ (20 ≤ (lay a).1 ∧ (lay a).1 ≤ 22) := fun q => z (Or.inr (Or.inr q))
    have q := rall h h1
    rw [decide_eq_false h3, Bool.false_or] at q
    exact of_decide_eq_true (rall q h2)
def st0 : St := ((6, 0, 0, fun _ => 0, fun _ => 0, fun _ => 0), (0, fun _ => 0, fun _ => 0, fun _ => 0, fun _ => 0), (0, fun _ => (0, fun _ => 0, fun _ => 0, fun _ => 0, fun _ => 0)), (fun _ => 0, fun _ => (0, fun _ => 0, fun _ => 0, fun _ => 0, fun _ => 0)), (0, fun _ => 0, fun _ => 0, fun _ => 0), (0, fun _ => 0), 0)
theorem RC_0 {I : Nat → Nat → Int32} {L : Nat → Nat → Int64} (hI : ckI I = true) (hL : L 17 5 = 0) : RC (begS st0 dr0) 19 kn0 I L := by
  unfold ckI at hI
  simp only [Bool.and_eq_true, decide_eq_true_eq] at hI
  obtain ⟨⟨⟨⟨⟨⟨⟨⟨⟨⟨⟨i1, i2⟩, i3⟩, i4⟩, i5⟩, i6⟩, i7⟩, i8⟩, i9⟩, i10⟩, i11⟩, i12⟩ := hI
  refine ⟨⟨Or.inr rfl, fun i hi => ⟨i, hi, rfl⟩, fun i j _ _ h => ?_⟩, ⟨⟨i1, i2, i3⟩, fun g hg => absurd hg (Nat.not_lt_zero _), fun g hg => absurd hg (Nat.not_lt_zero _)⟩, ⟨i4, fun g hg => absurd hg (Nat.not_lt_zero _), fun g hg => absurd hg (Nat.not_lt_zero _)⟩, ⟨i5, fun i hi => absurd hi (Nat.not_lt_zero _)⟩, fun i hi => ⟨?_, fun q => absurd (show (0 : Nat) = 1 from q) (by decide)⟩, ⟨i8, fun i hi => absurd hi (Nat.not_lt_zero _)⟩, ⟨i9, fun i hi => absurd hi (Nat.not_lt_zero _)⟩, ⟨i10, i11, fun g hg => ?_⟩, hL⟩
  · unfold kn0 at h; omega
  · rcases (show i = 0 ∨ i = 1 by omega) with rfl | rfl
    · exact i6
    · exact i7
  · have q := rall i12 hg
    rw [Bool.and_eq_true, decide_eq_true_eq, decide_eq_true_eq] at q
    exact q
theorem ck1_e {o : Option Mem} (h : ck1 o = true) : ∃ M, o = some M ∧ M.1 = 112 := by
  cases o with
  | none => cases h
  | some M => exact ⟨M, rfl, of_decide_eq_true h⟩
theorem ck2_e {o : Option Mem} (h : ck2 o = true) : ∃ M, o = some M ∧ M.1 = 129 ∧ ckI M.2.1 = true ∧ ckL M.2.2.2 = true ∧ ckR M.2.2.1 = true := by
  cases o with
  | none => cases h
  | some M =>
    have h' : (decide (M.1 = 129) && ckI M.2.1 && ckL M.2.2.2 && ckR M.2.2.1) = true := h
    rw [Bool.and_eq_true, Bool.and_eq_true, Bool.and_eq_true] at h'
    exact ⟨M, rfl, of_decide_eq_true h'.1.1.1, h'.1.1.2, h'.1.2, h'.2⟩
theorem init_ok : ∃ M1 M2 : Mem, f_X11_init 0 (nCell Mz0) = some M1 ∧ M1.1 = 112 ∧ f_X12_init 112 (nCell M1) = some M2 ∧ Rel M2 := by
  have k0 : KO (nCell Mz0) := KO_nC (fun _ _ _ => rfl)
  obtain ⟨M1, h1, n1⟩ := ck1_e ck1_ok
  obtain ⟨M, h2, n2, hI, hL, hR⟩ := ck2_e ck2_ok
  rw [h1, bs] at h2
  have ko : KO M := KO_pre (KO_nC (KO_X11 k0 h1)) h2
  obtain ⟨N, I, R, L⟩ := M
  have n2' : N = 129 := n2
  have hR' : R = Rof 19 kn0 := ck_R hR ko
  subst n2' hR'
  have hL' : L 17 5 = 0 ∧ L 112 1 = 0 := by
    have q : ckL L = true := hL
    unfold ckL at q
    rw [Bool.and_eq_true, decide_eq_true_eq, decide_eq_true_eq] at q
    exact q
  obtain ⟨I1, b1, b2, b3⟩ := beg_m (p := 19) (kn := kn0) (I := I) (L := L)
  obtain ⟨I2, s1, s2, s3, s4, s5, s6⟩ := settles_m (p := 19) (kn := kn0) (I := I1) (L := L)
  refine ⟨M1, (129, I2, Rof 19 kn0, L), h1, n1, ?_, begS st0 dr0, 19, kn0, I2, L, rfl, begS_ok dr0_ok, ?_, ?_⟩
  · rw [pre12_e, h2]
    simp only [bs, m_cv, b1, s1]
  · exact RC_lo (fun a b ha => by rw [s6 a b ha]; exact b3 a b (by omega) (by omega)) loEq.rf (begS_ok dr0_ok) (RC_0 hI hL'.1)
  · exact beg_RM dr0_ok (DM_0 b2) s2 s3 s4 s5 hL'.2
theorem Rel_129 (M : Mem) (h : Rel M) : M.1 = 129 := by
  obtain ⟨σ, p, kn, I, L, rfl, -⟩ := h
  rfl
theorem alike : Alike Rel := ⟨Rel_129, st_type, st_clear, st_table, st_guest, st_dish, st_now, st_spins, st_takes, st_moves, st_changes, st_undo, st_steps, st_puts, st_fed, st_odds, st_sees, st_forget, st_who, st_look, st_rate, st_keep, st_back, st_count, st_trace⟩
theorem pure_part : ∃ Rel : Mem → Prop, Alike Rel ∧ ∃ M1 M2 : Mem, f_X11_init 0 (nCell Mz0) = some M1 ∧ M1.1 = 112 ∧ f_X12_init 112 (nCell M1) = some M2 ∧ Rel M2 := ⟨Rel, alike, init_ok⟩
