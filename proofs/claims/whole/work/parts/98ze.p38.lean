/-! ===== the constructors: what they leave ===== -/
def kI (a b : Nat) : Prop := 129 ≤ a ∨ (lay a).2 ≤ b ∨ (20 ≤ (lay a).1 ∧ (lay a).1 ≤ 22)
def KO (M : Mem) : Prop := ∀ a b, kI a b → M.2.2.1 a b = none
def szC (ci : Nat) : Nat := if ci = 7 then 5 else if ci = 8 then 8 else if ci = 5 then 5 else if ci = 9 then 7 else if ci = 11 then 16 else if ci = 12 then 26 else 0
theorem lay_s : ((List.range 129).all fun a => decide (szC (lay a).1 ≤ (lay a).2)) = true := by decide +kernel
theorem KO_nC {M : Mem} (h : KO M) : KO (nCell M) := fun a b hab => by
  show upR M.2.2.1 M.1 (fun _ => none) a b = none
  rw [upR_e]
  split
  · rfl
  · exact h a b hab
theorem KO_nO {M : Mem} {ci : Nat} {q : Nat × Mem} (h : KO M) (e : nO M ci = some q) : KO q.2 := by
  unfold nO at e
  by_cases z : (lay M.1).1 = ci
  · rw [if_pos z] at e; cases e; exact KO_nC h
  · rw [if_neg z] at e; cases e
theorem KO_nA {M : Mem} {t : Nat} {n : Int32} {q : Nat × Mem} (h : KO M) (e : nA M t n = some q) : KO q.2 := by
  unfold nA at e
  by_cases z : (lay M.1).1 = t ∧ ¬ n < 0 ∧ n.toNatClampNeg = (lay M.1).2 ∧ (lay M.1).2 ≤ 1000
  · rw [if_pos z] at e; cases e; exact KO_nC h
  · rw [if_neg z] at e; cases e
theorem KO_pI {M M' : Mem} {k ci j : Nat} {v : Int32} (h : KO M) (e : pI M k ci j v = some M') : KO M' := by
  unfold pI at e
  by_cases z : k < M.1 ∧ (lay k).1 = ci
  · rw [if_pos z] at e; cases e; exact h
  · rw [if_neg z] at e; cases e
theorem KO_pR {M M' : Mem} {k ci j v : Nat} (h : KO M) (hj : j < szC ci) (e : pR M k ci j v = some M') : KO M' := by
  unfold pR at e
  by_cases z : k < M.1 ∧ (lay k).1 = ci
  · rw [if_pos z] at e; cases e
    intro a b hab
    show up2 M.2.2.1 k j (some v) a b = none
    rw [up2_e]
    by_cases y : a = k ∧ b = j
    · exfalso
      obtain ⟨rfl, rfl⟩ := y
      obtain ⟨-, rfl⟩ := z
      rcases hab with x | x | x
      · rw [lay_o (by omega)] at hj; exact absurd hj (Nat.not_lt_zero _)
      · by_cases w : a < 129
        · have := of_decide_eq_true (rall lay_s w); omega
        · rw [lay_o w] at hj; exact absurd hj (Nat.not_lt_zero _)
      · unfold szC at hj
        rw [if_neg (by omega), if_neg (by omega), if_neg (by omega), if_neg (by omega), if_neg (by omega), if_neg (by omega)] at hj
        exact absurd hj (Nat.not_lt_zero _)
    · rw [if_neg y]; exact h a b hab
  · rw [if_neg z] at e; cases e
theorem KO_sR {M M' : Mem} {t ci k : Nat} {i : Int32} {r : Nat} (h : KO M) (ht : t = 23 ∨ t = 24) (e : sR t ci M k i r = some M') : KO M' := by
  unfold sR at e
  by_cases z : k < M.1 ∧ (lay k).1 = t ∧ r < M.1 ∧ (lay r).1 = ci ∧ ¬ (i < 0 ∨ (lay k).2 ≤ i.toNatClampNeg)
  · rw [if_pos z] at e; cases e
    intro a b hab
    show up2 M.2.2.1 k i.toNatClampNeg (some r) a b = none
    rw [up2_e]
    by_cases y : a = k ∧ b = i.toNatClampNeg
    · exfalso
      obtain ⟨rfl, rfl⟩ := y
      obtain ⟨-, z2, -, -, z5⟩ := z
      rcases hab with x | x | x
      · rw [lay_o (by omega)] at z2; have : (99 : Nat) = t := z2; omega
      · exact z5 (Or.inr x)
      · omega
    · rw [if_neg y]; exact h a b hab
  · rw [if_neg z] at e; cases e
theorem KO_X6 {x0 : Nat} {M r : Mem} (k : KO M) (h : f_X6_init x0 M = some r) : KO r := by
  unfold f_X6_init at h
  cases h
  exact k
theorem KO_X10 {x0 : Nat} {M r : Mem} (k : KO M) (h : f_X10_init x0 M = some r) : KO r := by
  unfold f_X10_init at h
  obtain ⟨M1, e0, h⟩ := ob h
  have k_M1 := KO_X6 k e0
  cases h
  exact k_M1
theorem KO_X1 {x0 : Nat} {M r : Mem} (k : KO M) (h : f_X1_init x0 M = some r) : KO r := by
  unfold f_X1_init at h
  obtain ⟨M1, e0, h⟩ := ob h
  have k_M1 := KO_X6 k e0
  cases h
  exact k_M1
theorem KO_X2 {x0 : Nat} {M r : Mem} (k : KO M) (h : f_X2_init x0 M = some r) : KO r := by
  unfold f_X2_init at h
  obtain ⟨M1, e0, h⟩ := ob h
  have k_M1 := KO_X10 k e0
  cases h
  exact k_M1
theorem KO_X4 {x0 : Nat} {M r : Mem} (k : KO M) (h : f_X4_init x0 M = some r) : KO r := by
  unfold f_X4_init at h
  obtain ⟨M1, e0, h⟩ := ob h
  have k_M1 := KO_X1 k e0
  cases h
  exact k_M1
theorem KO_X3 {x0 : Nat} {M r : Mem} (k : KO M) (h : f_X3_init x0 M = some r) : KO r := by
  unfold f_X3_init at h
  obtain ⟨M1, e0, h⟩ := ob h
  have k_M1 := KO_X6 k e0
  cases h
  exact k_M1
theorem KO_X0 {x0 : Nat} {M r : Mem} (k : KO M) (h : f_X0_init x0 M = some r) : KO r := by
  unfold f_X0_init at h
  cases h
  exact k
theorem KO_X7 {x0 : Nat} {M r : Mem} (k : KO M) (h : f_X7_init x0 M = some r) : KO r := by
  unfold f_X7_init at h
  obtain ⟨q1, e0, h⟩ := ob h
  have k_q1 := KO_nA k e0
  obtain ⟨M2, e1, h⟩ := ob h
  have k_M2 := KO_pR k_q1 (by decide) e1
  obtain ⟨q3, e2, h⟩ := ob h
  have k_q3 := KO_nA k_M2 e2
  obtain ⟨M4, e3, h⟩ := ob h
  have k_M4 := KO_pR k_q3 (by decide) e3
  obtain ⟨q5, e4, h⟩ := ob h
  have k_q5 := KO_nA k_M4 e4
  obtain ⟨M6, e5, h⟩ := ob h
  have k_M6 := KO_pR k_q5 (by decide) e5
  obtain ⟨q7, e6, h⟩ := ob h
  have k_q7 := KO_nA k_M6 e6
  obtain ⟨M8, e7, h⟩ := ob h
  have k_M8 := KO_pR k_q7 (by decide) e7
  cases h
  exact k_M8
theorem KO_X8 {x0 : Nat} {M r : Mem} (k : KO M) (h : f_X8_init x0 M = some r) : KO r := by
  unfold f_X8_init at h
  obtain ⟨M1, e0, h⟩ := ob h
  have k_M1 := KO_pI k e0
  obtain ⟨q2, e1, h⟩ := ob h
  have k_q2 := KO_nA k_M1 e1
  obtain ⟨M3, e2, h⟩ := ob h
  have k_M3 := KO_pR k_q2 (by decide) e2
  obtain ⟨q4, e3, h⟩ := ob h
  have k_q4 := KO_nA k_M3 e3
  obtain ⟨M5, e4, h⟩ := ob h
  have k_M5 := KO_pR k_q4 (by decide) e4
  obtain ⟨q6, e5, h⟩ := ob h
  have k_q6 := KO_nA k_M5 e5
  obtain ⟨M7, e6, h⟩ := ob h
  have k_M7 := KO_pR k_q6 (by decide) e6
  obtain ⟨q8, e7, h⟩ := ob h
  have k_q8 := KO_nO k_M7 e7
  obtain ⟨M9, e8, h⟩ := ob h
  have k_M9 := KO_X7 k_q8 e8
  obtain ⟨M10, e9, h⟩ := ob h
  have k_M10 := KO_pR k_M9 (by decide) e9
  obtain ⟨q11, e10, h⟩ := ob h
  have k_q11 := KO_nA k_M10 e10
  obtain ⟨M12, e11, h⟩ := ob h
  have k_M12 := KO_pR k_q11 (by decide) e11
  cases h
  exact k_M12
theorem KO_X9 {x0 : Nat} {M r : Mem} (k : KO M) (h : f_X9_init x0 M = some r) : KO r := by
  unfold f_X9_init at h
  obtain ⟨q1, e0, h⟩ := ob h
  have k_q1 := KO_nA k e0
  obtain ⟨M2, e1, h⟩ := ob h
  have k_M2 := KO_pR k_q1 (by decide) e1
  obtain ⟨q3, e2, h⟩ := ob h
  have k_q3 := KO_nO k_M2 e2
  obtain ⟨M4, e3, h⟩ := ob h
  have k_M4 := KO_X8 k_q3 e3
  obtain ⟨M5, e4, h⟩ := ob h
  have k_M5 := KO_pR k_M4 (by decide) e4
  cases h
  exact k_M5
theorem KO_X5 {x0 : Nat} {M r : Mem} (k : KO M) (h : f_X5_init x0 M = some r) : KO r := by
  unfold f_X5_init at h
  obtain ⟨q1, e0, h⟩ := ob h
  have k_q1 := KO_nA k e0
  obtain ⟨M2, e1, h⟩ := ob h
  have k_M2 := KO_pR k_q1 (by decide) e1
  obtain ⟨q3, e2, h⟩ := ob h
  have k_q3 := KO_nA k_M2 e2
  obtain ⟨M4, e3, h⟩ := ob h
  have k_M4 := KO_pR k_q3 (by decide) e3
  obtain ⟨q5, e4, h⟩ := ob h
  have k_q5 := KO_nA k_M4 e4
  obtain ⟨M6, e5, h⟩ := ob h
  have k_M6 := KO_pR k_q5 (by decide) e5
  cases h
  exact k_M6
theorem KO_X11 {x0 : Nat} {M r : Mem} (k : KO M) (h : f_X11_init x0 M = some r) : KO r := by
  unfold f_X11_init at h
  obtain ⟨q1, e0, h⟩ := ob h
  have k_q1 := KO_nO k e0
  obtain ⟨M2, e1, h⟩ := ob h
  have k_M2 := KO_X9 k_q1 e1
  obtain ⟨M3, e2, h⟩ := ob h
  have k_M3 := KO_pR k_M2 (by decide) e2
  obtain ⟨q4, e3, h⟩ := ob h
  have k_q4 := KO_nO k_M3 e3
  obtain ⟨M5, e4, h⟩ := ob h
  have k_M5 := KO_X5 k_q4 e4
  obtain ⟨M6, e5, h⟩ := ob h
  have k_M6 := KO_pR k_M5 (by decide) e5
  obtain ⟨q7, e6, h⟩ := ob h
  have k_q7 := KO_nO k_M6 e6
  obtain ⟨M8, e7, h⟩ := ob h
  have k_M8 := KO_X0 k_q7 e7
  obtain ⟨M9, e8, h⟩ := ob h
  have k_M9 := KO_pR k_M8 (by decide) e8
  obtain ⟨q10, e9, h⟩ := ob h
  have k_q10 := KO_nA k_M9 e9
  obtain ⟨M11, e10, h⟩ := ob h
  have k_M11 := KO_pR k_q10 (by decide) e10
  obtain ⟨q12, e11, h⟩ := ob h
  have k_q12 := KO_nO k_M11 e11
  obtain ⟨M13, e12, h⟩ := ob h
  have k_M13 := KO_X8 k_q12 e12
  obtain ⟨M14, e13, h⟩ := ob h
  have k_M14 := KO_pR k_M13 (by decide) e13
  obtain ⟨q15, e14, h⟩ := ob h
  have k_q15 := KO_nO k_M14 e14
  obtain ⟨M16, e15, h⟩ := ob h
  have k_M16 := KO_X7 k_q15 e15
  obtain ⟨M17, e16, h⟩ := ob h
  have k_M17 := KO_pR k_M16 (by decide) e16
  obtain ⟨q18, e17, h⟩ := ob h
  have k_q18 := KO_nO k_M17 e17
  obtain ⟨M19, e18, h⟩ := ob h
  have k_M19 := KO_X7 k_q18 e18
  obtain ⟨M20, e19, h⟩ := ob h
  have k_M20 := KO_pR k_M19 (by decide) e19
  obtain ⟨q21, e20, h⟩ := ob h
  have k_q21 := KO_nA k_M20 e20
  obtain ⟨M22, e21, h⟩ := ob h
  have k_M22 := KO_pR k_q21 (by decide) e21
  obtain ⟨q23, e22, h⟩ := ob h
  have k_q23 := KO_nA k_M22 e22
  obtain ⟨M24, e23, h⟩ := ob h
  have k_M24 := KO_pR k_q23 (by decide) e23
  obtain ⟨q25, e24, h⟩ := ob h
  have k_q25 := KO_nA k_M24 e24
  obtain ⟨M26, e25, h⟩ := ob h
  have k_M26 := KO_pR k_q25 (by decide) e25
  obtain ⟨q27, e26, h⟩ := ob h
  have k_q27 := KO_nA k_M26 e26
  obtain ⟨M28, e27, h⟩ := ob h
  have k_M28 := KO_pR k_q27 (by decide) e27
  obtain ⟨q29, e28, h⟩ := ob h
  have k_q29 := KO_nA k_M28 e28
  obtain ⟨M30, e29, h⟩ := ob h
  have k_M30 := KO_pR k_q29 (by decide) e29
  obtain ⟨q31, e30, h⟩ := ob h
  have k_q31 := KO_nA k_M30 e30
  obtain ⟨M32, e31, h⟩ := ob h
  have k_M32 := KO_pR k_q31 (by decide) e31
  obtain ⟨q33, e32, h⟩ := ob h
  have k_q33 := KO_nA k_M32 e32
  obtain ⟨M34, e33, h⟩ := ob h
  have k_M34 := KO_pR k_q33 (by decide) e33
  obtain ⟨r35, e34, h⟩ := ob h
  obtain ⟨q36, e35, h⟩ := ob h
  have k_q36 := KO_nO k_M34 e35
  obtain ⟨M37, e36, h⟩ := ob h
  have k_M37 := KO_X7 k_q36 e36
  obtain ⟨M38, e37, h⟩ := ob h
  have k_M38 := KO_sR k_M37 (by decide) e37
  obtain ⟨r39, e38, h⟩ := ob h
  obtain ⟨q40, e39, h⟩ := ob h
  have k_q40 := KO_nO k_M38 e39
  obtain ⟨M41, e40, h⟩ := ob h
  have k_M41 := KO_X7 k_q40 e40
  obtain ⟨M42, e41, h⟩ := ob h
  have k_M42 := KO_sR k_M41 (by decide) e41
  obtain ⟨r43, e42, h⟩ := ob h
  obtain ⟨q44, e43, h⟩ := ob h
  have k_q44 := KO_nO k_M42 e43
  obtain ⟨M45, e44, h⟩ := ob h
  have k_M45 := KO_X7 k_q44 e44
  obtain ⟨M46, e45, h⟩ := ob h
  have k_M46 := KO_sR k_M45 (by decide) e45
  obtain ⟨r47, e46, h⟩ := ob h
  obtain ⟨q48, e47, h⟩ := ob h
  have k_q48 := KO_nO k_M46 e47
  obtain ⟨M49, e48, h⟩ := ob h
  have k_M49 := KO_X7 k_q48 e48
  obtain ⟨M50, e49, h⟩ := ob h
  have k_M50 := KO_sR k_M49 (by decide) e49
  obtain ⟨r51, e50, h⟩ := ob h
  obtain ⟨q52, e51, h⟩ := ob h
  have k_q52 := KO_nO k_M50 e51
  obtain ⟨M53, e52, h⟩ := ob h
  have k_M53 := KO_X7 k_q52 e52
  obtain ⟨M54, e53, h⟩ := ob h
  have k_M54 := KO_sR k_M53 (by decide) e53
  obtain ⟨r55, e54, h⟩ := ob h
  obtain ⟨q56, e55, h⟩ := ob h
  have k_q56 := KO_nO k_M54 e55
  obtain ⟨M57, e56, h⟩ := ob h
  have k_M57 := KO_X7 k_q56 e56
  obtain ⟨M58, e57, h⟩ := ob h
  have k_M58 := KO_sR k_M57 (by decide) e57
  obtain ⟨r59, e58, h⟩ := ob h
  obtain ⟨q60, e59, h⟩ := ob h
  have k_q60 := KO_nO k_M58 e59
  obtain ⟨M61, e60, h⟩ := ob h
  have k_M61 := KO_X7 k_q60 e60
  obtain ⟨M62, e61, h⟩ := ob h
  have k_M62 := KO_sR k_M61 (by decide) e61
  obtain ⟨r63, e62, h⟩ := ob h
  obtain ⟨q64, e63, h⟩ := ob h
  have k_q64 := KO_nO k_M62 e63
  obtain ⟨M65, e64, h⟩ := ob h
  have k_M65 := KO_X7 k_q64 e64
  obtain ⟨M66, e65, h⟩ := ob h
  have k_M66 := KO_sR k_M65 (by decide) e65
  obtain ⟨r67, e66, h⟩ := ob h
  obtain ⟨q68, e67, h⟩ := ob h
  have k_q68 := KO_nO k_M66 e67
  obtain ⟨M69, e68, h⟩ := ob h
  have k_M69 := KO_X7 k_q68 e68
  obtain ⟨M70, e69, h⟩ := ob h
  have k_M70 := KO_sR k_M69 (by decide) e69
  obtain ⟨r71, e70, h⟩ := ob h
  obtain ⟨q72, e71, h⟩ := ob h
  have k_q72 := KO_nO k_M70 e71
  obtain ⟨M73, e72, h⟩ := ob h
  have k_M73 := KO_X7 k_q72 e72
  obtain ⟨M74, e73, h⟩ := ob h
  have k_M74 := KO_sR k_M73 (by decide) e73
  obtain ⟨r75, e74, h⟩ := ob h
  obtain ⟨q76, e75, h⟩ := ob h
  have k_q76 := KO_nO k_M74 e75
  obtain ⟨M77, e76, h⟩ := ob h
  have k_M77 := KO_X7 k_q76 e76
  obtain ⟨M78, e77, h⟩ := ob h
  have k_M78 := KO_sR k_M77 (by decide) e77
  obtain ⟨r79, e78, h⟩ := ob h
  obtain ⟨q80, e79, h⟩ := ob h
  have k_q80 := KO_nO k_M78 e79
  obtain ⟨M81, e80, h⟩ := ob h
  have k_M81 := KO_X7 k_q80 e80
  obtain ⟨M82, e81, h⟩ := ob h
  have k_M82 := KO_sR k_M81 (by decide) e81
  obtain ⟨r83, e82, h⟩ := ob h
  obtain ⟨q84, e83, h⟩ := ob h
  have k_q84 := KO_nO k_M82 e83
  obtain ⟨M85, e84, h⟩ := ob h
  have k_M85 := KO_X6 k_q84 e84
  obtain ⟨M86, e85, h⟩ := ob h
  have k_M86 := KO_sR k_M85 (by decide) e85
  obtain ⟨r87, e86, h⟩ := ob h
  obtain ⟨q88, e87, h⟩ := ob h
  have k_q88 := KO_nO k_M86 e87
  obtain ⟨M89, e88, h⟩ := ob h
  have k_M89 := KO_X10 k_q88 e88
  obtain ⟨M90, e89, h⟩ := ob h
  have k_M90 := KO_sR k_M89 (by decide) e89
  obtain ⟨r91, e90, h⟩ := ob h
  obtain ⟨q92, e91, h⟩ := ob h
  have k_q92 := KO_nO k_M90 e91
  obtain ⟨M93, e92, h⟩ := ob h
  have k_M93 := KO_X1 k_q92 e92
  obtain ⟨M94, e93, h⟩ := ob h
  have k_M94 := KO_sR k_M93 (by decide) e93
  obtain ⟨r95, e94, h⟩ := ob h
  obtain ⟨q96, e95, h⟩ := ob h
  have k_q96 := KO_nO k_M94 e95
  obtain ⟨M97, e96, h⟩ := ob h
  have k_M97 := KO_X2 k_q96 e96
  obtain ⟨M98, e97, h⟩ := ob h
  have k_M98 := KO_sR k_M97 (by decide) e97
  obtain ⟨r99, e98, h⟩ := ob h
  obtain ⟨q100, e99, h⟩ := ob h
  have k_q100 := KO_nO k_M98 e99
  obtain ⟨M101, e100, h⟩ := ob h
  have k_M101 := KO_X4 k_q100 e100
  obtain ⟨M102, e101, h⟩ := ob h
  have k_M102 := KO_sR k_M101 (by decide) e101
  obtain ⟨r103, e102, h⟩ := ob h
  obtain ⟨q104, e103, h⟩ := ob h
  have k_q104 := KO_nO k_M102 e103
  obtain ⟨M105, e104, h⟩ := ob h
  have k_M105 := KO_X3 k_q104 e104
  obtain ⟨M106, e105, h⟩ := ob h
  have k_M106 := KO_sR k_M105 (by decide) e105
  cases h
  exact k_M106
def pre12 (x0 : Nat) (M : Mem) : Option Mem := Option.bind (nA M 20 (140 : Int32)) fun q1 => Option.bind (pR q1.2 x0 12 2 q1.1) fun M2 => Option.bind (nA M2 20 (6 : Int32)) fun q3 => Option.bind (pR q3.2 x0 12 9 q3.1) fun M4 => Option.bind (nA M4 20 (12 : Int32)) fun q5 => Option.bind (pR q5.2 x0 12 10 q5.1) fun M6 => Option.bind (nA M6 20 (12 : Int32)) fun q7 => Option.bind (pR q7.2 x0 12 11 q7.1) fun M8 => Option.bind (nA M8 20 (12 : Int32)) fun q9 => Option.bind (pR q9.2 x0 12 12 q9.1) fun M10 => Option.bind (nA M10 20 (25 : Int32)) fun q11 => Option.bind (pR q11.2 x0 12 13 q11.1) fun M12 => Option.bind (nA M12 20 (25 : Int32)) fun q13 => Option.bind (pR q13.2 x0 12 14 q13.1) fun M14 => Option.bind (nA M14 20 (50 : Int32)) fun q15 => Option.bind (pR q15.2 x0 12 15 q15.1) fun M16 => Option.bind (nA M16 22 (2 : Int32)) fun q17 => Option.bind (pR q17.2 x0 12 16 q17.1) fun M18 => Option.bind (nA M18 20 (250 : Int32)) fun q19 => Option.bind (pR q19.2 x0 12 17 q19.1) fun M20 => Option.bind (nA M20 20 (6 : Int32)) fun q21 => Option.bind (pR q21.2 x0 12 19 q21.1) fun M22 => Option.bind (nA M22 20 (6 : Int32)) fun q23 => Option.bind (pR q23.2 x0 12 20 q23.1) fun M24 => Option.bind (nA M24 20 (6 : Int32)) fun q25 => Option.bind (pR q25.2 x0 12 21 q25.1) fun M26 => Option.bind (nA M26 20 (6 : Int32)) fun q27 => Option.bind (pR q27.2 x0 12 23 q27.1) fun M28 => Option.bind (nA M28 20 (6 : Int32)) fun q29 => Option.bind (pR q29.2 x0 12 24 q29.1) fun M30 => Option.bind (nA M30 20 (6 : Int32)) fun q31 => Option.bind (pR q31.2 x0 12 25 q31.1) fun M32 => some M32
theorem pre12_e (x0 : Nat) (M : Mem) : f_X12_init x0 M = Option.bind (pre12 x0 M) fun M32 => Option.bind (cv M32 x0 12 (f_X12_begins x0 M32)) fun M33 => Option.bind (cv M33 x0 12 (f_X12_settles x0 M33)) fun M34 => some M34 := by
  unfold f_X12_init pre12
  simp only [Option.bind_assoc, Option.bind_some]
theorem KO_pre {x0 : Nat} {M r : Mem} (k : KO M) (h : pre12 x0 M = some r) : KO r := by
  unfold pre12 at h
  obtain ⟨q1, e0, h⟩ := ob h
  have k_q1 := KO_nA k e0
  obtain ⟨M2, e1, h⟩ := ob h
  have k_M2 := KO_pR k_q1 (by decide) e1
  obtain ⟨q3, e2, h⟩ := ob h
  have k_q3 := KO_nA k_M2 e2
  obtain ⟨M4, e3, h⟩ := ob h
  have k_M4 := KO_pR k_q3 (by decide) e3
  obtain ⟨q5, e4, h⟩ := ob h
  have k_q5 := KO_nA k_M4 e4
  obtain ⟨M6, e5, h⟩ := ob h
  have k_M6 := KO_pR k_q5 (by decide) e5
  obtain ⟨q7, e6, h⟩ := ob h
  have k_q7 := KO_nA k_M6 e6
  obtain ⟨M8, e7, h⟩ := ob h
  have k_M8 := KO_pR k_q7 (by decide) e7
  obtain ⟨q9, e8, h⟩ := ob h
  have k_q9 := KO_nA k_M8 e8
  obtain ⟨M10, e9, h⟩ := ob h
  have k_M10 := KO_pR k_q9 (by decide) e9
  obtain ⟨q11, e10, h⟩ := ob h
  have k_q11 := KO_nA k_M10 e10
  obtain ⟨M12, e11, h⟩ := ob h
  have k_M12 := KO_pR k_q11 (by decide) e11
  obtain ⟨q13, e12, h⟩ := ob h
  have k_q13 := KO_nA k_M12 e12
  obtain ⟨M14, e13, h⟩ := ob h
  have k_M14 := KO_pR k_q13 (by decide) e13
  obtain ⟨q15, e14, h⟩ := ob h
  have k_q15 := KO_nA k_M14 e14
  obtain ⟨M16, e15, h⟩ := ob h
  have k_M16 := KO_pR k_q15 (by decide) e15
  obtain ⟨q17, e16, h⟩ := ob h
  have k_q17 := KO_nA k_M16 e16
  obtain ⟨M18, e17, h⟩ := ob h
  have k_M18 := KO_pR k_q17 (by decide) e17
  obtain ⟨q19, e18, h⟩ := ob h
  have k_q19 := KO_nA k_M18 e18
  obtain ⟨M20, e19, h⟩ := ob h
  have k_M20 := KO_pR k_q19 (by decide) e19
  obtain ⟨q21, e20, h⟩ := ob h
  have k_q21 := KO_nA k_M20 e20
  obtain ⟨M22, e21, h⟩ := ob h
  have k_M22 := KO_pR k_q21 (by decide) e21
  obtain ⟨q23, e22, h⟩ := ob h
  have k_q23 := KO_nA k_M22 e22
  obtain ⟨M24, e23, h⟩ := ob h
  have k_M24 := KO_pR k_q23 (by decide) e23
  obtain ⟨q25, e24, h⟩ := ob h
  have k_q25 := KO_nA k_M24 e24
  obtain ⟨M26, e25, h⟩ := ob h
  have k_M26 := KO_pR k_q25 (by decide) e25
  obtain ⟨q27, e26, h⟩ := ob h
  have k_q27 := KO_nA k_M26 e26
  obtain ⟨M28, e27, h⟩ := ob h
  have k_M28 := KO_pR k_q27 (by decide) e27
  obtain ⟨q29, e28, h⟩ := ob h
  have k_q29 := KO_nA k_M28 e28
  obtain ⟨M30, e29, h⟩ := ob h
  have k_M30 := KO_pR k_q29 (by decide) e29
  obtain ⟨q31, e30, h⟩ := ob h
  have k_q31 := KO_nA k_M30 e30
  obtain ⟨M32, e31, h⟩ := ob h
  have k_M32 := KO_pR k_q31 (by decide) e31
  cases h
  exact k_M32
def kn0 (i : Nat) : Nat := 46 + 5 * i
def ckI (I : Nat → Nat → Int32) : Bool := decide (I 19 0 = 6) && decide (I 19 1 = 0) && decide (I 19 2 = 0) && decide (I 29 0 = 0) && decide (I 0 8 = 0) && decide (I 41 0 = 0) && decide (I 41 1 = 0) && decide (I 0 14 = 0) && decide (I 1 1 = 0) && decide (I 7 0 = 0) && decide (I 23 0 = 0) && ((List.range 6).all fun g => decide (I 11 g = 0) && decide (I 27 g = 0))
def ckL (L : Nat → Nat → Int64) : Bool := decide (L 17 5 = 0) && decide (L 112 1 = 0)
def ckR (R : Nat → Nat → Option Nat) : Bool := (List.range 129).all fun a => decide (20 ≤ (lay a).1 ∧ (lay a).1 ≤ 22) || (List.range (lay a).2).all fun b => decide (R a b = Rof 19 kn0 a b)
def ck1 : Option Mem → Bool
  | none => false
  | some M => decide (M.1 = 112)
def ck2 : Option Mem → Bool
  | none => false
  | some M => decide (M.1 = 129) && ckI M.2.1 && ckL M.2.2.2 && ckR M.2.2.1
set_option maxRecDepth 100000 in
theorem ck1_ok : ck1 (f_X11_init 0 (nCell Mz0)) = true := by decide +kernel
set_option maxRecDepth 100000 in
theorem ck2_ok : ck2 (Option.bind (f_X11_init 0 (nCell Mz0)) fun M1 => pre12 112 (nCell M1)) = true := by decide +kernel
