/-! ===== the pure part: loops, numbers, memory ===== -/
theorem lup {S R : Type} (F : (S → Option R) → S → Option R) (st : Nat → S) (e : Nat) (res : Option R) (hx : ∀ ag, F ag (st e) = res) (hs : ∀ j, j < e → ∀ ag, F ag (st j) = ag (st (j + 1))) : ∀ n j, j ≤ e → e - j < n → loopF F n (st j) = res := by
  intro n
  induction n with
  | zero => intro j _ h; exact absurd h (Nat.not_lt_zero _)
  | succ n ih =>
    intro j hj hn
    show F (loopF F n) (st j) = res
    by_cases h : j = e
    · subst h; exact hx _
    · rw [hs j (by omega)]; exact ih (j + 1) (by omega) (by omega)
theorem lup0 {S R : Type} (F : (S → Option R) → S → Option R) (st : Nat → S) (e : Nat) (he : e < FU) (res : Option R) (hx : ∀ ag, F ag (st e) = res) (hs : ∀ j, j < e → ∀ ag, F ag (st j) = ag (st (j + 1))) : loopF F FU (st 0) = res := lup F st e res hx hs FU 0 (Nat.zero_le _) (by omega)
theorem lupK {S R : Type} (F : (S → Option R) → S → Option R) (st : Nat → S) (j e : Nat) (hj : j ≤ e) (he : e < FU) (res : Option R) (hx : ∀ ag, F ag (st e) = res) (hs : ∀ j, j < e → ∀ ag, F ag (st j) = ag (st (j + 1))) : loopF F FU (st j) = res := lup F st e res hx hs FU j hj (by omega)
theorem FU_big {e : Nat} (h : e ≤ 117649) : e < FU := by unfold FU; omega
def bi (b : Bool) : Int32 := if b then 1 else 0
theorem bi_t : bi true = 1 := rfl
theorem bi_f : bi false = 0 := rfl
theorem bi_0 (b : Bool) : (bi b = 0) ↔ b = false := by cases b <;> decide
theorem zr_bi (b : Bool) : zr (bi b) = some (bi b) := by cases b <;> rfl
theorem zr_0 : zr 0 = some 0 := rfl
theorem zr_1 : zr 1 = some 1 := rfl
/-- where the references of the object world point: the class's party, the order of its known states -/
def Rof (p : Nat) (kn : Nat → Nat) (a b : Nat) : Option Nat :=
  if (lay a).1 = 7 then (if b = 0 then none else if b ≤ 4 then some (a + b) else none)
  else if (lay a).1 = 8 then (if b = 3 then some (a + 1) else if b = 4 then some (a + 2) else if b = 5 then some (a + 3) else if b = 6 then some (a + 4) else if b = 7 then some (a + 9) else none)
  else if (lay a).1 = 5 then (if b < 3 then some (a + 1 + b) else none)
  else if (lay a).1 = 9 then (if b = 0 then some 2 else if b = 2 then some (22 - p) else none)
  else if (lay a).1 = 11 then ([some 1, some 13, some 17, some 18, some p, some 29, some 34, some 39, none, some 40, some 41, some 42, some 43, some 44, none, some 45] : List (Option Nat)).getD b none
  else if (lay a).1 = 12 then ([none, none, some 113, none, none, none, none, none, none, some 114, some 115, some 116, some 117, some 118, some 119, some 120, some 121, some 122, none, some 123, some 124, some 125, none, some 126, some 127, some 128] : List (Option Nat)).getD b none
  else if (lay a).1 = 23 then (if a = 39 then (if b < 10 then some (kn b) else none) else if b = 0 then some 96 else if b = 1 then some 101 else none)
  else if (lay a).1 = 24 then (if b < 6 then some (106 + b) else none)
  else none
def isN (k : Nat) : Prop := k + 4 < 129 ∧ lay k = (7, 5) ∧ lay (k + 1) = (20, 6) ∧ lay (k + 2) = (20, 6) ∧ lay (k + 3) = (20, 6) ∧ lay (k + 4) = (20, 6)
def isP (c : Nat) : Prop := c + 9 < 129 ∧ lay c = (8, 8) ∧ lay (c + 1) = (20, 6) ∧ lay (c + 2) = (20, 6) ∧ lay (c + 3) = (20, 6) ∧ isN (c + 4) ∧ lay (c + 9) = (20, 9)
theorem isN_29 : isN 29 := by unfold isN; decide
theorem isN_34 : isN 34 := by unfold isN; decide
theorem isN_kn {j : Nat} (h : j < 12) : isN (46 + 5 * j) := by
  unfold isN
  rcases (show j = 0 ∨ j = 1 ∨ j = 2 ∨ j = 3 ∨ j = 4 ∨ j = 5 ∨ j = 6 ∨ j = 7 ∨ j = 8 ∨ j = 9 ∨ j = 10 ∨ j = 11 by omega) with rfl | rfl | rfl | rfl | rfl | rfl | rfl | rfl | rfl | rfl | rfl | rfl <;> decide
theorem isP_3 : isP 3 := by unfold isP isN; decide
theorem isP_19 : isP 19 := by unfold isP isN; decide
theorem isP_of {p : Nat} (h : p = 3 ∨ p = 19) : isP p := by rcases h with rfl | rfl; exact isP_3; exact isP_19
section PM
variable {I : Nat → Nat → Int32} {R : Nat → Nat → Option Nat} {L : Nat → Nat → Int64} {p : Nat} {kn : Nat → Nat}
theorem gI_n {k ci j : Nat} (hk : k < 129) (hl : (lay k).1 = ci) : gI (129, I, R, L) k ci j = some (I k j) := by unfold gI; rw [if_pos ⟨hk, hl⟩]
theorem pI_n {k ci j : Nat} {v : Int32} (hk : k < 129) (hl : (lay k).1 = ci) : pI (129, I, R, L) k ci j v = some (129, up2 I k j v, R, L) := by unfold pI; rw [if_pos ⟨hk, hl⟩]
theorem cv_n {α : Type} {k ci : Nat} {o : Option α} (hk : k < 129) (hl : (lay k).1 = ci) : cv (129, I, R, L) k ci o = o := by unfold cv; rw [if_pos ⟨hk, hl⟩]
theorem ix_ok {j n : Nat} (hj : j < n) (hn : n ≤ 1000) : ¬ (nI j < 0 ∨ n ≤ (nI j).toNatClampNeg) := nI_in hj (by omega)
theorem aI_n {t k n j : Nat} (hk : k < 129) (hl : lay k = (t, n)) (hj : j < n) (hn : n ≤ 1000) : aI t (129, I, R, L) k (nI j) = some (I k j) := by
  unfold aI
  rw [hl, if_pos ⟨hk, rfl, ix_ok hj hn⟩, nI_clamp (by omega)]
theorem sA_n {t k n j : Nat} {v : Int32} (hk : k < 129) (hl : lay k = (t, n)) (hj : j < n) (hn : n ≤ 1000) : sA t (129, I, R, L) k (nI j) v = some (129, up2 I k j v, R, L) := by
  unfold sA
  rw [hl, if_pos ⟨hk, rfl, ix_ok hj hn⟩, nI_clamp (by omega)]
theorem sI_n {k n j : Nat} {v : Int32} (hk : k < 129) (hl : lay k = (20, n)) (hj : j < n) (hn : n ≤ 1000) : sI (129, I, R, L) k (nI j) v = some (129, up2 I k j v, R, L) := sA_n hk hl hj hn
theorem aR_n {t k n j : Nat} (hk : k < 129) (hl : lay k = (t, n)) (hj : j < n) (hn : n ≤ 1000) : aR t (129, I, R, L) k (nI j) = R k j := by
  unfold aR
  rw [hl, if_pos ⟨hk, rfl, ix_ok hj hn⟩, nI_clamp (by omega)]
-- the model's object
theorem m_gI {j : Nat} : gI (129, I, R, L) 112 12 j = some (I 112 j) := Eq.trans rfl rfl
theorem m_pI {j : Nat} {v : Int32} : pI (129, I, R, L) 112 12 j v = some (129, up2 I 112 j v, R, L) := Eq.trans rfl rfl
theorem m_gL {j : Nat} : gL (129, I, R, L) 112 12 j = some (L 112 j) := Eq.trans rfl rfl
theorem m_pL {j : Nat} {v : Int64} : pL (129, I, R, L) 112 12 j v = some (129, I, R, up2 L 112 j v) := Eq.trans rfl rfl
theorem m_cv {α : Type} {o : Option α} : cv (129, I, R, L) 112 12 o = o := Eq.trans rfl rfl
theorem m_r2 : gR (129, I, Rof p kn, L) 112 12 2 = some 113 := Eq.trans rfl rfl
theorem m_r9 : gR (129, I, Rof p kn, L) 112 12 9 = some 114 := Eq.trans rfl rfl
theorem m_r10 : gR (129, I, Rof p kn, L) 112 12 10 = some 115 := Eq.trans rfl rfl
theorem m_r11 : gR (129, I, Rof p kn, L) 112 12 11 = some 116 := Eq.trans rfl rfl
theorem m_r12 : gR (129, I, Rof p kn, L) 112 12 12 = some 117 := Eq.trans rfl rfl
theorem m_r13 : gR (129, I, Rof p kn, L) 112 12 13 = some 118 := Eq.trans rfl rfl
theorem m_r14 : gR (129, I, Rof p kn, L) 112 12 14 = some 119 := Eq.trans rfl rfl
theorem m_r15 : gR (129, I, Rof p kn, L) 112 12 15 = some 120 := Eq.trans rfl rfl
theorem m_r16 : gR (129, I, Rof p kn, L) 112 12 16 = some 121 := Eq.trans rfl rfl
theorem m_r17 : gR (129, I, Rof p kn, L) 112 12 17 = some 122 := Eq.trans rfl rfl
theorem m_r19 : gR (129, I, Rof p kn, L) 112 12 19 = some 123 := Eq.trans rfl rfl
theorem m_r20 : gR (129, I, Rof p kn, L) 112 12 20 = some 124 := Eq.trans rfl rfl
theorem m_r21 : gR (129, I, Rof p kn, L) 112 12 21 = some 125 := Eq.trans rfl rfl
theorem m_r23 : gR (129, I, Rof p kn, L) 112 12 23 = some 126 := Eq.trans rfl rfl
theorem m_r24 : gR (129, I, Rof p kn, L) 112 12 24 = some 127 := Eq.trans rfl rfl
theorem m_r25 : gR (129, I, Rof p kn, L) 112 12 25 = some 128 := Eq.trans rfl rfl
-- the class's object
theorem c_gI {j : Nat} : gI (129, I, R, L) 0 11 j = some (I 0 j) := Eq.trans rfl rfl
theorem c_pI {j : Nat} {v : Int32} : pI (129, I, R, L) 0 11 j v = some (129, up2 I 0 j v, R, L) := Eq.trans rfl rfl
theorem c_cv {α : Type} {o : Option α} : cv (129, I, R, L) 0 11 o = o := Eq.trans rfl rfl
theorem c_r0 : gR (129, I, Rof p kn, L) 0 11 0 = some 1 := Eq.trans rfl rfl
theorem c_r1 : gR (129, I, Rof p kn, L) 0 11 1 = some 13 := Eq.trans rfl rfl
theorem c_r2 : gR (129, I, Rof p kn, L) 0 11 2 = some 17 := Eq.trans rfl rfl
theorem c_r3 : gR (129, I, Rof p kn, L) 0 11 3 = some 18 := Eq.trans rfl rfl
theorem c_r4 : gR (129, I, Rof p kn, L) 0 11 4 = some p := Eq.trans rfl rfl
theorem c_r5 : gR (129, I, Rof p kn, L) 0 11 5 = some 29 := Eq.trans rfl rfl
theorem c_r6 : gR (129, I, Rof p kn, L) 0 11 6 = some 34 := Eq.trans rfl rfl
theorem c_r7 : gR (129, I, Rof p kn, L) 0 11 7 = some 39 := Eq.trans rfl rfl
theorem c_r9 : gR (129, I, Rof p kn, L) 0 11 9 = some 40 := Eq.trans rfl rfl
theorem c_r10 : gR (129, I, Rof p kn, L) 0 11 10 = some 41 := Eq.trans rfl rfl
theorem c_r11 : gR (129, I, Rof p kn, L) 0 11 11 = some 42 := Eq.trans rfl rfl
theorem c_r12 : gR (129, I, Rof p kn, L) 0 11 12 = some 43 := Eq.trans rfl rfl
theorem c_r13 : gR (129, I, Rof p kn, L) 0 11 13 = some 44 := Eq.trans rfl rfl
theorem c_r15 : gR (129, I, Rof p kn, L) 0 11 15 = some 45 := Eq.trans rfl rfl
-- reader, feast, asked
theorem e_gI {j : Nat} : gI (129, I, R, L) 1 9 j = some (I 1 j) := Eq.trans rfl rfl
theorem e_pI {j : Nat} {v : Int32} : pI (129, I, R, L) 1 9 j v = some (129, up2 I 1 j v, R, L) := Eq.trans rfl rfl
theorem e_cv {α : Type} {o : Option α} : cv (129, I, R, L) 1 9 o = o := Eq.trans rfl rfl
theorem e_r0 : gR (129, I, Rof p kn, L) 1 9 0 = some 2 := Eq.trans rfl rfl
theorem e_r2 : gR (129, I, Rof p kn, L) 1 9 2 = some (22 - p) := Eq.trans rfl rfl
theorem f_gI {j : Nat} : gI (129, I, R, L) 13 5 j = some (I 13 j) := Eq.trans rfl rfl
theorem f_pI {j : Nat} {v : Int32} : pI (129, I, R, L) 13 5 j v = some (129, up2 I 13 j v, R, L) := Eq.trans rfl rfl
theorem f_cv {α : Type} {o : Option α} : cv (129, I, R, L) 13 5 o = o := Eq.trans rfl rfl
theorem f_r0 : gR (129, I, Rof p kn, L) 13 5 0 = some 14 := Eq.trans rfl rfl
theorem f_r1 : gR (129, I, Rof p kn, L) 13 5 1 = some 15 := Eq.trans rfl rfl
theorem f_r2 : gR (129, I, Rof p kn, L) 13 5 2 = some 16 := Eq.trans rfl rfl
theorem k_gI {j : Nat} : gI (129, I, R, L) 17 0 j = some (I 17 j) := Eq.trans rfl rfl
theorem k_pI {j : Nat} {v : Int32} : pI (129, I, R, L) 17 0 j v = some (129, up2 I 17 j v, R, L) := Eq.trans rfl rfl
theorem k_gL {j : Nat} : gL (129, I, R, L) 17 0 j = some (L 17 j) := Eq.trans rfl rfl
theorem k_pL {j : Nat} {v : Int64} : pL (129, I, R, L) 17 0 j v = some (129, I, R, up2 L 17 j v) := Eq.trans rfl rfl
-- a state (Now) at k, a party at c
theorem n_gI {k j : Nat} (h : isN k) : gI (129, I, R, L) k 7 j = some (I k j) := gI_n (by have := h.1; omega) (by rw [h.2.1])
theorem n_pI {k j : Nat} {v : Int32} (h : isN k) : pI (129, I, R, L) k 7 j v = some (129, up2 I k j v, R, L) := pI_n (by have := h.1; omega) (by rw [h.2.1])
theorem n_cv {α : Type} {k : Nat} {o : Option α} (h : isN k) : cv (129, I, R, L) k 7 o = o := cv_n (by have := h.1; omega) (by rw [h.2.1])
theorem n_gR {k j : Nat} (h : isN k) (h1 : 1 ≤ j) (h4 : j ≤ 4) : gR (129, I, Rof p kn, L) k 7 j = some (k + j) := by
  unfold gR
  have hl : (lay k).1 = 7 := by rw [h.2.1]
  rw [if_pos ⟨by have := h.1; show k < 129; omega, hl⟩]
  show Rof p kn k j = _
  unfold Rof
  rw [if_pos hl, if_neg (by omega), if_pos h4]
theorem n_aI {k i j : Nat} (h : isN k) (h1 : 1 ≤ i) (h4 : i ≤ 4) (hj : j < 6) : aI 20 (129, I, R, L) (k + i) (nI j) = some (I (k + i) j) := by
  obtain ⟨h0, -, a1, a2, a3, a4⟩ := h
  rcases (show i = 1 ∨ i = 2 ∨ i = 3 ∨ i = 4 by omega) with rfl | rfl | rfl | rfl
  · exact aI_n (by omega) a1 hj (by decide)
  · exact aI_n (by omega) a2 hj (by decide)
  · exact aI_n (by omega) a3 hj (by decide)
  · exact aI_n (by omega) a4 hj (by decide)
theorem n_sI {k i j : Nat} {v : Int32} (h : isN k) (h1 : 1 ≤ i) (h4 : i ≤ 4) (hj : j < 6) : sI (129, I, R, L) (k + i) (nI j) v = some (129, up2 I (k + i) j v, R, L) := by
  obtain ⟨h0, -, a1, a2, a3, a4⟩ := h
  rcases (show i = 1 ∨ i = 2 ∨ i = 3 ∨ i = 4 by omega) with rfl | rfl | rfl | rfl
  · exact sI_n (by omega) a1 hj (by decide)
  · exact sI_n (by omega) a2 hj (by decide)
  · exact sI_n (by omega) a3 hj (by decide)
  · exact sI_n (by omega) a4 hj (by decide)
theorem p_gI {c j : Nat} (h : isP c) : gI (129, I, R, L) c 8 j = some (I c j) := gI_n (by have := h.1; omega) (by rw [h.2.1])
theorem p_pI {c j : Nat} {v : Int32} (h : isP c) : pI (129, I, R, L) c 8 j v = some (129, up2 I c j v, R, L) := pI_n (by have := h.1; omega) (by rw [h.2.1])
theorem p_cv {α : Type} {c : Nat} {o : Option α} (h : isP c) : cv (129, I, R, L) c 8 o = o := cv_n (by have := h.1; omega) (by rw [h.2.1])
theorem p_gR {c j : Nat} (h : isP c) : gR (129, I, Rof p kn, L) c 8 j = if j = 3 then some (c + 1) else if j = 4 then some (c + 2) else if j = 5 then some (c + 3) else if j = 6 then some (c + 4) else if j = 7 then some (c + 9) else none := by
  unfold gR
  have hl : (lay c).1 = 8 := by rw [h.2.1]
  rw [if_pos ⟨by have := h.1; show c < 129; omega, hl⟩]
  show Rof p kn c j = _
  unfold Rof
  rw [if_neg (by omega), if_pos hl]
theorem p_r3 {c : Nat} (h : isP c) : gR (129, I, Rof p kn, L) c 8 3 = some (c + 1) := p_gR h
theorem p_r4 {c : Nat} (h : isP c) : gR (129, I, Rof p kn, L) c 8 4 = some (c + 2) := p_gR h
theorem p_r5 {c : Nat} (h : isP c) : gR (129, I, Rof p kn, L) c 8 5 = some (c + 3) := p_gR h
theorem p_r6 {c : Nat} (h : isP c) : gR (129, I, Rof p kn, L) c 8 6 = some (c + 4) := p_gR h
theorem p_r7 {c : Nat} (h : isP c) : gR (129, I, Rof p kn, L) c 8 7 = some (c + 9) := p_gR h
theorem p_aI {c i j : Nat} (h : isP c) (h1 : 1 ≤ i) (h4 : i ≤ 3) (hj : j < 6) : aI 20 (129, I, R, L) (c + i) (nI j) = some (I (c + i) j) := by
  obtain ⟨h0, -, a1, a2, a3, -⟩ := h
  rcases (show i = 1 ∨ i = 2 ∨ i = 3 by omega) with rfl | rfl | rfl
  · exact aI_n (by omega) a1 hj (by decide)
  · exact aI_n (by omega) a2 hj (by decide)
  · exact aI_n (by omega) a3 hj (by decide)
theorem p_sI {c i j : Nat} {v : Int32} (h : isP c) (h1 : 1 ≤ i) (h4 : i ≤ 3) (hj : j < 6) : sI (129, I, R, L) (c + i) (nI j) v = some (129, up2 I (c + i) j v, R, L) := by
  obtain ⟨h0, -, a1, a2, a3, -⟩ := h
  rcases (show i = 1 ∨ i = 2 ∨ i = 3 by omega) with rfl | rfl | rfl
  · exact sI_n (by omega) a1 hj (by decide)
  · exact sI_n (by omega) a2 hj (by decide)
  · exact sI_n (by omega) a3 hj (by decide)
theorem p_fI {c j : Nat} (h : isP c) (hj : j < 9) : aI 20 (129, I, R, L) (c + 9) (nI j) = some (I (c + 9) j) := by
  obtain ⟨h0, -, -, -, -, -, a9⟩ := h
  exact aI_n (by omega) a9 hj (by decide)
theorem p_fS {c j : Nat} {v : Int32} (h : isP c) (hj : j < 9) : sI (129, I, R, L) (c + 9) (nI j) v = some (129, up2 I (c + 9) j v, R, L) := by
  obtain ⟨h0, -, -, -, -, -, a9⟩ := h
  exact sI_n (by omega) a9 hj (by decide)
end PM
/-! ===== what is told: states, parties ===== -/
abbrev NowS : Type := Nat × (Nat → Nat) × (Nat → Nat) × (Nat → Nat) × (Nat → Nat)
abbrev PtyS : Type := Nat × Nat × Nat × (Nat → Nat) × (Nat → Nat) × (Nat → Nat)
/-- turn, portions, places, seats, had: in range -/
def NowOk (n G D : Nat) (w : NowS) : Prop := w.1 < n ∧ (∀ d, d < D → w.2.1 d ≤ 9 ∧ w.2.2.1 d < n) ∧ (∀ g, g < G → w.2.2.2.1 g < n ∧ w.2.2.2.2 g < 64)
/-- seats, guests, dishes, arms, likes, tall: in range -/
def PtyOk (P : PtyS) : Prop := (3 ≤ P.1 ∧ P.1 ≤ 9 ∧ P.2.1 ≤ 6 ∧ P.2.2.1 ≤ 6) ∧ (∀ g, g < P.2.1 → P.2.2.2.1 g ≤ 2 ∧ P.2.2.2.2.1 g < 64) ∧ (∀ d, d < P.2.2.1 → P.2.2.2.2.2 d ≤ 1)
def NowC (I : Nat → Nat → Int32) (k G D : Nat) (w : NowS) : Prop := I k 0 = nI w.1 ∧ (∀ d, d < D → I (k + 1) d = nI (w.2.1 d) ∧ I (k + 2) d = nI (w.2.2.1 d)) ∧ (∀ g, g < G → I (k + 3) g = nI (w.2.2.2.1 g) ∧ I (k + 4) g = nI (w.2.2.2.2 g))
def NowM (I : Nat → Nat → Int32) (c o G D : Nat) (w : NowS) : Prop := I c o = nI w.1 ∧ (∀ d, d < D → I c (o + 1 + d) = nI (w.2.1 d) ∧ I c (o + 7 + d) = nI (w.2.2.1 d)) ∧ (∀ g, g < G → I c (o + 13 + g) = nI (w.2.2.2.1 g) ∧ I c (o + 19 + g) = nI (w.2.2.2.2 g))
def PtyC (I : Nat → Nat → Int32) (p : Nat) (P : PtyS) : Prop := (I p 0 = nI P.1 ∧ I p 1 = nI P.2.1 ∧ I p 2 = nI P.2.2.1) ∧ (∀ g, g < P.2.1 → I (p + 1) g = nI (P.2.2.2.1 g) ∧ I (p + 2) g = nI (P.2.2.2.2.1 g)) ∧ (∀ d, d < P.2.2.1 → I (p + 3) d = nI (P.2.2.2.2.2 d))
def PtyM (I : Nat → Nat → Int32) (P : PtyS) : Prop := (I 114 0 = nI P.1 ∧ I 114 1 = nI P.2.1 ∧ I 114 2 = nI P.2.2.1) ∧ (∀ g, g < P.2.1 → I 115 g = nI (P.2.2.2.1 g) ∧ I 116 g = nI (P.2.2.2.2.1 g)) ∧ (∀ d, d < P.2.2.1 → I 117 d = nI (P.2.2.2.2.2 d))
