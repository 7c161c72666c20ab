/-! ===== the odds, in numbers ===== -/
def tmS (x G o : Nat) : Nat := x ^ o * (10 - x) ^ (G - o)
/-- the sets below j, those that bring the tray from t0 to t -/
def smS (n t0 x G t : Nat) : Nat → Nat
  | 0 => 0
  | j + 1 => smS n t0 x G t j + (if (t0 + pc j) % n = t then tmS x G (pc j) else 0)
theorem pc_top : ((List.range 6).all fun G => (List.range (2 ^ G)).all fun s => decide (pc (2 ^ G + s) = pc s + 1)) = true := by decide +kernel
theorem pc_G : ((List.range 7).all fun G => (List.range (2 ^ G)).all fun s => decide (pc s ≤ G)) = true := by decide +kernel
theorem pcG {G s : Nat} (hG : G ≤ 6) (hs : s < 2 ^ G) : pc s ≤ G := of_decide_eq_true (rall (rall pc_G (show G < 7 by omega)) hs)
theorem pcT {G s : Nat} (hG : G < 6) (hs : s < 2 ^ G) : pc (2 ^ G + s) = pc s + 1 := of_decide_eq_true (rall (rall pc_top hG) hs)
theorem sh_t {n a t : Nat} (hn : 0 < n) (ht : t < n) : (a + 1) % n = t ↔ a % n = (t + n - 1) % n := by
  have hm := Nat.mod_lt a hn
  have e1 : (a + 1) % n = (a % n + 1) % n := by rw [Nat.mod_add_mod]
  rw [e1]
  generalize a % n = b at hm
  by_cases z : b + 1 = n
  · rw [z, Nat.mod_self]
    by_cases y : t = 0
    · subst y; rw [Nat.mod_eq_of_lt (by omega)]; omega
    · rw [show t + n - 1 = (t - 1) + n by omega, Nat.add_mod_right, Nat.mod_eq_of_lt (by omega)]; omega
  · rw [Nat.mod_eq_of_lt (by omega)]
    by_cases y : t = 0
    · subst y; rw [Nat.mod_eq_of_lt (by omega)]; omega
    · rw [show t + n - 1 = (t - 1) + n by omega, Nat.add_mod_right, Nat.mod_eq_of_lt (by omega)]; omega
section O25
variable {n t0 x G t : Nat}
theorem smS_lo (hG : G < 6) : ∀ j, j ≤ 2 ^ G → smS n t0 x (G + 1) t j = (10 - x) * smS n t0 x G t j := by
  intro j
  induction j with
  | zero => intro _; rfl
  | succ j ih =>
    intro hj
    have hp := pcG (show G ≤ 6 by omega) (show j < 2 ^ G by omega)
    show smS n t0 x (G + 1) t j + (if (t0 + pc j) % n = t then tmS x (G + 1) (pc j) else 0) = (10 - x) * (smS n t0 x G t j + (if (t0 + pc j) % n = t then tmS x G (pc j) else 0))
    rw [ih (by omega), Nat.mul_add]
    split
    · unfold tmS
      rw [show G + 1 - pc j = (G - pc j) + 1 by omega, Nat.pow_succ]
      have : x ^ pc j * ((10 - x) ^ (G - pc j) * (10 - x)) = (10 - x) * (x ^ pc j * (10 - x) ^ (G - pc j)) := by
        rw [← Nat.mul_assoc, Nat.mul_comm]
      rw [this]
    · rfl
theorem smS_hi (hG : G < 6) (hn : 0 < n) (ht : t < n) : ∀ j, j ≤ 2 ^ G → smS n t0 x (G + 1) t (2 ^ G + j) = smS n t0 x (G + 1) t (2 ^ G) + x * smS n t0 x G ((t + n - 1) % n) j := by
  intro j
  induction j with
  | zero => intro _; rfl
  | succ j ih =>
    intro hj
    have hp := pcG (show G ≤ 6 by omega) (show j < 2 ^ G by omega)
    show smS n t0 x (G + 1) t (2 ^ G + j) + (if (t0 + pc (2 ^ G + j)) % n = t then tmS x (G + 1) (pc (2 ^ G + j)) else 0) = smS n t0 x (G + 1) t (2 ^ G) + x * (smS n t0 x G ((t + n - 1) % n) j + (if (t0 + pc j) % n = (t + n - 1) % n then tmS x G (pc j) else 0))
    rw [ih (by omega), Nat.mul_add, pcT hG (by omega), ← Nat.add_assoc]
    have hiff := sh_t (a := t0 + pc j) hn ht
    by_cases z : (t0 + pc j + 1) % n = t
    · rw [if_pos z, if_pos (hiff.mp z)]
      unfold tmS
      rw [show G + 1 - (pc j + 1) = G - pc j by omega, Nat.pow_succ]
      have : x ^ pc j * x * (10 - x) ^ (G - pc j) = x * (x ^ pc j * (10 - x) ^ (G - pc j)) := by
        rw [Nat.mul_comm (x ^ pc j) x, Nat.mul_assoc]
      rw [this]; omega
    · rw [if_neg z, if_neg (fun q => z (hiff.mpr q))]; omega
theorem smS_rec (hG : G < 6) (hn : 0 < n) (ht : t < n) : smS n t0 x (G + 1) t (2 ^ (G + 1)) = smS n t0 x G t (2 ^ G) * (10 - x) + smS n t0 x G ((t + n - 1) % n) (2 ^ G) * x := by
  rw [Nat.two_pow_succ, smS_hi hG hn ht (2 ^ G) (Nat.le_refl _), smS_lo hG (2 ^ G) (Nat.le_refl _), Nat.mul_comm, Nat.mul_comm x]
theorem smS_le (hn : 0 < n) (hx : x ≤ 10) : ∀ G, G ≤ 6 → ∀ t, t < n → smS n t0 x G t (2 ^ G) ≤ 10 ^ G := by
  intro G
  induction G with
  | zero =>
    intro _ t _
    show 0 + (if (t0 + pc 0) % n = t then tmS x 0 (pc 0) else 0) ≤ 1
    rw [show pc 0 = 0 by decide]
    unfold tmS
    split <;> simp
  | succ G ih =>
    intro hG t ht
    rw [smS_rec (by omega) hn ht]
    have h1 := ih (by omega) t ht
    have h2 := ih (by omega) ((t + n - 1) % n) (Nat.mod_lt _ hn)
    have m1 := Nat.mul_le_mul_right (10 - x) h1
    have m2 := Nat.mul_le_mul_right x h2
    have e : 10 ^ G * (10 - x) + 10 ^ G * x = 10 ^ (G + 1) := by
      rw [← Nat.mul_add, show 10 - x + x = 10 by omega, Nat.pow_succ]
    omega
/-- the class: one guest more -/
def inF (n x : Nat) (F : Nat → Nat) : Nat → Nat → Nat
  | 0 => F
  | j + 1 => udn (inF n x F j) (n - 1 - j) (F (n - 1 - j) * (10 - x) + F (n - 2 - j) * x)
def nxF (n x : Nat) (F : Nat → Nat) : Nat → Nat := udn (inF n x F (n - 1)) 0 (F 0 * (10 - x) + F (n - 1) * x)
def chF (n t0 x : Nat) : Nat → Nat → Nat
  | 0 => udn (fun _ => 0) t0 1
  | g + 1 => nxF n x (chF n t0 x g)
theorem inF_lo {F : Nat → Nat} : ∀ j i, i + j < n → inF n x F j i = F i := by
  intro j
  induction j with
  | zero => intro i _; rfl
  | succ j ih => intro i hi; show udn _ _ _ i = _; rw [udn_o (by omega)]; exact ih i (by omega)
theorem inF_hi {F : Nat → Nat} : ∀ j i, n ≤ i + j → i < n → 1 ≤ i → inF n x F j i = F i * (10 - x) + F (i - 1) * x := by
  intro j
  induction j with
  | zero => intro i h1 h2 _; omega
  | succ j ih =>
    intro i h1 h2 h3
    show udn _ _ _ i = _
    by_cases z : i = n - 1 - j
    · rw [z, udn_s, show n - 1 - j - 1 = n - 2 - j by omega]
    · rw [udn_o z]; exact ih i (by omega) h2 h3
theorem nxF_v {F : Nat → Nat} {i : Nat} (hi : i < n) : nxF n x F i = F i * (10 - x) + F ((i + n - 1) % n) * x := by
  unfold nxF
  by_cases z : i = 0
  · subst z; rw [udn_s, show 0 + n - 1 = n - 1 by omega, Nat.mod_eq_of_lt (by omega)]
  · rw [udn_o z, inF_hi _ _ (by omega) hi (by omega), show i + n - 1 = (i - 1) + n by omega, Nat.add_mod_right, Nat.mod_eq_of_lt (by omega)]
theorem chF_eq (hn : 0 < n) (ht0 : t0 < n) : ∀ g, g ≤ 6 → ∀ t, t < n → chF n t0 x g t = smS n t0 x g t (2 ^ g) := by
  intro g
  induction g with
  | zero =>
    intro _ t ht
    show udn (fun _ => 0) t0 1 t = 0 + (if (t0 + pc 0) % n = t then tmS x 0 (pc 0) else 0)
    rw [show pc 0 = 0 by decide, Nat.add_zero, Nat.mod_eq_of_lt ht0]
    unfold udn tmS
    by_cases z : t = t0
    · rw [if_pos z, if_pos z.symm]; simp
    · rw [if_neg z, if_neg (fun q => z q.symm)]
  | succ g ih =>
    intro hg t ht
    show nxF n x (chF n t0 x g) t = _
    rw [nxF_v ht, smS_rec (by omega) hn ht, ih (by omega) t ht, ih (by omega) _ (Nat.mod_lt _ hn)]
/-! reduction -/
def rd1 (q : Nat) (s : Nat × Nat) : Nat × Nat := if s.1 % q = 0 ∧ s.2 % q = 0 then (s.1 / q, s.2 / q) else s
def rdS (s : Nat × Nat) : Nat → Nat × Nat
  | 0 => s
  | g + 1 => rd1 5 (rd1 2 (rdS s g))
/-- the lower one is 2 ^ a * 5 ^ b; how far it has come -/
def rdI (al up G j2 j5 : Nat) (s : Nat × Nat) : Prop := ∃ a b c, s.1 = 2 ^ a * 5 ^ b ∧ (a + j2 ≤ G ∨ s.2 % 2 ≠ 0) ∧ (b + j5 ≤ G ∨ s.2 % 5 ≠ 0) ∧ al = c * s.1 ∧ up = c * s.2
theorem pw5_odd : ∀ b, 5 ^ b % 2 = 1 := by
  intro b
  induction b with
  | zero => rfl
  | succ b ih => rw [Nat.pow_succ]; omega
theorem pw2_5 : ∀ a, 2 ^ a % 5 ≠ 0 := by
  intro a
  induction a with
  | zero => decide
  | succ a ih => rw [Nat.pow_succ]; omega
theorem rd_2 {al up j2 j5 : Nat} {s : Nat × Nat} (hj : j2 + 1 ≤ G) (h : rdI al up G j2 j5 s) : rdI al up G (j2 + 1) j5 (rd1 2 s) := by
  obtain ⟨a, b, c, h1, h2, h3, h4, h5⟩ := h
  unfold rd1
  by_cases z : s.1 % 2 = 0 ∧ s.2 % 2 = 0
  · rw [if_pos z]
    have ha : a ≠ 0 := fun e => by
      have := z.1; rw [h1, e, Nat.pow_zero, Nat.one_mul, pw5_odd] at this; omega
    obtain ⟨a', rfl⟩ : ∃ a', a = a' + 1 := ⟨a - 1, by omega⟩
    have e1 : s.1 / 2 = 2 ^ a' * 5 ^ b := by
      rw [h1, Nat.pow_succ, Nat.mul_comm (2 ^ a') 2, Nat.mul_assoc]; exact Nat.mul_div_cancel_left _ (by decide)
    have e2 : s.2 = 2 * (s.2 / 2) := by omega
    have e3 : s.1 = 2 * (s.1 / 2) := by omega
    refine ⟨a', b, c * 2, e1, Or.inl (by omega), ?_, ?_, ?_⟩
    · rcases h3 with h | h
      · exact Or.inl h
      · right; show s.2 / 2 % 5 ≠ 0; omega
    · show al = c * 2 * (s.1 / 2); rw [Nat.mul_assoc, ← e3]; exact h4
    · show up = c * 2 * (s.2 / 2); rw [Nat.mul_assoc, ← e2]; exact h5
  · rw [if_neg z]
    refine ⟨a, b, c, h1, ?_, h3, h4, h5⟩
    by_cases y : s.2 % 2 = 0
    · left
      have : a = 0 := by
        apply Classical.byContradiction
        intro ha
        obtain ⟨a', rfl⟩ : ∃ a', a = a' + 1 := ⟨a - 1, by omega⟩
        apply z
        refine ⟨?_, y⟩
        rw [h1, Nat.pow_succ, Nat.mul_comm (2 ^ a') 2, Nat.mul_assoc]; exact Nat.mul_mod_right _ _
      omega
    · exact Or.inr y
theorem rd_5 {al up j2 j5 : Nat} {s : Nat × Nat} (hj : j5 + 1 ≤ G) (h : rdI al up G j2 j5 s) : rdI al up G j2 (j5 + 1) (rd1 5 s) := by
  obtain ⟨a, b, c, h1, h2, h3, h4, h5⟩ := h
  unfold rd1
  by_cases z : s.1 % 5 = 0 ∧ s.2 % 5 = 0
  · rw [if_pos z]
    have hb : b ≠ 0 := fun e => by
      have := z.1; rw [h1, e, Nat.pow_zero, Nat.mul_one] at this; exact pw2_5 a this
    obtain ⟨b', rfl⟩ : ∃ b', b = b' + 1 := ⟨b - 1, by omega⟩
    have e0 : 2 ^ a * 5 ^ (b' + 1) = 5 * (2 ^ a * 5 ^ b') := by
      rw [Nat.pow_succ, Nat.mul_comm (5 ^ b') 5, ← Nat.mul_assoc, Nat.mul_comm (2 ^ a) 5, Nat.mul_assoc]
    have e1 : s.1 / 5 = 2 ^ a * 5 ^ b' := by
      rw [h1, e0]; exact Nat.mul_div_cancel_left _ (by decide)
    have e2 : s.2 = 5 * (s.2 / 5) := by omega
    have e3 : s.1 = 5 * (s.1 / 5) := by omega
    refine ⟨a, b', c * 5, e1, ?_, Or.inl (by omega), ?_, ?_⟩
    · rcases h2 with h | h
      · exact Or.inl h
      · right; show s.2 / 5 % 2 ≠ 0; omega
    · show al = c * 5 * (s.1 / 5); rw [Nat.mul_assoc, ← e3]; exact h4
    · show up = c * 5 * (s.2 / 5); rw [Nat.mul_assoc, ← e2]; exact h5
  · rw [if_neg z]
    refine ⟨a, b, c, h1, h2, ?_, h4, h5⟩
    by_cases y : s.2 % 5 = 0
    · left
      have : b = 0 := by
        apply Classical.byContradiction
        intro hb
        obtain ⟨b', rfl⟩ : ∃ b', b = b' + 1 := ⟨b - 1, by omega⟩
        have e0 : 2 ^ a * 5 ^ (b' + 1) = 5 * (2 ^ a * 5 ^ b') := by
          rw [Nat.pow_succ, Nat.mul_comm (5 ^ b') 5, ← Nat.mul_assoc, Nat.mul_comm (2 ^ a) 5, Nat.mul_assoc]
        apply z
        refine ⟨?_, y⟩
        rw [h1, e0]; exact Nat.mul_mod_right _ _
      omega
    · exact Or.inr y
theorem rd_eq (G up : Nat) : (rdS (10 ^ G, up) G).1 = 10 ^ G / Nat.gcd up (10 ^ G) ∧ (rdS (10 ^ G, up) G).2 = up / Nat.gcd up (10 ^ G) := by
  have hI : ∀ j, j ≤ G → rdI (10 ^ G) up G j j (rdS (10 ^ G, up) j) := by
    intro j
    induction j with
    | zero =>
      intro _
      refine ⟨G, G, 1, ?_, Or.inl (Nat.le_refl _), Or.inl (Nat.le_refl _), (Nat.one_mul _).symm, (Nat.one_mul _).symm⟩
      show 10 ^ G = 2 ^ G * 5 ^ G
      rw [← Nat.mul_pow]
    | succ j ih => intro hj; exact rd_5 hj (rd_2 hj (ih (by omega)))
  obtain ⟨a, b, c, h1, h2, h3, h4, h5⟩ := hI G (Nat.le_refl _)
  generalize rdS (10 ^ G, up) G = s at *
  have c2 : Nat.Coprime s.2 (2 ^ a) := by
    rcases h2 with h | h
    · rw [show a = 0 by omega]; exact Nat.coprime_one_right _
    · refine Nat.Coprime.pow_right a ?_
      show Nat.gcd s.2 2 = 1
      rw [Nat.gcd_comm, Nat.gcd_rec, show s.2 % 2 = 1 by omega]
      decide
  have c5 : Nat.Coprime s.2 (5 ^ b) := by
    rcases h3 with h | h
    · rw [show b = 0 by omega]; exact Nat.coprime_one_right _
    · refine Nat.Coprime.pow_right b ?_
      show Nat.gcd s.2 5 = 1
      rw [Nat.gcd_comm, Nat.gcd_rec]
      rcases (show s.2 % 5 = 1 ∨ s.2 % 5 = 2 ∨ s.2 % 5 = 3 ∨ s.2 % 5 = 4 by omega) with e | e | e | e <;> rw [e] <;> decide
  have hg : Nat.gcd s.2 s.1 = 1 := by rw [h1]; exact Nat.Coprime.mul_right c2 c5
  have hc : Nat.gcd up (10 ^ G) = c := by
    rw [h5, h4, Nat.gcd_mul_left, hg, Nat.mul_one]
  have hc0 : 0 < c := by
    apply Nat.pos_of_ne_zero
    intro e
    rw [e, Nat.zero_mul] at h4
    have : 0 < 10 ^ G := Nat.pow_pos (by decide)
    omega
  rw [hc]
  refine ⟨?_, ?_⟩
  · rw [h4]; exact (Nat.mul_div_cancel_left _ hc0).symm
  · rw [h5]; exact (Nat.mul_div_cancel_left _ hc0).symm
end O25
