/-! ===== who can be fed: most flow is least cut ===== -/
def lS (left : Nat → Nat) (S : Nat) : Nat → Nat
  | 0 => 0
  | d + 1 => lS left S d + (if S.testBit d then left d else 0)
def nsb (N S D : Nat) : Bool := !allB (fun d => !N.testBit d || S.testBit d) D
def cG (N : Nat → Nat) (D S fr : Nat) : Nat → Nat
  | 0 => 0
  | j + 1 => cG N D S fr j + b2n (nsb (N (fr + j)) S D)
def mn (f : Nat → Nat) (x : Nat) : Nat → Nat
  | 0 => x
  | S + 1 => if f S < mn f x S then f S else mn f x S
def fS (N : Nat → Nat) (G D k : Nat) (left : Nat → Nat) (S : Nat) : Nat := lS left S D + cG N D S (G - k) k
def mx (N : Nat → Nat) (G D k : Nat) (left : Nat → Nat) : Nat := mn (fS N G D k left) G (2 ^ D)
def tk (left : Nat → Nat) (q : Nat) : Nat → Nat := udn left q (left q - 1)
theorem mn_le {f : Nat → Nat} {x : Nat} : ∀ n, mn f x n ≤ x ∧ (∀ S, S < n → mn f x n ≤ f S) ∧ (mn f x n = x ∨ ∃ S, S < n ∧ mn f x n = f S) := by
  intro n
  induction n with
  | zero => exact ⟨Nat.le_refl _, fun S h => absurd h (Nat.not_lt_zero _), Or.inl rfl⟩
  | succ n ih =>
    obtain ⟨i1, i2, i3⟩ := ih
    simp only [mn]
    by_cases z : f n < mn f x n
    · rw [if_pos z]
      refine ⟨by omega, fun S h => ?_, Or.inr ⟨n, by omega, rfl⟩⟩
      by_cases q : S = n
      · subst q; exact Nat.le_refl _
      · have := i2 S (by omega); omega
    · rw [if_neg z]
      refine ⟨i1, fun S h => ?_, ?_⟩
      · by_cases q : S = n
        · subst q; omega
        · exact i2 S (by omega)
      · rcases i3 with i3 | ⟨S, h1, h2⟩
        · exact Or.inl i3
        · exact Or.inr ⟨S, by omega, h2⟩
theorem nsb_t {N S D : Nat} : nsb N S D = true ↔ ∃ d, d < D ∧ N.testBit d = true ∧ S.testBit d = false := by
  unfold nsb
  constructor
  · intro h
    apply Classical.byContradiction
    intro hn
    have : allB (fun d => !N.testBit d || S.testBit d) D = true := (allB_t _).mpr (fun d hd => by
      cases h1 : N.testBit d <;> cases h2 : S.testBit d <;> simp
      exact absurd ⟨d, hd, h1, h2⟩ hn)
    rw [this] at h
    exact absurd h (by decide)
  · rintro ⟨d, hd, h1, h2⟩
    cases h : allB (fun d => !N.testBit d || S.testBit d) D
    · rfl
    · have := (allB_t _).mp h d hd
      rw [h1, h2] at this
      exact absurd this (by decide)
theorem nsb_mono {N S T D : Nat} (h : ∀ d, d < D → S.testBit d = true → T.testBit d = true) : b2n (nsb N T D) ≤ b2n (nsb N S D) := by
  cases h1 : nsb N T D
  · exact Nat.zero_le _
  · obtain ⟨d, hd, e1, e2⟩ := nsb_t.mp h1
    have : nsb N S D = true := nsb_t.mpr ⟨d, hd, e1, by
      cases h3 : S.testBit d
      · rfl
      · rw [h d hd h3] at e2; exact absurd e2 (by decide)⟩
    rw [this]; exact Nat.le_refl _
theorem nsb_sub {N S T D : Nat} : b2n (nsb N (S ||| T) D) + b2n (nsb N (S &&& T) D) ≤ b2n (nsb N S D) + b2n (nsb N T D) := by
  have m1 : b2n (nsb N (S ||| T) D) ≤ b2n (nsb N S D) := nsb_mono (fun d _ h => by rw [Nat.testBit_or, h, Bool.true_or])
  have m2 : b2n (nsb N (S ||| T) D) ≤ b2n (nsb N T D) := nsb_mono (fun d _ h => by rw [Nat.testBit_or, h, Bool.or_true])
  have b0 : b2n false = 0 := rfl
  have b1 : b2n true = 1 := rfl
  have l1 := b2n_lt (nsb N (S &&& T) D)
  have l2 := b2n_lt (nsb N (S ||| T) D)
  cases h1 : nsb N S D
  · cases h2 : nsb N T D
    · cases h3 : nsb N (S &&& T) D
      · rw [h1] at m1; omega
      · obtain ⟨d, hd, e1, e2⟩ := nsb_t.mp h3
        rw [Nat.testBit_and] at e2
        cases h4 : S.testBit d
        · have := nsb_t.mpr ⟨d, hd, e1, h4⟩; rw [h1] at this; exact absurd this (by decide)
        · rw [h4, Bool.true_and] at e2
          have := nsb_t.mpr ⟨d, hd, e1, e2⟩; rw [h2] at this; exact absurd this (by decide)
    · rw [h1] at m1; omega
  · cases h2 : nsb N T D
    · rw [h2] at m2; omega
    · omega
section F21
variable {N : Nat → Nat} {G D k : Nat} {left : Nat → Nat}
theorem cG_front {S : Nat} : ∀ j fr, cG N D S fr (j + 1) = b2n (nsb (N fr) S D) + cG N D S (fr + 1) j := by
  intro j
  induction j with
  | zero => intro fr; show 0 + b2n (nsb (N (fr + 0)) S D) = b2n (nsb (N fr) S D) + 0; rw [Nat.add_zero, Nat.zero_add, Nat.add_zero]
  | succ j ih =>
    intro fr
    show cG N D S fr (j + 1) + b2n (nsb (N (fr + (j + 1))) S D) = b2n (nsb (N fr) S D) + (cG N D S (fr + 1) j + b2n (nsb (N (fr + 1 + j)) S D))
    rw [ih, show fr + (j + 1) = fr + 1 + j by omega]; omega
theorem cG_le {S fr : Nat} : ∀ j, cG N D S fr j ≤ j := by
  intro j
  induction j with
  | zero => exact Nat.le_refl _
  | succ j ih => show cG N D S fr j + b2n (nsb (N (fr + j)) S D) ≤ j + 1; have := b2n_lt (nsb (N (fr + j)) S D); omega
theorem cG_sub {S T fr : Nat} : ∀ j, cG N D (S ||| T) fr j + cG N D (S &&& T) fr j ≤ cG N D S fr j + cG N D T fr j := by
  intro j
  induction j with
  | zero => exact Nat.le_refl _
  | succ j ih =>
    show (cG N D (S ||| T) fr j + b2n (nsb (N (fr + j)) (S ||| T) D)) + (cG N D (S &&& T) fr j + b2n (nsb (N (fr + j)) (S &&& T) D)) ≤ (cG N D S fr j + b2n (nsb (N (fr + j)) S D)) + (cG N D T fr j + b2n (nsb (N (fr + j)) T D))
    have := nsb_sub (N := N (fr + j)) (S := S) (T := T) (D := D)
    omega
theorem cG_mono {S T fr : Nat} (h : ∀ d, d < D → S.testBit d = true → T.testBit d = true) : ∀ j, cG N D T fr j ≤ cG N D S fr j := by
  intro j
  induction j with
  | zero => exact Nat.le_refl _
  | succ j ih =>
    show cG N D T fr j + b2n (nsb (N (fr + j)) T D) ≤ cG N D S fr j + b2n (nsb (N (fr + j)) S D)
    have := nsb_mono (N := N (fr + j)) h
    omega
theorem lS_mod {S T : Nat} : ∀ j, lS left (S ||| T) j + lS left (S &&& T) j = lS left S j + lS left T j := by
  intro j
  induction j with
  | zero => rfl
  | succ j ih =>
    simp only [lS, Nat.testBit_or, Nat.testBit_and]
    cases S.testBit j <;> cases T.testBit j <;> simp <;> omega
theorem lS_bit {S d : Nat} (h0 : left d = 0) : ∀ j, lS left (S ||| 2 ^ d) j = lS left S j := by
  intro j
  induction j with
  | zero => rfl
  | succ j ih =>
    simp only [lS, Nat.testBit_or, Nat.testBit_two_pow, ih]
    by_cases z : d = j
    · subst z; simp [h0]
    · simp [z]
theorem lS_tk {S d : Nat} (h0 : 0 < left d) : ∀ j, lS (tk left d) S j + (if d < j then b2n (S.testBit d) else 0) = lS left S j := by
  intro j
  induction j with
  | zero => rfl
  | succ j ih =>
    simp only [lS]
    by_cases z : d = j
    · subst z
      rw [if_neg (by omega)] at ih
      rw [if_pos (show d < d + 1 by omega)]
      have e : tk left d d = left d - 1 := udn_s
      rw [e]
      have b0 : b2n false = 0 := rfl
      have b1 : b2n true = 1 := rfl
      cases S.testBit d <;> simp <;> omega
    · have e : tk left d j = left j := udn_o (fun q => z q.symm)
      rw [e]
      by_cases y : d < j
      · rw [if_pos y] at ih; rw [if_pos (show d < j + 1 by omega)]; omega
      · rw [if_neg y] at ih; rw [if_neg (show ¬ d < j + 1 by omega)]; omega
theorem lS_0 : ∀ j, lS left 0 j = 0 := by
  intro j
  induction j with
  | zero => rfl
  | succ j ih => simp only [lS, ih, Nat.zero_testBit]; rfl
theorem fS_succ (hk : k + 1 ≤ G) (S : Nat) : fS N G D (k + 1) left S = fS N G D k left S + b2n (nsb (N (G - 1 - k)) S D) := by
  unfold fS
  rw [cG_front, show G - (k + 1) = G - 1 - k by omega, show G - 1 - k + 1 = G - k by omega]; omega
theorem mx_le {S : Nat} (hS : S < 2 ^ D) : mx N G D k left ≤ fS N G D k left S := (mn_le (2 ^ D)).2.1 S hS
theorem mx_G : mx N G D k left ≤ G := (mn_le (2 ^ D)).1
theorem mx_k (hk : k ≤ G) : mx N G D k left ≤ k := by
  have h := mx_le (N := N) (G := G) (k := k) (left := left) (S := 0) (Nat.two_pow_pos D)
  unfold fS at h
  rw [lS_0] at h
  have := cG_le (N := N) (D := D) (S := 0) (fr := G - k) k
  omega
theorem mx_at (hk : k ≤ G) : ∃ S, S < 2 ^ D ∧ mx N G D k left = fS N G D k left S := by
  rcases (mn_le (f := fS N G D k left) (x := G) (2 ^ D)).2.2 with h | h
  · have h0 := mx_le (N := N) (G := G) (k := k) (left := left) (S := 0) (Nat.two_pow_pos D)
    refine ⟨0, Nat.two_pow_pos D, ?_⟩
    have h' : mx N G D k left = G := h
    have : fS N G D k left 0 ≤ k := by
      unfold fS; rw [lS_0]
      have := cG_le (N := N) (D := D) (S := 0) (fr := G - k) k
      omega
    omega
  · exact h
theorem mx_w1 (hk : k + 1 ≤ G) : mx N G D k left ≤ mx N G D (k + 1) left := by
  obtain ⟨S, hS, e⟩ := mx_at (N := N) (G := G) (D := D) (left := left) hk
  rw [e, fS_succ hk]
  have := mx_le (N := N) (G := G) (k := k) (left := left) hS
  omega
theorem mx_w2 {d : Nat} (hk : k + 1 ≤ G) (hd : d < D) (hN : (N (G - 1 - k)).testBit d = true) (h0 : 0 < left d) : 1 + mx N G D k (tk left d) ≤ mx N G D (k + 1) left := by
  obtain ⟨S, hS, e⟩ := mx_at (N := N) (G := G) (D := D) (left := left) hk
  rw [e, fS_succ hk]
  have h1 := mx_le (N := N) (G := G) (k := k) (left := tk left d) hS
  have h2 := lS_tk (S := S) h0 D
  rw [if_pos hd] at h2
  unfold fS at *
  cases z : S.testBit d
  · rw [z] at h2
    have h3 : nsb (N (G - 1 - k)) S D = true := nsb_t.mpr ⟨d, hd, hN, z⟩
    rw [h3]
    have b0 : b2n false = 0 := rfl
    have b1 : b2n true = 1 := rfl
    omega
  · rw [z] at h2
    have b1 : b2n true = 1 := rfl
    omega
theorem big_of {n : Nat} {Q : Nat → Prop} : (∃ S, S < n ∧ Q S) → ∃ S, S < n ∧ Q S ∧ ∀ T, T < n → Q T → T ≤ S := by
  induction n with
  | zero => rintro ⟨S, h, _⟩; exact absurd h (Nat.not_lt_zero _)
  | succ n ih =>
    rintro ⟨S, h, q⟩
    by_cases z : Q n
    · exact ⟨n, by omega, z, fun T hT _ => by omega⟩
    · have hS : S < n := by
        by_cases y : S = n
        · subst y; exact absurd q z
        · omega
      obtain ⟨U, h1, h2, h3⟩ := ih ⟨S, hS, q⟩
      exact ⟨U, by omega, h2, fun T hT qT => h3 T (by
        by_cases y : T = n
        · subst y; exact absurd qT z
        · omega) qT⟩
theorem mx_s (hk : k + 1 ≤ G) : mx N G D (k + 1) left = mx N G D k left ∨ ∃ d, d < D ∧ (N (G - 1 - k)).testBit d = true ∧ 0 < left d ∧ mx N G D (k + 1) left = 1 + mx N G D k (tk left d) := by
  obtain ⟨S, hS, eS, hmax⟩ := big_of (Q := fun S => mx N G D k left = fS N G D k left S) (mx_at (N := N) (G := G) (D := D) (left := left) (k := k) (by omega))
  have hle1 := mx_le (N := N) (G := G) (k := k + 1) (left := left) hS
  rw [fS_succ hk] at hle1
  have hw1 := mx_w1 (N := N) (D := D) (left := left) hk
  cases hn : nsb (N (G - 1 - k)) S D
  · left
    rw [hn] at hle1
    have b0 : b2n false = 0 := rfl
    omega
  · right
    rw [hn] at hle1
    have b1 : b2n true = 1 := rfl
    obtain ⟨d, hd, hN, hSd⟩ := nsb_t.mp hn
    -- no least set has it
    have hno : ∀ T, T < 2 ^ D → mx N G D k left = fS N G D k left T → T.testBit d = false := by
      intro T hT eT
      have hu : S ||| T < 2 ^ D := Nat.or_lt_two_pow hS hT
      have hi : S &&& T < 2 ^ D := Nat.and_lt_two_pow S hT
      have l1 := mx_le (N := N) (G := G) (k := k) (left := left) hu
      have l2 := mx_le (N := N) (G := G) (k := k) (left := left) hi
      have s1 := lS_mod (left := left) (S := S) (T := T) D
      have s2 := cG_sub (N := N) (D := D) (S := S) (T := T) (fr := G - k) k
      have hmin : mx N G D k left = fS N G D k left (S ||| T) := by unfold fS at *; omega
      have := hmax _ hu hmin
      have heq : S ||| T = S := Nat.le_antisymm this Nat.left_le_or
      cases z : T.testBit d
      · rfl
      · have : (S ||| T).testBit d = true := by rw [Nat.testBit_or, z, Bool.or_true]
        rw [heq, hSd] at this
        exact absurd this (by decide)
    have h0 : 0 < left d := by
      apply Classical.byContradiction
      intro z
      have z0 : left d = 0 := by omega
      have hlt : S ||| 2 ^ d < 2 ^ D := Nat.or_lt_two_pow hS (Nat.pow_lt_pow_right (by decide) hd)
      have l1 := mx_le (N := N) (G := G) (k := k) (left := left) hlt
      have s1 := lS_bit (S := S) z0 D
      have s2 := cG_mono (N := N) (D := D) (S := S) (T := S ||| 2 ^ d) (fr := G - k) (fun i _ h => by rw [Nat.testBit_or, h, Bool.true_or]) k
      have hmin : mx N G D k left = fS N G D k left (S ||| 2 ^ d) := by unfold fS at *; omega
      have := hno _ hlt hmin
      rw [Nat.testBit_or, Nat.testBit_two_pow_self, Bool.or_true] at this
      exact absurd this (by decide)
    refine ⟨d, hd, hN, h0, ?_⟩
    have hw2 := mx_w2 (N := N) (left := left) hk hd hN h0
    obtain ⟨T, hT, eT⟩ := mx_at (N := N) (G := G) (D := D) (left := tk left d) (k := k) (by omega)
    have h2 := lS_tk (S := T) h0 D
    rw [if_pos hd] at h2
    have l1 := mx_le (N := N) (G := G) (k := k) (left := left) hT
    have hge : mx N G D k left ≤ mx N G D k (tk left d) := by
      cases z : T.testBit d
      · rw [z] at h2
        have b0 : b2n false = 0 := rfl
        unfold fS at *; omega
      · rw [z] at h2
        have hne : mx N G D k left ≠ fS N G D k left T := fun e => by
          have := hno T hT e; rw [z] at this; exact absurd this (by decide)
        unfold fS at *; omega
    omega
/-! ===== the first row ===== -/
def fst6 (f : Nat → Bool) : Nat → Nat
  | 0 => 6
  | n + 1 => if fst6 f n < 6 then fst6 f n else if f n then n else 6
theorem fst6_ok {f : Nat → Bool} : ∀ n, n ≤ 6 → (fst6 f n = 6 ∧ ∀ i, i < n → f i = false) ∨ (fst6 f n < n ∧ f (fst6 f n) = true ∧ ∀ i, i < fst6 f n → f i = false) := by
  intro n
  induction n with
  | zero => intro _; exact Or.inl ⟨rfl, fun i h => absurd h (Nat.not_lt_zero _)⟩
  | succ n ih =>
    intro hn
    rcases ih (by omega) with ⟨h1, h2⟩ | ⟨h1, h2, h3⟩
    · have e : fst6 f (n + 1) = if f n then n else 6 := by simp only [fst6]; rw [if_neg (by omega)]
      cases z : f n
      · rw [z] at e
        exact Or.inl ⟨e, fun i hi => by by_cases y : i = n; subst y; exact z; exact h2 i (by omega)⟩
      · rw [z] at e
        have e' : fst6 f (n + 1) = n := e
        rw [e']
        exact Or.inr ⟨by omega, z, fun i hi => h2 i hi⟩
    · have e : fst6 f (n + 1) = fst6 f n := by simp only [fst6]; rw [if_pos (by omega)]
      rw [e]
      exact Or.inr ⟨by omega, h2, h3⟩
def cdB (N : Nat → Nat) (G D k : Nat) (left : Nat → Nat) (q : Nat) : Bool := (N (G - 1 - k)).testBit q && decide (0 < left q) && (1 + mx N G D k (tk left q) == mx N G D (k + 1) left)
def qF (N : Nat → Nat) (G D k : Nat) (left : Nat → Nat) : Nat := fst6 (cdB N G D k left) D
def nx (left : Nat → Nat) (q : Nat) : Nat → Nat := if q < 6 then tk left q else left
def gr (N : Nat → Nat) (G D : Nat) : Nat → (Nat → Nat) → Nat
  | 0, _ => 0
  | k + 1, left => gr N G D k (nx left (qF N G D k left)) + 7 ^ k * qF N G D k left
/-- how many a row feeds -/
def fv (N : Nat → Nat) (G D : Nat) : Nat → (Nat → Nat) → Nat → Option Nat
  | 0, _, _ => some 0
  | k + 1, left, r => if r / 7 ^ k % 7 = 6 then fv N G D k left r else if (N (G - 1 - k)).testBit (r / 7 ^ k % 7) = true ∧ r / 7 ^ k % 7 < D ∧ 0 < left (r / 7 ^ k % 7) then (fv N G D k (tk left (r / 7 ^ k % 7)) r).map (· + 1) else none
theorem qF_ok (hk : k + 1 ≤ G) (hD : D ≤ 6) : (qF N G D k left = 6 ∧ mx N G D (k + 1) left = mx N G D k left) ∨ (qF N G D k left < D ∧ (N (G - 1 - k)).testBit (qF N G D k left) = true ∧ 0 < left (qF N G D k left) ∧ mx N G D (k + 1) left = 1 + mx N G D k (tk left (qF N G D k left))) := by
  rcases fst6_ok (f := cdB N G D k left) D hD with ⟨h1, h2⟩ | ⟨h1, h2, h3⟩
  · refine Or.inl ⟨h1, ?_⟩
    rcases mx_s (N := N) (D := D) (left := left) hk with h | ⟨d, hd, hN, h0, e⟩
    · exact h
    · have := h2 d hd
      unfold cdB at this
      rw [hN, decide_eq_true h0, ← e] at this
      simp at this
  · refine Or.inr ⟨h1, ?_⟩
    have h2' : cdB N G D k left (qF N G D k left) = true := h2
    unfold cdB at h2'
    simp only [Bool.and_eq_true, decide_eq_true_eq, beq_iff_eq] at h2'
    exact ⟨h2'.1.1, h2'.1.2, h2'.2.symm⟩
theorem gr_lt (hD : D ≤ 6) : ∀ k left, k ≤ G → gr N G D k left < 7 ^ k := by
  intro k
  induction k with
  | zero => intro left _; exact Nat.one_pos
  | succ k ih =>
    intro left hk
    have h1 := ih (nx left (qF N G D k left)) (by omega)
    have hq : qF N G D k left ≤ 6 := by
      rcases qF_ok (N := N) (left := left) hk hD with h | h <;> omega
    show gr N G D k (nx left (qF N G D k left)) + 7 ^ k * qF N G D k left < 7 ^ (k + 1)
    have : 7 ^ k * qF N G D k left ≤ 7 ^ k * 6 := Nat.mul_le_mul_left _ hq
    have e : 7 ^ (k + 1) = 7 ^ k * 7 := Nat.pow_succ 7 k
    omega
theorem fv_mod : ∀ k left r s, r % 7 ^ k = s % 7 ^ k → fv N G D k left r = fv N G D k left s := by
  intro k
  induction k with
  | zero => intros; rfl
  | succ k ih =>
    intro left r s h
    rw [Nat.mod_pow_succ, Nat.mod_pow_succ] at h
    have h7 : 0 < 7 ^ k := Nat.pow_pos (by decide)
    have m1 := Nat.mod_lt r h7
    have m2 := Nat.mod_lt s h7
    have hq : r / 7 ^ k % 7 = s / 7 ^ k % 7 := by
      have a := Nat.add_mul_div_left (r % 7 ^ k) (r / 7 ^ k % 7) h7
      have b := Nat.add_mul_div_left (s % 7 ^ k) (s / 7 ^ k % 7) h7
      rw [Nat.div_eq_of_lt m2] at b
      rw [Nat.div_eq_of_lt m1, h] at a
      omega
    have hr : r % 7 ^ k = s % 7 ^ k := by rw [hq] at h; omega
    simp only [fv, hq, ih _ r s hr]
theorem gr_fv (hD : D ≤ 6) : ∀ k left, k ≤ G → fv N G D k left (gr N G D k left) = some (mx N G D k left) := by
  intro k
  induction k with
  | zero =>
    intro left _
    show some 0 = _
    have := mx_k (N := N) (D := D) (left := left) (show 0 ≤ G by omega)
    rw [show mx N G D 0 left = 0 by omega]
  | succ k ih =>
    intro left hk
    have h7 : 0 < 7 ^ k := Nat.pow_pos (by decide)
    have hlt := gr_lt (N := N) (G := G) hD k (nx left (qF N G D k left)) (by omega)
    have hg : gr N G D (k + 1) left = gr N G D k (nx left (qF N G D k left)) + 7 ^ k * qF N G D k left := rfl
    have hq6 : qF N G D k left ≤ 6 := by
      rcases qF_ok (N := N) (left := left) hk hD with h | h <;> omega
    have hd : gr N G D (k + 1) left / 7 ^ k % 7 = qF N G D k left := by
      rw [hg, Nat.add_mul_div_left _ _ h7, Nat.div_eq_of_lt hlt, Nat.zero_add, Nat.mod_eq_of_lt (by omega)]
    have hm : gr N G D (k + 1) left % 7 ^ k = gr N G D k (nx left (qF N G D k left)) % 7 ^ k := by
      rw [hg, Nat.add_mul_mod_self_left]
    have hf : ∀ l, fv N G D k l (gr N G D (k + 1) left) = fv N G D k l (gr N G D k (nx left (qF N G D k left))) := fun l => fv_mod k l _ _ hm
    simp only [fv, hd, hf]
    rcases qF_ok (N := N) (left := left) hk hD with ⟨h1, h2⟩ | ⟨h1, h2, h3, h4⟩
    · rw [if_pos h1]
      have e : nx left (qF N G D k left) = left := by unfold nx; rw [if_neg (by omega)]
      rw [e, ih left (by omega), h2]
    · rw [if_neg (by omega), if_pos ⟨h2, h1, h3⟩]
      have e : nx left (qF N G D k left) = tk left (qF N G D k left) := by unfold nx; rw [if_pos (by omega)]
      rw [e, ih _ (by omega), h4]
      show some (_ + 1) = some (1 + _)
      rw [Nat.add_comm]
theorem fv_le (hD : D ≤ 6) : ∀ k left r n, k ≤ G → fv N G D k left r = some n → n ≤ mx N G D k left ∧ (n = mx N G D k left → gr N G D k left ≤ r % 7 ^ k) := by
  intro k
  induction k with
  | zero =>
    intro left r n _ h
    have h' : n = 0 := by
      have : some 0 = some n := h
      injection this with e; exact e.symm
    subst h'
    exact ⟨Nat.zero_le _, fun _ => Nat.zero_le _⟩
  | succ k ih =>
    intro left r n hk h
    have hg : gr N G D (k + 1) left = gr N G D k (nx left (qF N G D k left)) + 7 ^ k * qF N G D k left := rfl
    have hlt := gr_lt (N := N) (G := G) hD k (nx left (qF N G D k left)) (by omega)
    have hmod : r % 7 ^ (k + 1) = r % 7 ^ k + 7 ^ k * (r / 7 ^ k % 7) := Nat.mod_pow_succ
    have hqr : r / 7 ^ k % 7 < 7 := Nat.mod_lt _ (by decide)
    have hw1 := mx_w1 (N := N) (D := D) (left := left) hk
    simp only [fv] at h
    have hless : qF N G D k left < r / 7 ^ k % 7 → gr N G D (k + 1) left ≤ r % 7 ^ (k + 1) := fun hl => by
      have : 7 ^ k * (qF N G D k left + 1) ≤ 7 ^ k * (r / 7 ^ k % 7) := Nat.mul_le_mul_left _ hl
      rw [Nat.mul_add, Nat.mul_one] at this
      omega
    by_cases z : r / 7 ^ k % 7 = 6
    · rw [if_pos z] at h
      obtain ⟨i1, i2⟩ := ih left r n (by omega) h
      refine ⟨by omega, fun e => ?_⟩
      by_cases y : qF N G D k left < r / 7 ^ k % 7
      · exact hless y
      · rcases qF_ok (N := N) (left := left) hk hD with ⟨h1, h2⟩ | ⟨h1, h2, h3, h4⟩
        · have e2 : nx left (qF N G D k left) = left := by unfold nx; rw [if_neg (by omega)]
          have := i2 (by omega)
          rw [hg, hmod, e2, h1, z]; omega
        · omega
    · rw [if_neg z] at h
      by_cases y : (N (G - 1 - k)).testBit (r / 7 ^ k % 7) = true ∧ r / 7 ^ k % 7 < D ∧ 0 < left (r / 7 ^ k % 7)
      · rw [if_pos y] at h
        obtain ⟨y1, y2, y3⟩ := y
        cases hf : fv N G D k (tk left (r / 7 ^ k % 7)) r with
        | none => rw [hf] at h; exact absurd h (by simp)
        | some m =>
          rw [hf] at h
          have hn : n = m + 1 := by
            have : some (m + 1) = some n := h
            injection this with e; exact e.symm
          obtain ⟨i1, i2⟩ := ih _ r m (by omega) hf
          have hw2 := mx_w2 (N := N) (left := left) hk y2 y1 y3
          refine ⟨by omega, fun e => ?_⟩
          have hc : cdB N G D k left (r / 7 ^ k % 7) = true := by
            unfold cdB
            rw [y1, decide_eq_true y3]
            simp
            omega
          have hle : qF N G D k left ≤ r / 7 ^ k % 7 := by
            apply Classical.byContradiction
            intro hgt
            rcases fst6_ok (f := cdB N G D k left) D hD with ⟨h1, h2⟩ | ⟨h1, h2, h3⟩
            · have := h2 _ y2; rw [hc] at this; exact absurd this (by decide)
            · have := h3 (r / 7 ^ k % 7) (by unfold qF at hgt; omega); rw [hc] at this; exact absurd this (by decide)
          by_cases x : qF N G D k left < r / 7 ^ k % 7
          · exact hless x
          · have hq : qF N G D k left = r / 7 ^ k % 7 := by omega
            have e2 : nx left (qF N G D k left) = tk left (r / 7 ^ k % 7) := by unfold nx; rw [if_pos (by omega), hq]
            have := i2 (by omega)
            rw [hg, hmod, e2, hq]; omega
      · rw [if_neg y] at h; exact absurd h (by simp)
end F21
