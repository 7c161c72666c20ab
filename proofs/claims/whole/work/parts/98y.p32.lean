/-! ===== items, all of them: the class's ===== -/
section S32a
variable {T : Nat} {tx : Nat → Nat} {δ : Dr} {t t' : Tk} {s : Sm}
def LeS (T : Nat) (s : Sm) : Prop := ∀ a, s = .inl a → a ≤ T
theorem LeS.tk : LeS T (.inr t) := fun a h => by cases h
theorem LeS.no {a : Nat} (h : a ≤ T) : LeS T (.inl a) := fun b hb => by cases hb; exact h
theorem nmS_l {e lo hi : Nat} (hb : Bhd tx T e s) (hl : LeS T s) : LeS T (nmS tx T lo hi s).2 := by
  cases s with
  | inl a => exact hl
  | inr u =>
    obtain ⟨⟨o1, o2, -⟩, o3⟩ := hb u rfl
    rw [show nmS tx T lo hi (.inr u) = if u.1 = 2 ∧ lo ≤ u.2.2.2 ∧ u.2.2.2 ≤ hi then (u.2.2.2, .inr (tokE tx T u.2.2.1)) else (0, .inl u.2.1) from rfl]
    split
    · exact LeS.tk
    · exact LeS.no (by omega)
theorem frS_l {e n k : Nat} {tkn : Nat → Nat} (hb : Bhd tx T e s) (hl : LeS T s) : LeS T (frS tx T n tkn k s).2 := by
  cases s with
  | inl a => exact hl
  | inr u =>
    obtain ⟨⟨o1, o2, -⟩, o3⟩ := hb u rfl
    rw [show frS tx T n tkn k (.inr u) = if (u.1 = 2 ∧ u.2.2.2 ≤ n - 1) ∧ emB tkn u.2.2.2 k = true then (u.2.2.2, .inr (tokE tx T u.2.2.1)) else (0, .inl u.2.1) from rfl]
    split
    · exact LeS.tk
    · exact LeS.no (by omega)
theorem rwS_l {e : Nat} (hb : Bhd tx T e s) (hl : LeS T s) : LeS T (rwS tx T s).2 := by
  cases s with
  | inl a => exact hl
  | inr u =>
    obtain ⟨⟨o1, o2, -⟩, o3⟩ := hb u rfl
    rw [show rwS tx T (.inr u) = if (u.1 = 1 ∧ u.2.2.1 - u.2.1 ≤ 6) ∧ rwB tx u.2.1 (u.2.2.1 - u.2.1) = true then (rwV tx u.2.1 (u.2.2.1 - u.2.1), .inr (tokE tx T u.2.2.1)) else (0, .inl u.2.1) from rfl]
    split
    · exact LeS.tk
    · exact LeS.no (by omega)
theorem clS_l {e : Nat} (hb : Bhd tx T e s) (hl : LeS T s) : LeS T (clS tx T s) := by
  cases s with
  | inl a => exact hl
  | inr u =>
    obtain ⟨⟨o1, o2, -⟩, o3⟩ := hb u rfl
    rw [show clS tx T (.inr u) = if u.1 = 3 then .inr (tokE tx T u.2.2.1) else .inl u.2.1 from rfl]
    split
    · exact LeS.tk
    · exact LeS.no (by omega)
theorem itS_l {fi : Bool} (ho : TOk tx T t) : LeS T (itS tx T fi δ t).1 := by
  have hb : Bhd tx T t.2.2.1 (.inr (tokE tx T t.2.2.1)) := Bhd.tk ho.2.1
  have hl : LeS T (.inr (tokE tx T t.2.2.1)) := LeS.tk
  have h0 : LeS T (.inl t.2.1) := LeS.no (by have := ho.1; have := ho.2.1; omega)
  unfold itS
  by_cases y1 : isW tx t 110 = true
  · rw [if_pos y1]
    by_cases y0 : fi = true
    · rw [if_pos y0]
      exact clS_l (nmS_b (lo := 3) (hi := 9) hb).1 (nmS_l hb hl)
    · rw [if_neg y0]; exact h0
  · rw [if_neg y1]
    by_cases y2 : isW tx t 103 = true
    · rw [if_pos y2]
      by_cases y0 : δ.1.2.1 < 6
      · rw [if_pos y0]
        have a1 := (frS_b (n := δ.1.1) (tkn := δ.2.2.2.2.1) (k := δ.1.2.1) hb).1
        have b1 := (nmS_b (lo := 0) (hi := 2) a1).1
        exact clS_l (rwS_b b1).1 (rwS_l b1 (nmS_l a1 (frS_l hb hl)))
      · rw [if_neg y0]; exact h0
    · rw [if_neg y2]
      by_cases y3 : isW tx t 100 = true
      · rw [if_pos y3]
        by_cases y0 : δ.1.2.2.1 < 6
        · rw [if_pos y0]
          have a1 := (frS_b (n := δ.1.1) (tkn := δ.2.2.2.1) (k := δ.1.2.2.1) hb).1
          have b1 := (nmS_b (lo := 1) (hi := 9) a1).1
          exact clS_l (nmS_b (lo := 0) (hi := 1) b1).1 (nmS_l b1 (nmS_l a1 (frS_l hb hl)))
        · rw [if_neg y0]; exact h0
      · rw [if_neg y3]; exact h0
end S32a
/-- all items: a fault, or how many and what is told -/
def rdA (tx : Nat → Nat) (T : Nat) : Nat → Nat → Dr → Tk → Sum Nat (Nat × Dr)
  | 0, k, δ, _ => .inr (k, δ)
  | f + 1, k, δ, t => if t.1 = 0 then .inr (k, δ) else Sum.elim (fun a => .inl a) (fun t' => rdA tx T f (k + 1) (itS tx T (decide (k = 0)) δ t).2 t') (itS tx T (decide (k = 0)) δ t).1
/-- the state in which an item begins -/
def ItI (tx : Nat → Nat) (T k : Nat) (δ : Dr) (t : Tk) : Prop := k ≤ t.2.1 ∧ (k = 0 → δ.1.2.1 = 0 ∧ δ.1.2.2.1 = 0) ∧ DOk δ ∧ TOk tx T t
theorem ItI_n {tx : Nat → Nat} {T k : Nat} {δ : Dr} {t t' : Tk} (h : ItI tx T k δ t) (ht : (itS tx T (decide (k = 0)) δ t).1 = .inr t') : ItI tx T (k + 1) (itS tx T (decide (k = 0)) δ t).2 t' ∧ t.2.1 < t'.2.1 := by
  obtain ⟨h1, h2, h3, h4⟩ := h
  obtain ⟨a1, a2, a3⟩ := itS_ok h3 (fun z => h2 (of_decide_eq_true z)) h4 ht
  exact ⟨⟨by omega, fun z => absurd z (by omega), a1, a2⟩, a3⟩
theorem rdA_ok {tx : Nat → Nat} {T : Nat} : ∀ f k δ t, T - t.2.1 < f → ItI tx T k δ t → (∀ a, rdA tx T f k δ t = .inl a → a ≤ T) ∧ (∀ k' δ', rdA tx T f k δ t = .inr (k', δ') → k' ≤ T ∧ DOk δ') := by
  intro f
  induction f with
  | zero => intro k δ t h; exact absurd h (Nat.not_lt_zero _)
  | succ f ih =>
    intro k δ t hf hI
    obtain ⟨h1, h2, h3, h4⟩ := id hI
    simp only [rdA]
    by_cases z : t.1 = 0
    · rw [if_pos z]
      refine ⟨fun a h => (by cases h), fun k' δ' h => ?_⟩
      cases h
      exact ⟨by have := h4.1; have := h4.2.1; omega, h3⟩
    · rw [if_neg z]
      have hs := h4.2.2.2.1 z
      have hT := h4.2.1
      have hl := itS_l (δ := δ) (fi := decide (k = 0)) h4
      cases e : (itS tx T (decide (k = 0)) δ t).1 with
      | inl a =>
        rw [Sum.elim_inl]
        exact ⟨fun b hb => (by cases hb; exact hl _ e), fun k' δ' h => by cases h⟩
      | inr t' =>
        rw [Sum.elim_inr]
        obtain ⟨n1, n2⟩ := ItI_n hI e
        exact ih _ _ _ (by omega) n1
section S32
variable {p q : Nat} {kn : Nat → Nat} {L : Nat → Nat → Int64} {T : Nat} {tx : Nat → Nat}
def RdO (x : Sum Nat (Nat × Dr)) (r : Int32) : Prop := (∀ a, x = .inl a → r = (-10 : Int32) - nI a) ∧ (∀ k δ, x = .inr (k, δ) → r = nI k)
theorem rd_lp (hp : p = 3 ∨ p = 19) (hqe : 22 - p = q) (hT : T ≤ 140) (htx : ∀ i, i < T → tx i < 256) : ∀ f n k δ t I, T - t.2.1 < f → f ≤ n → ItI tx T k δ t → TxC I T tx → DC I q δ → TkC I t → ∃ I1 r, loopF (fun ag (s : Int32 × Mem) => f_X9_read_18b 1 ag s.1 s.2) n (nI k, (129, I, Rof p kn, L)) = some (r, (129, I1, Rof p kn, L)) ∧ cF p I I1 ∧ RdO (rdA tx T f k δ t) r ∧ (∀ k' δ', rdA tx T f k δ t = .inr (k', δ') → DC I1 q δ') := by
  intro f
  induction f with
  | zero => intro n k δ t I h; exact absurd h (Nat.not_lt_zero _)
  | succ f ih =>
    intro n k δ t I hf hn hI ht hD hk
    obtain ⟨h1, h2, h3, h4⟩ := id hI
    obtain ⟨m, rfl⟩ : ∃ m, n = m + 1 := ⟨n - 1, by omega⟩
    show ∃ I1 r, f_X9_read_18b 1 (loopF (fun ag (s : Int32 × Mem) => f_X9_read_18b 1 ag s.1 s.2) m) (nI k) (129, I, Rof p kn, L) = _ ∧ _
    have ih' := fun k δ t I a b => ih m k δ t I a (show f ≤ m by omega) b
    generalize loopF (fun ag (s : Int32 × Mem) => f_X9_read_18b 1 ag s.1 s.2) m = ag at *
    unfold f_X9_read_18b
    simp only [e_gI, bs, hk.1, rdA]
    by_cases z : t.1 = 0
    · rw [if_pos z, if_pos (show nI t.1 = 0 by rw [z]; rfl)]
      refine ⟨I, _, rfl, cF.rf, ⟨fun a h => (by cases h), fun k' δ' h => by cases h; rfl⟩, fun k' δ' h => by cases h; exact hD⟩
    · have hs := h4.2.2.2.1 z
      have hT' := h4.2.1
      have h4' := h4.2.2.1
      rw [if_neg z, if_neg (show ¬ nI t.1 = 0 from fun h => z ((nI_eq (b := 0) (by omega) (by decide)).mp h)), if_neg (show ¬ (140 : Int32) ≤ nI k from nI_ge (b := 140) (by omega) (by decide))]
      have hit : (if nI k = 0 then f_X9_read_42 ag 1 (nI k) 1 (1 : Int32) (129, I, Rof p kn, L) else f_X9_read_42 ag 1 (nI k) 1 (0 : Int32) (129, I, Rof p kn, L)) = f_X9_read_42 ag 1 (nI k) 1 (bi (decide (k = 0))) (129, I, Rof p kn, L) := by
        by_cases y : k = 0
        · rw [if_pos (show nI k = 0 by rw [y]; rfl), decide_eq_true y]; rfl
        · rw [if_neg (show ¬ nI k = 0 from fun h => y ((nI_eq (b := 0) (by omega) (by decide)).mp h)), decide_eq_false y]; rfl
      rw [hit]
      obtain ⟨I1, r1, r2, r3⟩ := rdI_c (kn := kn) (L := L) (fi := decide (k = 0)) hp hqe hT htx ht hD h3 h4 hk
      unfold f_X9_read_42
      simp only [e_cv, r1, bs]
      cases e : (itS tx T (decide (k = 0)) δ t).1 with
      | inl a =>
        rw [Sum.elim_inl, show bi (snB (.inl a)) = 0 from rfl, if_pos rfl]
        simp only [e_gI, bs, r2.1 a e]
        exact ⟨I1, _, rfl, r3, ⟨fun b hb => (by cases hb; rfl), fun k' δ' h => by cases h⟩, fun k' δ' h => by cases h⟩
      | inr t' =>
        rw [Sum.elim_inr, show bi (snB (.inr t')) = 1 from rfl, if_neg z10, nI_1]
        obtain ⟨n1, n2⟩ := ItI_n hI e
        obtain ⟨x1, x2⟩ := r2.2 t' e
        obtain ⟨I2, r, u1, u2, u3, u4⟩ := ih' _ _ _ I1 (by omega) n1 (TxC_c hp r3 ht) x2 x1
        exact ⟨I2, r, u1, r3.tr u2, u3, u4⟩
/-- what is told at first -/
def dr0 : Dr := ((6, 0, 0, fun _ => 0, fun _ => 0, fun _ => 0), (0, fun _ => 0, fun _ => 0, fun _ => 0, fun _ => 0))
def rdT (tx : Nat → Nat) (T : Nat) : Sum Nat (Nat × Dr) := rdA tx T (T + 1) 0 dr0 (tokE tx T 0)
theorem dr0_ok : DOk dr0 := ⟨⟨by decide, fun g hg => absurd hg (Nat.not_lt_zero _), fun g hg => absurd hg (Nat.not_lt_zero _)⟩, ⟨by decide, fun g hg => absurd hg (Nat.not_lt_zero _), fun g hg => absurd hg (Nat.not_lt_zero _)⟩, fun _ => rfl, rfl⟩
theorem It0 : ItI tx T 0 dr0 (tokE tx T 0) := ⟨Nat.zero_le _, fun _ => ⟨rfl, rfl⟩, dr0_ok, TOk_e (Nat.zero_le _)⟩
theorem rdT_ok : (∀ a, rdT tx T = .inl a → a ≤ T) ∧ (∀ k' δ', rdT tx T = .inr (k', δ') → k' ≤ T ∧ DOk δ') := rdA_ok _ _ _ _ (by omega) It0
theorem read_c {I : Nat → Nat → Int32} (hp : p = 3 ∨ p = 19) (hqe : 22 - p = q) (hT : T ≤ 140) (htx : ∀ i, i < T → tx i < 256) (ht : TxC I T tx) (h0 : I (q + 4) 0 = 0) (hh : ∀ g, g < 6 → I (q + 4 + 4) g = 0) : ∃ I1 r, f_X9_read 1 (129, I, Rof p kn, L) = some (r, (129, I1, Rof p kn, L)) ∧ cF p I I1 ∧ RdO (rdT tx T) r ∧ (∀ k' δ', rdT tx T = .inr (k', δ') → DC I1 q δ') := by
  have hq : isP q := by rw [← hqe]; exact q_ok hp
  have e2 : ∀ J, gR (129, J, Rof p kn, L) 1 9 2 = some q := fun J => by rw [← hqe]; exact e_r2
  have hq3 : 3 ≤ q := by omega
  have hq1 : 1 < q := by omega
  unfold f_X9_read f_X8_empty
  simp only [e2, bs, p_cv hq, p_pI hq, e_pI]
  have cf : cF p I (up2 (up2 (up2 (up2 I q 0 6) q 1 0) q 2 0) 1 5 0) := (((cF.rf.up (cs_0 hp hqe)).up (cs_0 hp hqe)).up (cs_0 hp hqe)).up (by unfold cscr; omega)
  have t1 := TxC_c hp cf ht
  have hD : DC (up2 (up2 (up2 (up2 I q 0 6) q 1 0) q 2 0) 1 5 0) q dr0 := by
    refine ⟨⟨⟨?_, ?_, ?_⟩, fun g hg => absurd hg (Nat.not_lt_zero _), fun g hg => absurd hg (Nat.not_lt_zero _)⟩, ⟨?_, fun g hg => absurd hg (Nat.not_lt_zero _), fun g hg => absurd hg (Nat.not_lt_zero _)⟩, fun g hg => ?_⟩
    · simp only [up2_e]; rw [if_neg (by omega), if_neg (by omega), if_neg (by omega), if_pos (by simp)]; rfl
    · simp only [up2_e]; rw [if_neg (by omega), if_neg (by omega), if_pos (by simp)]; rfl
    · simp only [up2_e]; rw [if_neg (by omega), if_pos (by simp)]; rfl
    · simp only [up2_e]; rw [if_neg (by omega), if_neg (by omega), if_neg (by omega), if_neg (by omega)]; exact h0
    · simp only [up2_e]; rw [if_neg (by omega), if_neg (by omega), if_neg (by omega), if_neg (by omega)]; exact hh g hg
  have h5 : up2 (up2 (up2 (up2 I q 0 6) q 1 0) q 2 0) 1 5 0 1 5 = nI 0 := us
  generalize up2 (up2 (up2 (up2 I q 0 6) q 1 0) q 2 0) 1 5 0 = I0 at *
  obtain ⟨I1, r1, r2, r3⟩ := tok_c (p := p) (kn := kn) (L := L) hT htx t1 (Nat.zero_le _) h5
  simp only [e_cv, r1, bs]
  obtain ⟨I2, r, u1, u2, u3, u4⟩ := rd_lp (kn := kn) (L := L) hp hqe hT htx (T + 1) FU 0 dr0 (tokE tx T 0) I1 (by omega) (by have := FU_big (e := T + 1) (by omega); omega) It0 (TxC_r r2 t1) (DC_a3 r2.a3 hq3 hD) r3
  exact ⟨I2, r, u1, (cf.tr r2.cf).tr u2, u3, u4⟩
end S32
