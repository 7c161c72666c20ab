/-! ===== tokens ===== -/
def spn (q : Nat → Bool) (tx : Nat → Nat) (T : Nat) : Nat → Nat → Nat
  | 0, e => e
  | f + 1, e => if e < T ∧ q (tx e) = true then spn q tx T f (e + 1) else e
def spE (q : Nat → Bool) (tx : Nat → Nat) (T e : Nat) : Nat := spn q tx T (T - e) e
theorem spn_ok (q : Nat → Bool) (tx : Nat → Nat) (T : Nat) : ∀ f e, e ≤ T → T ≤ e + f → e ≤ spn q tx T f e ∧ spn q tx T f e ≤ T ∧ (∀ i, e ≤ i → i < spn q tx T f e → q (tx i) = true) ∧ (spn q tx T f e = T ∨ q (tx (spn q tx T f e)) = false) := by
  intro f
  induction f with
  | zero => intro e h1 h2; exact ⟨Nat.le_refl _, h1, fun i a b => by have : i < e := b; omega, Or.inl (by show e = T; omega)⟩
  | succ f ih =>
    intro e h1 h2
    simp only [spn]
    by_cases z : e < T ∧ q (tx e) = true
    · rw [if_pos z]
      obtain ⟨i1, i2, i3, i4⟩ := ih (e + 1) (by omega) (by omega)
      refine ⟨by omega, i2, fun i a b => ?_, i4⟩
      by_cases y : i = e
      · rw [y]; exact z.2
      · exact i3 i (by omega) b
    · rw [if_neg z]
      refine ⟨Nat.le_refl _, h1, fun i a b => by omega, ?_⟩
      by_cases y : e = T
      · exact Or.inl y
      · right
        cases h : q (tx e)
        · rfl
        · exact absurd ⟨by omega, h⟩ z
theorem spE_ok (q : Nat → Bool) (tx : Nat → Nat) {T e : Nat} (h : e ≤ T) : e ≤ spE q tx T e ∧ spE q tx T e ≤ T ∧ (∀ i, e ≤ i → i < spE q tx T e → q (tx i) = true) ∧ (spE q tx T e = T ∨ q (tx (spE q tx T e)) = false) := spn_ok q tx T (T - e) e h (by omega)
def isS (c : Nat) : Bool := decide (c = 32)
def isL (c : Nat) : Bool := decide (97 ≤ c) && decide (c ≤ 122)
def isD (c : Nat) : Bool := decide (48 ≤ c) && decide (c ≤ 57)
def nvS (tx : Nat → Nat) (a : Nat) : Nat → Nat
  | 0 => 0
  | j + 1 => if 99 < nvS tx a j then nvS tx a j else 10 * nvS tx a j + tx (a + j) - 48
abbrev Tk : Type := Nat × Nat × Nat × Nat
/-- sort, start, end, value of the token behind e -/
def tokE (tx : Nat → Nat) (T e : Nat) : Tk :=
  if spE isS tx T e = T then (0, T, T, 0)
  else if isL (tx (spE isS tx T e)) then (1, spE isS tx T e, spE isL tx T (spE isS tx T e), if spE isL tx T (spE isS tx T e) - spE isS tx T e = 1 then tx (spE isS tx T e) else 0)
  else if isD (tx (spE isS tx T e)) then ((if 99 < nvS tx (spE isS tx T e) (spE isD tx T (spE isS tx T e) - spE isS tx T e) ∨ (tx (spE isS tx T e) = 48 ∧ 1 < spE isD tx T (spE isS tx T e) - spE isS tx T e) then 4 else 2), spE isS tx T e, spE isD tx T (spE isS tx T e), nvS tx (spE isS tx T e) (spE isD tx T (spE isS tx T e) - spE isS tx T e))
  else ((if tx (spE isS tx T e) = 59 then 3 else 4), spE isS tx T e, spE isS tx T e + 1, 0)
def mn100 (x : Nat) : Nat := if 100 < x then 100 else x
theorem nvS_le {tx : Nat → Nat} {a : Nat} : ∀ j, (∀ i, i < j → tx (a + i) ≤ 57) → nvS tx a j ≤ 999 := by
  intro j
  induction j with
  | zero => intro _; exact Nat.zero_le _
  | succ j ih =>
    intro h
    have i1 := ih (fun i hi => h i (by omega))
    have := h j (by omega)
    simp only [nvS]
    split <;> omega
theorem nvS_100 {tx : Nat → Nat} {a j : Nat} (h : 48 ≤ tx (a + j)) : mn100 (nvS tx a (j + 1)) = mn100 (mn100 (nvS tx a j) * 10 + tx (a + j) - 48) := by
  simp only [nvS]
  unfold mn100
  by_cases z : 99 < nvS tx a j
  · rw [if_pos z]; split <;> split <;> omega
  · rw [if_neg z, if_neg (show ¬ 100 < nvS tx a j by omega), Nat.mul_comm]
def Mz : Mem := (0, fun _ _ => 0, fun _ _ => none, fun _ _ => 0)
theorem chr1 : ((List.range 256).all fun c => decide (f_X9_isSmall (nI c) Mz = some (bi (isL c))) && decide (f_X9_isDigit (nI c) Mz = some (bi (isD c))) && decide (f_X12_in (nI c) 97 122 Mz = some (bi (isL c))) && decide (f_X12_in (nI c) 48 57 Mz = some (bi (isD c)))) = true := by decide +kernel
theorem chrs {c : Nat} (M : Mem) (h : c < 256) : f_X9_isSmall (nI c) M = some (bi (isL c)) ∧ f_X9_isDigit (nI c) M = some (bi (isD c)) ∧ f_X12_in (nI c) 97 122 M = some (bi (isL c)) ∧ f_X12_in (nI c) 48 57 M = some (bi (isD c)) := by
  have z := rall chr1 h
  simp only [Bool.and_eq_true, decide_eq_true_eq] at z
  exact ⟨z.1.1.1, z.1.1.2, z.1.2, z.2⟩
theorem isL_i {c : Nat} : isL c = true ↔ 97 ≤ c ∧ c ≤ 122 := by unfold isL; rw [Bool.and_eq_true, decide_eq_true_eq, decide_eq_true_eq]
theorem isD_i {c : Nat} : isD c = true ↔ 48 ≤ c ∧ c ≤ 57 := by unfold isD; rw [Bool.and_eq_true, decide_eq_true_eq, decide_eq_true_eq]
section S27
variable {p : Nat} {kn : Nat → Nat} {I : Nat → Nat → Int32} {R : Nat → Nat → Option Nat} {L : Nat → Nat → Int64} {T : Nat} {tx : Nat → Nat}
def TxC (I : Nat → Nat → Int32) (T : Nat) (tx : Nat → Nat) : Prop := I 1 1 = nI T ∧ ∀ i, i < T → I 2 i = nI (tx i)
def TxM (I : Nat → Nat → Int32) (T : Nat) (tx : Nat → Nat) : Prop := I 112 3 = nI T ∧ ∀ i, i < T → I 113 i = nI (tx i)
/-- only the reader's token has changed -/
def rF (I I1 : Nat → Nat → Int32) : Prop := ∀ a b, ¬ (a = 1 ∧ 3 ≤ b) → I1 a b = I a b
theorem rF.rf : rF I I := fun _ _ _ => rfl
theorem rF.up {I1 : Nat → Nat → Int32} {j : Nat} {v : Int32} (h : rF I I1) (hj : 3 ≤ j) : rF I (up2 I1 1 j v) := fun a b hab => by rw [up2_e, if_neg (by omega)]; exact h a b hab
theorem rF.tr {I1 I2 : Nat → Nat → Int32} (h : rF I I1) (h2 : rF I1 I2) : rF I I2 := fun a b hab => by rw [h2 a b hab]; exact h a b hab
theorem TxC_r {I1 : Nat → Nat → Int32} (h : rF I I1) (ht : TxC I T tx) : TxC I1 T tx := ⟨by rw [h 1 1 (by omega)]; exact ht.1, fun i hi => by rw [h 2 i (by omega)]; exact ht.2 i hi⟩
theorem a2 {j : Nat} (h : j < 140) : aI 21 (129, I, R, L) 2 (nI j) = some (I 2 j) := aI_n (k := 2) (n := 140) (by decide) rfl h (by decide)
theorem a113 {j : Nat} (h : j < 140) : aI 20 (129, I, R, L) 113 (nI j) = some (I 113 j) := aI_n (k := 113) (n := 140) (by decide) rfl h (by decide)
theorem word_c {a : Nat} (hT : T ≤ 140) (htx : ∀ i, i < T → tx i < 256) (ht : TxC I T tx) (ha : a ≤ T) (h5 : I 1 5 = nI a) : ∃ I1, f_X9_nextWord 1 (129, I, Rof p kn, L) = some (129, I1, Rof p kn, L) ∧ rF I I1 ∧ I1 1 3 = 1 ∧ I1 1 4 = I 1 4 ∧ I1 1 5 = nI (spE isL tx T a) := by
  obtain ⟨s1, s2, s3, s4⟩ := spE_ok isL tx ha
  unfold f_X9_nextWord
  simp only [e_pI, bs]
  unfold f_X9_nextWord_5
  refine lupR0 (fun ag (s : Mem) => f_X9_nextWord_5b 1 ag s) (fun j s => ∃ I1, s = (129, I1, Rof p kn, L) ∧ rF I I1 ∧ I1 1 3 = 1 ∧ I1 1 4 = I 1 4 ∧ I1 1 5 = nI (a + j)) (spE isL tx T a - a) (FU_big (by omega)) (fun r => ∃ I1, r = some (129, I1, Rof p kn, L) ∧ rF I I1 ∧ I1 1 3 = 1 ∧ I1 1 4 = I 1 4 ∧ I1 1 5 = nI (spE isL tx T a)) _ ⟨_, rfl, rF.rf.up (by decide), us, by rw [up2_e, if_neg (by omega)], by rw [up2_e, if_neg (by omega)]; exact h5⟩ ?_ ?_
  · rintro s ⟨I1, rfl, hF, e3, e4, e5⟩ ag
    rw [show a + (spE isL tx T a - a) = spE isL tx T a by omega] at e5
    refine ⟨I1, ?_, hF, e3, e4, e5⟩
    have t1 := TxC_r hF ht
    unfold f_X9_nextWord_5b
    simp only [e_gI, bs, e5, t1.1]
    by_cases z : spE isL tx T a = T
    · rw [z, if_pos (nI_le (Nat.le_refl _) (by omega))]
    · have hlt : spE isL tx T a < T := by omega
      rw [if_neg (nI_ge hlt (by omega))]
      simp only [e_r0, bs, a2 (show spE isL tx T a < 140 by omega), t1.2 _ hlt, (chrs _ (htx _ hlt)).1, s4.resolve_left z, bi_f, ↓reduceIte]
  · rintro j s hj ⟨I1, rfl, hF, e3, e4, e5⟩ ag
    have t1 := TxC_r hF ht
    have hlt : a + j < T := by omega
    refine ⟨_, ⟨up2 I1 1 5 (nI (a + (j + 1))), rfl, hF.up (by decide), by rw [up2_e, if_neg (by omega)]; exact e3, by rw [up2_e, if_neg (by omega)]; exact e4, us⟩, ?_⟩
    show f_X9_nextWord_5b 1 ag (129, I1, Rof p kn, L) = _
    unfold f_X9_nextWord_5b
    simp only [e_gI, bs, e5, t1.1]
    rw [if_neg (nI_ge hlt (by omega))]
    simp only [e_r0, bs, a2 (show a + j < 140 by omega), t1.2 _ hlt, (chrs _ (htx _ hlt)).1, s3 _ (show a ≤ a + j by omega) (by omega), bi_t, z10, ↓reduceIte, e_pI, nI_1]
    rfl
theorem numb_c {a : Nat} (hT : T ≤ 140) (htx : ∀ i, i < T → tx i < 256) (ht : TxC I T tx) (ha : a < T) (h4 : I 1 4 = nI a) (h5 : I 1 5 = nI a) : ∃ I1, f_X9_nextNumber 1 (129, I, Rof p kn, L) = some (129, I1, Rof p kn, L) ∧ rF I I1 ∧ I1 1 3 = nI (if 99 < nvS tx a (spE isD tx T a - a) ∨ (tx a = 48 ∧ 1 < spE isD tx T a - a) then 4 else 2) ∧ I1 1 4 = nI a ∧ I1 1 5 = nI (spE isD tx T a) ∧ I1 1 6 = nI (mn100 (nvS tx a (spE isD tx T a - a))) := by
  obtain ⟨s1, s2, s3, s4⟩ := spE_ok isD tx (Nat.le_of_lt ha)
  have hv9 : nvS tx a (spE isD tx T a - a) ≤ 999 := nvS_le _ (fun i hi => ((isD_i.mp (s3 (a + i) (by omega) (by omega))).2))
  have h100 : ∀ x, mn100 x ≤ 100 := fun x => by unfold mn100; split <;> omega
  -- the end
  have fin : ∀ I1, rF I I1 → I1 1 4 = nI a → I1 1 5 = nI (spE isD tx T a) → I1 1 6 = nI (mn100 (nvS tx a (spE isD tx T a - a))) → ∃ I2, f_X9_nextNumber_73 1 (129, I1, Rof p kn, L) = some (129, I2, Rof p kn, L) ∧ rF I I2 ∧ I2 1 3 = nI (if 99 < nvS tx a (spE isD tx T a - a) ∨ (tx a = 48 ∧ 1 < spE isD tx T a - a) then 4 else 2) ∧ I2 1 4 = nI a ∧ I2 1 5 = nI (spE isD tx T a) ∧ I2 1 6 = nI (mn100 (nvS tx a (spE isD tx T a - a))) := by
    intro I1 hF e4 e5 e6
    have t1 := TxC_r hF ht
    refine ⟨up2 I1 1 3 (nI (if 99 < nvS tx a (spE isD tx T a - a) ∨ (tx a = 48 ∧ 1 < spE isD tx T a - a) then 4 else 2)), ?_, hF.up (by decide), us, by rw [up2_e, if_neg (by omega)]; exact e4, by rw [up2_e, if_neg (by omega)]; exact e5, by rw [up2_e, if_neg (by omega)]; exact e6⟩
    generalize nvS tx a (spE isD tx T a - a) = nv at *
    have key : ∀ y : Bool, (99 < nv ∨ y = true ↔ 99 < nv ∨ (tx a = 48 ∧ 1 < spE isD tx T a - a)) → f_X9_nextNumber_105 1 (bi y) (129, I1, Rof p kn, L) = some (129, up2 I1 1 3 (nI (if 99 < nv ∨ (tx a = 48 ∧ 1 < spE isD tx T a - a) then 4 else 2)), Rof p kn, L) := by
      intro y hy
      unfold f_X9_nextNumber_105 f_X9_nextNumber_120 f_X9_nextNumber_125
      simp only [e_gI, bs, e6, e_pI]
      by_cases z : 99 < nv
      · rw [if_pos (show (99 : Int32) < nI (mn100 nv) from nI_lt (a := 99) (by unfold mn100; split <;> omega) (by have := h100 nv; omega)), if_pos (Or.inl z)]; rfl
      · rw [if_neg (show ¬ (99 : Int32) < nI (mn100 nv) from nI_nlt (a := 99) (by unfold mn100; split <;> omega) (by decide))]
        cases y
        · rw [bi_f, if_pos rfl, if_neg (fun q => absurd (hy.mpr q) (by rintro (q | q); exact z q; exact absurd q (by decide)))]; rfl
        · rw [bi_t, if_neg z10, if_pos (hy.mp (Or.inr rfl))]; rfl
    unfold f_X9_nextNumber_73 f_X9_nextNumber_104
    simp only [e_r0, bs, e_gI, e4, a2 (show a < 140 by omega), t1.2 a ha, e5, pk_sub s1]
    by_cases z : tx a = 48
    · rw [if_pos (show nI (tx a) = (48 : Int32) by rw [z]; rfl)]
      by_cases y : spE isD tx T a - a ≤ 1
      · rw [if_pos (show nI (spE isD tx T a - a) ≤ (1 : Int32) from nI_le (b := 1) y (by decide))]
        exact key false ⟨fun h => h.elim Or.inl (fun q => absurd q (by decide)), fun h => h.elim Or.inl (fun q => by omega)⟩
      · rw [if_neg (show ¬ nI (spE isD tx T a - a) ≤ (1 : Int32) from nI_ge (a := 1) (by omega) (by omega))]
        exact key true ⟨fun _ => Or.inr ⟨z, by omega⟩, fun _ => Or.inr rfl⟩
    · rw [if_neg (show ¬ nI (tx a) = (48 : Int32) from fun q => z ((nI_eq (b := 48) (by have := htx a ha; omega) (by decide)).mp q))]
      exact key false ⟨fun h => h.elim Or.inl (fun q => absurd q (by decide)), fun h => h.elim Or.inl (fun q => absurd q.1 z)⟩
  unfold f_X9_nextNumber
  simp only [e_pI, bs]
  unfold f_X9_nextNumber_5
  refine lupR0 (fun ag (s : Mem) => f_X9_nextNumber_5b 1 ag s) (fun j s => ∃ I1, s = (129, I1, Rof p kn, L) ∧ rF I I1 ∧ I1 1 4 = nI a ∧ I1 1 5 = nI (a + j) ∧ I1 1 6 = nI (mn100 (nvS tx a j))) (spE isD tx T a - a) (FU_big (by omega)) (fun r => ∃ I1, r = some (129, I1, Rof p kn, L) ∧ rF I I1 ∧ I1 1 3 = nI (if 99 < nvS tx a (spE isD tx T a - a) ∨ (tx a = 48 ∧ 1 < spE isD tx T a - a) then 4 else 2) ∧ I1 1 4 = nI a ∧ I1 1 5 = nI (spE isD tx T a) ∧ I1 1 6 = nI (mn100 (nvS tx a (spE isD tx T a - a)))) _ ⟨_, rfl, rF.rf.up (by decide), by rw [up2_e, if_neg (by omega)]; exact h4, by rw [up2_e, if_neg (by omega)]; exact h5, us⟩ ?_ ?_
  · rintro s ⟨I1, rfl, hF, e4, e5, e6⟩ ag
    rw [show a + (spE isD tx T a - a) = spE isD tx T a by omega] at e5
    have t1 := TxC_r hF ht
    have hf := fin I1 hF e4 e5 e6
    show ∃ I2, f_X9_nextNumber_5b 1 ag (129, I1, Rof p kn, L) = _ ∧ _
    unfold f_X9_nextNumber_5b
    simp only [e_gI, bs, e5, t1.1]
    by_cases z : spE isD tx T a = T
    · rw [if_pos (nI_le (by omega) (by omega))]; exact hf
    · have hlt : spE isD tx T a < T := by omega
      rw [if_neg (nI_ge hlt (by omega))]
      simp only [e_r0, bs, a2 (show spE isD tx T a < 140 by omega), t1.2 _ hlt, (chrs _ (htx _ hlt)).2.1, s4.resolve_left z, bi_f, ↓reduceIte]
      exact hf
  · rintro j s hj ⟨I1, rfl, hF, e4, e5, e6⟩ ag
    have t1 := TxC_r hF ht
    have hlt : a + j < T := by omega
    have hd := s3 _ (show a ≤ a + j by omega) (show a + j < _ by omega)
    have hd' := isD_i.mp hd
    refine ⟨_, ⟨up2 (up2 I1 1 6 (nI (mn100 (nvS tx a (j + 1))))) 1 5 (nI (a + (j + 1))), rfl, (hF.up (by decide)).up (by decide), by rw [up2_e, if_neg (by omega), up2_e, if_neg (by omega)]; exact e4, us, by rw [up2_e, if_neg (by omega)]; exact us⟩, ?_⟩
    show f_X9_nextNumber_5b 1 ag (129, I1, Rof p kn, L) = _
    have e10 : nI (mn100 (nvS tx a j)) * (10 : Int32) = nI (mn100 (nvS tx a j) * 10) := pk_mul _ 10
    have e48 : nI (mn100 (nvS tx a j) * 10 + tx (a + j)) - (48 : Int32) = nI (mn100 (nvS tx a j) * 10 + tx (a + j) - 48) := pk_sub (b := 48) (by omega)
    have hb := h100 (nvS tx a j)
    have emin : (if (100 : Int32) < nI (mn100 (nvS tx a j) * 10 + tx (a + j) - 48) then (100 : Int32) else nI (mn100 (nvS tx a j) * 10 + tx (a + j) - 48)) = nI (mn100 (nvS tx a (j + 1))) := by
      rw [nvS_100 (by omega)]
      have hxb : mn100 (nvS tx a j) * 10 + tx (a + j) - 48 < 2000 := by omega
      generalize mn100 (nvS tx a j) * 10 + tx (a + j) - 48 = x at *
      unfold mn100
      by_cases z : 100 < x
      · rw [if_pos z]
        by_cases y : x < 2 ^ 31
        · rw [if_pos (show (100 : Int32) < nI x from nI_lt (a := 100) z y)]; rfl
        · exact absurd (show x < 2 ^ 31 from by omega) y
      · rw [if_neg z, if_neg (show ¬ (100 : Int32) < nI x from nI_nlt (a := 100) (by omega) (by decide))]
    have e5' : up2 I1 1 6 (nI (mn100 (nvS tx a (j + 1)))) 1 5 = nI (a + j) := by rw [up2_e, if_neg (by omega)]; exact e5
    unfold f_X9_nextNumber_5b
    simp only [e_gI, bs, e5, t1.1]
    rw [if_neg (nI_ge hlt (by omega))]
    simp only [e_r0, bs, a2 (show a + j < 140 by omega), t1.2 _ hlt, (chrs _ (htx _ hlt)).2.1, hd, bi_t, z10, ↓reduceIte, e6, e10, nI_add, e48, emin, e_pI, e_gI, e5', nI_1]
    rfl
end S27
