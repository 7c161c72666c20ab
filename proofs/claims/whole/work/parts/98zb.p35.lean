/-! ===== items, all of them: the model's ===== -/
section S35
variable {p : Nat} {kn : Nat → Nat} {I : Nat → Nat → Int32} {L : Nat → Nat → Int64} {T : Nat} {tx : Nat → Nat}
theorem bad_101 {k a : Nat} (ha : a ≤ 140) (h : I 112 8 = nI a) : f_X12_table_101 112 (nI k) (129, I, Rof p kn, L) = some ((-10 : Int32) - nI a, (129, I, Rof p kn, L)) := by
  have hw : f_X12_isWell 112 (129, I, Rof p kn, L) = some (bi (snB (.inl a))) := well_m (T := 140) (s := .inl a) (by decide) (LeS.no ha) h
  unfold f_X12_table_101
  simp only [m_cv, hw, bs, show bi (snB (.inl a)) = 0 from rfl, ↓reduceIte, m_gI, h]
theorem rd_lm (hT : T ≤ 140) (htx : ∀ i, i < T → tx i < 256) : ∀ f n k δ t I, T - t.2.1 < f → f < n → ItI tx T k δ t → TxM I T tx → DM I δ → StM I (.inr t) → (∀ a, rdA tx T f k δ t = .inl a → ∃ I1, loopF (fun ag (s : Int32 × Mem) => f_X12_table_25b 112 ag s.1 s.2) n (nI k, (129, I, Rof p kn, L)) = some ((-10 : Int32) - nI a, (129, I1, Rof p kn, L)) ∧ mF I I1) ∧ (∀ k' δ', rdA tx T f k δ t = .inr (k', δ') → ∃ I1, loopF (fun ag (s : Int32 × Mem) => f_X12_table_25b 112 ag s.1 s.2) n (nI k, (129, I, Rof p kn, L)) = f_X12_table_101 112 (nI k') (129, I1, Rof p kn, L) ∧ mF I I1 ∧ DM I1 δ' ∧ I1 112 8 = -1) := by
  intro f
  induction f with
  | zero => intro n k δ t I h; exact absurd h (Nat.not_lt_zero _)
  | succ f ih =>
    intro n k δ t I hf hn hI ht hD hs
    obtain ⟨h1, h2, h3, h4⟩ := id hI
    obtain ⟨m, rfl⟩ : ∃ m, n = m + 1 := ⟨n - 1, by omega⟩
    have hT' := h4.2.1
    have hT1 := h4.1
    have h4' := h4.2.2.1
    have hso : SmOk tx T (.inr t) := SmOk_b (Bhd.to h4) LeS.tk
    have e0 : loopF (fun ag (s : Int32 × Mem) => f_X12_table_25b 112 ag s.1 s.2) (m + 1) (nI k, (129, I, Rof p kn, L)) = f_X12_table_25b 112 (loopF (fun ag (s : Int32 × Mem) => f_X12_table_25b 112 ag s.1 s.2) m) (nI k) (129, I, Rof p kn, L) := rfl
    rw [e0]
    simp only [rdA]
    by_cases z : t.1 = 0
    · rw [if_pos z]
      refine ⟨fun a h => (by cases h), fun k' δ' h => ?_⟩
      cases h
      refine ⟨I, ?_, mF.rf, hD, hs.1⟩
      unfold f_X12_table_25b
      simp only [m_cv, well_m (p := p) (kn := kn) (L := L) hT hso.2 hs, show bi (snB (.inr t)) = 1 from rfl, bs, z10, ↓reduceIte, m_gI, hs.2.1]
      rw [if_pos (show nI t.1 = 0 by rw [z]; rfl)]
    · rw [if_neg z]
      have hlt := h4.2.2.2.1 z
      obtain ⟨I1, r1, r2, r3⟩ := itm_m (p := p) (kn := kn) (L := L) (k := k) (ag := loopF (fun ag (s : Int32 × Mem) => f_X12_table_25b 112 ag s.1 s.2) m) (by omega) hT htx ht h4 h3 hs hD z
      rw [r1]
      have hl := itS_l (δ := δ) (fi := decide (k = 0)) h4
      cases e : (itS tx T (decide (k = 0)) δ t).1 with
      | inl a =>
        rw [Sum.elim_inl]
        refine ⟨fun b hb => ?_, fun k' δ' h => by cases h⟩
        cases hb
        have ha := hl a e
        have hst := r3.1
        rw [e] at hst
        obtain ⟨m', rfl⟩ : ∃ m', m = m' + 1 := ⟨m - 1, by omega⟩
        refine ⟨I1, ?_, r2⟩
        show f_X12_table_25b 112 (loopF (fun ag (s : Int32 × Mem) => f_X12_table_25b 112 ag s.1 s.2) m') (nI (k + 1)) (129, I1, Rof p kn, L) = _
        unfold f_X12_table_25b
        simp only [m_cv, well_m (p := p) (kn := kn) (L := L) hT (LeS.no ha) hst, show bi (snB (.inl a)) = 0 from rfl, bs, ↓reduceIte]
        exact bad_101 (by omega) hst
      | inr t' =>
        rw [Sum.elim_inr]
        obtain ⟨n1, n2⟩ := ItI_n hI e
        have hst := r3.1
        rw [e] at hst
        obtain ⟨u1, u2⟩ := ih m (k + 1) _ t' I1 (by omega) (by omega) n1 (TxM_m r2 ht) (r3.2 t' e) hst
        refine ⟨fun a h => ?_, fun k' δ' h => ?_⟩
        · obtain ⟨I2, v1, v2⟩ := u1 a h
          exact ⟨I2, v1, r2.tr v2⟩
        · obtain ⟨I2, v1, v2, v3⟩ := u2 k' δ' h
          exact ⟨I2, v1, r2.tr v2, v3⟩
theorem beg_m : ∃ I1, f_X12_begins 112 (129, I, Rof p kn, L) = some (129, I1, Rof p kn, L) ∧ (I1 114 3 = 6 ∧ I1 114 4 = 0 ∧ I1 114 5 = 0 ∧ ∀ b, b < 25 → I1 118 b = 0) ∧ (∀ a b, ¬ (a = 114 ∧ 3 ≤ b) → a ≠ 118 → I1 a b = I a b) := by
  unfold f_X12_begins
  simp only [m_r9, bs, sany3, sany4, sany5]
  unfold f_X12_begins_24
  refine lupR0 (fun ag (s : Int32 × Mem) => f_X12_begins_24b 112 ag s.1 s.2) (fun j s => ∃ I1, s = (nI j, (129, I1, Rof p kn, L)) ∧ (I1 114 3 = 6 ∧ I1 114 4 = 0 ∧ I1 114 5 = 0 ∧ ∀ b, b < j → I1 118 b = 0) ∧ (∀ a b, ¬ (a = 114 ∧ 3 ≤ b) → a ≠ 118 → I1 a b = I a b)) 25 (FU_big (by decide)) (fun r => ∃ I1, r = some (129, I1, Rof p kn, L) ∧ (I1 114 3 = 6 ∧ I1 114 4 = 0 ∧ I1 114 5 = 0 ∧ ∀ b, b < 25 → I1 118 b = 0) ∧ (∀ a b, ¬ (a = 114 ∧ 3 ≤ b) → a ≠ 118 → I1 a b = I a b)) _ ⟨_, rfl, ⟨rfl, rfl, rfl, fun b hb => absurd hb (Nat.not_lt_zero _)⟩, fun a b h1 h2 => ?_⟩ ?_ ?_
  · simp only [up2_e]; repeat rw [if_neg (by omega)]
  · rintro s ⟨I1, rfl, h1, h2⟩ ag
    refine ⟨I1, ?_, h1, h2⟩
    show f_X12_begins_24b 112 ag (nI 25) (129, I1, Rof p kn, L) = _
    unfold f_X12_begins_24b
    rw [if_pos (by decide)]
  · rintro j s hj ⟨I1, rfl, ⟨a1, a2, a3, a4⟩, h2⟩ ag
    refine ⟨_, ⟨up2 I1 118 j 0, rfl, ⟨by rw [ul (by decide)]; exact a1, by rw [ul (by decide)]; exact a2, by rw [ul (by decide)]; exact a3, fun b hb => ?_⟩, fun a b h3 h4 => ?_⟩, ?_⟩
    · rw [up2_e]
      by_cases z : b = j
      · rw [if_pos ⟨rfl, z⟩]
      · rw [if_neg (fun q => z q.2)]; exact a4 b (by omega)
    · rw [up2_e, if_neg (fun q => h4 q.1)]; exact h2 a b h3 h4
    · show f_X12_begins_24b 112 ag (nI j) (129, I1, Rof p kn, L) = _
      unfold f_X12_begins_24b
      rw [if_neg (show ¬ (25 : Int32) ≤ nI j from nI_ge (b := 25) hj (by decide))]
      simp only [m_r13, bs, s118 hj, nI_1]
theorem DM_0 (h : I 114 3 = 6 ∧ I 114 4 = 0 ∧ I 114 5 = 0 ∧ ∀ b, b < 25 → I 118 b = 0) : DM I dr0 := by
  obtain ⟨a1, a2, a3, a4⟩ := h
  exact ⟨⟨a1, a2, a3⟩, fun g hg => absurd hg (Nat.not_lt_zero _), fun g hg => absurd hg (Nat.not_lt_zero _), ⟨a4 0 (by decide), fun g hg => absurd hg (Nat.not_lt_zero _), fun g hg => absurd hg (Nat.not_lt_zero _)⟩, fun g hg => a4 _ (by omega)⟩
theorem read_m (hT : T ≤ 140) (htx : ∀ i, i < T → tx i < 256) (ht : TxM I T tx) : (∀ a, rdT tx T = .inl a → ∃ I1, f_X12_table 112 (129, I, Rof p kn, L) = some ((-10 : Int32) - nI a, (129, I1, Rof p kn, L)) ∧ mF I I1) ∧ (∀ k' δ', rdT tx T = .inr (k', δ') → ∃ I1, f_X12_table 112 (129, I, Rof p kn, L) = f_X12_table_101 112 (nI k') (129, I1, Rof p kn, L) ∧ mF I I1 ∧ DM I1 δ' ∧ I1 112 8 = -1) := by
  have m0 : mF I (up2 (up2 (up2 I 112 0 0) 112 8 (-1)) 112 4 0) := ((mF.rf.up (by unfold mscr; omega)).up (by unfold mscr; omega)).up (by unfold mscr; omega)
  have h4 : up2 (up2 (up2 I 112 0 0) 112 8 (-1)) 112 4 0 112 4 = nI 0 := us
  have h8 : up2 (up2 (up2 I 112 0 0) 112 8 (-1)) 112 4 0 112 8 = -1 := by rw [up2_e, if_neg (by omega)]; exact us
  unfold f_X12_table
  simp only [m_pI, bs, m_cv]
  generalize up2 (up2 (up2 I 112 0 0) 112 8 (-1)) 112 4 0 = I0 at *
  obtain ⟨I1, b1, b2, b3⟩ := beg_m (p := p) (kn := kn) (I := I0) (L := L)
  have m1 : mF I I1 := fun a b hab => by rw [b3 a b (fun q => hab (by unfold mscr; omega)) (fun q => hab (by unfold mscr; omega))]; exact m0 a b hab
  obtain ⟨I2, a1, a2, a3⟩ := adv_m (p := p) (kn := kn) (L := L) hT htx (TxM_m m1 ht) (Nat.zero_le T) (by rw [b3 112 4 (by omega) (by omega)]; exact h4)
  have k2 : kF I1 I2 := fun a b hab => a2 a b (by omega)
  simp only [b1, bs, m_cv, a1]
  have m2 : mF I I2 := m1.tr k2.mf
  have st : StM I2 (.inr (tokE tx T 0)) := ⟨by rw [a2 112 8 (by omega), b3 112 8 (by omega) (by omega)]; exact h8, a3⟩
  unfold f_X12_table_25
  obtain ⟨u1, u2⟩ := rd_lm (p := p) (kn := kn) (L := L) hT htx (T + 1) FU 0 dr0 (tokE tx T 0) I2 (by omega) (FU_big (by omega)) It0 (TxM_m m2 ht) (DM_h k2.h3 (DM_0 b2)) st
  refine ⟨fun a h => ?_, fun k' δ' h => ?_⟩
  · obtain ⟨I3, v1, v2⟩ := u1 a h
    exact ⟨I3, v1, m2.tr v2⟩
  · obtain ⟨I3, v1, v2, v3⟩ := u2 k' δ' h
    exact ⟨I3, v1, m2.tr v2, v3⟩
end S35
