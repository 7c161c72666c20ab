/-! ===== the table ===== -/
theorem lay_c : ((List.range 129).all fun a => decide ((lay a).1 = 9 → a = 1) && decide ((lay a).1 = 11 → a = 0)) = true := by decide +kernel
theorem lay_len : layL.length = 129 := by decide +kernel
theorem lay_o {a : Nat} (h : ¬ a < 129) : lay a = (99, 0) := by
  unfold lay
  rw [List.getD_eq_getElem?_getD, List.getElem?_eq_none (by rw [lay_len]; omega)]; rfl
theorem lay9 {a : Nat} (h : (lay a).1 = 9) : a = 1 := by
  by_cases z : a < 129
  · have q := rall lay_c z
    rw [Bool.and_eq_true, decide_eq_true_eq, decide_eq_true_eq] at q
    exact q.1 h
  · rw [lay_o z] at h; exact absurd h (by decide)
theorem lay11 {a : Nat} (h : (lay a).1 = 11) : a = 0 := by
  by_cases z : a < 129
  · have q := rall lay_c z
    rw [Bool.and_eq_true, decide_eq_true_eq, decide_eq_true_eq] at q
    exact q.2 h
  · rw [lay_o z] at h; exact absurd h (by decide)
section S36
variable {p q : Nat} {kn : Nat → Nat} {I : Nat → Nat → Int32} {L : Nat → Nat → Int64} {σ : St}
theorem sZ_0 {R : Nat → Nat → Option Nat} {k j n : Nat} (hk : k < 129) (hl : lay k = (22, n)) (hj : j < n) (hn : n ≤ 1000) : sZ (129, I, R, L) k (nI j) 0 = some (129, up2 I k j 0, R, L) := by
  unfold sZ
  rw [show vp_nar .boolean 0 = 0 by decide]
  exact sA_n hk hl hj hn
theorem z121_0 {R : Nat → Nat → Option Nat} : sZ (129, I, R, L) 121 (0 : Int32) 0 = some (129, up2 I 121 0 0, R, L) := sZ_0 (k := 121) (n := 2) (j := 0) (by decide) rfl (by decide) (by decide)
theorem z121_1 {R : Nat → Nat → Option Nat} : sZ (129, I, R, L) 121 (1 : Int32) 0 = some (129, up2 I 121 1 0, R, L) := sZ_0 (k := 121) (n := 2) (j := 1) (by decide) rfl (by decide) (by decide)
def Set88 (I I1 : Nat → Nat → Int32) : Prop := (∀ b, b < 25 → I1 119 b = I 118 b) ∧ (I1 112 3 = 0 ∧ I1 112 22 = 0 ∧ I1 112 18 = 0 ∧ ∀ i, i < 2 → I1 121 i = 0) ∧ (∀ a b, a < 112 ∨ (113 ≤ a ∧ a ≤ 118) → I1 a b = I a b)
theorem set88_m : ∃ I1, f_X12_settles_88 112 0 (129, I, Rof p kn, L) = some (129, I1, Rof p kn, L) ∧ Set88 I I1 := by
  unfold f_X12_settles_88
  refine lupR0 (fun ag (s : Int32 × Mem) => f_X12_settles_88b 112 ag s.1 s.2) (fun j s => ∃ I1, s = (nI j, (129, I1, Rof p kn, L)) ∧ (∀ b, b < j → I1 119 b = I 118 b) ∧ (∀ a b, a ≠ 119 → I1 a b = I a b)) 25 (FU_big (by decide)) (fun r => ∃ I1, r = some (129, I1, Rof p kn, L) ∧ Set88 I I1) _ ⟨I, rfl, fun b hb => absurd hb (Nat.not_lt_zero _), fun _ _ _ => rfl⟩ ?_ ?_
  · rintro s ⟨I1, rfl, h1, h2⟩ ag
    refine ⟨up2 (up2 (up2 (up2 (up2 I1 112 3 0) 112 22 0) 112 18 0) 121 0 0) 121 1 0, ?_, fun b hb => ?_, ⟨?_, ?_, ?_, fun i hi => ?_⟩, fun a b hab => ?_⟩
    · show f_X12_settles_88b 112 ag (nI 25) (129, I1, Rof p kn, L) = _
      unfold f_X12_settles_88b
      rw [if_pos (by decide)]
      simp only [m_pI, bs, m_r16, z121_0, z121_1]
    · simp only [up2_e]; repeat rw [if_neg (by omega)]
      exact h1 b hb
    · rfl
    · rfl
    · rfl
    · rcases (show i = 0 ∨ i = 1 by omega) with rfl | rfl <;> rfl
    · simp only [up2_e]; repeat rw [if_neg (by omega)]
      exact h2 a b (by omega)
  · rintro j s hj ⟨I1, rfl, h1, h2⟩ ag
    refine ⟨_, ⟨up2 I1 119 j (I 118 j), rfl, fun b hb => ?_, fun a b ha => ?_⟩, ?_⟩
    · rw [up2_e]
      by_cases z : b = j
      · rw [if_pos ⟨rfl, z⟩, z]
      · rw [if_neg (fun q => z q.2)]; exact h1 b (by omega)
    · rw [up2_e, if_neg (fun q => ha q.1)]; exact h2 a b ha
    · show f_X12_settles_88b 112 ag (nI j) (129, I1, Rof p kn, L) = _
      unfold f_X12_settles_88b
      rw [if_neg (show ¬ (25 : Int32) ≤ nI j from nI_ge (b := 25) hj (by decide))]
      simp only [m_r14, m_r13, bs, a118 hj, h2 118 j (by decide), s119 hj, nI_1]
def Set29 (I I1 : Nat → Nat → Int32) : Prop := (∀ b, b < 6 → I1 115 b = I 115 (6 + b) ∧ I1 116 b = I 116 (6 + b) ∧ I1 117 b = I 117 (6 + b)) ∧ (∀ b, b < 25 → I1 119 b = I 118 b) ∧ (I1 112 3 = 0 ∧ I1 112 22 = 0 ∧ I1 112 18 = 0 ∧ ∀ i, i < 2 → I1 121 i = 0) ∧ (∀ a b, a < 112 ∨ (113 ≤ a ∧ a ≤ 114) → I1 a b = I a b)
theorem a12 {R : Nat → Nat → Option Nat} {k j : Nat} (hk : k = 115 ∨ k = 116 ∨ k = 117) (h : j < 12) : aI 20 (129, I, R, L) k (nI j) = some (I k j) := by
  rcases hk with rfl | rfl | rfl
  · exact aI_n (n := 12) (by decide) rfl h (by decide)
  · exact aI_n (n := 12) (by decide) rfl h (by decide)
  · exact aI_n (n := 12) (by decide) rfl h (by decide)
theorem set29_m : ∃ I1, f_X12_settles_29 112 0 (129, I, Rof p kn, L) = some (129, I1, Rof p kn, L) ∧ Set29 I I1 := by
  unfold f_X12_settles_29
  refine lupR0 (fun ag (s : Int32 × Mem) => f_X12_settles_29b 112 ag s.1 s.2) (fun j s => ∃ I1, s = (nI j, (129, I1, Rof p kn, L)) ∧ (∀ b, b < j → I1 115 b = I 115 (6 + b) ∧ I1 116 b = I 116 (6 + b) ∧ I1 117 b = I 117 (6 + b)) ∧ (∀ a b, ¬ (115 ≤ a ∧ a ≤ 117 ∧ b < 6) → I1 a b = I a b)) 6 (FU_big (by decide)) (fun r => ∃ I1, r = some (129, I1, Rof p kn, L) ∧ Set29 I I1) _ ⟨I, rfl, fun b hb => absurd hb (Nat.not_lt_zero _), fun _ _ _ => rfl⟩ ?_ ?_
  · rintro s ⟨I1, rfl, h1, h2⟩ ag
    obtain ⟨I2, r1, r2, r3, r4⟩ := set88_m (p := p) (kn := kn) (I := I1) (L := L)
    refine ⟨I2, ?_, fun b hb => ?_, fun b hb => ?_, r3, fun a b hab => ?_⟩
    · show f_X12_settles_29b 112 ag (nI 6) (129, I1, Rof p kn, L) = _
      unfold f_X12_settles_29b
      rw [if_pos (by decide), r1]
    · rw [r4 _ _ (by omega), r4 _ _ (by omega), r4 _ _ (by omega)]; exact h1 b hb
    · rw [r2 b hb]; exact h2 _ _ (by omega)
    · rw [r4 _ _ (by omega)]; exact h2 _ _ (by omega)
  · rintro j s hj ⟨I1, rfl, h1, h2⟩ ag
    refine ⟨_, ⟨up2 (up2 (up2 I1 115 j (I 115 (6 + j))) 116 j (I 116 (6 + j))) 117 j (I 117 (6 + j)), rfl, fun b hb => ?_, fun a b ha => ?_⟩, ?_⟩
    · simp only [up2_e]
      by_cases z : b = j
      · subst z; simp
      · rw [if_neg (by omega), if_neg (by omega), if_neg (by omega), if_neg (by omega), if_neg (by omega), if_neg (by omega), if_neg (by omega), if_neg (by omega), if_neg (by omega)]; exact h1 b (by omega)
    · simp only [up2_e]; repeat rw [if_neg (by omega)]
      exact h2 a b ha
    · show f_X12_settles_29b 112 ag (nI j) (129, I1, Rof p kn, L) = _
      have e6 : (6 : Int32) + nI j = nI (6 + j) := nI_add 6 _
      have g1 : up2 I1 115 j (I 115 (6 + j)) 116 (6 + j) = I 116 (6 + j) := by rw [up2_e, if_neg (by omega)]; exact h2 _ _ (by omega)
      have g2 : up2 (up2 I1 115 j (I 115 (6 + j))) 116 j (I 116 (6 + j)) 117 (6 + j) = I 117 (6 + j) := by rw [up2_e, if_neg (by omega), up2_e, if_neg (by omega)]; exact h2 _ _ (by omega)
      unfold f_X12_settles_29b
      rw [if_neg (show ¬ (6 : Int32) ≤ nI j from nI_ge (b := 6) hj (by decide))]
      simp only [m_r10, m_r11, m_r12, bs, e6, a12 (Or.inl rfl) (show 6 + j < 12 by omega), a12 (Or.inr (Or.inl rfl)) (show 6 + j < 12 by omega), a12 (Or.inr (Or.inr rfl)) (show 6 + j < 12 by omega), h2 115 (6 + j) (by omega), s115 (show j < 12 by omega), g1, s116 (show j < 12 by omega), g2, s117 (show j < 12 by omega), nI_1]
theorem settles_m : ∃ I1, f_X12_settles 112 (129, I, Rof p kn, L) = some (129, I1, Rof p kn, L) ∧ (∀ b, b < 3 → I1 114 b = I 114 (3 + b)) ∧ (∀ b, b < 6 → I1 115 b = I 115 (6 + b) ∧ I1 116 b = I 116 (6 + b) ∧ I1 117 b = I 117 (6 + b)) ∧ (∀ b, b < 25 → I1 119 b = I 118 b) ∧ (I1 112 3 = 0 ∧ I1 112 22 = 0 ∧ I1 112 18 = 0 ∧ ∀ i, i < 2 → I1 121 i = 0) ∧ loEq I I1 := by
  unfold f_X12_settles f_X12_settles_2
  refine lupR0 (fun ag (s : Int32 × Mem) => f_X12_settles_2b 112 ag s.1 s.2) (fun j s => ∃ I1, s = (nI j, (129, I1, Rof p kn, L)) ∧ (∀ b, b < j → I1 114 b = I 114 (3 + b)) ∧ (∀ a b, ¬ (a = 114 ∧ b < 3) → I1 a b = I a b)) 3 (FU_big (by decide)) (fun r => ∃ I1, r = some (129, I1, Rof p kn, L) ∧ (∀ b, b < 3 → I1 114 b = I 114 (3 + b)) ∧ (∀ b, b < 6 → I1 115 b = I 115 (6 + b) ∧ I1 116 b = I 116 (6 + b) ∧ I1 117 b = I 117 (6 + b)) ∧ (∀ b, b < 25 → I1 119 b = I 118 b) ∧ (I1 112 3 = 0 ∧ I1 112 22 = 0 ∧ I1 112 18 = 0 ∧ ∀ i, i < 2 → I1 121 i = 0) ∧ loEq I I1) _ ⟨I, rfl, fun b hb => absurd hb (Nat.not_lt_zero _), fun _ _ _ => rfl⟩ ?_ ?_
  · rintro s ⟨I1, rfl, h1, h2⟩ ag
    obtain ⟨I2, r1, r2, r3, r4, r5⟩ := set29_m (p := p) (kn := kn) (I := I1) (L := L)
    refine ⟨I2, ?_, fun b hb => ?_, fun b hb => ?_, fun b hb => ?_, r4, fun a b ha => ?_⟩
    · show f_X12_settles_2b 112 ag (nI 3) (129, I1, Rof p kn, L) = _
      unfold f_X12_settles_2b
      rw [if_pos (by decide), r1]
    · rw [r5 _ _ (by omega)]; exact h1 b hb
    · rw [(r2 b hb).1, (r2 b hb).2.1, (r2 b hb).2.2]; exact ⟨h2 _ _ (by omega), h2 _ _ (by omega), h2 _ _ (by omega)⟩
    · rw [r3 b hb]; exact h2 _ _ (by omega)
    · rw [r5 _ _ (by omega)]; exact h2 _ _ (by omega)
  · rintro j s hj ⟨I1, rfl, h1, h2⟩ ag
    refine ⟨_, ⟨up2 I1 114 j (I 114 (3 + j)), rfl, fun b hb => ?_, fun a b ha => ?_⟩, ?_⟩
    · rw [up2_e]
      by_cases z : b = j
      · rw [if_pos ⟨rfl, z⟩, z]
      · rw [if_neg (fun q => z q.2)]; exact h1 b (by omega)
    · rw [up2_e, if_neg (by omega)]; exact h2 a b ha
    · show f_X12_settles_2b 112 ag (nI j) (129, I1, Rof p kn, L) = _
      have e3 : (3 : Int32) + nI j = nI (3 + j) := nI_add 3 _
      have g1 : aI 20 (129, I1, Rof p kn, L) 114 (nI (3 + j)) = some (I1 114 (3 + j)) := aI_n (n := 6) (by decide) rfl (by omega) (by decide)
      have g2 : sI (129, I1, Rof p kn, L) 114 (nI j) (I 114 (3 + j)) = some (129, up2 I1 114 j (I 114 (3 + j)), Rof p kn, L) := sI_n (n := 6) (by decide) rfl (by omega) (by decide)
      unfold f_X12_settles_2b
      rw [if_neg (show ¬ (3 : Int32) ≤ nI j from nI_ge (b := 3) hj (by decide))]
      simp only [m_r9, bs, e3, g1, h2 114 (3 + j) (by omega), g2, nI_1]
/-- what is told, at its start -/
def begS (σ : St) (δ : Dr) : St := (δ.1, δ.2, (0, fun _ => δ.2), (fun _ => 0, fun _ => δ.2), (0, ssd σ, sst σ, ssr σ), (0, stx σ), str σ)
theorem begS_ok {δ : Dr} (h : DOk δ) : SOk (begS σ δ) := ⟨h.1, h.2.1, ⟨Nat.zero_le _, fun i hi => absurd hi (Nat.not_lt_zero _)⟩, fun i _ => ⟨Nat.zero_le _, fun q => absurd (show (0 : Nat) = 1 from q) (by decide)⟩, ⟨Nat.zero_le _, fun i hi => absurd hi (Nat.not_lt_zero _)⟩, ⟨Nat.zero_le _, fun i hi => absurd hi (Nat.not_lt_zero _)⟩⟩
theorem beg_RM {I1 : Nat → Nat → Int32} {δ : Dr} (ok : DOk δ) (hD : DM I δ) (h1 : ∀ b, b < 3 → I1 114 b = I 114 (3 + b)) (h2 : ∀ b, b < 6 → I1 115 b = I 115 (6 + b) ∧ I1 116 b = I 116 (6 + b) ∧ I1 117 b = I 117 (6 + b)) (h3 : ∀ b, b < 25 → I1 119 b = I 118 b) (h4 : I1 112 3 = 0 ∧ I1 112 22 = 0 ∧ I1 112 18 = 0 ∧ ∀ i, i < 2 → I1 121 i = 0) (hL : L 112 1 = str σ) : RM (begS σ δ) I1 L := by
  have hG6 := ok.1.1.2.2.1
  have hD6 := ok.1.1.2.2.2
  obtain ⟨⟨a1, a2, a3⟩, a4, a5, ⟨b1, b2, b3⟩, b4⟩ := hD
  obtain ⟨c1, c2, c3, c4⟩ := h4
  refine ⟨⟨⟨?_, ?_, ?_⟩, fun g hg => ⟨?_, ?_⟩, fun d hd => ?_⟩, ⟨?_, fun d hd => ⟨?_, ?_⟩, fun g hg => ⟨?_, ?_⟩⟩, ⟨c3, fun i hi => absurd hi (Nat.not_lt_zero _)⟩, fun i hi => ⟨c4 i hi, fun q => absurd (show (0 : Nat) = 1 from q) (by decide)⟩, ⟨c2, fun i hi => absurd hi (Nat.not_lt_zero _)⟩, ⟨c1, fun i hi => absurd hi (Nat.not_lt_zero _)⟩, hL⟩
  · rw [h1 0 (by decide)]; exact a1
  · rw [h1 1 (by decide)]; exact a2
  · rw [h1 2 (by decide)]; exact a3
  · have hg' : g < δ.1.2.1 := hg
    rw [(h2 g (by omega)).1]; exact (a4 g hg).1
  · have hg' : g < δ.1.2.1 := hg
    rw [(h2 g (by omega)).2.1]; exact (a4 g hg).2
  · have hd' : d < δ.1.2.2.1 := hd
    rw [(h2 d (by omega)).2.2]; exact a5 d hd
  · rw [h3 0 (by decide)]; exact b1
  · have hd' : d < δ.1.2.2.1 := hd
    rw [Nat.zero_add, h3 _ (by omega)]; exact (b2 d hd).1
  · have hd' : d < δ.1.2.2.1 := hd
    rw [Nat.zero_add, h3 _ (by omega)]; exact (b2 d hd).2
  · have hg' : g < δ.1.2.1 := hg
    rw [Nat.zero_add, h3 _ (by omega)]; exact b3 g hg
  · have hg' : g < δ.1.2.1 := hg
    show _ = nI (δ.2.2.2.2.2 g)
    rw [Nat.zero_add, h3 _ (by omega), ok.2.2.1 g]; exact b4 g (by omega)
theorem Rof_sw (hp : p = 3 ∨ p = 19) (hqe : 22 - p = q) : up2 (up2 (Rof p kn) 1 2 (some p)) 0 4 (some q) = Rof q kn := by
  funext a b
  rw [up2_e, up2_e]
  have hqp : 22 - q = p := by omega
  by_cases h0 : a = 0
  · subst h0
    by_cases hb : b = 4
    · subst hb; rw [if_pos ⟨rfl, rfl⟩]; rfl
    · rw [if_neg (fun z => hb z.2), if_neg (fun z => absurd z.1 (by decide))]
      show ([some 1, some 13, some 17, some 18, some p, some 29, some 34, some 39, none, some 40, some 41, some 42, some 43, some 44, none, some 45] : List (Option Nat)).getD b none = ([some 1, some 13, some 17, some 18, some q, some 29, some 34, some 39, none, some 40, some 41, some 42, some 43, some 44, none, some 45] : List (Option Nat)).getD b none
      match b, hb with
      | 0, _ => rfl
      | 1, _ => rfl
      | 2, _ => rfl
      | 3, _ => rfl
      | 4, h => exact absurd rfl h
      | b + 5, _ => rfl
  · rw [if_neg (fun z => h0 z.1)]
    by_cases h1 : a = 1
    · subst h1
      by_cases hb : b = 2
      · subst hb; rw [if_pos ⟨rfl, rfl⟩]; show some p = some (22 - q); rw [hqp]
      · rw [if_neg (fun z => hb z.2)]
        show (if b = 0 then some 2 else if b = 2 then some (22 - p) else none) = (if b = 0 then some 2 else if b = 2 then some (22 - q) else none)
        rw [if_neg hb, if_neg hb]
    · rw [if_neg (fun z => h1 z.1)]
      have l11 : ¬ (lay a).1 = 11 := fun z => h0 (lay11 z)
      have l9 : ¬ (lay a).1 = 9 := fun z => h1 (lay9 z)
      unfold Rof
      simp only [l11, l9, ↓reduceIte]
end S36
