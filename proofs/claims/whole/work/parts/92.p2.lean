/-! ===== the relation between the two sides ===== -/
abbrev St : Type := PtyS × NowS × (Nat × (Nat → NowS)) × ((Nat → Nat) × (Nat → NowS)) × (Nat × (Nat → Nat) × (Nat → Nat) × (Nat → Nat)) × (Nat × (Nat → Nat)) × Int64
abbrev sP (σ : St) : PtyS := σ.1
abbrev sn (σ : St) : Nat := σ.1.1
abbrev sG (σ : St) : Nat := σ.1.2.1
abbrev sD (σ : St) : Nat := σ.1.2.2.1
abbrev sW (σ : St) : NowS := σ.2.1
abbrev sU (σ : St) : Nat := σ.2.2.1.1
abbrev sun (σ : St) : Nat → NowS := σ.2.2.1.2
abbrev skp (σ : St) : Nat → Nat := σ.2.2.2.1.1
abbrev sim (σ : St) : Nat → NowS := σ.2.2.2.1.2
abbrev sS (σ : St) : Nat := σ.2.2.2.2.1.1
abbrev ssd (σ : St) : Nat → Nat := σ.2.2.2.2.1.2.1
abbrev sst (σ : St) : Nat → Nat := σ.2.2.2.2.1.2.2.1
abbrev ssr (σ : St) : Nat → Nat := σ.2.2.2.2.1.2.2.2
abbrev sT (σ : St) : Nat := σ.2.2.2.2.2.1.1
abbrev stx (σ : St) : Nat → Nat := σ.2.2.2.2.2.1.2
abbrev str (σ : St) : Int64 := σ.2.2.2.2.2.2
def SOk (σ : St) : Prop := PtyOk (sP σ) ∧ NowOk (sn σ) (sG σ) (sD σ) (sW σ) ∧ (sU σ ≤ 10 ∧ ∀ i, i < sU σ → NowOk (sn σ) (sG σ) (sD σ) (sun σ i)) ∧ (∀ i, i < 2 → skp σ i ≤ 1 ∧ (skp σ i = 1 → NowOk (sn σ) (sG σ) (sD σ) (sim σ i))) ∧ (sS σ ≤ 6 ∧ ∀ i, i < sS σ → ssd σ i < sD σ ∧ sst σ i < sn σ ∧ ssr σ i ≤ 1) ∧ (sT σ ≤ 140 ∧ ∀ i, i < sT σ → stx σ i < 256)
theorem okn {σ : St} (ok : SOk σ) : 3 ≤ sn σ ∧ sn σ ≤ 9 ∧ sG σ ≤ 6 ∧ sD σ ≤ 6 := ok.1.1
def KnOk (p : Nat) (kn : Nat → Nat) : Prop := (p = 3 ∨ p = 19) ∧ (∀ i, i < 10 → ∃ j, j < 10 ∧ kn i = 46 + 5 * j) ∧ (∀ i j, i < 10 → j < 10 → kn i = kn j → i = j)
def RC (σ : St) (p : Nat) (kn : Nat → Nat) (I : Nat → Nat → Int32) (L : Nat → Nat → Int64) : Prop :=
  KnOk p kn ∧ PtyC I p (sP σ) ∧ NowC I 29 (sG σ) (sD σ) (sW σ) ∧ (I 0 8 = nI (sU σ) ∧ ∀ i, i < sU σ → NowC I (kn i) (sG σ) (sD σ) (sun σ i)) ∧ (∀ i, i < 2 → I 41 i = nI (skp σ i) ∧ (skp σ i = 1 → NowC I (96 + 5 * i) (sG σ) (sD σ) (sim σ i))) ∧ (I 0 14 = nI (sS σ) ∧ ∀ i, i < sS σ → I 42 i = nI (ssd σ i) ∧ I 43 i = nI (sst σ i) ∧ I 44 i = nI (ssr σ i)) ∧ (I 1 1 = nI (sT σ) ∧ ∀ i, i < sT σ → I 2 i = nI (stx σ i)) ∧ (I 7 0 = 0 ∧ I 23 0 = 0 ∧ ∀ g, g < 6 → I 11 g = 0 ∧ I 27 g = 0) ∧ L 17 5 = str σ
def RM (σ : St) (I : Nat → Nat → Int32) (L : Nat → Nat → Int64) : Prop :=
  PtyM I (sP σ) ∧ NowM I 119 0 (sG σ) (sD σ) (sW σ) ∧ (I 112 18 = nI (sU σ) ∧ ∀ i, i < sU σ → NowM I 122 (25 * i) (sG σ) (sD σ) (sun σ i)) ∧ (∀ i, i < 2 → I 121 i = nI (skp σ i) ∧ (skp σ i = 1 → NowM I 120 (25 * i) (sG σ) (sD σ) (sim σ i))) ∧ (I 112 22 = nI (sS σ) ∧ ∀ i, i < sS σ → I 123 i = nI (ssd σ i) ∧ I 124 i = nI (sst σ i) ∧ I 125 i = nI (ssr σ i)) ∧ (I 112 3 = nI (sT σ) ∧ ∀ i, i < sT σ → I 113 i = nI (stx σ i)) ∧ L 112 1 = str σ
def Rel (M : Mem) : Prop := ∃ (σ : St) (p : Nat) (kn : Nat → Nat) (I : Nat → Nat → Int32) (L : Nat → Nat → Int64), M = (129, I, Rof p kn, L) ∧ SOk σ ∧ RC σ p kn I L ∧ RM σ I L
/-- what the class may change without its state being another -/
def cscr (p a b : Nat) : Prop := (13 ≤ a ∧ a ≤ 17) ∨ a = 12 ∨ a = 28 ∨ (34 ≤ a ∧ a ≤ 38) ∨ a = 45 ∨ (a = 1 ∧ 3 ≤ b) ∨ (p = 19 ∧ 3 ≤ a ∧ a ≤ 12 ∧ ¬ (a = 7 ∧ b = 0) ∧ a ≠ 11) ∨ (p = 3 ∧ 19 ≤ a ∧ a ≤ 28 ∧ ¬ (a = 23 ∧ b = 0) ∧ a ≠ 27)
def mscr (a b : Nat) : Prop := (a = 112 ∧ (b = 0 ∨ (4 ≤ b ∧ b ≤ 8))) ∨ (a = 114 ∧ 3 ≤ b) ∨ ((a = 115 ∨ a = 116 ∨ a = 117) ∧ 6 ≤ b) ∨ a = 118 ∨ 126 ≤ a
theorem NowC_fr {I I1 : Nat → Nat → Int32} {k G D : Nat} {w : NowS} (h : ∀ i b, i ≤ 4 → I1 (k + i) b = I (k + i) b) (hw : NowC I k G D w) : NowC I1 k G D w := by
  refine ⟨by rw [← hw.1]; exact h 0 0 (by omega), fun d hd => ?_, fun g hg => ?_⟩
  · rw [h 1 d (by omega), h 2 d (by omega)]; exact hw.2.1 d hd
  · rw [h 3 g (by omega), h 4 g (by omega)]; exact hw.2.2 g hg
theorem NowM_fr {I I1 : Nat → Nat → Int32} {c o G D : Nat} {w : NowS} (hG : G ≤ 6) (hD : D ≤ 6) (h : ∀ b, o ≤ b → b < o + 25 → I1 c b = I c b) (hw : NowM I c o G D w) : NowM I1 c o G D w := by
  refine ⟨by rw [← hw.1]; exact h o (by omega) (by omega), fun d hd => ?_, fun g hg => ?_⟩
  · rw [h _ (by omega) (by omega), h _ (by omega) (by omega)]; exact hw.2.1 d hd
  · rw [h _ (by omega) (by omega), h _ (by omega) (by omega)]; exact hw.2.2 g hg
theorem RC_fr {σ : St} {p : Nat} {kn : Nat → Nat} {I I1 : Nat → Nat → Int32} {L L1 : Nat → Nat → Int64} (h : ∀ a b, a < 112 → ¬ cscr p a b → I1 a b = I a b) (hL : L1 17 5 = L 17 5) (hU : sU σ ≤ 10) (hr : RC σ p kn I L) : RC σ p kn I1 L1 := by
  obtain ⟨hk, hP, hW, ⟨h8, hun⟩, him, ⟨h14, hs⟩, ⟨hT, htx⟩, ⟨hz1, hz2, hz3⟩, htr⟩ := hr
  have hp := hk.1
  have F : ∀ a b, a < 112 → ¬ cscr p a b → I1 a b = I a b := h
  unfold cscr at F
  refine ⟨hk, ⟨⟨?_, ?_, ?_⟩, fun g hg => ⟨?_, ?_⟩, fun d hd => ?_⟩, NowC_fr (fun i b hi => F _ _ (by omega) (by omega)) hW, ⟨by rw [F _ _ (by omega) (by omega)]; exact h8, fun i hi => NowC_fr (fun j b hj => ?_) (hun i hi)⟩, fun i hi => ⟨by rw [F _ _ (by omega) (by omega)]; exact (him i hi).1, fun hk1 => NowC_fr (fun j b hj => F _ _ (by omega) (by omega)) ((him i hi).2 hk1)⟩, ⟨by rw [F _ _ (by omega) (by omega)]; exact h14, fun i hi => ?_⟩, ⟨by rw [F _ _ (by omega) (by omega)]; exact hT, fun i hi => by rw [F _ _ (by omega) (by omega)]; exact htx i hi⟩, ⟨by rw [F _ _ (by omega) (by omega)]; exact hz1, by rw [F _ _ (by omega) (by omega)]; exact hz2, fun g hg => ⟨by rw [F _ _ (by omega) (by omega)]; exact (hz3 g hg).1, by rw [F _ _ (by omega) (by omega)]; exact (hz3 g hg).2⟩⟩, by rw [hL]; exact htr⟩
  · rw [F _ _ (by omega) (by omega)]; exact hP.1.1
  · rw [F _ _ (by omega) (by omega)]; exact hP.1.2.1
  · rw [F _ _ (by omega) (by omega)]; exact hP.1.2.2
  · rw [F _ _ (by omega) (by omega)]; exact (hP.2.1 g hg).1
  · rw [F _ _ (by omega) (by omega)]; exact (hP.2.1 g hg).2
  · rw [F _ _ (by omega) (by omega)]; exact hP.2.2 d hd
  · obtain ⟨q, hq, e⟩ := hk.2.1 i (by omega)
    rw [e]
    exact F _ _ (by omega) (by omega)
  · rw [F 42 i (by omega) (by omega), F 43 i (by omega) (by omega), F 44 i (by omega) (by omega)]; exact hs i hi
theorem RM_fr {σ : St} {I I1 : Nat → Nat → Int32} {L L1 : Nat → Nat → Int64} (h : ∀ a b, 112 ≤ a → ¬ mscr a b → I1 a b = I a b) (hL : L1 112 1 = L 112 1) (ok : SOk σ) (hr : RM σ I L) : RM σ I1 L1 := by
  obtain ⟨hP, hW, ⟨h18, hun⟩, him, ⟨h22, hs⟩, ⟨hT, htx⟩, htr⟩ := hr
  obtain ⟨hn3, hn9, hG, hD⟩ := ok.1.1
  have F : ∀ a b, 112 ≤ a → ¬ mscr a b → I1 a b = I a b := h
  unfold mscr at F
  refine ⟨⟨⟨?_, ?_, ?_⟩, fun g hg => ⟨?_, ?_⟩, fun d hd => ?_⟩, NowM_fr hG hD (fun b _ hb => F _ _ (by omega) (by omega)) hW, ⟨by rw [F _ _ (by omega) (by omega)]; exact h18, fun i hi => NowM_fr hG hD (fun b _ hb => F _ _ (by omega) (by omega)) (hun i hi)⟩, fun i hi => ⟨by rw [F _ _ (by omega) (by omega)]; exact (him i hi).1, fun hk1 => NowM_fr hG hD (fun b _ hb => F _ _ (by omega) (by omega)) ((him i hi).2 hk1)⟩, ⟨by rw [F _ _ (by omega) (by omega)]; exact h22, fun i hi => ?_⟩, ⟨by rw [F _ _ (by omega) (by omega)]; exact hT, fun i hi => by rw [F _ _ (by omega) (by omega)]; exact htx i hi⟩, by rw [hL]; exact htr⟩
  · rw [F _ _ (by omega) (by omega)]; exact hP.1.1
  · rw [F _ _ (by omega) (by omega)]; exact hP.1.2.1
  · rw [F _ _ (by omega) (by omega)]; exact hP.1.2.2
  · rw [F _ _ (by omega) (by have : g < sG σ := hg; omega)]; exact (hP.2.1 g hg).1
  · rw [F _ _ (by omega) (by have : g < sG σ := hg; omega)]; exact (hP.2.1 g hg).2
  · rw [F _ _ (by omega) (by have : d < sD σ := hd; omega)]; exact hP.2.2 d hd
  · rw [F 123 i (by omega) (by omega), F 124 i (by omega) (by omega), F 125 i (by omega) (by omega)]; exact hs i hi
/-- only the model's cells have changed; only the class's have -/
def loEq {α : Type} (I I1 : Nat → Nat → α) : Prop := ∀ a b, a < 112 → I1 a b = I a b
def hiEq {α : Type} (I I1 : Nat → Nat → α) : Prop := ∀ a b, 112 ≤ a → I1 a b = I a b
theorem RC_lo {σ : St} {p : Nat} {kn : Nat → Nat} {I I1 : Nat → Nat → Int32} {L L1 : Nat → Nat → Int64} (h : loEq I I1) (hL : loEq L L1) (ok : SOk σ) (hr : RC σ p kn I L) : RC σ p kn I1 L1 := RC_fr (fun a b ha _ => h a b ha) (hL 17 5 (by decide)) ok.2.2.1.1 hr
theorem RM_hi {σ : St} {I I1 : Nat → Nat → Int32} {L L1 : Nat → Nat → Int64} (h : hiEq I I1) (hL : hiEq L L1) (ok : SOk σ) (hr : RM σ I L) : RM σ I1 L1 := RM_fr (fun a b ha _ => h a b ha) (hL 112 1 (by decide)) ok hr
theorem loEq.rf {α : Type} {I : Nat → Nat → α} : loEq I I := fun _ _ _ => rfl
theorem hiEq.rf {α : Type} {I : Nat → Nat → α} : hiEq I I := fun _ _ _ => rfl
theorem loEq.up {α : Type} {I I1 : Nat → Nat → α} {k j : Nat} {v : α} (h : loEq I I1) (hk : 112 ≤ k) : loEq I (up2 I1 k j v) := fun a b ha => by unfold up2; rw [if_neg (by omega)]; exact h a b ha
theorem hiEq.up {α : Type} {I I1 : Nat → Nat → α} {k j : Nat} {v : α} (h : hiEq I I1) (hk : k < 112) : hiEq I (up2 I1 k j v) := fun a b ha => by unfold up2; rw [if_neg (by omega)]; exact h a b ha
theorem hiEq.row {α : Type} {I I1 : Nat → Nat → α} {k : Nat} {r : Nat → α} (h : hiEq I I1) (hk : k < 112) : hiEq I (upR I1 k r) := fun a b ha => by unfold upR; rw [if_neg (by omega)]; exact h a b ha
/-- the step, put together: the class's part and the model's part -/
theorem stepI {Rl : Mem → Prop} {f : Option (Int32 × Mem)} {g : Mem → Option (Int32 × Mem)} {r : Int32} {I1 I2 : Nat → Nat → Int32} {R1 R2 : Nat → Nat → Option Nat} {L1 L2 : Nat → Nat → Int64} (h1 : f = some (r, (129, I1, R1, L1))) (h2 : g (129, I1, R1, L1) = some (r, (129, I2, R2, L2))) (h3 : Rl (129, I2, R2, L2)) : StepI f g Rl := ⟨r, _, _, h1, rfl, h2, h3⟩
theorem up2_e {α : Type} {f : Nat → Nat → α} {k j a b : Nat} {v : α} : up2 f k j v a b = if a = k ∧ b = j then v else f a b := Eq.trans rfl rfl
theorem upR_e {α : Type} {f : Nat → Nat → α} {k a b : Nat} {r : Nat → α} : upR f k r a b = if a = k then r b else f a b := Eq.trans rfl rfl
/-! ===== small tests ===== -/
theorem in_no {x : Int32} {m : Nat} {M : Mem} (hm : m < 2 ^ 30) (h : x < 0 ∨ nI m ≤ x) : f_X12_in x 0 (nI m - 1) M = some 0 := by
  unfold f_X12_in f_X12_in_14
  by_cases h0 : x < 0
  · rw [if_pos h0]; rfl
  · rw [if_neg h0, if_pos]
    · rfl
    · have h1 : nI m ≤ x := h.resolve_left h0
      apply Int32.lt_iff_toInt_lt.mpr
      have e1 : (nI m - 1).toInt = (m : Int) - 1 := pk_sub_toInt (a := m) (b := 1) hm (by omega)
      have e2 := Int32.le_iff_toInt_le.mp h1
      rw [nI_toInt (by omega)] at e2
      omega
theorem in_yes {j m : Nat} {M : Mem} (hm : m < 2 ^ 30) (h : j < m) : f_X12_in (nI j) 0 (nI m - 1) M = some 1 := by
  unfold f_X12_in
  rw [if_neg (nI_pos (by omega)), if_neg]
  · rfl
  · intro h1
    have e1 : (nI m - 1).toInt = (m : Int) - 1 := pk_sub_toInt (a := m) (b := 1) hm (by omega)
    have e2 := Int32.lt_iff_toInt_lt.mp h1
    rw [e1, nI_toInt (by omega)] at e2
    omega
section T2
variable {σ : St} {p : Nat} {kn : Nat → Nat} {I : Nat → Nat → Int32} {L : Nat → Nat → Int64}
theorem isG_c_no {x : Int32} (hC : RC σ p kn I L) (ok : SOk σ) (h : x < 0 ∨ nI (sG σ) ≤ x) : f_X11_isGuest 0 x (129, I, Rof p kn, L) = some 0 := by
  have hp := isP_of hC.1.1
  unfold f_X11_isGuest f_X11_isGuest_19
  by_cases h0 : x < 0
  · rw [if_pos h0]; rfl
  · rw [if_neg h0]
    simp only [c_r4, p_gI hp, hC.2.1.1.2.1, Option.bind_some]
    rw [if_pos (h.resolve_left h0)]; rfl
theorem isG_c_yes {g : Nat} (hC : RC σ p kn I L) (ok : SOk σ) (h : g < sG σ) : f_X11_isGuest 0 (nI g) (129, I, Rof p kn, L) = some 1 := by
  have hp := isP_of hC.1.1
  have hG := okn ok
  unfold f_X11_isGuest
  rw [if_neg (nI_pos (by omega))]
  simp only [c_r4, p_gI hp, hC.2.1.1.2.1, Option.bind_some]
  rw [if_neg (nI_ge h (by omega))]; rfl
theorem isD_c_no {x : Int32} (hC : RC σ p kn I L) (ok : SOk σ) (h : x < 0 ∨ nI (sD σ) ≤ x) : f_X11_isDish 0 x (129, I, Rof p kn, L) = some 0 := by
  have hp := isP_of hC.1.1
  unfold f_X11_isDish f_X11_isDish_19
  by_cases h0 : x < 0
  · rw [if_pos h0]; rfl
  · rw [if_neg h0]
    simp only [c_r4, p_gI hp, hC.2.1.1.2.2, Option.bind_some]
    rw [if_pos (h.resolve_left h0)]; rfl
theorem isD_c_yes {d : Nat} (hC : RC σ p kn I L) (ok : SOk σ) (h : d < sD σ) : f_X11_isDish 0 (nI d) (129, I, Rof p kn, L) = some 1 := by
  have hp := isP_of hC.1.1
  have hG := okn ok
  unfold f_X11_isDish
  rw [if_neg (nI_pos (by omega))]
  simp only [c_r4, p_gI hp, hC.2.1.1.2.2, Option.bind_some]
  rw [if_neg (nI_ge h (by omega))]; rfl
theorem isT_c_no {x : Int32} (hC : RC σ p kn I L) (ok : SOk σ) (h : x < 0 ∨ nI (sn σ) ≤ x) : f_X11_isTurn 0 x (129, I, Rof p kn, L) = some 0 := by
  have hp := isP_of hC.1.1
  unfold f_X11_isTurn f_X11_isTurn_19
  by_cases h0 : x < 0
  · rw [if_pos h0]; rfl
  · rw [if_neg h0]
    simp only [c_r4, p_gI hp, hC.2.1.1.1, Option.bind_some]
    rw [if_pos (h.resolve_left h0)]; rfl
theorem isT_c_yes {d : Nat} (hC : RC σ p kn I L) (ok : SOk σ) (h : d < sn σ) : f_X11_isTurn 0 (nI d) (129, I, Rof p kn, L) = some 1 := by
  have hp := isP_of hC.1.1
  have hG := okn ok
  unfold f_X11_isTurn
  rw [if_neg (nI_pos (by omega))]
  simp only [c_r4, p_gI hp, hC.2.1.1.1, Option.bind_some]
  rw [if_neg (nI_ge h (by omega))]; rfl
theorem many0 {R : Nat → Nat → Option Nat} : aI 20 (129, I, R, L) 114 (0 : Int32) = some (I 114 0) := m_aI (j := 0) (by decide) rfl (by decide) (by decide)
theorem many1 {R : Nat → Nat → Option Nat} : aI 20 (129, I, R, L) 114 (1 : Int32) = some (I 114 1) := m_aI (j := 1) (by decide) rfl (by decide) (by decide)
theorem many2 {R : Nat → Nat → Option Nat} : aI 20 (129, I, R, L) 114 (2 : Int32) = some (I 114 2) := m_aI (j := 2) (by decide) rfl (by decide) (by decide)
theorem turn0 {R : Nat → Nat → Option Nat} : aI 20 (129, I, R, L) 119 (0 : Int32) = some (I 119 0) := m_aI (j := 0) (n := 25) (by decide) rfl (by decide) (by decide)
theorem isG_m_no {x : Int32} (hM : RM σ I L) (ok : SOk σ) (h : x < 0 ∨ nI (sG σ) ≤ x) : f_X12_isGuest 112 x (129, I, Rof p kn, L) = some 0 := by
  have hG := okn ok
  unfold f_X12_isGuest
  simp only [m_r9, many1, hM.1.1.2.1, Option.bind_some]
  rw [in_no (by omega) h]; rfl
theorem isG_m_yes {g : Nat} (hM : RM σ I L) (ok : SOk σ) (h : g < sG σ) : f_X12_isGuest 112 (nI g) (129, I, Rof p kn, L) = some 1 := by
  have hG := okn ok
  unfold f_X12_isGuest
  simp only [m_r9, many1, hM.1.1.2.1, Option.bind_some]
  rw [in_yes (by omega) h]; rfl
theorem isD_m_no {x : Int32} (hM : RM σ I L) (ok : SOk σ) (h : x < 0 ∨ nI (sD σ) ≤ x) : f_X12_isDish 112 x (129, I, Rof p kn, L) = some 0 := by
  have hG := okn ok
  unfold f_X12_isDish
  simp only [m_r9, many2, hM.1.1.2.2, Option.bind_some]
  rw [in_no (by omega) h]; rfl
theorem isD_m_yes {g : Nat} (hM : RM σ I L) (ok : SOk σ) (h : g < sD σ) : f_X12_isDish 112 (nI g) (129, I, Rof p kn, L) = some 1 := by
  have hG := okn ok
  unfold f_X12_isDish
  simp only [m_r9, many2, hM.1.1.2.2, Option.bind_some]
  rw [in_yes (by omega) h]; rfl
theorem isT_m_no {x : Int32} (hM : RM σ I L) (ok : SOk σ) (h : x < 0 ∨ nI (sn σ) ≤ x) : f_X12_isSeat 112 x (129, I, Rof p kn, L) = some 0 := by
  have hG := okn ok
  unfold f_X12_isSeat
  simp only [m_r9, many0, hM.1.1.1, Option.bind_some]
  rw [in_no (by omega) h]; rfl
theorem isT_m_yes {g : Nat} (hM : RM σ I L) (ok : SOk σ) (h : g < sn σ) : f_X12_isSeat 112 (nI g) (129, I, Rof p kn, L) = some 1 := by
  have hG := okn ok
  unfold f_X12_isSeat
  simp only [m_r9, many0, hM.1.1.1, Option.bind_some]
  rw [in_yes (by omega) h]; rfl
theorem RM_th (ok : SOk σ) (hM : RM σ I L) : RM σ (up2 I 112 0 0) L := RM_fr (fun a b ha hb => by rw [up2_e, if_neg (fun q => hb (Or.inl ⟨q.1, Or.inl q.2⟩))]) rfl ok hM
theorem RC_th (ok : SOk σ) (hC : RC σ p kn I L) : RC σ p kn (up2 I 112 0 0) L := RC_lo (loEq.rf.up (by decide)) loEq.rf ok hC
theorem Rel_th (ok : SOk σ) (hC : RC σ p kn I L) (hM : RM σ I L) : Rel (129, up2 I 112 0 0, Rof p kn, L) := ⟨σ, p, kn, _, _, rfl, ok, RC_th ok hC, RM_th ok hM⟩
end T2
