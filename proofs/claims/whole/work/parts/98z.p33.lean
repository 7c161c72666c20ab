/-! ===== items: the model's tokens taken ===== -/
def mF (I I1 : Nat → Nat → Int32) : Prop := ∀ a b, ¬ mscr a b → I1 a b = I a b
def kF (I I1 : Nat → Nat → Int32) : Prop := ∀ a b, ¬ (a = 112 ∧ 4 ≤ b ∧ b ≤ 8) → I1 a b = I a b
/-- where the model's reading stands -/
def StM (I : Nat → Nat → Int32) : Sm → Prop
  | .inl a => I 112 8 = nI a
  | .inr t => I 112 8 = -1 ∧ TkM I t
def tkS (tx : Nat → Nat) (T : Nat) (b : Bool) : Sm → Nat × Sm
  | .inl a => (0, .inl a)
  | .inr t => if b = true then (t.2.2.2, .inr (tokE tx T t.2.2.1)) else (0, .inl t.2.1)
def SmOk (tx : Nat → Nat) (T : Nat) (s : Sm) : Prop := (∀ t, s = .inr t → TOk tx T t) ∧ LeS T s
theorem in_b (x a b : Int32) (M : Mem) : ∃ c : Bool, f_X12_in x a b M = some (bi c) := by
  unfold f_X12_in f_X12_in_14
  by_cases h : x < a
  · rw [if_pos h]; exact ⟨false, rfl⟩
  · rw [if_neg h]
    by_cases h2 : b < x
    · rw [if_pos h2]; exact ⟨false, rfl⟩
    · rw [if_neg h2]; exact ⟨true, rfl⟩
theorem in_nat {v lo hi : Nat} (M : Mem) (hv : v < 2 ^ 31) (hlo : lo < 2 ^ 31) (hhi : hi < 2 ^ 31) : f_X12_in (nI v) (nI lo) (nI hi) M = some (bi (decide (lo ≤ v ∧ v ≤ hi))) := by
  unfold f_X12_in f_X12_in_14
  by_cases h : lo ≤ v
  · rw [if_neg (nI_nlt h hv)]
    by_cases h2 : v ≤ hi
    · rw [if_neg (nI_nlt h2 hhi), decide_eq_true ⟨h, h2⟩]; rfl
    · rw [if_pos (nI_lt (by omega) hv), decide_eq_false (by omega)]; rfl
  · rw [if_pos (nI_lt (by omega) hlo), decide_eq_false (by omega)]; rfl
section S33
variable {p : Nat} {kn : Nat → Nat} {I I1 : Nat → Nat → Int32} {L : Nat → Nat → Int64} {T : Nat} {tx : Nat → Nat} {s : Sm} {t : Tk} {δ : Dr}
theorem mF.rf : mF I I := fun _ _ _ => rfl
theorem mF.tr {I2 : Nat → Nat → Int32} (h : mF I I1) (h2 : mF I1 I2) : mF I I2 := fun a b hab => by rw [h2 a b hab]; exact h a b hab
theorem mF.up {k j : Nat} {v : Int32} (h : mF I I1) (hk : mscr k j) : mF I (up2 I1 k j v) := fun a b hab => by rw [up2_e, if_neg (fun z => hab (by rw [z.1, z.2]; exact hk))]; exact h a b hab
theorem kF.mf (h : kF I I1) : mF I I1 := fun a b hab => h a b (fun z => hab (by unfold mscr; omega))
theorem TxM_m (h : mF I I1) (ht : TxM I T tx) : TxM I1 T tx := ⟨by rw [h _ _ (by unfold mscr; omega)]; exact ht.1, fun i hi => by rw [h _ _ (by unfold mscr; omega)]; exact ht.2 i hi⟩
theorem TxM_u {k j : Nat} {v : Int32} (hk : 114 ≤ k) (ht : TxM I T tx) : TxM (up2 I k j v) T tx := ⟨by rw [ul (by omega)]; exact ht.1, fun i hi => by rw [ul (by omega)]; exact ht.2 i hi⟩
theorem StM_u {k j : Nat} {v : Int32} (hk : 113 ≤ k) (h : StM I s) : StM (up2 I k j v) s := by
  cases s with
  | inl a => show up2 I k j v 112 8 = nI a; rw [ul (by omega)]; exact h
  | inr t =>
    obtain ⟨h8, t5, t6, t4, t7⟩ := h
    exact ⟨by rw [ul (by omega)]; exact h8, by rw [ul (by omega)]; exact t5, by rw [ul (by omega)]; exact t6, by rw [ul (by omega)]; exact t4, by rw [ul (by omega)]; exact t7⟩
theorem well_m (hT : T ≤ 140) (hl : LeS T s) (hs : StM I s) : f_X12_isWell 112 (129, I, Rof p kn, L) = some (bi (snB s)) := by
  unfold f_X12_isWell
  cases s with
  | inl a =>
    have h : I 112 8 = nI a := hs
    have ha := hl a rfl
    simp only [m_gI, bs, h]
    rw [if_pos (nI_pos' (by omega))]; rfl
  | inr t =>
    have h : I 112 8 = -1 := hs.1
    simp only [m_gI, bs, h]
    rw [if_neg (by decide)]; rfl
theorem tkS_ok {b : Bool} (ho : SmOk tx T s) : SmOk tx T (tkS tx T b s).2 := by
  cases s with
  | inl a => exact ho
  | inr t =>
    obtain ⟨o1, o2, -⟩ := ho.1 t rfl
    cases b
    · exact ⟨fun t h => (by cases h), LeS.no (by omega)⟩
    · exact ⟨fun t h => (by cases h; exact TOk_e o2), LeS.tk⟩
theorem tk_m {b : Bool} (hT : T ≤ 140) (htx : ∀ i, i < T → tx i < 256) (ht : TxM I T tx) (ho : SmOk tx T s) (hs : StM I s) : ∃ I1, f_X12_takesToken 112 (bi b) (129, I, Rof p kn, L) = some (nI (tkS tx T b s).1, (129, I1, Rof p kn, L)) ∧ kF I I1 ∧ StM I1 (tkS tx T b s).2 := by
  unfold f_X12_takesToken
  simp only [m_cv, well_m (p := p) (kn := kn) (L := L) hT ho.2 hs, bs]
  cases s with
  | inl a =>
    rw [show bi (snB (.inl a)) = 0 from rfl, if_pos rfl]
    exact ⟨I, rfl, fun _ _ _ => rfl, hs⟩
  | inr t =>
    rw [show bi (snB (.inr t)) = 1 from rfl, if_neg z10]
    obtain ⟨o1, o2, -⟩ := ho.1 t rfl
    obtain ⟨h8, t5, t6, t4, t7⟩ := hs
    cases b
    · rw [bi_f, if_pos rfl]
      simp only [m_gI, bs, t6, m_pI]
      exact ⟨_, rfl, fun a b hab => by rw [up2_e, if_neg (by omega)], us⟩
    · rw [bi_t, if_neg z10]
      obtain ⟨I1, a1, a2, a3⟩ := adv_m (p := p) (kn := kn) (L := L) hT htx ht o2 t4
      simp only [m_gI, bs, t7, a1]
      exact ⟨I1, rfl, fun a b hab => a2 a b (by omega), by rw [a2 112 8 (by omega)]; exact h8, a3⟩
theorem nmS_t {lo hi : Nat} (h : t.1 = 2 ∧ lo ≤ t.2.2.2 ∧ t.2.2.2 ≤ hi) : nmS tx T lo hi (.inr t) = (t.2.2.2, .inr (tokE tx T t.2.2.1)) := if_pos h
theorem nmS_f {lo hi : Nat} (h : ¬ (t.1 = 2 ∧ lo ≤ t.2.2.2 ∧ t.2.2.2 ≤ hi)) : nmS tx T lo hi (.inr t) = (0, .inl t.2.1) := if_neg h
theorem frS_t {n k : Nat} {tkn : Nat → Nat} (h : (t.1 = 2 ∧ t.2.2.2 ≤ n - 1) ∧ emB tkn t.2.2.2 k = true) : frS tx T n tkn k (.inr t) = (t.2.2.2, .inr (tokE tx T t.2.2.1)) := if_pos h
theorem frS_f {n k : Nat} {tkn : Nat → Nat} (h : ¬ ((t.1 = 2 ∧ t.2.2.2 ≤ n - 1) ∧ emB tkn t.2.2.2 k = true)) : frS tx T n tkn k (.inr t) = (0, .inl t.2.1) := if_neg h
theorem num_m {lo hi : Nat} {x1 x2 : Int32} (h1 : x1 = nI lo) (h2 : x2 = nI hi) (hlo : lo < 100) (hhi : hi < 100) (hT : T ≤ 140) (htx : ∀ i, i < T → tx i < 256) (ht : TxM I T tx) (ho : SmOk tx T s) (hs : StM I s) : ∃ I1, f_X12_number 112 x1 x2 (129, I, Rof p kn, L) = some (nI (nmS tx T lo hi s).1, (129, I1, Rof p kn, L)) ∧ kF I I1 ∧ StM I1 (nmS tx T lo hi s).2 := by
  subst h1 h2
  have key : ∀ b, tkS tx T b s = nmS tx T lo hi s → ∃ I1, f_X12_number_26 112 (bi b) (129, I, Rof p kn, L) = some (nI (nmS tx T lo hi s).1, (129, I1, Rof p kn, L)) ∧ kF I I1 ∧ StM I1 (nmS tx T lo hi s).2 := by
    intro b hb
    obtain ⟨I1, a1, a2, a3⟩ := tk_m (p := p) (kn := kn) (L := L) (b := b) hT htx ht ho hs
    rw [hb] at a1 a3
    refine ⟨I1, ?_, a2, a3⟩
    unfold f_X12_number_26
    simp only [m_cv, a1, bs]
  unfold f_X12_number f_X12_number_25
  simp only [m_gI, bs]
  cases s with
  | inl a =>
    by_cases z : I 112 5 = 2
    · rw [if_pos z]
      obtain ⟨c, hc⟩ := in_b (I 112 7) (nI lo) (nI hi) (129, I, Rof p kn, L)
      rw [hc, bs]
      cases c
      · rw [bi_f, if_pos rfl]; exact key false rfl
      · rw [bi_t, if_neg z10]; exact key true rfl
    · rw [if_neg z]; exact key false rfl
  | inr t =>
    obtain ⟨o1, o2, o3, o4, o5, o6⟩ := ho.1 t rfl
    obtain ⟨h8, t5, t6, t4, t7⟩ := hs
    simp only [t5, t7]
    by_cases z : t.1 = 2
    · have hv := o5 z
      rw [if_pos (show nI t.1 = (2 : Int32) by rw [z]; rfl), in_nat _ (by omega) (by omega) (by omega), bs]
      by_cases y : lo ≤ t.2.2.2 ∧ t.2.2.2 ≤ hi
      · rw [decide_eq_true y, bi_t, if_neg z10]
        exact key true (nmS_t ⟨z, y⟩).symm
      · rw [decide_eq_false y, bi_f, if_pos rfl]
        exact key false (nmS_f (fun q => y q.2)).symm
    · rw [if_neg (show ¬ nI t.1 = (2 : Int32) from fun q => z ((nI_eq (b := 2) (by omega) (by decide)).mp q))]
      exact key false (nmS_f (fun q => z q.1)).symm
theorem a118 {R : Nat → Nat → Option Nat} {j : Nat} (h : j < 25) : aI 20 (129, I, R, L) 118 (nI j) = some (I 118 j) := aI_n (k := 118) (n := 25) (by decide) rfl h (by decide)
theorem s118 {R : Nat → Nat → Option Nat} {j : Nat} {v : Int32} (h : j < 25) : sI (129, I, R, L) 118 (nI j) v = some (129, up2 I 118 j v, R, L) := sI_n (k := 118) (n := 25) (by decide) rfl h (by decide)
theorem s115 {R : Nat → Nat → Option Nat} {j : Nat} {v : Int32} (h : j < 12) : sI (129, I, R, L) 115 (nI j) v = some (129, up2 I 115 j v, R, L) := sI_n (k := 115) (n := 12) (by decide) rfl h (by decide)
theorem s116 {R : Nat → Nat → Option Nat} {j : Nat} {v : Int32} (h : j < 12) : sI (129, I, R, L) 116 (nI j) v = some (129, up2 I 116 j v, R, L) := sI_n (k := 116) (n := 12) (by decide) rfl h (by decide)
theorem s117 {R : Nat → Nat → Option Nat} {j : Nat} {v : Int32} (h : j < 12) : sI (129, I, R, L) 117 (nI j) v = some (129, up2 I 117 j v, R, L) := sI_n (k := 117) (n := 12) (by decide) rfl h (by decide)
theorem many3 {R : Nat → Nat → Option Nat} : aI 20 (129, I, R, L) 114 (3 : Int32) = some (I 114 3) := m_aI (j := 3) (by decide) rfl (by decide) (by decide)
theorem many4 {R : Nat → Nat → Option Nat} : aI 20 (129, I, R, L) 114 (4 : Int32) = some (I 114 4) := m_aI (j := 4) (by decide) rfl (by decide) (by decide)
theorem many5 {R : Nat → Nat → Option Nat} : aI 20 (129, I, R, L) 114 (5 : Int32) = some (I 114 5) := m_aI (j := 5) (by decide) rfl (by decide) (by decide)
theorem sany3 {R : Nat → Nat → Option Nat} {v : Int32} : sI (129, I, R, L) 114 (3 : Int32) v = some (129, up2 I 114 3 v, R, L) := sI_n (k := 114) (n := 6) (j := 3) (by decide) rfl (by decide) (by decide)
theorem sany4 {R : Nat → Nat → Option Nat} {v : Int32} : sI (129, I, R, L) 114 (4 : Int32) v = some (129, up2 I 114 4 v, R, L) := sI_n (k := 114) (n := 6) (j := 4) (by decide) rfl (by decide) (by decide)
theorem sany5 {R : Nat → Nat → Option Nat} {v : Int32} : sI (129, I, R, L) 114 (5 : Int32) v = some (129, up2 I 114 5 v, R, L) := sI_n (k := 114) (n := 6) (j := 5) (by decide) rfl (by decide) (by decide)
theorem fre_m {fo k n : Nat} {x1 : Int32} {tkn : Nat → Nat} (hx : x1 = nI fo) (hfo : fo + 6 ≤ 25) (hk : k ≤ 6) (hI : ∀ i, i < k → I 118 (fo + i) = nI (tkn i) ∧ tkn i < 100) (hn : I 114 3 = nI n) (hn3 : 3 ≤ n) (hn9 : n ≤ 9) (hT : T ≤ 140) (htx : ∀ i, i < T → tx i < 256) (ht : TxM I T tx) (ho : TOk tx T t) (hs : StM I (.inr t)) : ∃ I1, f_X12_free 112 x1 (nI k) (129, I, Rof p kn, L) = some (nI (frS tx T n tkn k (.inr t)).1, (129, I1, Rof p kn, L)) ∧ kF I I1 ∧ StM I1 (frS tx T n tkn k (.inr t)).2 := by
  subst hx
  have ho' : SmOk tx T (.inr t) := ⟨fun u h => (by cases h; exact ho), LeS.tk⟩
  have key : ∀ b, tkS tx T b (.inr t) = frS tx T n tkn k (.inr t) → ∃ I1, f_X12_free_74 112 (bi b) (129, I, Rof p kn, L) = some (nI (frS tx T n tkn k (.inr t)).1, (129, I1, Rof p kn, L)) ∧ kF I I1 ∧ StM I1 (frS tx T n tkn k (.inr t)).2 := by
    intro b hb
    obtain ⟨I1, a1, a2, a3⟩ := tk_m (p := p) (kn := kn) (L := L) (b := b) hT htx ht ho' hs
    rw [hb] at a1 a3
    refine ⟨I1, ?_, a2, a3⟩
    unfold f_X12_free_74
    simp only [m_cv, a1, bs]
  have k0 : f_X12_free_31 112 (nI fo) (nI k) (129, I, Rof p kn, L) = f_X12_free_74 112 (bi false) (129, I, Rof p kn, L) := by
    unfold f_X12_free_31 f_X12_free_36
    refine lup0 (fun ag (s : Int32 × Int32) => f_X12_free_36b 112 (nI fo) (nI k) (129, I, Rof p kn, L) ag s.1 s.2) (fun _ => ((0 : Int32), (0 : Int32))) 0 (FU_big (by omega)) _ (fun ag => ?_) (fun j hj => absurd hj (Nat.not_lt_zero _))
    show f_X12_free_36b 112 (nI fo) (nI k) (129, I, Rof p kn, L) ag 0 0 = _
    unfold f_X12_free_36b
    rw [if_pos (show (0 : Int32) = 0 from rfl), ite_self, bi_f]
  obtain ⟨o1, o2, o3, o4, o5, o6⟩ := ho
  obtain ⟨h8, t5, t6, t4, t7⟩ := id hs
  have e1 : nI n - (1 : Int32) = nI (n - 1) := pk_sub (b := 1) (by omega)
  unfold f_X12_free
  simp only [m_gI, bs, t5, t7, m_r9, many3, hn, e1]
  by_cases z : t.1 = 2
  · have hv := o5 z
    rw [if_pos (show nI t.1 = (2 : Int32) by rw [z]; rfl), show (0 : Int32) = nI 0 from rfl, in_nat _ (by omega) (by omega) (by omega), bs]
    by_cases y : 0 ≤ t.2.2.2 ∧ t.2.2.2 ≤ n - 1
    · rw [decide_eq_true y, bi_t, show nI 0 = (0 : Int32) from rfl, if_neg z10]
      have k1 : f_X12_free_36 112 (nI fo) (nI k) (129, I, Rof p kn, L) 1 0 = f_X12_free_74 112 (bi (emB tkn t.2.2.2 k)) (129, I, Rof p kn, L) := by
        unfold f_X12_free_36
        refine lupRX0 (fun ag (s : Int32 × Int32) => f_X12_free_36b 112 (nI fo) (nI k) (129, I, Rof p kn, L) ag s.1 s.2) (fun j s => s = (bi (emB tkn t.2.2.2 j), nI j)) k (FU_big (by omega)) (fun r => r = f_X12_free_74 112 (bi (emB tkn t.2.2.2 k)) (129, I, Rof p kn, L)) _ rfl ?_ ?_
        · rintro s rfl ag
          show f_X12_free_36b 112 (nI fo) (nI k) (129, I, Rof p kn, L) ag (bi (emB tkn t.2.2.2 k)) (nI k) = _
          unfold f_X12_free_36b
          rw [if_pos (nI_le (Nat.le_refl _) (by omega))]
        · rintro j s hj rfl ag
          show f_X12_free_36b 112 (nI fo) (nI k) (129, I, Rof p kn, L) ag (bi (emB tkn t.2.2.2 j)) (nI j) = _ ∨ ∃ s', _ ∧ f_X12_free_36b 112 (nI fo) (nI k) (129, I, Rof p kn, L) ag (bi (emB tkn t.2.2.2 j)) (nI j) = ag s'
          unfold f_X12_free_36b
          rw [if_neg (nI_ge hj (by omega))]
          cases w : emB tkn t.2.2.2 j
          · left
            rw [bi_f, if_pos rfl, emB_f w k (by omega)]; rfl
          · right
            have he : emB tkn t.2.2.2 (j + 1) = (emB tkn t.2.2.2 j && !(tkn j == t.2.2.2)) := rfl
            rw [w, Bool.true_and] at he
            obtain ⟨i1, i2⟩ := hI j hj
            refine ⟨_, rfl, ?_⟩
            rw [bi_t, if_neg z10]
            simp only [m_r13, bs, nI_add, a118 (show fo + j < 25 by omega), i1, m_gI, t7, nI_1, he]
            by_cases x : tkn j = t.2.2.2
            · rw [if_pos (by rw [x]), show (tkn j == t.2.2.2) = true from by rw [x]; exact beq_self_eq_true _]; rfl
            · rw [if_neg (fun q => x ((nI_eq (by omega) (by omega)).mp q)), show (tkn j == t.2.2.2) = false from beq_eq_false_iff_ne.mpr x]; rfl
      rw [k1]
      cases w : emB tkn t.2.2.2 k
      · exact key false (frS_f (fun q => by rw [w] at q; exact absurd q.2 (by decide))).symm
      · exact key true (frS_t ⟨⟨z, y.2⟩, w⟩).symm
    · rw [decide_eq_false y, bi_f, if_pos (show (0 : Int32) = nI 0 from rfl), k0]
      exact key false (frS_f (fun q => y ⟨Nat.zero_le _, q.1.2⟩)).symm
  · rw [if_neg (show ¬ nI t.1 = (2 : Int32) from fun q => z ((nI_eq (b := 2) (by omega) (by decide)).mp q)), k0]
    exact key false (frS_f (fun q => z q.1.1)).symm
def RwP (p : Nat) (kn : Nat → Nat) (I : Nat → Nat → Int32) (L : Nat → Nat → Int64) (tx : Nat → Nat) (T : Nat) (s : Sm) (r : Option (Int32 × Mem)) : Prop := ∃ I1 v, r = some (v, (129, I1, Rof p kn, L)) ∧ kF I I1 ∧ StM I1 (rwS tx T s).2 ∧ (∀ t, (rwS tx T s).2 = .inr t → v = nI (rwS tx T s).1)
theorem row_m (hT : T ≤ 140) (htx : ∀ i, i < T → tx i < 256) (ht : TxM I T tx) (ho : SmOk tx T s) (hs : StM I s) : RwP p kn I L tx T s (f_X12_lettersRow 112 (129, I, Rof p kn, L)) := by
  have key : ∀ b v, (tkS tx T b s).2 = (rwS tx T s).2 → (∀ t, (rwS tx T s).2 = .inr t → v = nI (rwS tx T s).1) → RwP p kn I L tx T s (f_X12_lettersRow_103 112 (bi b) v (129, I, Rof p kn, L)) := by
    intro b v hb hv
    obtain ⟨I1, a1, a2, a3⟩ := tk_m (p := p) (kn := kn) (L := L) (b := b) hT htx ht ho hs
    rw [hb] at a3
    refine ⟨I1, v, ?_, a2, a3, hv⟩
    unfold f_X12_lettersRow_103
    simp only [m_cv, a1, bs]
  have k0 : ∀ x1, f_X12_lettersRow_39 112 x1 (129, I, Rof p kn, L) = f_X12_lettersRow_103 112 (bi false) 0 (129, I, Rof p kn, L) := by
    intro x1
    unfold f_X12_lettersRow_39 f_X12_lettersRow_46
    refine lup0 (fun ag (s : Int32 × Int32 × Int32) => f_X12_lettersRow_46b 112 x1 (129, I, Rof p kn, L) ag s.1 s.2.1 s.2.2) (fun _ => ((0 : Int32), (0 : Int32), (0 : Int32))) 0 (FU_big (by omega)) _ (fun ag => ?_) (fun j hj => absurd hj (Nat.not_lt_zero _))
    show f_X12_lettersRow_46b 112 x1 (129, I, Rof p kn, L) ag 0 0 0 = _
    unfold f_X12_lettersRow_46b
    rw [if_pos (show (0 : Int32) = 0 from rfl), ite_self, bi_f]
  unfold f_X12_lettersRow
  simp only [m_gI, bs, m_cv, well_m (p := p) (kn := kn) (L := L) hT ho.2 hs]
  cases s with
  | inl a =>
    rw [show bi (snB (.inl a)) = 0 from rfl, if_pos rfl, k0]
    exact key false 0 rfl (fun t h => by cases h)
  | inr t =>
    rw [show bi (snB (.inr t)) = 1 from rfl, if_neg z10]
    obtain ⟨o1, o2, o3, o4, o5, o6⟩ := ho.1 t rfl
    obtain ⟨h8, t5, t6, t4, t7⟩ := id hs
    obtain ⟨so, a, b, v⟩ := t
    simp only at *
    simp only [t5, t6, t4, pk_sub o1]
    have hrw : rwS tx T (.inr (so, a, b, v)) = if (so = 1 ∧ b - a ≤ 6) ∧ rwB tx a (b - a) = true then (rwV tx a (b - a), .inr (tokE tx T b)) else (0, .inl a) := rfl
    have no : ¬ ((so = 1 ∧ b - a ≤ 6) ∧ rwB tx a (b - a) = true) → ∀ v', RwP p kn I L tx T (.inr (so, a, b, v)) (f_X12_lettersRow_103 112 (bi false) v' (129, I, Rof p kn, L)) := fun h v' => by
      have e : rwS tx T (.inr (so, a, b, v)) = (0, .inl a) := by rw [hrw, if_neg h]
      exact key false v' (by rw [e]; rfl) (fun t q => by rw [e] at q; cases q)
    by_cases z : so = 1
    · have hab := o4 (by omega)
      rw [if_pos (show nI so = (1 : Int32) by rw [z]; rfl)]
      have hi : f_X12_in (nI (b - a)) (1 : Int32) (6 : Int32) (129, I, Rof p kn, L) = some (bi (decide (1 ≤ b - a ∧ b - a ≤ 6))) := in_nat (lo := 1) (hi := 6) _ (by omega) (by decide) (by decide)
      rw [hi, bs]
      by_cases y : b - a ≤ 6
      · rw [decide_eq_true ⟨by omega, y⟩, bi_t, if_neg z10]
        have hl := (o6 z).1
        unfold f_X12_lettersRow_46
        refine lupRX0 (fun ag (s : Int32 × Int32 × Int32) => f_X12_lettersRow_46b 112 (nI (b - a)) (129, I, Rof p kn, L) ag s.1 s.2.1 s.2.2) (fun j s => ∃ v', s = (bi (rwB tx a j), v', nI j) ∧ (rwB tx a j = true → v' = nI (rwV tx a j))) (b - a) (FU_big (by omega)) (RwP p kn I L tx T (.inr (so, a, b, v))) _ ⟨_, rfl, fun _ => rfl⟩ ?_ ?_
        · rintro s ⟨v', rfl, hv⟩ ag
          show RwP p kn I L tx T (.inr (so, a, b, v)) (f_X12_lettersRow_46b 112 (nI (b - a)) (129, I, Rof p kn, L) ag (bi (rwB tx a (b - a))) v' (nI (b - a)))
          unfold f_X12_lettersRow_46b
          rw [if_pos (nI_le (Nat.le_refl _) (by omega))]
          cases w : rwB tx a (b - a)
          · exact no (fun q => by rw [w] at q; exact absurd q.2 (by decide)) _
          · have e : rwS tx T (.inr (so, a, b, v)) = (rwV tx a (b - a), .inr (tokE tx T b)) := by rw [hrw, if_pos ⟨⟨z, y⟩, w⟩]
            exact key true v' (by rw [e]; rfl) (fun t _ => by rw [e]; exact hv w)
        · rintro j s hj ⟨v', rfl, hv⟩ ag
          show RwP p kn I L tx T (.inr (so, a, b, v)) (f_X12_lettersRow_46b 112 (nI (b - a)) (129, I, Rof p kn, L) ag (bi (rwB tx a j)) v' (nI j)) ∨ ∃ s', _ ∧ f_X12_lettersRow_46b 112 (nI (b - a)) (129, I, Rof p kn, L) ag (bi (rwB tx a j)) v' (nI j) = ag s'
          unfold f_X12_lettersRow_46b
          rw [if_neg (nI_ge hj (by omega))]
          cases w : rwB tx a j
          · left
            have hf : rwB tx a (b - a) = false := allB_f (i := j) w _ (by omega)
            rw [bi_f, if_pos rfl]
            exact no (fun q => by rw [hf] at q; exact absurd q.2 (by decide)) _
          · right
            rw [bi_t, if_neg z10]
            have hrb : rwB tx a (j + 1) = (rwB tx a j && decide (tx (a + j) ≤ 102)) := rfl
            rw [w, Bool.true_and] at hrb
            have hlt : a + j < T := by omega
            have hlj := isL_i.mp (hl (a + j) (by omega) (by omega))
            have hin : f_X12_in (nI (tx (a + j))) (97 : Int32) (102 : Int32) (129, I, Rof p kn, L) = some (bi (decide (tx (a + j) ≤ 102))) := by
              have q := in_nat (v := tx (a + j)) (lo := 97) (hi := 102) (129, I, Rof p kn, L) (by omega) (by decide) (by decide)
              rw [show decide (97 ≤ tx (a + j) ∧ tx (a + j) ≤ 102) = decide (tx (a + j) ≤ 102) from decide_eq_decide.mpr ⟨fun h => h.2, fun h => ⟨hlj.1, h⟩⟩] at q
              exact q
            have e97 : nI (tx (a + j)) - (97 : Int32) = nI (tx (a + j) - 97) := pk_sub (b := 97) hlj.1
            have hlt' : lt_ tx T (a + j) = nI (tx (a + j)) := if_pos hlt
            simp only [m_gI, bs, t6, nI_add, m_cv, let_m (p := p) (kn := kn) (L := L) hT ht (show a + j ≤ T by omega), hlt', hin, nI_1, e97, or_0]
            cases x : decide (tx (a + j) ≤ 102)
            · refine ⟨(bi (rwB tx a (j + 1)), v', nI (j + 1)), ⟨v', rfl, fun q => ?_⟩, ?_⟩
              · rw [hrb, x] at q; cases q
              · rw [hrb, x, bi_f, if_pos rfl]
            · have hx := of_decide_eq_true x
              have h64 : rwV tx a j < 64 := rwV_64 j (fun i hi => ⟨(isL_i.mp (hl (a + i) (by omega) (by omega))).1, of_decide_eq_true ((allB_t (f := fun i => decide (tx (a + i) ≤ 102)) _).mp w i hi)⟩)
              refine ⟨(bi (rwB tx a (j + 1)), nI (rwV tx a (j + 1)), nI (j + 1)), ⟨_, rfl, fun _ => rfl⟩, ?_⟩
              rw [hrb, x, bi_t, if_neg z10, hv w, (hadV h64 (show tx (a + j) - 97 < 6 by omega)).1]; rfl
      · rw [decide_eq_false (fun q => y q.2), bi_f, if_pos rfl, k0]
        exact no (fun q => y q.1.2) _
    · rw [if_neg (show ¬ nI so = (1 : Int32) from fun q => z ((nI_eq (b := 1) (by omega) (by decide)).mp q)), k0]
      exact no (fun q => z q.1.1) _
end S33
