/-! ===== items: what is asked; the class's reading ===== -/
abbrev Dr : Type := PtyS × NowS
abbrev Sm : Type := Sum Nat Tk
def nmS (tx : Nat → Nat) (T lo hi : Nat) : Sm → Nat × Sm
  | .inl a => (0, .inl a)
  | .inr t => if t.1 = 2 ∧ lo ≤ t.2.2.2 ∧ t.2.2.2 ≤ hi then (t.2.2.2, .inr (tokE tx T t.2.2.1)) else (0, .inl t.2.1)
def frS (tx : Nat → Nat) (T n : Nat) (tkn : Nat → Nat) (k : Nat) : Sm → Nat × Sm
  | .inl a => (0, .inl a)
  | .inr t => if (t.1 = 2 ∧ t.2.2.2 ≤ n - 1) ∧ emB tkn t.2.2.2 k = true then (t.2.2.2, .inr (tokE tx T t.2.2.1)) else (0, .inl t.2.1)
def rwB (tx : Nat → Nat) (a : Nat) : Nat → Bool := allB (fun i => decide (tx (a + i) ≤ 102))
def rwV (tx : Nat → Nat) (a : Nat) : Nat → Nat
  | 0 => 0
  | j + 1 => rwV tx a j ||| 2 ^ (tx (a + j) - 97)
def rwS (tx : Nat → Nat) (T : Nat) : Sm → Nat × Sm
  | .inl a => (0, .inl a)
  | .inr t => if (t.1 = 1 ∧ t.2.2.1 - t.2.1 ≤ 6) ∧ rwB tx t.2.1 (t.2.2.1 - t.2.1) = true then (rwV tx t.2.1 (t.2.2.1 - t.2.1), .inr (tokE tx T t.2.2.1)) else (0, .inl t.2.1)
def clS (tx : Nat → Nat) (T : Nat) : Sm → Sm
  | .inl a => .inl a
  | .inr t => if t.1 = 3 then .inr (tokE tx T t.2.2.1) else .inl t.2.1
def sea (δ : Dr) (v : Nat) : Dr := ((v, δ.1.2), δ.2)
def gst (δ : Dr) (v1 v2 v3 : Nat) : Dr := ((δ.1.1, δ.1.2.1 + 1, δ.1.2.2.1, udn δ.1.2.2.2.1 δ.1.2.1 v2, udn δ.1.2.2.2.2.1 δ.1.2.1 v3, δ.1.2.2.2.2.2), (δ.2.1, δ.2.2.1, δ.2.2.2.1, udn δ.2.2.2.2.1 δ.1.2.1 v1, δ.2.2.2.2.2))
def dsh (δ : Dr) (v1 v2 v3 : Nat) : Dr := ((δ.1.1, δ.1.2.1, δ.1.2.2.1 + 1, δ.1.2.2.2.1, δ.1.2.2.2.2.1, udn δ.1.2.2.2.2.2 δ.1.2.2.1 v3), (δ.2.1, udn δ.2.2.1 δ.1.2.2.1 v2, udn δ.2.2.2.1 δ.1.2.2.1 v1, δ.2.2.2.2.1, δ.2.2.2.2.2))
section IT
variable (tx : Nat → Nat) (T : Nat)
def n1 (t : Tk) : Nat × Sm := nmS tx T 3 9 (.inr (tokE tx T t.2.2.1))
def itN (δ : Dr) (t : Tk) : Sm × Dr := (clS tx T (n1 tx T t).2, sea δ (n1 tx T t).1)
def g1 (δ : Dr) (t : Tk) : Nat × Sm := frS tx T δ.1.1 δ.2.2.2.2.1 δ.1.2.1 (.inr (tokE tx T t.2.2.1))
def g2 (δ : Dr) (t : Tk) : Nat × Sm := nmS tx T 0 2 (g1 tx T δ t).2
def g3 (δ : Dr) (t : Tk) : Nat × Sm := rwS tx T (g2 tx T δ t).2
def itG (δ : Dr) (t : Tk) : Sm × Dr := (clS tx T (g3 tx T δ t).2, gst δ (g1 tx T δ t).1 (g2 tx T δ t).1 (g3 tx T δ t).1)
def d1 (δ : Dr) (t : Tk) : Nat × Sm := frS tx T δ.1.1 δ.2.2.2.1 δ.1.2.2.1 (.inr (tokE tx T t.2.2.1))
def d2 (δ : Dr) (t : Tk) : Nat × Sm := nmS tx T 1 9 (d1 tx T δ t).2
def d3 (δ : Dr) (t : Tk) : Nat × Sm := nmS tx T 0 1 (d2 tx T δ t).2
def itD (δ : Dr) (t : Tk) : Sm × Dr := (clS tx T (d3 tx T δ t).2, dsh δ (d1 tx T δ t).1 (d2 tx T δ t).1 (d3 tx T δ t).1)
def isW (t : Tk) (c : Nat) : Bool := decide (t.1 = 1) && (decide (t.2.2.1 - t.2.1 = 1) && decide (tx t.2.1 = c))
def itS (fi : Bool) (δ : Dr) (t : Tk) : Sm × Dr :=
  if isW tx t 110 = true then (if fi = true then itN tx T δ t else (.inl t.2.1, δ))
  else if isW tx t 103 = true then (if δ.1.2.1 < 6 then itG tx T δ t else (.inl t.2.1, δ))
  else if isW tx t 100 = true then (if δ.1.2.2.1 < 6 then itD tx T δ t else (.inl t.2.1, δ))
  else (.inl t.2.1, δ)
end IT
def DOk (δ : Dr) : Prop := PtyOk δ.1 ∧ NowOk δ.1.1 δ.1.2.1 δ.1.2.2.1 δ.2 ∧ (∀ g, δ.2.2.2.2.2 g = 0) ∧ δ.2.1 = 0
theorem rwV_64 {tx : Nat → Nat} {a : Nat} : ∀ j, (∀ i, i < j → 97 ≤ tx (a + i) ∧ tx (a + i) ≤ 102) → rwV tx a j < 64 := by
  intro j
  induction j with
  | zero => intro _; exact (by decide : 0 < 64)
  | succ j ih =>
    intro h
    have h1 := ih (fun i hi => h i (by omega))
    have h2 := h j (by omega)
    exact (hadV h1 (show tx (a + j) - 97 < 6 by omega)).2
/-- a token that stands -/
def TOk (tx : Nat → Nat) (T : Nat) (t : Tk) : Prop := t.2.1 ≤ t.2.2.1 ∧ t.2.2.1 ≤ T ∧ t.1 ≤ 4 ∧ (t.1 ≠ 0 → t.2.1 < t.2.2.1) ∧ (t.1 = 2 → t.2.2.2 ≤ 99) ∧ (t.1 = 1 → (∀ i, t.2.1 ≤ i → i < t.2.2.1 → isL (tx i) = true) ∧ t.2.2.2 = if t.2.2.1 - t.2.1 = 1 then tx t.2.1 else 0)
theorem TOk_e {tx : Nat → Nat} {T e : Nat} (he : e ≤ T) : TOk tx T (tokE tx T e) := (tok_ok he).2
section S29
variable {p c : Nat} {kn : Nat → Nat} {I : Nat → Nat → Int32} {R : Nat → Nat → Option Nat} {L : Nat → Nat → Int64} {T : Nat} {tx : Nat → Nat}
def A3 (I I1 : Nat → Nat → Int32) : Prop := ∀ a b, 3 ≤ a → I1 a b = I a b
theorem rF.a3 {I1 : Nat → Nat → Int32} (h : rF I I1) : A3 I I1 := fun a b ha => h a b (by omega)
theorem A3.tr {I1 I2 : Nat → Nat → Int32} (h : A3 I I1) (h2 : A3 I1 I2) : A3 I I2 := fun a b ha => by rw [h2 a b ha]; exact h a b ha
theorem A3.up {I1 : Nat → Nat → Int32} {k j : Nat} {v : Int32} (h : A3 I I1) : A3 (up2 I k j v) (up2 I1 k j v) := fun a b ha => by rw [up2_e, up2_e, h a b ha]
theorem TxC_u {k j : Nat} {v : Int32} (hk : 3 ≤ k) (ht : TxC I T tx) : TxC (up2 I k j v) T tx := ⟨by rw [up2_e, if_neg (by omega)]; exact ht.1, fun i hi => by rw [up2_e, if_neg (by omega)]; exact ht.2 i hi⟩
theorem rdN_c {e lo hi : Nat} {x1 x2 : Int32} (h1 : x1 = nI lo) (h2 : x2 = nI hi) (hlo : lo < 100) (hhi : hi < 100) (hT : T ≤ 140) (htx : ∀ i, i < T → tx i < 256) (ht : TxC I T tx) (he : e ≤ T) (h5 : I 1 5 = nI e) : ∃ I1, f_X9_readNumber 1 x1 x2 (129, I, Rof p kn, L) = some (bi (decide ((tokE tx T e).1 = 2 ∧ lo ≤ (tokE tx T e).2.2.2 ∧ (tokE tx T e).2.2.2 ≤ hi)), (129, I1, Rof p kn, L)) ∧ rF I I1 ∧ TkC I1 (tokE tx T e) := by
  subst h1 h2
  obtain ⟨I1, t1, t2, t3⟩ := tok_c (p := p) (kn := kn) (L := L) hT htx ht he h5
  obtain ⟨o1, o2, o3, o4, o5, o6⟩ := TOk_e (tx := tx) he
  refine ⟨I1, ?_, t2, t3⟩
  generalize tokE tx T e = t at *
  unfold f_X9_readNumber f_X9_readNumber_32
  simp only [e_cv, t1, bs, e_gI, t3.1, zr_0, zr_1]
  by_cases z : t.1 = 2
  · have hv := o5 z
    rw [if_pos (show nI t.1 = (2 : Int32) by rw [z]; rfl)]
    simp only [t3.2.2.2 z]
    by_cases y : lo ≤ t.2.2.2
    · rw [if_neg (nI_nlt y (by omega))]
      by_cases x : t.2.2.2 ≤ hi
      · rw [if_neg (nI_nlt x (by omega)), decide_eq_true ⟨z, y, x⟩]; rfl
      · rw [if_pos (nI_lt (by omega) (by omega)), decide_eq_false (by omega)]; rfl
    · rw [if_pos (nI_lt (by omega) (by omega)), decide_eq_false (by omega)]; rfl
  · rw [if_neg (show ¬ nI t.1 = (2 : Int32) from fun q => z ((nI_eq (b := 2) (by omega) (by decide)).mp q)), decide_eq_false (by omega)]; rfl
theorem rdC_c {e : Nat} (hT : T ≤ 140) (htx : ∀ i, i < T → tx i < 256) (ht : TxC I T tx) (he : e ≤ T) (h5 : I 1 5 = nI e) : ∃ I1, f_X9_readClose 1 (129, I, Rof p kn, L) = some (bi (decide ((tokE tx T e).1 = 3)), (129, I1, Rof p kn, L)) ∧ rF I I1 ∧ (((tokE tx T e).1 = 3 ∧ TkC I1 (tokE tx T (tokE tx T e).2.2.1)) ∨ ((tokE tx T e).1 ≠ 3 ∧ I1 1 4 = nI (tokE tx T e).2.1)) := by
  obtain ⟨I1, t1, t2, t3⟩ := tok_c (p := p) (kn := kn) (L := L) hT htx ht he h5
  obtain ⟨o1, o2, o3, o4, o5, o6⟩ := TOk_e (tx := tx) he
  generalize tokE tx T e = t at *
  unfold f_X9_readClose
  simp only [e_cv, t1, bs, e_gI, t3.1, zr_0, zr_1]
  by_cases z : t.1 = 3
  · obtain ⟨I2, u1, u2, u3⟩ := tok_c (p := p) (kn := kn) (L := L) hT htx (TxC_r t2 ht) o2 t3.2.2.1
    rw [if_pos (show nI t.1 = (3 : Int32) by rw [z]; rfl)]
    simp only [u1, bs]
    exact ⟨I2, by rw [decide_eq_true z]; rfl, t2.tr u2, Or.inl ⟨z, u3⟩⟩
  · rw [if_neg (show ¬ nI t.1 = (3 : Int32) from fun q => z ((nI_eq (b := 3) (by omega) (by decide)).mp q))]
    exact ⟨I1, by rw [decide_eq_false z]; rfl, t2, Or.inr ⟨z, t3.2.1⟩⟩
theorem rdR_c {e : Nat} (hT : T ≤ 140) (htx : ∀ i, i < T → tx i < 256) (ht : TxC I T tx) (he : e ≤ T) (h5 : I 1 5 = nI e) : ∃ I1, f_X9_readRow 1 (129, I, Rof p kn, L) = some (bi (decide (((tokE tx T e).1 = 1 ∧ (tokE tx T e).2.2.1 - (tokE tx T e).2.1 ≤ 6) ∧ rwB tx (tokE tx T e).2.1 ((tokE tx T e).2.2.1 - (tokE tx T e).2.1) = true)), (129, I1, Rof p kn, L)) ∧ rF I I1 ∧ I1 1 4 = nI (tokE tx T e).2.1 ∧ I1 1 5 = nI (tokE tx T e).2.2.1 ∧ (((tokE tx T e).1 = 1 ∧ (tokE tx T e).2.2.1 - (tokE tx T e).2.1 ≤ 6) ∧ rwB tx (tokE tx T e).2.1 ((tokE tx T e).2.2.1 - (tokE tx T e).2.1) = true → I1 1 6 = nI (rwV tx (tokE tx T e).2.1 ((tokE tx T e).2.2.1 - (tokE tx T e).2.1))) := by
  obtain ⟨I1, t1, t2, t3⟩ := tok_c (p := p) (kn := kn) (L := L) hT htx ht he h5
  obtain ⟨o1, o2, o3, o4, o5, o6⟩ := TOk_e (tx := tx) he
  generalize tokE tx T e = t at *
  obtain ⟨so, a, b, v⟩ := t
  simp only at *
  unfold f_X9_readRow
  simp only [e_cv, t1, bs, e_gI, t3.1, t3.2.1, t3.2.2.1, zr_0, pk_sub o1]
  by_cases z : so = 1
  · rw [if_pos (show nI so = (1 : Int32) by rw [z]; rfl)]
    by_cases y : b - a ≤ 6
    · rw [if_pos (show nI (b - a) ≤ (6 : Int32) from nI_le (b := 6) y (by decide))]
      have e4 : up2 I1 1 6 0 1 4 = nI a := by rw [up2_e, if_neg (by omega)]; exact t3.2.1
      simp only [e_pI, bs, e_gI, e4]
      have hl := (o6 z).1
      unfold f_X9_readRow_38
      refine lupRX0 (fun ag (s : Int32 × Mem) => f_X9_readRow_38b 1 ag s.1 s.2) (fun j s => ∃ I2, s = (nI (a + j), (129, I2, Rof p kn, L)) ∧ rF I I2 ∧ I2 1 4 = nI a ∧ I2 1 5 = nI b ∧ I2 1 6 = nI (rwV tx a j) ∧ rwB tx a j = true) (b - a) (FU_big (by omega)) (fun r => ∃ I2, r = some (bi (decide ((so = 1 ∧ b - a ≤ 6) ∧ rwB tx a (b - a) = true)), (129, I2, Rof p kn, L)) ∧ rF I I2 ∧ I2 1 4 = nI a ∧ I2 1 5 = nI b ∧ ((so = 1 ∧ b - a ≤ 6) ∧ rwB tx a (b - a) = true → I2 1 6 = nI (rwV tx a (b - a)))) _ ⟨_, rfl, t2.up (by decide), e4, by rw [up2_e, if_neg (by omega)]; exact t3.2.2.1, us, rfl⟩ ?_ ?_
      · rintro s ⟨I2, rfl, hF, k4, k5, k6, kB⟩ ag
        refine ⟨I2, ?_, hF, k4, k5, fun _ => k6⟩
        show f_X9_readRow_38b 1 ag (nI (a + (b - a))) (129, I2, Rof p kn, L) = _
        unfold f_X9_readRow_38b
        simp only [e_gI, bs, k5]
        rw [if_pos (nI_le (by omega) (by omega)), decide_eq_true ⟨⟨z, y⟩, kB⟩]; rfl
      · rintro j s hj ⟨I2, rfl, hF, k4, k5, k6, kB⟩ ag
        have t4 := TxC_r hF ht
        have hlt : a + j < T := by omega
        have hlj := isL_i.mp (hl (a + j) (by omega) (by omega))
        have hrb : rwB tx a (j + 1) = (rwB tx a j && decide (tx (a + j) ≤ 102)) := rfl
        rw [kB, Bool.true_and] at hrb
        show (∃ I3, f_X9_readRow_38b 1 ag (nI (a + j)) (129, I2, Rof p kn, L) = _ ∧ _) ∨ ∃ s', _ ∧ f_X9_readRow_38b 1 ag (nI (a + j)) (129, I2, Rof p kn, L) = ag s'
        unfold f_X9_readRow_38b
        simp only [e_gI, bs, k5]
        rw [if_neg (nI_ge (by omega) (by omega))]
        have e97 : nI (tx (a + j)) - (97 : Int32) = nI (tx (a + j) - 97) := pk_sub (b := 97) hlj.1
        simp only [e_r0, bs, a2 (show a + j < 140 by omega), t4.2 _ hlt, k6, e97, e_pI, nI_1]
        by_cases x : tx (a + j) ≤ 102
        · right
          rw [if_pos (show nI (tx (a + j)) ≤ (102 : Int32) from nI_le (b := 102) x (by decide))]
          have h64 : rwV tx a j < 64 := rwV_64 j (fun i hi => ⟨(isL_i.mp (hl (a + i) (by omega) (by omega))).1, of_decide_eq_true ((allB_t (f := fun i => decide (tx (a + i) ≤ 102)) _).mp kB i hi)⟩)
          rw [(hadV h64 (show tx (a + j) - 97 < 6 by omega)).1]
          exact ⟨_, ⟨up2 I2 1 6 (nI (rwV tx a (j + 1))), rfl, hF.up (by decide), by rw [up2_e, if_neg (by omega)]; exact k4, by rw [up2_e, if_neg (by omega)]; exact k5, us, by rw [hrb, decide_eq_true x]⟩, rfl⟩
        · left
          have hf : rwB tx a (b - a) = false := allB_f (i := j + 1) (hrb.trans (decide_eq_false x)) _ (by omega)
          rw [if_neg (show ¬ nI (tx (a + j)) ≤ (102 : Int32) from nI_ge (a := 102) (by omega) (by have := htx _ hlt; omega))]
          refine ⟨I2, ?_, hF, k4, k5, fun q => ?_⟩
          · rw [hf, decide_eq_false (fun q => absurd q.2 (by decide))]; rfl
          · rw [hf] at q; exact absurd q.2 (by decide)
    · rw [if_neg (show ¬ nI (b - a) ≤ (6 : Int32) from nI_ge (a := 6) (by omega) (by omega)), decide_eq_false (fun q => y q.1.2)]
      exact ⟨I1, rfl, t2, t3.2.1, t3.2.2.1, fun q => absurd q.1.2 y⟩
  · rw [if_neg (show ¬ nI so = (1 : Int32) from fun q => z ((nI_eq (b := 1) (by omega) (by decide)).mp q)), decide_eq_false (fun q => z q.1.1)]
    exact ⟨I1, rfl, t2, t3.2.1, t3.2.2.1, fun q => absurd q.1.1 z⟩
theorem amg_c {r k v : Nat} {tkn : Nat → Nat} (hr : r < 129) (hl : lay r = (20, 6)) (hk : k ≤ 6) (hI : ∀ i, i < k → I r i = nI (tkn i) ∧ tkn i < 100) (hv : v < 100) (h6 : I 1 6 = nI v) : f_X9_isAmong 1 r (nI k) (129, I, R, L) = some (bi (!emB tkn v k)) := by
  unfold f_X9_isAmong f_X9_isAmong_2
  refine lupX _ (fun j => nI j) k _ (fun j => emB tkn v j = true) (fun hE ag => ?_) (fun j hj hE ag => ?_) FU 0 (Nat.zero_le _) (by have := FU_big (e := k) (by omega); omega) rfl
  · show f_X9_isAmong_2b 1 r (nI k) _ ag (nI k) = _
    unfold f_X9_isAmong_2b
    rw [if_pos (nI_le (Nat.le_refl _) (by omega)), hE]; rfl
  · have he : emB tkn v (j + 1) = (emB tkn v j && !(tkn j == v)) := rfl
    rw [hE, Bool.true_and] at he
    obtain ⟨i1, i2⟩ := hI j hj
    have hal : aL 20 (129, I, R, L) r = some (nI 6) := by unfold aL; rw [hl, if_pos ⟨by show r < 129; omega, rfl⟩]; rfl
    show f_X9_isAmong_2b 1 r (nI k) _ ag (nI j) = _ ∨ (_ ∧ f_X9_isAmong_2b 1 r (nI k) _ ag (nI j) = _)
    unfold f_X9_isAmong_2b
    rw [if_neg (nI_ge hj (by omega)), hal, bs, if_neg (nI_ge (show j < 6 by omega) (by decide))]
    simp only [aI_n hr hl (show j < 6 by omega) (show 6 ≤ 1000 by decide), bs, i1, e_gI, h6, nI_1]
    by_cases z : tkn j = v
    · left
      rw [if_pos (by rw [z]), emB_f (i := j + 1) (by rw [he, z]; simp) _ (by omega)]; rfl
    · right
      rw [if_neg (fun q => z ((nI_eq (by omega) (by omega)).mp q))]
      exact ⟨by rw [he]; simp [z], rfl⟩
end S29
