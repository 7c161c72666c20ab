/-! ===== items: the class's reading of one; what is told stands ===== -/
section S31
variable {p q : Nat} {kn : Nat → Nat} {I : Nat → Nat → Int32} {R : Nat → Nat → Option Nat} {L : Nat → Nat → Int64} {T : Nat} {tx : Nat → Nat} {δ : Dr} {t : Tk}
theorem isWd_c {c : Nat} {x : Int32} (hx : x = nI c) (hc : c < 256) (hT : T ≤ 140) (htx : ∀ i, i < T → tx i < 256) (ht : TxC I T tx) (ho : TOk tx T t) (hk : TkC I t) : f_X9_isWord 1 x (129, I, Rof p kn, L) = some (bi (isW tx t c)) := by
  subst hx
  obtain ⟨o1, o2, o3, o4, -, -⟩ := ho
  unfold f_X9_isWord f_X9_isWord_38 isW
  simp only [e_gI, bs, hk.1, hk.2.1, hk.2.2.1, pk_sub o1]
  by_cases z : t.1 = 1
  · have hlt := o4 (by omega)
    rw [if_pos (show nI t.1 = (1 : Int32) by rw [z]; rfl), decide_eq_true z, Bool.true_and]
    by_cases y : t.2.2.1 - t.2.1 = 1
    · rw [if_pos (show nI (t.2.2.1 - t.2.1) = (1 : Int32) by rw [y]; rfl), decide_eq_true y, Bool.true_and]
      simp only [e_r0, bs, a2 (show t.2.1 < 140 by omega), ht.2 t.2.1 (by omega)]
      by_cases w : tx t.2.1 = c
      · rw [if_pos (by rw [w]), decide_eq_true w]; rfl
      · rw [if_neg (fun h => w ((nI_eq (by have := htx t.2.1 (by omega); omega) (by omega)).mp h)), decide_eq_false w]; rfl
    · rw [if_neg (show ¬ nI (t.2.2.1 - t.2.1) = (1 : Int32) from fun h => y ((nI_eq (b := 1) (by omega) (by decide)).mp h)), decide_eq_false y]; rfl
  · rw [if_neg (show ¬ nI t.1 = (1 : Int32) from fun h => z ((nI_eq (b := 1) (by omega) (by decide)).mp h)), decide_eq_false z]; rfl
theorem outC_b {b : Sm} {δ' : Dr} {r : Option (Int32 × Mem)} (h : ∃ I', r = some (bi (snB b), (129, I', R, L)) ∧ OutC q I' (b, δ') ∧ cF p I I') {g : Option (Int32 × Mem)} (hg : ∀ J, r = some (bi (snB b), (129, J, R, L)) → g = some (bi (snB b), (129, J, R, L))) : ∃ I', g = some (bi (snB b), (129, I', R, L)) ∧ OutC q I' (b, δ') ∧ cF p I I' := by
  obtain ⟨I', h1, h2, h3⟩ := h
  exact ⟨I', hg I' h1, h2, h3⟩
theorem six {G : Nat} (h : ¬ G < 6) (h6 : G ≤ 6) : (6 : Int32) ≤ nI G := nI_le (a := 6) (by omega) (by omega)
theorem six' {G : Nat} (h : G < 6) : ¬ (6 : Int32) ≤ nI G := nI_ge (b := 6) h (by decide)
theorem rdI_c {fi : Bool} (hp : p = 3 ∨ p = 19) (hqe : 22 - p = q) (hT : T ≤ 140) (htx : ∀ i, i < T → tx i < 256) (ht : TxC I T tx) (hD : DC I q δ) (ok : DOk δ) (ho : TOk tx T t) (hk : TkC I t) : ∃ I1, f_X9_readItem 1 (bi fi) (129, I, Rof p kn, L) = some (bi (snB (itS tx T fi δ t).1), (129, I1, Rof p kn, L)) ∧ OutC q I1 (itS tx T fi δ t) ∧ cF p I I1 := by
  have hq : isP q := by rw [← hqe]; exact q_ok hp
  have e2 : ∀ J, gR (129, J, Rof p kn, L) 1 9 2 = some q := fun J => by rw [← hqe]; exact e_r2
  have hG6 := ok.1.1.2.2.1
  have hD6 := ok.1.1.2.2.2
  have w1 := isWd_c (p := p) (kn := kn) (L := L) (c := 110) (x := 110) rfl (by decide) hT htx ht ho hk
  have w2 := isWd_c (p := p) (kn := kn) (L := L) (c := 103) (x := 103) rfl (by decide) hT htx ht ho hk
  have w3 := isWd_c (p := p) (kn := kn) (L := L) (c := 100) (x := 100) rfl (by decide) hT htx ht ho hk
  unfold f_X9_readItem f_X9_readItem_24 f_X9_readItem_58 f_X9_readItem_92 itS
  simp only [e_cv, w1, w2, w3, bs, e2, p_gI hq, hD.1.1.2.1, hD.1.1.2.2]
  cases y1 : isW tx t 110
  · rw [bi_f, if_pos rfl, if_neg ffn]
    cases y2 : isW tx t 103
    · rw [bi_f, if_pos rfl, if_neg ffn]
      cases y3 : isW tx t 100
      · rw [bi_f, if_pos rfl, if_neg ffn]
        exact failC rfl hk.2.1 cF.rf
      · rw [bi_t, if_neg z10, if_pos rfl]
        by_cases z : δ.1.2.2.1 < 6
        · rw [if_neg (six' z), if_pos z]
          obtain ⟨I1, h1, h2, h3⟩ := rdD_c (kn := kn) (L := L) hp hqe hT htx ht hD ok z ho.2.1 hk.2.2.1
          refine ⟨I1, ?_, h2, h3⟩
          rw [h1, bs]
          cases snB (itD tx T δ t).1 <;> rfl
        · rw [if_pos (six z hD6), if_neg z]
          exact failC rfl hk.2.1 cF.rf
    · rw [bi_t, if_neg z10, if_pos rfl]
      by_cases z : δ.1.2.1 < 6
      · rw [if_neg (six' z), if_pos z]
        obtain ⟨I1, h1, h2, h3⟩ := rdG_c (kn := kn) (L := L) hp hqe hT htx ht hD ok z ho.2.1 hk.2.2.1
        refine ⟨I1, ?_, h2, h3⟩
        rw [h1, bs]
        cases snB (itG tx T δ t).1 <;> rfl
      · rw [if_pos (six z hG6), if_neg z]
        exact failC rfl hk.2.1 cF.rf
  · rw [bi_t, if_neg z10, if_pos rfl]
    cases fi
    · rw [bi_f, if_pos rfl, if_neg ffn]
      exact failC rfl hk.2.1 cF.rf
    · rw [bi_t, if_neg z10, if_pos rfl]
      obtain ⟨I1, h1, h2, h3⟩ := rdS_c (kn := kn) (L := L) hp hqe hT htx ht hD ho.2.1 hk.2.2.1
      refine ⟨I1, ?_, h2, h3⟩
      rw [h1, bs]
      cases snB (itN tx T δ t).1 <;> rfl
end S31
/-! what is told stands: sorts of answers -/
section S31b
variable {T : Nat} {tx : Nat → Nat} {δ : Dr} {t t' : Tk} {s : Sm}
/-- a token behind e -/
def Bhd (tx : Nat → Nat) (T e : Nat) (s : Sm) : Prop := ∀ t, s = .inr t → TOk tx T t ∧ e ≤ t.2.1
theorem Bhd.tk {e : Nat} (he : e ≤ T) : Bhd tx T e (.inr (tokE tx T e)) := fun t h => by cases h; exact ⟨TOk_e he, (tok_ok he).1⟩
theorem Bhd.mo {e e' : Nat} (h : e ≤ e') (hb : Bhd tx T e' s) : Bhd tx T e s := fun t ht => ⟨(hb t ht).1, by have := (hb t ht).2; omega⟩
theorem Bhd.no {e a : Nat} : Bhd tx T e (.inl a) := fun t h => by cases h
theorem nmS_b {e lo hi : Nat} (hb : Bhd tx T e s) : Bhd tx T e (nmS tx T lo hi s).2 ∧ (∀ t, (nmS tx T lo hi s).2 = .inr t → lo ≤ (nmS tx T lo hi s).1 ∧ (nmS tx T lo hi s).1 ≤ hi ∧ ∃ u, s = .inr u) := by
  cases s with
  | inl a => exact ⟨Bhd.no, fun t h => by cases h⟩
  | inr u =>
    obtain ⟨⟨o1, o2, -⟩, o3⟩ := hb u rfl
    rw [show nmS tx T lo hi (.inr u) = if u.1 = 2 ∧ lo ≤ u.2.2.2 ∧ u.2.2.2 ≤ hi then (u.2.2.2, .inr (tokE tx T u.2.2.1)) else (0, .inl u.2.1) from rfl]
    by_cases z : u.1 = 2 ∧ lo ≤ u.2.2.2 ∧ u.2.2.2 ≤ hi
    · rw [if_pos z]; exact ⟨(Bhd.tk o2).mo (by omega), fun t _ => ⟨z.2.1, z.2.2, u, rfl⟩⟩
    · rw [if_neg z]; exact ⟨Bhd.no, fun t h => by cases h⟩
theorem frS_b {e n k : Nat} {tkn : Nat → Nat} (hb : Bhd tx T e s) : Bhd tx T e (frS tx T n tkn k s).2 ∧ (∀ t, (frS tx T n tkn k s).2 = .inr t → (frS tx T n tkn k s).1 ≤ n - 1 ∧ ∃ u, s = .inr u) := by
  cases s with
  | inl a => exact ⟨Bhd.no, fun t h => by cases h⟩
  | inr u =>
    obtain ⟨⟨o1, o2, -⟩, o3⟩ := hb u rfl
    rw [show frS tx T n tkn k (.inr u) = if (u.1 = 2 ∧ u.2.2.2 ≤ n - 1) ∧ emB tkn u.2.2.2 k = true then (u.2.2.2, .inr (tokE tx T u.2.2.1)) else (0, .inl u.2.1) from rfl]
    by_cases z : (u.1 = 2 ∧ u.2.2.2 ≤ n - 1) ∧ emB tkn u.2.2.2 k = true
    · rw [if_pos z]; exact ⟨(Bhd.tk o2).mo (by omega), fun t _ => ⟨z.1.2, u, rfl⟩⟩
    · rw [if_neg z]; exact ⟨Bhd.no, fun t h => by cases h⟩
theorem rwS_b {e : Nat} (hb : Bhd tx T e s) : Bhd tx T e (rwS tx T s).2 ∧ (∀ t, (rwS tx T s).2 = .inr t → (rwS tx T s).1 < 64 ∧ ∃ u, s = .inr u) := by
  cases s with
  | inl a => exact ⟨Bhd.no, fun t h => by cases h⟩
  | inr u =>
    obtain ⟨⟨o1, o2, o3, o4, o5, o6⟩, o7⟩ := hb u rfl
    rw [show rwS tx T (.inr u) = if (u.1 = 1 ∧ u.2.2.1 - u.2.1 ≤ 6) ∧ rwB tx u.2.1 (u.2.2.1 - u.2.1) = true then (rwV tx u.2.1 (u.2.2.1 - u.2.1), .inr (tokE tx T u.2.2.1)) else (0, .inl u.2.1) from rfl]
    by_cases z : (u.1 = 1 ∧ u.2.2.1 - u.2.1 ≤ 6) ∧ rwB tx u.2.1 (u.2.2.1 - u.2.1) = true
    · rw [if_pos z]
      refine ⟨(Bhd.tk o2).mo (by omega), fun t _ => ⟨?_, u, rfl⟩⟩
      exact rwV_64 _ (fun i hi => ⟨(isL_i.mp ((o6 z.1.1).1 (u.2.1 + i) (by omega) (by omega))).1, of_decide_eq_true ((allB_t (f := fun i => decide (tx (u.2.1 + i) ≤ 102)) _).mp z.2 i hi)⟩)
    · rw [if_neg z]; exact ⟨Bhd.no, fun t h => by cases h⟩
theorem clS_b {e : Nat} (hb : Bhd tx T e s) : Bhd tx T e (clS tx T s) ∧ (∀ t, clS tx T s = .inr t → ∃ u, s = .inr u) := by
  cases s with
  | inl a => exact ⟨Bhd.no, fun t h => by cases h⟩
  | inr u =>
    obtain ⟨⟨o1, o2, -⟩, o3⟩ := hb u rfl
    rw [show clS tx T (.inr u) = if u.1 = 3 then .inr (tokE tx T u.2.2.1) else .inl u.2.1 from rfl]
    by_cases z : u.1 = 3
    · rw [if_pos z]; exact ⟨(Bhd.tk o2).mo (by omega), fun t _ => ⟨u, rfl⟩⟩
    · rw [if_neg z]; exact ⟨Bhd.no, fun t h => by cases h⟩
theorem DOk_s {v : Nat} (ok : DOk δ) (h0 : δ.1.2.1 = 0 ∧ δ.1.2.2.1 = 0) (h3 : 3 ≤ v) (h9 : v ≤ 9) : DOk (sea δ v) := by
  obtain ⟨⟨⟨a1, a2, a3, a4⟩, a5, a6⟩, ⟨b1, b2, b3⟩, b4, b5⟩ := ok
  refine ⟨⟨⟨h3, h9, a3, a4⟩, a5, a6⟩, ⟨?_, fun d hd => ?_, fun g hg => ?_⟩, b4, b5⟩
  · show δ.2.1 < v; omega
  · have : d < δ.1.2.2.1 := hd; omega
  · have : g < δ.1.2.1 := hg; omega
theorem DOk_g {v1 v2 v3 : Nat} (ok : DOk δ) (hG : δ.1.2.1 < 6) (h1 : v1 ≤ δ.1.1 - 1) (h2 : v2 ≤ 2) (h3 : v3 < 64) : DOk (gst δ v1 v2 v3) := by
  obtain ⟨⟨⟨a1, a2, a3, a4⟩, a5, a6⟩, ⟨b1, b2, b3⟩, b4, b5⟩ := ok
  refine ⟨⟨⟨a1, a2, hG, a4⟩, fun g hg => ?_, a6⟩, ⟨b1, b2, fun g hg => ⟨?_, ?_⟩⟩, b4, b5⟩
  · have hg' : g < δ.1.2.1 + 1 := hg
    show udn δ.1.2.2.2.1 δ.1.2.1 v2 g ≤ 2 ∧ udn δ.1.2.2.2.2.1 δ.1.2.1 v3 g < 64
    by_cases z : g = δ.1.2.1
    · rw [z, udn_s, udn_s]; exact ⟨h2, h3⟩
    · rw [udn_o z, udn_o z]; exact a5 g (by omega)
  · have hg' : g < δ.1.2.1 + 1 := hg
    show udn δ.2.2.2.2.1 δ.1.2.1 v1 g < δ.1.1
    by_cases z : g = δ.1.2.1
    · rw [z, udn_s]; omega
    · rw [udn_o z]; exact (b3 g (by omega)).1
  · show δ.2.2.2.2.2 g < 64
    rw [b4 g]; decide
theorem DOk_d {v1 v2 v3 : Nat} (ok : DOk δ) (hD : δ.1.2.2.1 < 6) (h1 : v1 ≤ δ.1.1 - 1) (h2 : v2 ≤ 9) (h3 : v3 ≤ 1) : DOk (dsh δ v1 v2 v3) := by
  obtain ⟨⟨⟨a1, a2, a3, a4⟩, a5, a6⟩, ⟨b1, b2, b3⟩, b4, b5⟩ := ok
  refine ⟨⟨⟨a1, a2, a3, hD⟩, a5, fun d hd => ?_⟩, ⟨b1, fun d hd => ⟨?_, ?_⟩, b3⟩, b4, b5⟩
  · have hd' : d < δ.1.2.2.1 + 1 := hd
    show udn δ.1.2.2.2.2.2 δ.1.2.2.1 v3 d ≤ 1
    by_cases z : d = δ.1.2.2.1
    · rw [z, udn_s]; exact h3
    · rw [udn_o z]; exact a6 d (by omega)
  · have hd' : d < δ.1.2.2.1 + 1 := hd
    show udn δ.2.2.1 δ.1.2.2.1 v2 d ≤ 9
    by_cases z : d = δ.1.2.2.1
    · rw [z, udn_s]; exact h2
    · rw [udn_o z]; exact (b2 d (by omega)).1
  · have hd' : d < δ.1.2.2.1 + 1 := hd
    show udn δ.2.2.2.1 δ.1.2.2.1 v1 d < δ.1.1
    by_cases z : d = δ.1.2.2.1
    · rw [z, udn_s]; omega
    · rw [udn_o z]; exact (b2 d (by omega)).2
/-- an item that stands: the next token is further on, what is told is in range -/
theorem itS_ok {fi : Bool} (ok : DOk δ) (h0 : fi = true → δ.1.2.1 = 0 ∧ δ.1.2.2.1 = 0) (ho : TOk tx T t) (ht : (itS tx T fi δ t).1 = .inr t') : DOk (itS tx T fi δ t).2 ∧ TOk tx T t' ∧ t.2.1 < t'.2.1 := by
  have hb : Bhd tx T t.2.2.1 (.inr (tokE tx T t.2.2.1)) := Bhd.tk ho.2.1
  have hw : ∀ c, isW tx t c = true → t.2.1 < t.2.2.1 := fun c h => ho.2.2.2.1 (fun z => by
    unfold isW at h; rw [z] at h; exact absurd h (by simp))
  unfold itS at ht ⊢
  by_cases y1 : isW tx t 110 = true
  · rw [if_pos y1] at ht ⊢
    by_cases y0 : fi = true
    · rw [if_pos y0] at ht ⊢
      obtain ⟨n1, n2⟩ := nmS_b (lo := 3) (hi := 9) hb
      obtain ⟨c1, c2⟩ := clS_b n1
      obtain ⟨u, hu⟩ := c2 t' ht
      obtain ⟨v1, v2, -⟩ := n2 u hu
      have := c1 t' ht
      exact ⟨DOk_s ok (h0 y0) v1 v2, this.1, by have := hw _ y1; omega⟩
    · rw [if_neg y0] at ht; cases ht
  · rw [if_neg y1] at ht ⊢
    by_cases y2 : isW tx t 103 = true
    · rw [if_pos y2] at ht ⊢
      by_cases y0 : δ.1.2.1 < 6
      · rw [if_pos y0] at ht ⊢
        obtain ⟨a1, a2⟩ := frS_b (n := δ.1.1) (tkn := δ.2.2.2.2.1) (k := δ.1.2.1) hb
        obtain ⟨b1, b2⟩ := nmS_b (lo := 0) (hi := 2) a1
        obtain ⟨d1, d2⟩ := rwS_b b1
        obtain ⟨c1, c2⟩ := clS_b d1
        obtain ⟨u, hu⟩ := c2 t' ht
        obtain ⟨v3, u2, hu2⟩ := d2 u hu
        obtain ⟨-, v2, u1, hu1⟩ := b2 u2 hu2
        obtain ⟨v1, -⟩ := a2 u1 hu1
        have := c1 t' ht
        exact ⟨DOk_g ok y0 v1 v2 v3, this.1, by have := hw _ y2; omega⟩
      · rw [if_neg y0] at ht; cases ht
    · rw [if_neg y2] at ht ⊢
      by_cases y3 : isW tx t 100 = true
      · rw [if_pos y3] at ht ⊢
        by_cases y0 : δ.1.2.2.1 < 6
        · rw [if_pos y0] at ht ⊢
          obtain ⟨a1, a2⟩ := frS_b (n := δ.1.1) (tkn := δ.2.2.2.1) (k := δ.1.2.2.1) hb
          obtain ⟨b1, b2⟩ := nmS_b (lo := 1) (hi := 9) a1
          obtain ⟨d1, d2⟩ := nmS_b (lo := 0) (hi := 1) b1
          obtain ⟨c1, c2⟩ := clS_b d1
          obtain ⟨u, hu⟩ := c2 t' ht
          obtain ⟨-, v3, u2, hu2⟩ := d2 u hu
          obtain ⟨-, v2, u1, hu1⟩ := b2 u2 hu2
          obtain ⟨v1, -⟩ := a2 u1 hu1
          have := c1 t' ht
          exact ⟨DOk_d ok y0 v1 v2 v3, this.1, by have := hw _ y3; omega⟩
        · rw [if_neg y0] at ht; cases ht
      · rw [if_neg y3] at ht; cases ht
end S31b
