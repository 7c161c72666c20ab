/-! ===== the feast, the model's ===== -/
theorem lupRX {S R : Type} (F : (S → Option R) → S → Option R) (Inv : Nat → S → Prop) (e : Nat) (post : Option R → Prop) (hx : ∀ s, Inv e s → ∀ ag, post (F ag s)) (hs : ∀ j s, j < e → Inv j s → ∀ ag, post (F ag s) ∨ ∃ s', Inv (j + 1) s' ∧ F ag s = ag s') : ∀ n j s, j ≤ e → e - j < n → Inv j s → post (loopF F n s) := by
  intro n
  induction n with
  | zero => intro j s _ h; exact absurd h (Nat.not_lt_zero _)
  | succ n ih =>
    intro j s hj hn hI
    show post (F (loopF F n) s)
    by_cases h : j = e
    · subst h; exact hx s hI _
    · rcases hs j s (by omega) hI (loopF F n) with h1 | ⟨s', h1, h2⟩
      · exact h1
      · rw [h2]; exact ih (j + 1) s' (by omega) (by omega) h1
theorem lupRX0 {S R : Type} (F : (S → Option R) → S → Option R) (Inv : Nat → S → Prop) (e : Nat) (he : e < FU) (post : Option R → Prop) (s : S) (h0 : Inv 0 s) (hx : ∀ s, Inv e s → ∀ ag, post (F ag s)) (hs : ∀ j s, j < e → Inv j s → ∀ ag, post (F ag s) ∨ ∃ s', Inv (j + 1) s' ∧ F ag s = ag s') : post (loopF F FU s) := lupRX F Inv e post hx hs FU 0 s (Nat.zero_le _) (by omega) h0
def eD (r t : Nat) : Nat := r / 7 ^ t % 7
def cE (r d : Nat) : Nat → Nat
  | 0 => 0
  | t + 1 => cE r d t + (if eD r t = d then 1 else 0)
def wE (r : Nat) : Nat → Nat
  | 0 => 0
  | t + 1 => wE r t + (if eD r t = 6 then 0 else 1)
def okT (N : Nat → Nat) (G : Nat) (po : Nat → Nat) (r t : Nat) : Bool := decide (eD r t = 6) || ((N (G - 1 - t)).testBit (eD r t) && decide (cE r (eD r t) t < po (eD r t)))
theorem eD_7 (r t : Nat) : eD r t < 7 := Nat.mod_lt _ (by decide)
theorem wE_le (r : Nat) : ∀ t, wE r t ≤ t := by
  intro t
  induction t with
  | zero => exact Nat.le_refl _
  | succ t ih => show wE r t + (if eD r t = 6 then 0 else 1) ≤ t + 1; split <;> omega
section F23
variable {N : Nat → Nat} {G D : Nat}
theorem tb_lt {x e : Nat} (h : x < 2 ^ D) (ht : x.testBit e = true) : e < D := by
  apply Classical.byContradiction
  intro z
  have : x < 2 ^ e := Nat.lt_of_lt_of_le h (Nat.pow_le_pow_right (by decide) (by omega))
  rw [Nat.testBit_lt_two_pow this] at ht
  exact absurd ht (by decide)
theorem okT_iff {po : Nat → Nat} {r : Nat} : ∀ k, allB (okT N G po r) k = true ↔ (∀ t, t < k → eD r t ≠ 6 → (N (G - 1 - t)).testBit (eD r t) = true) ∧ (∀ d, d < 6 → cE r d k = 0 ∨ cE r d k ≤ po d) := by
  intro k
  induction k with
  | zero => exact ⟨fun _ => ⟨fun t h => absurd h (Nat.not_lt_zero _), fun d _ => Or.inl rfl⟩, fun _ => rfl⟩
  | succ k ih =>
    have e7 := eD_7 r k
    constructor
    · intro h
      simp only [allB, Bool.and_eq_true] at h
      obtain ⟨h1, h2⟩ := ih.mp h.1
      have h3 := h.2
      unfold okT at h3
      simp only [Bool.or_eq_true, Bool.and_eq_true, decide_eq_true_eq] at h3
      refine ⟨fun t ht hne => ?_, fun d hd => ?_⟩
      · by_cases z : t = k
        · subst z; exact (h3.resolve_left hne).1
        · exact h1 t (by omega) hne
      · show cE r d k + (if eD r k = d then 1 else 0) = 0 ∨ cE r d k + (if eD r k = d then 1 else 0) ≤ po d
        by_cases z : eD r k = d
        · rw [if_pos z]
          have := (h3.resolve_left (by omega)).2
          rw [z] at this
          right; omega
        · rw [if_neg z]
          rcases h2 d hd with h | h <;> omega
    · rintro ⟨h1, h2⟩
      simp only [allB, Bool.and_eq_true]
      have hS : ∀ d, cE r d (k + 1) = cE r d k + (if eD r k = d then 1 else 0) := fun d => rfl
      refine ⟨ih.mpr ⟨fun t ht => h1 t (by omega), fun d hd => ?_⟩, ?_⟩
      · have := h2 d hd
        rw [hS] at this
        rcases this with h | h <;> omega
      · unfold okT
        simp only [Bool.or_eq_true, Bool.and_eq_true, decide_eq_true_eq]
        by_cases z : eD r k = 6
        · exact Or.inl z
        · refine Or.inr ⟨h1 k (by omega) z, ?_⟩
          have := h2 (eD r k) (by omega)
          rw [hS, if_pos rfl] at this
          omega
theorem fv_iff (hN : ∀ g, g < G → N g < 2 ^ D) {r : Nat} : ∀ k left, k ≤ G → fv N G D k left r = if allB (okT N G left r) k then some (wE r k) else none := by
  intro k
  induction k with
  | zero => intro left _; rfl
  | succ k ih =>
    intro left hk
    have e7 := eD_7 r k
    have hW : wE r (k + 1) = wE r k + (if eD r k = 6 then 0 else 1) := rfl
    have hA : allB (okT N G left r) (k + 1) = (allB (okT N G left r) k && okT N G left r k) := rfl
    have hS : ∀ d, cE r d (k + 1) = cE r d k + (if eD r k = d then 1 else 0) := fun d => rfl
    simp only [fv]
    show (if eD r k = 6 then _ else if (N (G - 1 - k)).testBit (eD r k) = true ∧ eD r k < D ∧ 0 < left (eD r k) then (fv N G D k (tk left (eD r k)) r).map (· + 1) else none) = _
    by_cases z : eD r k = 6
    · have ho : okT N G left r k = true := by unfold okT; rw [decide_eq_true z]; rfl
      rw [if_pos z, ih left (by omega), hA, ho, Bool.and_true, hW, if_pos z, Nat.add_zero]
    · rw [if_neg z]
      by_cases y : (N (G - 1 - k)).testBit (eD r k) = true ∧ eD r k < D ∧ 0 < left (eD r k)
      · rw [if_pos y, ih _ (by omega)]
        have hiff : allB (okT N G (tk left (eD r k)) r) k = true ↔ allB (okT N G left r) (k + 1) = true := by
          rw [okT_iff, okT_iff]
          constructor
          · rintro ⟨h1, h2⟩
            refine ⟨fun t ht hne => ?_, fun d hd => ?_⟩
            · by_cases x : t = k
              · subst x; exact y.1
              · exact h1 t (by omega) hne
            · have := h2 d hd
              rw [hS]
              unfold tk udn at this
              by_cases x : eD r k = d
              · rw [if_pos x]; rw [if_pos x.symm, x] at this
                have := y.2.2; rw [x] at this; omega
              · rw [if_neg x]; rw [if_neg (fun q => x q.symm)] at this; omega
          · rintro ⟨h1, h2⟩
            refine ⟨fun t ht hne => h1 t (by omega) hne, fun d hd => ?_⟩
            have := h2 d hd
            rw [hS] at this
            unfold tk udn
            by_cases x : eD r k = d
            · rw [if_pos x] at this; rw [if_pos x.symm, x]; omega
            · rw [if_neg x] at this; rw [if_neg (fun q => x q.symm)]; omega
        cases h1 : allB (okT N G (tk left (eD r k)) r) k
        · cases h2 : allB (okT N G left r) (k + 1)
          · rfl
          · rw [hiff.mpr h2] at h1; exact absurd h1 (by decide)
        · rw [hiff.mp h1, hW, if_neg z]; rfl
      · rw [if_neg y, hA]
        have ho : okT N G left r k = false := by
          cases h : okT N G left r k
          · rfl
          · unfold okT at h
            simp only [Bool.or_eq_true, Bool.and_eq_true, decide_eq_true_eq] at h
            have h' := h.resolve_left z
            exact absurd ⟨h'.1, tb_lt (hN _ (by omega)) h'.1, by omega⟩ y
        rw [ho, Bool.and_false]; rfl
theorem gr_dig (hD : D ≤ 6) {po : Nat → Nat} : ∀ k, k ≤ G → ∀ t, t < k → eD (gr N G D k (lf N G D po (G - k))) t = qF N G D t (lf N G D po (G - 1 - t)) := by
  intro k
  induction k with
  | zero => intro _ t h; exact absurd h (Nat.not_lt_zero _)
  | succ k ih =>
    intro hk t ht
    have h7 : ∀ j, 0 < 7 ^ j := fun j => Nat.pow_pos (by decide)
    have hlf : nx (lf N G D po (G - 1 - k)) (qF N G D (G - 1 - (G - 1 - k)) (lf N G D po (G - 1 - k))) = lf N G D po (G - 1 - k + 1) := rfl
    rw [show G - 1 - (G - 1 - k) = k by omega, show G - 1 - k + 1 = G - k by omega] at hlf
    rw [show G - (k + 1) = G - 1 - k by omega]
    have hg : gr N G D (k + 1) (lf N G D po (G - 1 - k)) = gr N G D k (nx (lf N G D po (G - 1 - k)) (qF N G D k (lf N G D po (G - 1 - k)))) + 7 ^ k * qF N G D k (lf N G D po (G - 1 - k)) := rfl
    rw [hg, hlf]
    have hlt := gr_lt (N := N) (G := G) hD k (lf N G D po (G - k)) (by omega)
    have hq6 : qF N G D k (lf N G D po (G - 1 - k)) ≤ 6 := by
      rcases qF_ok (N := N) (G := G) (left := lf N G D po (G - 1 - k)) hk hD with h | h <;> omega
    by_cases z : t = k
    · subst z
      unfold eD
      rw [Nat.add_mul_div_left _ _ (h7 t), Nat.div_eq_of_lt hlt, Nat.zero_add, Nat.mod_eq_of_lt (by omega)]
    · have := ih (by omega) t (by omega)
      rw [← this]
      unfold eD
      obtain ⟨s, hs⟩ : ∃ s, k = t + (s + 1) := ⟨k - t - 1, by omega⟩
      generalize gr N G D k (lf N G D po (G - k)) = x
      generalize qF N G D k (lf N G D po (G - 1 - k)) = q
      rw [hs, Nat.pow_add, Nat.mul_assoc, Nat.add_mul_div_left _ _ (h7 t), Nat.pow_succ, Nat.mul_comm (7 ^ s) 7, Nat.mul_assoc, Nat.add_mul_mod_self_left]
end F23
section S23
variable {p : Nat} {kn : Nat → Nat} {I : Nat → Nat → Int32} {R : Nat → Nat → Option Nat} {L : Nat → Nat → Int64} {P : PtyS} {w : NowS}
theorem a126 {j : Nat} (h : j < 6) : aI 20 (129, I, R, L) 126 (nI j) = some (I 126 j) := aI_n (k := 126) (n := 6) (by decide) rfl h (by decide)
theorem a127 {j : Nat} (h : j < 6) : aI 20 (129, I, R, L) 127 (nI j) = some (I 127 j) := aI_n (k := 127) (n := 6) (by decide) rfl h (by decide)
theorem a128 {j : Nat} (h : j < 6) : aI 20 (129, I, R, L) 128 (nI j) = some (I 128 j) := aI_n (k := 128) (n := 6) (by decide) rfl h (by decide)
theorem s126 {j : Nat} {v : Int32} (h : j < 6) : sI (129, I, R, L) 126 (nI j) v = some (129, up2 I 126 j v, R, L) := sI_n (k := 126) (n := 6) (by decide) rfl h (by decide)
theorem s127 {j : Nat} {v : Int32} (h : j < 6) : sI (129, I, R, L) 127 (nI j) v = some (129, up2 I 127 j v, R, L) := sI_n (k := 127) (n := 6) (by decide) rfl h (by decide)
theorem s128 {j : Nat} {v : Int32} (h : j < 6) : sI (129, I, R, L) 128 (nI j) v = some (129, up2 I 128 j v, R, L) := sI_n (k := 128) (n := 6) (by decide) rfl h (by decide)
theorem sevens_m {G : Nat} {M : Mem} (hG : G ≤ 6) : f_X12_sevens (nI G) M = some (nI (7 ^ G)) := by
  unfold f_X12_sevens f_X12_sevens_4
  refine lup0 _ (fun j => (nI (7 ^ j), nI j)) G (FU_big (by omega)) _ (fun ag => ?_) (fun j hj ag => ?_)
  · show f_X12_sevens_4b (nI G) M ag _ (nI G) = _
    unfold f_X12_sevens_4b
    rw [if_pos (nI_le (Nat.le_refl _) (by omega))]
  · show f_X12_sevens_4b (nI G) M ag (nI (7 ^ j)) (nI j) = ag (nI (7 ^ (j + 1)), nI (j + 1))
    unfold f_X12_sevens_4b
    rw [if_neg (nI_ge hj (by omega)), nI_1, Nat.pow_succ, ← pk_mul]; rfl
theorem hav56 {r : Nat} (hr : r < 2 ^ 30) (hP : PtyM I P) (hw : NowM I 119 0 P.2.1 P.2.2.1 w) (okP : PtyOk P) (ok : NowOk P.1 P.2.1 P.2.2.1 w) {I0 : Nat → Nat → Int32} (F0 : ∀ a b, a ≠ 128 → I0 a b = I a b) (h0 : ∀ d, d < P.2.2.1 → I0 128 d = nI (w.2.1 d)) : ∃ I1, f_X12_havingBy_56 112 (nI r) 0 (nI P.2.1 - 1) (129, I0, Rof p kn, L) = some ((if allB (okT (ndG P w) P.2.1 w.2.1 r) P.2.1 then nI (wE r P.2.1) else -9), (129, I1, Rof p kn, L)) ∧ (∀ a b, a ≠ 126 → a ≠ 128 → I1 a b = I a b) ∧ (allB (okT (ndG P w) P.2.1 w.2.1 r) P.2.1 = true → ∀ g, g < P.2.1 → I1 126 g = nI (eD r (P.2.1 - 1 - g))) := by
  obtain ⟨⟨hn3, hn9, hG, hD⟩, -, -⟩ := id okP
  unfold f_X12_havingBy_56
  refine lupRX0 (fun ag (s : Int32 × Int32 × Int32 × Mem) => f_X12_havingBy_56b 112 ag s.1 s.2.1 s.2.2.1 s.2.2.2) (fun t s => ∃ I1, s = (nI (r / 7 ^ t), nI (wE r t), nI (P.2.1 - t) - 1, (129, I1, Rof p kn, L)) ∧ (∀ a b, a ≠ 126 → a ≠ 128 → I1 a b = I a b) ∧ (∀ d, d < P.2.2.1 → I1 128 d = nI (w.2.1 d - cE r d t)) ∧ (∀ g, P.2.1 ≤ g + t → g < P.2.1 → I1 126 g = nI (eD r (P.2.1 - 1 - g))) ∧ allB (okT (ndG P w) P.2.1 w.2.1 r) t = true) P.2.1 (FU_big (by omega)) (fun res => ∃ I1, res = some ((if allB (okT (ndG P w) P.2.1 w.2.1 r) P.2.1 then nI (wE r P.2.1) else -9), (129, I1, Rof p kn, L)) ∧ (∀ a b, a ≠ 126 → a ≠ 128 → I1 a b = I a b) ∧ (allB (okT (ndG P w) P.2.1 w.2.1 r) P.2.1 = true → ∀ g, g < P.2.1 → I1 126 g = nI (eD r (P.2.1 - 1 - g)))) _ ⟨I0, by rw [Nat.pow_zero, Nat.div_one, Nat.sub_zero]; rfl, fun a b _ h => F0 a b h, fun d hd => by rw [h0 d hd]; rfl, fun g h1 h2 => by omega, rfl⟩ ?_ ?_
  · rintro s ⟨I1, rfl, hF, hL, hE, hA⟩ ag
    refine ⟨I1, ?_, hF, fun _ g hg => hE g (by omega) hg⟩
    show f_X12_havingBy_56b 112 ag _ (nI (wE r P.2.1)) (nI (P.2.1 - P.2.1) - 1) (129, I1, Rof p kn, L) = _
    unfold f_X12_havingBy_56b
    rw [Nat.sub_self, if_pos (by decide), hA]; rfl
  · rintro t s ht ⟨I1, rfl, hF, hL, hE, hA⟩ ag
    have hrt : r / 7 ^ t < 2 ^ 30 := Nat.lt_of_le_of_lt (Nat.div_le_self _ _) hr
    have e7 := eD_7 r t
    have hA2 : allB (okT (ndG P w) P.2.1 w.2.1 r) (t + 1) = (allB (okT (ndG P w) P.2.1 w.2.1 r) t && okT (ndG P w) P.2.1 w.2.1 r t) := rfl
    rw [hA, Bool.true_and] at hA2
    have hg : P.2.1 - 1 - t < P.2.1 := by omega
    have hx4 : nI (P.2.1 - t) - 1 = nI (P.2.1 - 1 - t) := by
      rw [show P.2.1 - t = (P.2.1 - 1 - t) + 1 by omega, nI_pred]
    have hrm : rmI (nI (r / 7 ^ t)) (7 : Int32) = some (nI (eD r t)) := rm_nat (n := 7) (by omega) (by decide) (by decide)
    have hdv : dvI (nI (r / 7 ^ t)) (7 : Int32) = some (nI (r / 7 ^ (t + 1))) := by
      rw [Nat.pow_succ, ← Nat.div_div_eq_div_mul]; exact dv_nat (n := 7) (by omega) (by decide) (by decide)
    have hm1 : nI (P.2.1 - 1 - t) + (-1 : Int32) = nI (P.2.1 - (t + 1)) - 1 := by
      rw [show P.2.1 - (t + 1) = P.2.1 - 1 - t by omega]; exact (Int32.sub_eq_add_neg _ 1).symm
    -- the memory with his figure
    have FH : ∀ a b, a ≠ 126 → a ≠ 128 → up2 I1 126 (P.2.1 - 1 - t) (nI (eD r t)) a b = I a b := fun a b h1 h2 => by rw [up2_e, if_neg (by omega)]; exact hF a b h1 h2
    have LH : ∀ d, d < P.2.2.1 → up2 I1 126 (P.2.1 - 1 - t) (nI (eD r t)) 128 d = nI (w.2.1 d - cE r d t) := fun d hd => by rw [up2_e, if_neg (by omega)]; exact hL d hd
    have EH : ∀ g, P.2.1 ≤ g + (t + 1) → g < P.2.1 → up2 I1 126 (P.2.1 - 1 - t) (nI (eD r t)) 126 g = nI (eD r (P.2.1 - 1 - g)) := fun g h1 h2 => by
      rw [up2_e]
      by_cases z : g = P.2.1 - 1 - t
      · rw [if_pos ⟨rfl, z⟩, z, show P.2.1 - 1 - (P.2.1 - 1 - t) = t by omega]
      · rw [if_neg (by omega)]; exact hE g (by omega) h2
    have hP2 : PtyM (up2 I1 126 (P.2.1 - 1 - t) (nI (eD r t))) P := PtyM_fr (fun a b _ _ => FH a b (by omega) (by omega)) hP
    have hw2 : NowM (up2 I1 126 (P.2.1 - 1 - t) (nI (eD r t))) 119 0 P.2.1 P.2.2.1 w := NowM_fr hG hD (fun b _ _ => FH _ b (by omega) (by omega)) hw
    have hnm := needs_m (p := p) (kn := kn) (L := L) hP2 hw2 okP ok hg
    have hfalse : okT (ndG P w) P.2.1 w.2.1 r t = false → allB (okT (ndG P w) P.2.1 w.2.1 r) P.2.1 = false := fun h => allB_f (i := t + 1) (by rw [hA2, h]) _ (by omega)
    have hok : okT (ndG P w) P.2.1 w.2.1 r t = (decide (eD r t = 6) || ((ndG P w (P.2.1 - 1 - t)).testBit (eD r t) && decide (cE r (eD r t) t < w.2.1 (eD r t)))) := rfl
    show (∃ I2, f_X12_havingBy_56b 112 ag (nI (r / 7 ^ t)) (nI (wE r t)) (nI (P.2.1 - t) - 1) (129, I1, Rof p kn, L) = _ ∧ _) ∨ ∃ s', _ ∧ f_X12_havingBy_56b 112 ag (nI (r / 7 ^ t)) (nI (wE r t)) (nI (P.2.1 - t) - 1) (129, I1, Rof p kn, L) = ag s'
    unfold f_X12_havingBy_56b
    rw [hx4, if_neg (nI_pos (by omega))]
    simp only [hrm, hdv, bs, m_r23, s126 (show P.2.1 - 1 - t < 6 by omega), hm1, nI_1]
    by_cases z : eD r t = 6
    · right
      rw [if_pos (show (6 : Int32) ≤ nI (eD r t) by rw [z]; decide)]
      refine ⟨_, ⟨_, ?_, FH, fun d hd => ?_, EH, by rw [hA2, hok, decide_eq_true z]; rfl⟩, rfl⟩
      · show _ = (_, nI (wE r t + (if eD r t = 6 then 0 else 1)), _, _)
        rw [if_pos z]; rfl
      · rw [LH d hd]
        show _ = nI (w.2.1 d - (cE r d t + (if eD r t = d then 1 else 0)))
        rw [if_neg (by omega)]; rfl
    · rw [if_neg (show ¬ (6 : Int32) ≤ nI (eD r t) from nI_ge (b := 6) (by omega) (by decide))]
      simp only [m_cv, hnm, bs, isOf_m (ndG_64 okP ok hg) (show eD r t < 6 by omega), ← Nat.testBit_eq_decide_div_mod_eq]
      rw [decide_eq_false z, Bool.false_or] at hok
      cases hT : (ndG P w (P.2.1 - 1 - t)).testBit (eD r t)
      · left
        have hf := hfalse (by rw [hok, hT]; rfl)
        rw [bi_f, if_pos rfl, hf]
        exact ⟨_, rfl, FH, fun h => absurd h (by decide)⟩
      · have hlt := tb_lt (ndG_lt okP ok hg) hT
        rw [bi_t, if_neg z10]
        simp only [m_r25, bs, a128 (show eD r t < 6 by omega), LH _ hlt, s128 (show eD r t < 6 by omega)]
        have hpo := (ok.2.1 _ hlt).1
        by_cases y : w.2.1 (eD r t) - cE r (eD r t) t = 0
        · left
          have hf := hfalse (by rw [hok, decide_eq_false (by omega)]; simp)
          rw [y, if_pos (by decide), hf]
          exact ⟨_, rfl, FH, fun h => absurd h (by decide)⟩
        · right
          obtain ⟨q, hq⟩ : ∃ q, w.2.1 (eD r t) - cE r (eD r t) t = q + 1 := ⟨w.2.1 (eD r t) - cE r (eD r t) t - 1, by omega⟩
          rw [hq, if_neg (nI_ne0 (by omega) (by omega)), nI_pred]
          refine ⟨_, ⟨up2 (up2 I1 126 (P.2.1 - 1 - t) (nI (eD r t))) 128 (eD r t) (nI q), ?_, fun a b h1 h2 => ?_, fun d hd => ?_, fun g h1 h2 => ?_, by rw [hA2, hok, hT, decide_eq_true (show cE r (eD r t) t < w.2.1 (eD r t) by omega)]; rfl⟩, rfl⟩
          · show _ = (_, nI (wE r t + (if eD r t = 6 then 0 else 1)), _, _)
            rw [if_neg z]
          · rw [up2_e, if_neg (by omega)]; exact FH a b h1 h2
          · show _ = nI (w.2.1 d - (cE r d t + (if eD r t = d then 1 else 0)))
            rw [up2_e]
            by_cases x : eD r t = d
            · rw [if_pos ⟨rfl, x.symm⟩, if_pos x, ← x, show w.2.1 (eD r t) - (cE r (eD r t) t + 1) = q by omega]
            · rw [if_neg (by omega), if_neg x, LH d hd]; rfl
          · rw [up2_e, if_neg (by omega)]; exact EH g h1 h2
theorem having_m {r : Nat} (hr : r < 2 ^ 30) (hP : PtyM I P) (hw : NowM I 119 0 P.2.1 P.2.2.1 w) (okP : PtyOk P) (ok : NowOk P.1 P.2.1 P.2.2.1 w) : ∃ I1, f_X12_havingBy 112 (nI r) (129, I, Rof p kn, L) = some ((if allB (okT (ndG P w) P.2.1 w.2.1 r) P.2.1 then nI (wE r P.2.1) else -9), (129, I1, Rof p kn, L)) ∧ (∀ a b, a ≠ 126 → a ≠ 128 → I1 a b = I a b) ∧ (allB (okT (ndG P w) P.2.1 w.2.1 r) P.2.1 = true → ∀ g, g < P.2.1 → I1 126 g = nI (eD r (P.2.1 - 1 - g))) := by
  obtain ⟨⟨hn3, hn9, hG, hD⟩, -, -⟩ := id okP
  unfold f_X12_havingBy f_X12_havingBy_2
  refine lupR0 (fun ag (s : Int32 × Mem) => f_X12_havingBy_2b 112 (nI r) ag s.1 s.2) (fun d s => ∃ I1, s = (nI d, (129, I1, Rof p kn, L)) ∧ (∀ a b, a ≠ 128 → I1 a b = I a b) ∧ (∀ i, i < d → i < P.2.2.1 → I1 128 i = nI (w.2.1 i))) 6 (FU_big (by decide)) (fun res => ∃ I1, res = some ((if allB (okT (ndG P w) P.2.1 w.2.1 r) P.2.1 then nI (wE r P.2.1) else -9), (129, I1, Rof p kn, L)) ∧ (∀ a b, a ≠ 126 → a ≠ 128 → I1 a b = I a b) ∧ (allB (okT (ndG P w) P.2.1 w.2.1 r) P.2.1 = true → ∀ g, g < P.2.1 → I1 126 g = nI (eD r (P.2.1 - 1 - g)))) _ ⟨I, rfl, fun _ _ _ => rfl, fun i hi => absurd hi (Nat.not_lt_zero _)⟩ ?_ ?_
  · rintro s ⟨I1, rfl, hF, hL⟩ ag
    show ∃ I2, f_X12_havingBy_2b 112 (nI r) ag (nI 6) (129, I1, Rof p kn, L) = _ ∧ _
    have q1 : I1 114 1 = nI P.2.1 := by rw [hF _ _ (by omega)]; exact hP.1.2.1
    unfold f_X12_havingBy_2b
    rw [if_pos (by decide)]
    simp only [m_r9, bs, many1, q1]
    exact hav56 hr hP hw okP ok hF (fun d hd => hL d (by omega) hd)
  · rintro d s hd ⟨I1, rfl, hF, hL⟩ ag
    show ∃ s', _ ∧ f_X12_havingBy_2b 112 (nI r) ag (nI d) (129, I1, Rof p kn, L) = ag s'
    have q2 : I1 114 2 = nI P.2.2.1 := by rw [hF _ _ (by omega)]; exact hP.1.2.2
    have e1 : (1 : Int32) + nI d = nI (1 + d) := nI_add 1 d
    unfold f_X12_havingBy_2b f_X12_havingBy_35
    rw [if_neg (show ¬ (6 : Int32) ≤ nI d from nI_ge (b := 6) hd (by decide))]
    simp only [m_r25, m_r9, bs, many2, q2, nI_1, m_r14, e1, m119 (show 1 + d < 25 by omega), s128 hd]
    by_cases z : P.2.2.1 ≤ d
    · rw [if_pos (nI_le z (by omega))]
      refine ⟨_, ⟨_, rfl, fun a b h => by rw [up2_e, if_neg (by omega)]; exact hF a b h, fun i h1 h2 => ?_⟩, rfl⟩
      rw [up2_e, if_neg (by omega)]; exact hL i (by omega) h2
    · rw [if_neg (nI_ge (by omega) (by omega))]
      refine ⟨_, ⟨_, rfl, fun a b h => by rw [up2_e, if_neg (by omega)]; exact hF a b h, fun i h1 h2 => ?_⟩, rfl⟩
      rw [up2_e]
      by_cases y : i = d
      · subst y
        rw [if_pos ⟨rfl, rfl⟩, hF _ _ (by omega)]
        have := (hw.2.1 i (by omega)).1
        rwa [Nat.zero_add] at this
      · rw [if_neg (by omega)]; exact hL i (by omega) h2
end S23
