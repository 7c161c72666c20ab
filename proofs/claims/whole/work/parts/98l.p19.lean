/-! ===== puts, the best change ===== -/
theorem lupR {S R : Type} (F : (S → Option R) → S → Option R) (Inv : Nat → S → Prop) (e : Nat) (post : Option R → Prop) (hx : ∀ s, Inv e s → ∀ ag, post (F ag s)) (hs : ∀ j s, j < e → Inv j s → ∀ ag, ∃ s', Inv (j + 1) s' ∧ F ag s = ag s') : ∀ n j s, j ≤ e → e - j < n → Inv j s → post (loopF F n s) := by
  intro n
  induction n with
  | zero => intro j s _ h; exact absurd h (Nat.not_lt_zero _)
  | succ n ih =>
    intro j s hj hn hI
    show post (F (loopF F n) s)
    by_cases h : j = e
    · subst h; exact hx s hI _
    · obtain ⟨s', h1, h2⟩ := hs j s (by omega) hI (loopF F n)
      rw [h2]; exact ih (j + 1) s' (by omega) (by omega) h1
theorem lupR0 {S R : Type} (F : (S → Option R) → S → Option R) (Inv : Nat → S → Prop) (e : Nat) (he : e < FU) (post : Option R → Prop) (s : S) (h0 : Inv 0 s) (hx : ∀ s, Inv e s → ∀ ag, post (F ag s)) (hs : ∀ j s, j < e → Inv j s → ∀ ag, ∃ s', Inv (j + 1) s' ∧ F ag s = ag s') : post (loopF F FU s) := lupR F Inv e post hx hs FU 0 s (Nat.zero_le _) (by omega) h0
def plS (w : NowS) (d v : Nat) : NowS := (w.1, w.2.1, udn w.2.2.1 d v, w.2.2.2.1, w.2.2.2.2)
theorem udn_2 {f : Nat → Nat} {d v x : Nat} : udn (udn f d v) d x = udn f d x := by
  funext i; unfold udn; split <;> rfl
theorem plS_id {w : NowS} {d : Nat} : plS w d (w.2.2.1 d) = w := by unfold plS; rw [udn_id rfl]
theorem plS_ok {n G D d v : Nat} {w : NowS} (ok : NowOk n G D w) (hv : v < n) : NowOk n G D (plS w d v) := by
  refine ⟨ok.1, fun i hi => ⟨(ok.2.1 i hi).1, ?_⟩, ok.2.2⟩
  show udn w.2.2.1 d v i < n
  unfold udn; split
  · exact hv
  · exact (ok.2.1 i hi).2
theorem swS_2 {w : NowS} {a b : Nat} (h : a ≠ b) : swS (swS w a b) a b = w := by
  have : udn (udn (udn (udn w.2.2.2.1 a (w.2.2.2.1 b)) b (w.2.2.2.1 a)) a (udn (udn w.2.2.2.1 a (w.2.2.2.1 b)) b (w.2.2.2.1 a) b)) b (udn (udn w.2.2.2.1 a (w.2.2.2.1 b)) b (w.2.2.2.1 a) a) = w.2.2.2.1 := by
    funext i
    unfold udn
    by_cases z : i = b
    · subst z; simp [h]
    · by_cases y : i = a
      · subst y; simp [h]
      · simp [z, y]
  unfold swS
  show (w.1, w.2.1, w.2.2.1, udn (udn (udn (udn w.2.2.2.1 a (w.2.2.2.1 b)) b (w.2.2.2.1 a)) a (udn (udn w.2.2.2.1 a (w.2.2.2.1 b)) b (w.2.2.2.1 a) b)) b (udn (udn w.2.2.2.1 a (w.2.2.2.1 b)) b (w.2.2.2.1 a) a), w.2.2.2.2) = w
  rw [this]
section S19
variable {P : PtyS} {w : NowS}
theorem touN_le (okP : PtyOk P) (ok : NowOk P.1 P.2.1 P.2.2.1 w) : touN P w ≤ P.1 - 1 := (cLM_b okP.1.2.1 (fOut_9' okP ok) P.1).1
/-- one try of a better one: the best till now, its tour -/
def trI (x : Int32) (t : Int32) (y : Int32 × Int32) : Int32 × Int32 := if t = -9 then y else if y.2 ≤ t then y else (x, t)
def puS (P : PtyS) (w : NowS) (d : Nat) (s : Int32 × Int32) : Nat → Int32 × Int32
  | 0 => s
  | x + 1 => if w.2.2.1 d = x ∨ emB w.2.2.1 x P.2.2.1 = true then trI (nI x) (touI P (plS w d x)) (puS P w d s x) else puS P w d s x
theorem touI_or (okP : PtyOk P) (ok : NowOk P.1 P.2.1 P.2.2.1 w) : touI P w = -9 ∨ ∃ k, k < P.1 ∧ touI P w = nI k := by
  unfold touI
  rcases (Bool.eq_false_or_eq_true (allB (enP P w) P.2.2.1)).symm with h | h <;> rw [h]
  · exact Or.inl rfl
  · exact Or.inr ⟨_, by have := touN_le okP ok; have := okP.1.1; omega, rfl⟩
theorem n9 {k : Nat} (h : k < 100) : ¬ nI k = (-9 : Int32) := by
  intro e
  have : (nI k).toInt = (-9 : Int32).toInt := by rw [e]
  rw [nI_toInt (by omega)] at this
  have e9 : (-9 : Int32).toInt = -9 := by decide
  omega
theorem puS_eq (okP : PtyOk P) (ok : NowOk P.1 P.2.1 P.2.2.1 w) (d : Nat) : ∀ x, x ≤ P.1 → (puS P w d (-9, nI P.1) x).1 = (puS P w d (-9, 99) x).1 ∧ ((puS P w d (-9, nI P.1) x).2 = (puS P w d (-9, 99) x).2 ∨ ((puS P w d (-9, nI P.1) x).2 = nI P.1 ∧ (puS P w d (-9, 99) x).2 = 99)) := by
  intro x
  induction x with
  | zero => intro _; exact ⟨rfl, Or.inr ⟨rfl, rfl⟩⟩
  | succ x ih =>
    intro hx
    have hi := ih (by omega)
    have hn := okP.1
    simp only [puS]
    split
    · unfold trI
      rcases touI_or okP (plS_ok (d := d) (v := x) ok (by omega)) with h | ⟨k, hk, h⟩ <;> rw [h]
      · rw [if_pos rfl, if_pos rfl]; exact hi
      · rw [if_neg (n9 (by omega)), if_neg (n9 (by omega))]
        rcases hi with ⟨h1, h2 | ⟨h2, h3⟩⟩
        · rw [h2]; split
          · exact ⟨h1, Or.inl h2⟩
          · exact ⟨rfl, Or.inl rfl⟩
        · rw [h2, h3, if_neg (nI_ge hk (by omega)), if_neg (show ¬ (99 : Int32) ≤ nI k from nI_ge (b := 99) (by omega) (by decide))]
          exact ⟨rfl, Or.inl rfl⟩
    · exact hi
end S19
section S19b
variable {σ : St} {p : Nat} {kn : Nat → Nat} {I : Nat → Nat → Int32} {L : Nat → Nat → Int64}
/-- the class's scratch: the trial, the furthest -/
def trF (p : Nat) (I I1 : Nat → Nat → Int32) : Prop := ∀ a b, a ≠ p + 9 → (a < 34 ∨ 38 < a) → I1 a b = I a b
theorem trF_RC {I1 : Nat → Nat → Int32} (h : trF p I I1) (hC : RC σ p kn I L) (ok : SOk σ) : RC σ p kn I1 L := by
  have hp := hC.1.1
  refine RC_fr (fun a b ha hb => h a b ?_ ?_) rfl ok.2.2.1.1 hC
  · intro z; apply hb; unfold cscr; omega
  · apply Classical.byContradiction; intro z; apply hb; unfold cscr; omega
theorem w36 {R : Nat → Nat → Option Nat} {j : Nat} {v : Int32} (h : j < 6) : sI (129, I, R, L) 36 (nI j) v = some (129, up2 I 36 j v, R, L) := sI_n (k := 36) (n := 6) (by decide) rfl h (by decide)
theorem r342 : gR (129, I, Rof p kn, L) 34 7 2 = some 36 := n_gR isN_34 (by decide) (by decide)
theorem puts_c {d : Nat} (hC : RC σ p kn I L) (ok : SOk σ) (hd : d < sD σ) : ∃ I1, f_X11_puts 0 (nI d) (129, I, Rof p kn, L) = some ((puS (sP σ) (sW σ) d (-9, nI (sn σ)) (sn σ)).1, (129, I1, Rof p kn, L)) ∧ trF p I I1 := by
  have hp := isP_of hC.1.1
  have hp3 := hC.1.1
  obtain ⟨hn3, hn9, hG, hD⟩ := okn ok
  obtain ⟨I0, b1, b2, b3, b4⟩ := become_c (p := p) (kn := kn) (I := I) (L := L) (k := 34) (j := 29) isN_34 isN_29 (by omega)
  have c0 : I p 0 = nI (sn σ) := hC.2.1.1.1
  have hw0 : NowC I0 34 (sG σ) (sD σ) (sW σ) := NowC_cp (k' := 29) hG hD b3 (fun i b h1 h4 hb => b4 i b h1 h4 hb) hC.2.2.1
  have hF0 : trF p I I0 := fun a b _ h2 => b2 a b (by omega)
  unfold f_X11_puts
  simp only [c_cv, isD_c_yes hC ok hd, bs, z10, ↓reduceIte, c_r4, p_gI hp, c0, c_r6, c_r5, n_cv isN_34, b1]
  unfold f_X11_puts_35
  refine lupR0 (fun ag (s : Int32 × Int32 × Int32 × Mem) => f_X11_puts_35b 0 (nI d) ag s.1 s.2.1 s.2.2.1 s.2.2.2) (fun x s => ∃ I1 v, s = ((puS (sP σ) (sW σ) d (-9, nI (sn σ)) x).1, (puS (sP σ) (sW σ) d (-9, nI (sn σ)) x).2, nI x, (129, I1, Rof p kn, L)) ∧ trF p I I1 ∧ NowC I1 34 (sG σ) (sD σ) (plS (sW σ) d v)) (sn σ) (FU_big (by omega)) (fun r => ∃ I1, r = some ((puS (sP σ) (sW σ) d (-9, nI (sn σ)) (sn σ)).1, (129, I1, Rof p kn, L)) ∧ trF p I I1) _ ⟨I0, (sW σ).2.2.1 d, rfl, hF0, by rw [plS_id]; exact hw0⟩ ?_ ?_
  · rintro s ⟨I1, v, rfl, hF, hw⟩ ag
    refine ⟨I1, ?_, hF⟩
    show f_X11_puts_35b 0 (nI d) ag _ _ (nI (sn σ)) (129, I1, Rof p kn, L) = _
    unfold f_X11_puts_35b
    simp only [c_r4, bs, p_gI hp]
    rw [hF p 0 (by omega) (by omega), c0, if_pos (nI_le (Nat.le_refl _) (by omega))]
  · rintro x s hx ⟨I1, v, rfl, hF, hw⟩ ag
    have hC1 := trF_RC hF hC ok
    have q31 : I1 31 d = nI ((sW σ).2.2.1 d) := (hC1.2.2.1.2.1 d hd).2
    have hpl : (sW σ).2.2.1 d < sn σ := (ok.2.1.2.1 d hd).2
    have hem := isEmpty_c (kn := kn) (L := L) hp hC1.2.1 hC1.2.2.1 ok.1 ok.2.1 hx
    have hstep : puS (sP σ) (sW σ) d (-9, nI (sn σ)) (x + 1) = if (sW σ).2.2.1 d = x ∨ emB (sW σ).2.2.1 x (sD σ) = true then trI (nI x) (touI (sP σ) (plS (sW σ) d x)) (puS (sP σ) (sW σ) d (-9, nI (sn σ)) x) else puS (sP σ) (sW σ) d (-9, nI (sn σ)) x := rfl
    -- the try
    have h70 : ((sW σ).2.2.1 d = x ∨ emB (sW σ).2.2.1 x (sD σ) = true) → ∃ s', (∃ I2 v, s' = ((puS (sP σ) (sW σ) d (-9, nI (sn σ)) (x + 1)).1, (puS (sP σ) (sW σ) d (-9, nI (sn σ)) (x + 1)).2, nI (x + 1), (129, I2, Rof p kn, L)) ∧ trF p I I2 ∧ NowC I2 34 (sG σ) (sD σ) (plS (sW σ) d v)) ∧ f_X11_puts_70 ag 0 (nI d) (puS (sP σ) (sW σ) d (-9, nI (sn σ)) x).1 (puS (sP σ) (sW σ) d (-9, nI (sn σ)) x).2 (nI x) (129, I1, Rof p kn, L) = ag s' := by
      intro hor
      rw [if_pos hor] at hstep
      have hw2 : NowC (up2 I1 36 d (nI x)) 34 (sG σ) (sD σ) (plS (sW σ) d x) := by
        have := NowC_pla (d := d) (v := x) hw
        unfold plS at this ⊢
        rw [udn_2] at this
        exact this
      have hP2 : PtyC (up2 I1 36 d (nI x)) p (sP σ) := PtyC_fr (fun i b hi => by rw [up2_e, if_neg (by omega)]) hC1.2.1
      obtain ⟨I2, t1, t2⟩ := tour_c (p := p) (kn := kn) (L := L) hp isN_34 (by omega) hP2 hw2 ok.1 (plS_ok (d := d) ok.2.1 hx)
      refine ⟨_, ⟨I2, x, rfl, ?_, NowC_fr (fun i b hi => t2 _ b (by omega)) hw2⟩, ?_⟩
      · intro a b h1 h2; rw [t2 a b h1, up2_e, if_neg (by omega)]; exact hF a b h1 h2
      · rw [hstep]
        unfold f_X11_puts_70
        simp only [c_r6, r342, bs, w36 (show d < 6 by omega), c_r4, p_cv hp, t1, nI_1]
        unfold trI
        split
        · rfl
        · split
          · rfl
          · rfl
    show ∃ s', _ ∧ f_X11_puts_35b 0 (nI d) ag (puS (sP σ) (sW σ) d (-9, nI (sn σ)) x).1 (puS (sP σ) (sW σ) d (-9, nI (sn σ)) x).2 (nI x) (129, I1, Rof p kn, L) = ag s'
    have hgo : f_X11_puts_35b 0 (nI d) ag (puS (sP σ) (sW σ) d (-9, nI (sn σ)) x).1 (puS (sP σ) (sW σ) d (-9, nI (sn σ)) x).2 (nI x) (129, I1, Rof p kn, L) = if (sW σ).2.2.1 d = x ∨ emB (sW σ).2.2.1 x (sD σ) = true then f_X11_puts_70 ag 0 (nI d) (puS (sP σ) (sW σ) d (-9, nI (sn σ)) x).1 (puS (sP σ) (sW σ) d (-9, nI (sn σ)) x).2 (nI x) (129, I1, Rof p kn, L) else ag ((puS (sP σ) (sW σ) d (-9, nI (sn σ)) x).1, (puS (sP σ) (sW σ) d (-9, nI (sn σ)) x).2, nI (x + 1), (129, I1, Rof p kn, L)) := by
      unfold f_X11_puts_35b
      simp only [c_r4, bs, p_gI hp]
      rw [hF p 0 (by omega) (by omega), c0, if_neg (nI_ge hx (by omega))]
      simp only [c_r5, r292, bs, c31 (show d < 6 by omega), q31, c_cv, hem, nI_1]
      by_cases z : (sW σ).2.2.1 d = x
      · rw [if_pos (show nI x = nI ((sW σ).2.2.1 d) by rw [z]), if_pos (Or.inl z)]
      · rw [if_neg (fun q => z ((nI_eq (by omega) (by omega)).mp q).symm)]
        rcases (Bool.eq_false_or_eq_true (emB (sW σ).2.2.1 x (sP σ).2.2.1)).symm with h | h
        · rw [h, bi_f, if_pos rfl, if_neg (fun q => by rcases q with q | q; exact z q; exact absurd q (by decide))]
        · rw [h, bi_t, if_neg z10, if_pos (Or.inr rfl)]
    rw [hgo]
    by_cases hor : (sW σ).2.2.1 d = x ∨ emB (sW σ).2.2.1 x (sD σ) = true
    · rw [if_pos hor]; exact h70 hor
    · rw [if_neg hor]
      rw [if_neg hor] at hstep
      exact ⟨_, ⟨I1, v, by rw [hstep], hF, hw⟩, rfl⟩
theorem puts_m {d : Nat} (hM : RM σ I L) (ok : SOk σ) (hd : d < sD σ) : ∃ I1, f_X12_puts_35 112 (nI d) (nI ((sW σ).2.2.1 d)) (-9) 99 0 (129, I, Rof p kn, L) = some ((puS (sP σ) (sW σ) d (-9, 99) (sn σ)).1, (129, I1, Rof p kn, L)) ∧ RM σ I1 L ∧ (∀ a b, a ≠ 119 → I1 a b = I a b) := by
  obtain ⟨hn3, hn9, hG, hD⟩ := okn ok
  have hpl : (sW σ).2.2.1 d < sn σ := (ok.2.1.2.1 d hd).2
  have e7 : (7 : Int32) + nI d = nI (7 + d) := nI_add 7 d
  unfold f_X12_puts_35
  refine lupR0 (fun ag (s : Int32 × Int32 × Int32 × Mem) => f_X12_puts_35b 112 (nI d) (nI ((sW σ).2.2.1 d)) ag s.1 s.2.1 s.2.2.1 s.2.2.2) (fun x s => ∃ I1, s = ((puS (sP σ) (sW σ) d (-9, 99) x).1, (puS (sP σ) (sW σ) d (-9, 99) x).2, nI x, (129, I1, Rof p kn, L)) ∧ RM σ I1 L ∧ (∀ a b, a ≠ 119 → I1 a b = I a b)) (sn σ) (FU_big (by omega)) (fun r => ∃ I1, r = some ((puS (sP σ) (sW σ) d (-9, 99) (sn σ)).1, (129, I1, Rof p kn, L)) ∧ RM σ I1 L ∧ (∀ a b, a ≠ 119 → I1 a b = I a b)) _ ⟨I, rfl, hM, fun _ _ _ => rfl⟩ ?_ ?_
  · rintro s ⟨I1, rfl, hM1, hF⟩ ag
    refine ⟨I1, ?_, hM1, hF⟩
    show f_X12_puts_35b 112 (nI d) _ ag _ _ (nI (sn σ)) (129, I1, Rof p kn, L) = _
    have q0 : I1 114 0 = nI (sn σ) := hM1.1.1.1
    unfold f_X12_puts_35b
    simp only [m_r9, bs, many0, q0]
    rw [if_pos (nI_le (Nat.le_refl _) (by omega))]
  · rintro x s hx ⟨I1, rfl, hM1, hF⟩ ag
    have q0 : I1 114 0 = nI (sn σ) := hM1.1.1.1
    have hem := isEmpty_m (p := p) (kn := kn) (L := L) hM1.1 hM1.2.1 ok.1 ok.2.1 hx
    have hstep : puS (sP σ) (sW σ) d (-9, 99) (x + 1) = if (sW σ).2.2.1 d = x ∨ emB (sW σ).2.2.1 x (sD σ) = true then trI (nI x) (touI (sP σ) (plS (sW σ) d x)) (puS (sP σ) (sW σ) d (-9, 99) x) else puS (sP σ) (sW σ) d (-9, 99) x := rfl
    generalize hy : puS (sP σ) (sW σ) d (-9, 99) x = y at *
    show ∃ s', _ ∧ f_X12_puts_35b 112 (nI d) (nI ((sW σ).2.2.1 d)) ag y.1 y.2 (nI x) (129, I1, Rof p kn, L) = ag s'
    have hgo : f_X12_puts_35b 112 (nI d) (nI ((sW σ).2.2.1 d)) ag y.1 y.2 (nI x) (129, I1, Rof p kn, L) = if (sW σ).2.2.1 d = x ∨ emB (sW σ).2.2.1 x (sD σ) = true then f_X12_puts_61 ag 112 (nI d) (nI ((sW σ).2.2.1 d)) y.1 y.2 (nI x) (129, I1, Rof p kn, L) else ag (y.1, y.2, nI (x + 1), (129, I1, Rof p kn, L)) := by
      unfold f_X12_puts_35b
      simp only [m_r9, bs, many0, q0]
      rw [if_neg (nI_ge hx (by omega))]
      simp only [m_cv, hem, bs, nI_1]
      by_cases z : (sW σ).2.2.1 d = x
      · rw [if_pos (show nI x = nI ((sW σ).2.2.1 d) by rw [z]), if_pos (Or.inl z)]
      · rw [if_neg (fun q => z ((nI_eq (by omega) (by omega)).mp q).symm)]
        rcases (Bool.eq_false_or_eq_true (emB (sW σ).2.2.1 x (sP σ).2.2.1)).symm with h | h
        · rw [h, bi_f, if_pos rfl, if_neg (fun q => by rcases q with q | q; exact z q; exact absurd q (by decide))]
        · rw [h, bi_t, if_neg z10, if_pos (Or.inr rfl)]
    rw [hgo]
    by_cases hor : (sW σ).2.2.1 d = x ∨ emB (sW σ).2.2.1 x (sD σ) = true
    · rw [if_pos hor]
      rw [if_pos hor] at hstep
      have hw2 := NowM_pla (d := d) (v := x) hG hD (show d < 6 by omega) hM1.2.1
      rw [Nat.zero_add] at hw2
      have hP2 : PtyM (up2 I1 119 (7 + d) (nI x)) (sP σ) := PtyM_fr (fun a b _ _ => by rw [up2_e, if_neg (by omega)]) hM1.1
      have t1 := tour_m (p := p) (kn := kn) (L := L) hP2 hw2 ok.1 (plS_ok (d := d) (v := x) ok.2.1 hx)
      have t1' : f_X12_tourOf 112 (129, up2 I1 119 (7 + d) (nI x), Rof p kn, L) = some (touI (sP σ) (plS (sW σ) d x)) := t1
      have hw3 := NowM_pla (d := d) (v := (sW σ).2.2.1 d) hG hD (show d < 6 by omega) hw2
      rw [Nat.zero_add] at hw3
      have hw4 : NowM (up2 (up2 I1 119 (7 + d) (nI x)) 119 (7 + d) (nI ((sW σ).2.2.1 d))) 119 0 (sG σ) (sD σ) (sW σ) := by
        have e : udn (udn (sW σ).2.2.1 d x) d ((sW σ).2.2.1 d) = (sW σ).2.2.1 := by rw [udn_2]; exact udn_id rfl
        have := hw3
        simp only [e] at this
        exact this
      have hM3 : RM σ (up2 (up2 I1 119 (7 + d) (nI x)) 119 (7 + d) (nI ((sW σ).2.2.1 d))) L := RM_Ws hM1 ok (fun a b _ h => by rw [up2_e, if_neg (by omega), up2_e, if_neg (by omega)]) hw4
      refine ⟨_, ⟨_, rfl, hM3, fun a b h => by rw [up2_e, if_neg (by omega), up2_e, if_neg (by omega)]; exact hF a b h⟩, ?_⟩
      rw [hstep]
      unfold f_X12_puts_61 f_X12_puts_97 f_X12_puts_98 f_X12_puts_118 f_X12_puts_120
      simp only [m_r14, bs, e7, s119 (show 7 + d < 25 by omega), m_cv, t1', nI_1]
      unfold trI
      generalize touI (sP σ) (plS (sW σ) d x) = t
      by_cases z : t = -9
      · simp only [z, ↓reduceIte]
      · by_cases u : y.2 ≤ t
        · simp only [z, u, ↓reduceIte]
        · simp only [z, u, ↓reduceIte]
    · rw [if_neg hor]
      rw [if_neg hor] at hstep
      exact ⟨_, ⟨I1, by rw [hstep], hM1, hF⟩, rfl⟩
theorem st_puts (M : Mem) (a1 : Int32) (h : Rel M) : StepI (f_X11_puts 0 a1 M) (fun M => f_X12_puts 112 a1 M) Rel := by
  obtain ⟨σ, p, kn, I, L, rfl, ok, hC, hM⟩ := h
  have hM' := RM_th ok hM
  obtain ⟨hn3, hn9, hG, hD⟩ := okn ok
  rcases ixn a1 (sD σ) (by omega) with hx | ⟨d, hd, rfl⟩
  · refine stepI (r := -1) (I1 := I) (R1 := Rof p kn) (L1 := L) ?_ ?_ (Rel_th ok hC hM)
    · unfold f_X11_puts
      simp only [c_cv, isD_c_no hC ok hx, bs, ↓reduceIte]
    · show f_X12_puts 112 _ _ = _
      unfold f_X12_puts
      simp only [m_pI, bs, m_cv, isD_m_no hM' ok hx, ↓reduceIte]
  obtain ⟨I1, e1, F1⟩ := puts_c hC ok hd
  have hp3 := hC.1.1
  have hM1 : RM σ I1 L := RM_hi (fun a b ha => F1 a b (by omega) (by omega)) hiEq.rf ok hM
  have hM1' := RM_th ok hM1
  obtain ⟨I2, e2, hM2, F2⟩ := puts_m (p := p) (kn := kn) hM1' ok hd
  have e7 : (7 : Int32) + nI d = nI (7 + d) := nI_add 7 d
  have m7 : up2 I1 112 0 0 119 (7 + d) = nI ((sW σ).2.2.1 d) := by have := (hM1'.2.1.2.1 d hd).2; rwa [Nat.zero_add] at this
  have E2 : f_X12_puts 112 (nI d) (129, I1, Rof p kn, L) = some ((puS (sP σ) (sW σ) d (-9, nI (sn σ)) (sn σ)).1, (129, I2, Rof p kn, L)) := by
    rw [(puS_eq ok.1 ok.2.1 d (sn σ) (Nat.le_refl _)).1]
    unfold f_X12_puts
    simp only [m_pI, bs, m_cv, isD_m_yes hM1' ok hd, z10, ↓reduceIte, m_r14, e7, m119 (show 7 + d < 25 by omega), m7]
    exact e2
  exact stepI e1 E2 ⟨σ, p, kn, _, _, rfl, ok, RC_lo (I := I1) (fun a b ha => by rw [F2 a b (by omega), up2_e, if_neg (by omega)]) loEq.rf ok (trF_RC F1 hC ok), hM2⟩
end S19b
