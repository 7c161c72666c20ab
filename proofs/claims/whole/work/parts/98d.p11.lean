/-! ===== one cell of a state written; moves, changes, spins ===== -/
def udn (f : Nat → Nat) (d v : Nat) : Nat → Nat := fun i => if i = d then v else f i
theorem udn_s {f : Nat → Nat} {d v : Nat} : udn f d v d = v := by unfold udn; rw [if_pos rfl]
theorem udn_o {f : Nat → Nat} {d v i : Nat} (h : i ≠ d) : udn f d v i = f i := by unfold udn; rw [if_neg h]
theorem up_upd {I : Nat → Nat → Int32} {k b d i v : Nat} {f : Nat → Nat} (h : I k (b + i) = nI (f i)) : up2 I k (b + d) (nI v) k (b + i) = nI (udn f d v i) := by
  rw [up2_e]; unfold udn
  by_cases z : i = d
  · rw [if_pos ⟨rfl, by omega⟩, if_pos z]
  · rw [if_neg (by omega), if_neg z]; exact h
theorem up_upd0 {I : Nat → Nat → Int32} {k d i v : Nat} {f : Nat → Nat} (h : I k i = nI (f i)) : up2 I k d (nI v) k i = nI (udn f d v i) := by
  rw [up2_e]; unfold udn
  by_cases z : i = d
  · rw [if_pos ⟨rfl, by omega⟩, if_pos z]
  · rw [if_neg (by omega), if_neg z]; exact h
theorem un {I : Nat → Nat → Int32} {k j a b : Nat} {v x : Int32} (h : ¬ (a = k ∧ b = j)) (e : I a b = x) : up2 I k j v a b = x := by rw [up2_e, if_neg h]; exact e
section S11a
variable {I : Nat → Nat → Int32} {k c o G D d v : Nat} {w : NowS}
theorem NowC_turn (hw : NowC I k G D w) : NowC (up2 I k 0 (nI v)) k G D (v, w.2.1, w.2.2.1, w.2.2.2.1, w.2.2.2.2) := ⟨us, fun i hi => ⟨un (by omega) (hw.2.1 i hi).1, un (by omega) (hw.2.1 i hi).2⟩, fun i hi => ⟨un (by omega) (hw.2.2 i hi).1, un (by omega) (hw.2.2 i hi).2⟩⟩
theorem NowC_por (hw : NowC I k G D w) : NowC (up2 I (k + 1) d (nI v)) k G D (w.1, udn w.2.1 d v, w.2.2.1, w.2.2.2.1, w.2.2.2.2) := ⟨un (by omega) hw.1, fun i hi => ⟨up_upd0 (hw.2.1 i hi).1, un (by omega) (hw.2.1 i hi).2⟩, fun i hi => ⟨un (by omega) (hw.2.2 i hi).1, un (by omega) (hw.2.2 i hi).2⟩⟩
theorem NowC_pla (hw : NowC I k G D w) : NowC (up2 I (k + 2) d (nI v)) k G D (w.1, w.2.1, udn w.2.2.1 d v, w.2.2.2.1, w.2.2.2.2) := ⟨un (by omega) hw.1, fun i hi => ⟨un (by omega) (hw.2.1 i hi).1, up_upd0 (hw.2.1 i hi).2⟩, fun i hi => ⟨un (by omega) (hw.2.2 i hi).1, un (by omega) (hw.2.2 i hi).2⟩⟩
theorem NowC_sit (hw : NowC I k G D w) : NowC (up2 I (k + 3) d (nI v)) k G D (w.1, w.2.1, w.2.2.1, udn w.2.2.2.1 d v, w.2.2.2.2) := ⟨un (by omega) hw.1, fun i hi => ⟨un (by omega) (hw.2.1 i hi).1, un (by omega) (hw.2.1 i hi).2⟩, fun i hi => ⟨up_upd0 (hw.2.2 i hi).1, un (by omega) (hw.2.2 i hi).2⟩⟩
theorem NowM_turn (hw : NowM I c o G D w) : NowM (up2 I c o (nI v)) c o G D (v, w.2.1, w.2.2.1, w.2.2.2.1, w.2.2.2.2) := ⟨us, fun i hi => ⟨un (by omega) (hw.2.1 i hi).1, un (by omega) (hw.2.1 i hi).2⟩, fun i hi => ⟨un (by omega) (hw.2.2 i hi).1, un (by omega) (hw.2.2 i hi).2⟩⟩
theorem NowM_por (hG : G ≤ 6) (hD : D ≤ 6) (hd : d < 6) (hw : NowM I c o G D w) : NowM (up2 I c (o + 1 + d) (nI v)) c o G D (w.1, udn w.2.1 d v, w.2.2.1, w.2.2.2.1, w.2.2.2.2) := ⟨un (by omega) hw.1, fun i hi => ⟨up_upd (hw.2.1 i hi).1, un (by omega) (hw.2.1 i hi).2⟩, fun i hi => ⟨un (by omega) (hw.2.2 i hi).1, un (by omega) (hw.2.2 i hi).2⟩⟩
theorem NowM_pla (hG : G ≤ 6) (hD : D ≤ 6) (hd : d < 6) (hw : NowM I c o G D w) : NowM (up2 I c (o + 7 + d) (nI v)) c o G D (w.1, w.2.1, udn w.2.2.1 d v, w.2.2.2.1, w.2.2.2.2) := ⟨un (by omega) hw.1, fun i hi => ⟨un (by omega) (hw.2.1 i hi).1, up_upd (hw.2.1 i hi).2⟩, fun i hi => ⟨un (by omega) (hw.2.2 i hi).1, un (by omega) (hw.2.2 i hi).2⟩⟩
theorem NowM_sit (hG : G ≤ 6) (hD : D ≤ 6) (hd : d < 6) (hw : NowM I c o G D w) : NowM (up2 I c (o + 13 + d) (nI v)) c o G D (w.1, w.2.1, w.2.2.1, udn w.2.2.2.1 d v, w.2.2.2.2) := ⟨un (by omega) hw.1, fun i hi => ⟨un (by omega) (hw.2.1 i hi).1, un (by omega) (hw.2.1 i hi).2⟩, fun i hi => ⟨up_upd (hw.2.2 i hi).1, un (by omega) (hw.2.2 i hi).2⟩⟩
end S11a
/-- an empty place -/
def emB (f : Nat → Nat) (x : Nat) : Nat → Bool
  | 0 => true
  | d + 1 => emB f x d && !(f d == x)
theorem emB_f {f : Nat → Nat} {x i : Nat} (h : emB f x i = false) : ∀ j, i ≤ j → emB f x j = false := by
  intro j
  induction j with
  | zero => intro hj; rw [show i = 0 by omega] at h; exact h
  | succ j ih =>
    intro hj
    by_cases z : i = j + 1
    · subst z; exact h
    · simp only [emB, ih (by omega), Bool.false_and]
section S11
variable {σ : St} {p : Nat} {kn : Nat → Nat} {I : Nat → Nat → Int32} {L : Nat → Nat → Int64}
theorem isEmpty_c {P : PtyS} {w : NowS} {x : Nat} (hp : isP p) (hP : PtyC I p P) (hw : NowC I 29 P.2.1 P.2.2.1 w) (okP : PtyOk P) (ok : NowOk P.1 P.2.1 P.2.2.1 w) (hx : x < P.1) : f_X11_isEmpty 0 (nI x) (129, I, Rof p kn, L) = some (bi (emB w.2.2.1 x P.2.2.1)) := by
  obtain ⟨⟨hn3, hn9, hG, hD⟩, -, -⟩ := id okP
  unfold f_X11_isEmpty f_X11_isEmpty_2
  refine lupX _ (fun j => nI j) P.2.2.1 _ (fun j => emB w.2.2.1 x j = true) (fun hI ag => ?_) (fun j hj hI ag => ?_) FU 0 (Nat.zero_le _) (by have := FU_big (e := P.2.2.1) (by omega); omega) rfl
  · show f_X11_isEmpty_2b 0 (nI x) _ ag (nI P.2.2.1) = _
    unfold f_X11_isEmpty_2b
    simp only [c_r4, p_gI hp, bs, hP.1.2.2]
    rw [if_pos (nI_le (Nat.le_refl _) (by omega)), hI]; rfl
  · have hv := (hw.2.1 j hj).2
    have hv' : I 31 j = nI (w.2.2.1 j) := hv
    have hb := (ok.2.1 j hj).2
    have he : emB w.2.2.1 x (j + 1) = (emB w.2.2.1 x j && !(w.2.2.1 j == x)) := rfl
    rw [hI, Bool.true_and] at he
    show f_X11_isEmpty_2b 0 (nI x) _ ag (nI j) = _ ∨ (_ ∧ f_X11_isEmpty_2b 0 (nI x) _ ag (nI j) = _)
    unfold f_X11_isEmpty_2b
    simp only [c_r4, p_gI hp, bs, hP.1.2.2]
    rw [if_neg (nI_ge hj (by omega))]
    simp only [c_r5, r292, bs, c31 (show j < 6 by omega), hv', nI_1]
    by_cases z : w.2.2.1 j = x
    · left
      rw [if_pos (by rw [z]), emB_f (i := j + 1) (by rw [he, z]; simp) _ (by omega)]; rfl
    · right
      rw [if_neg (fun q => z ((nI_eq (by omega) (by omega)).mp q))]
      exact ⟨by rw [he]; simp [z], rfl⟩
theorem isEmpty_m {P : PtyS} {w : NowS} {x : Nat} (hP : PtyM I P) (hw : NowM I 119 0 P.2.1 P.2.2.1 w) (okP : PtyOk P) (ok : NowOk P.1 P.2.1 P.2.2.1 w) (hx : x < P.1) : f_X12_isEmpty 112 (nI x) (129, I, Rof p kn, L) = some (bi (emB w.2.2.1 x P.2.2.1)) := by
  obtain ⟨⟨hn3, hn9, hG, hD⟩, -, -⟩ := id okP
  unfold f_X12_isEmpty f_X12_isEmpty_4
  refine lup0 _ (fun j => (bi (emB w.2.2.1 x j), nI j)) P.2.2.1 (FU_big (by omega)) _ (fun ag => ?_) (fun j hj ag => ?_)
  · show f_X12_isEmpty_4b 112 (nI x) _ ag _ (nI P.2.2.1) = _
    unfold f_X12_isEmpty_4b
    simp only [m_r9, many2, bs, hP.1.2.2]
    rw [if_pos (nI_le (Nat.le_refl _) (by omega)), zr_bi]
  · have hv : I 119 (7 + j) = nI (w.2.2.1 j) := by have := (hw.2.1 j hj).2; rwa [Nat.zero_add] at this
    have hb := (ok.2.1 j hj).2
    have e7 : (7 : Int32) + nI j = nI (7 + j) := nI_add 7 j
    show f_X12_isEmpty_4b 112 (nI x) _ ag (bi (emB w.2.2.1 x j)) (nI j) = ag (bi (emB w.2.2.1 x j && !(w.2.2.1 j == x)), nI (j + 1))
    unfold f_X12_isEmpty_4b f_X12_isEmpty_35
    simp only [m_r9, many2, bs, hP.1.2.2]
    rw [if_neg (nI_ge hj (by omega))]
    simp only [m_r14, bs, e7, m119 (show 7 + j < 25 by omega), hv, nI_1]
    rcases (Bool.eq_false_or_eq_true (emB w.2.2.1 x j)).symm with h | h
    · rw [h, bi_f, if_pos rfl]; rfl
    · rw [h, bi_t, if_neg z10]
      by_cases z : w.2.2.1 j = x
      · rw [if_pos (by rw [z]), z]; simp [bi]
      · rw [if_neg (fun q => z ((nI_eq (by omega) (by omega)).mp q))]; simp [bi, z]
theorem fin_W {kn1 : Nat → Nat} {I1 I2 I3 I4 : Nat → Nat → Int32} {W' : NowS} (ok : SOk σ) (hC1 : RC (push σ) p kn1 I1 L) (hM3 : RM (push σ) I3 L) (F2 : ∀ a b, a < 29 ∨ 33 < a → I2 a b = I1 a b) (F3 : ∀ a b, a ≠ 122 → a ≠ 112 → I3 a b = I2 a b) (F4 : ∀ a b, a ≠ 119 → I4 a b = I3 a b) (okW : NowOk (sn σ) (sG σ) (sD σ) W') (hWc : NowC I2 29 (sG σ) (sD σ) W') (hWm : NowM I4 119 0 (sG σ) (sD σ) W') : Rel (129, I4, Rof p kn1, L) := by
  have okp := SOk_push ok
  have ok' := SOk_W okp (W' := W') (U' := sU (push σ)) (un' := sun (push σ)) okW okp.2.2.1.1 okp.2.2.1.2
  exact ⟨_, p, kn1, _, _, rfl, ok', RC_lo (I := I2) (fun a b ha => by rw [F4 a b (by omega)]; exact F3 a b (by omega) (by omega)) loEq.rf ok' (RC_Ws hC1 okp (fun a b ha hn => F2 a b hn) hWc), RM_Ws hM3 okp (fun a b ha hn => F4 a b hn) hWm⟩
theorem st_moves (M : Mem) (a1 a2 : Int32) (h : Rel M) : StepI (f_X11_moves 0 a1 a2 M) (fun M => f_X12_moves 112 a1 a2 M) Rel := by
  obtain ⟨σ, p, kn, I, L, rfl, ok, hC, hM⟩ := h
  have hp := isP_of hC.1.1
  have hM' := RM_th ok hM
  obtain ⟨hn3, hn9, hG, hD⟩ := okn ok
  rcases ixn a1 (sD σ) (by omega) with hx | ⟨d, hd, rfl⟩
  · refine stepI (r := -1) (I1 := I) (R1 := Rof p kn) (L1 := L) ?_ ?_ (Rel_th ok hC hM)
    · unfold f_X11_moves
      simp only [c_cv, isD_c_no hC ok hx, bs, ↓reduceIte]
    · show f_X12_moves 112 _ _ _ = _
      unfold f_X12_moves
      simp only [m_pI, bs, m_cv, isD_m_no hM' ok hx, ↓reduceIte]
  rcases ixn a2 (sn σ) (by omega) with hx | ⟨x, hx, rfl⟩
  · refine stepI (r := -1) (I1 := I) (R1 := Rof p kn) (L1 := L) ?_ ?_ (Rel_th ok hC hM)
    · unfold f_X11_moves
      simp only [c_cv, isD_c_yes hC ok hd, isT_c_no hC ok hx, z10, bs, ↓reduceIte]
    · show f_X12_moves 112 _ _ _ = _
      unfold f_X12_moves
      simp only [m_pI, bs, m_cv, isD_m_yes hM' ok hd, isT_m_no hM' ok hx, z10, ↓reduceIte]
  have hec := isEmpty_c (kn := kn) (L := L) hp hC.2.1 hC.2.2.1 ok.1 ok.2.1 hx
  have hem := isEmpty_m (p := p) (kn := kn) (L := L) hM'.1 hM'.2.1 ok.1 ok.2.1 hx
  rcases (Bool.eq_false_or_eq_true (emB (sW σ).2.2.1 x (sP σ).2.2.1)).symm with hr | hr
  · rw [hr] at hec hem
    refine stepI (r := -2) (I1 := I) (R1 := Rof p kn) (L1 := L) ?_ ?_ (Rel_th ok hC hM)
    · unfold f_X11_moves
      simp only [c_cv, isD_c_yes hC ok hd, isT_c_yes hC ok hx, z10, bs, ↓reduceIte, hec, bi_f]
    · show f_X12_moves 112 _ _ _ = _
      unfold f_X12_moves
      simp only [m_pI, bs, m_cv, isD_m_yes hM' ok hd, isT_m_yes hM' ok hx, z10, ↓reduceIte, hem, bi_f]
  rw [hr] at hec hem
  obtain ⟨I1, kn1, r1, hC1, f1⟩ := remember_c hC ok
  have c1 : I1 31 d = nI ((sW σ).2.2.1 d) := (hC1.2.2.1.2.1 d hd).2
  have E1 : f_X11_moves 0 (nI d) (nI x) (129, I, Rof p kn, L) = some (nI ((sW σ).2.2.1 d), (129, up2 I1 31 d (nI x), Rof p kn1, L)) := by
    unfold f_X11_moves
    simp only [c_cv, isD_c_yes hC ok hd, isT_c_yes hC ok hx, z10, bs, ↓reduceIte, hec, bi_t, r1, c_r5, r292, c31 (show d < 6 by omega), c1, w31 (show d < 6 by omega)]
  have hM2 : RM σ (up2 I1 31 d (nI x)) L := RM_hi (fun a b ha => by rw [up2_e, if_neg (by omega)]; exact f1 a b (by omega) (by omega)) hiEq.rf ok hM
  have hM2' := RM_th ok hM2
  obtain ⟨I3, n3, hM3, f3⟩ := notes_th (p := p) (kn := kn1) hM2 ok
  have hem2 := isEmpty_m (p := p) (kn := kn1) (L := L) hM2'.1 hM2'.2.1 ok.1 ok.2.1 hx
  rw [hr] at hem2
  have e7 : (7 : Int32) + nI d = nI (7 + d) := nI_add 7 d
  have m3 : I3 119 (7 + d) = nI ((sW σ).2.2.1 d) := by have := (hM3.2.1.2.1 d hd).2; rwa [Nat.zero_add] at this
  have E2 : f_X12_moves 112 (nI d) (nI x) (129, up2 I1 31 d (nI x), Rof p kn1, L) = some (nI ((sW σ).2.2.1 d), (129, up2 I3 119 (7 + d) (nI x), Rof p kn1, L)) := by
    unfold f_X12_moves
    simp only [m_pI, bs, m_cv, isD_m_yes hM2' ok hd, isT_m_yes hM2' ok hx, z10, ↓reduceIte, hem2, bi_t, n3, m_r14, e7, m119 (show 7 + d < 25 by omega), m3, s119 (show 7 + d < 25 by omega)]
  have hm := NowM_pla (v := x) (d := d) hG hD (show d < 6 by omega) hM3.2.1
  rw [Nat.zero_add] at hm
  refine stepI E1 E2 (fin_W ok hC1 hM3 (fun a b ha => by rw [up2_e, if_neg (by omega)]) f3 (fun a b ha => by rw [up2_e, if_neg (by omega)]) ?_ (NowC_pla (v := x) (d := d) hC1.2.2.1) hm)
  refine ⟨ok.2.1.1, fun i hi => ⟨(ok.2.1.2.1 i hi).1, ?_⟩, ok.2.1.2.2⟩
  show udn _ d x i < _
  unfold udn; split
  · exact hx
  · exact (ok.2.1.2.1 i hi).2
end S11
