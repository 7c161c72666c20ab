/-! ===== items: the class's reading of one ===== -/
def snB : Sm → Bool
  | .inl _ => false
  | .inr _ => true
def DC (I : Nat → Nat → Int32) (q : Nat) (δ : Dr) : Prop := PtyC I q δ.1 ∧ NowC I (q + 4) δ.1.2.1 δ.1.2.2.1 δ.2 ∧ ∀ g, g < 6 → I (q + 4 + 4) g = 0
def OutC (q : Nat) (I : Nat → Nat → Int32) (s : Sm × Dr) : Prop := (∀ a, s.1 = .inl a → I 1 4 = nI a) ∧ (∀ t, s.1 = .inr t → TkC I t ∧ DC I q s.2)
def cF (p : Nat) (I I1 : Nat → Nat → Int32) : Prop := ∀ a b, ¬ cscr p a b → I1 a b = I a b
section S30
variable {p q : Nat} {kn : Nat → Nat} {I : Nat → Nat → Int32} {R : Nat → Nat → Option Nat} {L : Nat → Nat → Int64} {T : Nat} {tx : Nat → Nat} {δ : Dr} {t : Tk}
theorem cF.rf : cF p I I := fun _ _ _ => rfl
theorem cF.tr {I1 I2 : Nat → Nat → Int32} (h : cF p I I1) (h2 : cF p I1 I2) : cF p I I2 := fun a b hab => by rw [h2 a b hab]; exact h a b hab
theorem cF.up {I1 : Nat → Nat → Int32} {k j : Nat} {v : Int32} (h : cF p I I1) (hk : cscr p k j) : cF p I (up2 I1 k j v) := fun a b hab => by rw [up2_e, if_neg (fun z => hab (by rw [z.1, z.2]; exact hk))]; exact h a b hab
theorem rF.cf {I1 : Nat → Nat → Int32} (h : rF I I1) : cF p I I1 := fun a b hab => h a b (fun z => hab (by unfold cscr; omega))
theorem TxC_c {I1 : Nat → Nat → Int32} (hp : p = 3 ∨ p = 19) (h : cF p I I1) (ht : TxC I T tx) : TxC I1 T tx := ⟨by rw [h 1 1 (by unfold cscr; omega)]; exact ht.1, fun i hi => by rw [h 2 i (by unfold cscr; omega)]; exact ht.2 i hi⟩
theorem q_ok (hp : p = 3 ∨ p = 19) : isP (22 - p) := by rcases hp with rfl | rfl; exact isP_19; exact isP_3
theorem cs_q {i j : Nat} (hp : p = 3 ∨ p = 19) (hq : 22 - p = q) (hi : i ≤ 9) (h8 : i ≠ 8) (h4 : i = 4 → j ≠ 0) : cscr p (q + i) j := by
  unfold cscr
  rcases hp with rfl | rfl
  · right; right; right; right; right; right; right; omega
  · right; right; right; right; right; right; left; omega
theorem cs_0 {j : Nat} (hp : p = 3 ∨ p = 19) (hq : 22 - p = q) : cscr p q j := cs_q (i := 0) hp hq (by decide) (by decide) (fun h => absurd h (by decide))
theorem DC_a3 {I1 : Nat → Nat → Int32} (h : A3 I I1) (hq : 3 ≤ q) (hD : DC I q δ) : DC I1 q δ := by
  obtain ⟨⟨⟨a1, a2, a3⟩, a4, a5⟩, ⟨b1, b2, b3⟩, b4⟩ := hD
  refine ⟨⟨⟨?_, ?_, ?_⟩, fun g hg => ?_, fun d hd => ?_⟩, ⟨?_, fun d hd => ?_, fun g hg => ?_⟩, fun g hg => ?_⟩
  · rw [h _ _ hq]; exact a1
  · rw [h _ _ hq]; exact a2
  · rw [h _ _ hq]; exact a3
  · rw [h _ _ (by omega), h _ _ (by omega)]; exact a4 g hg
  · rw [h _ _ (by omega)]; exact a5 d hd
  · rw [h _ _ (by omega)]; exact b1
  · rw [h _ _ (by omega), h _ _ (by omega)]; exact b2 d hd
  · rw [h _ _ (by omega), h _ _ (by omega)]; exact b3 g hg
  · rw [h _ _ (by omega)]; exact b4 g hg
theorem DC_s {v : Nat} (hD : DC I q δ) : DC (up2 I q 0 (nI v)) q (sea δ v) := by
  obtain ⟨⟨⟨a1, a2, a3⟩, a4, a5⟩, ⟨b1, b2, b3⟩, b4⟩ := hD
  refine ⟨⟨⟨us, ?_, ?_⟩, fun g hg => ?_, fun d hd => ?_⟩, ⟨?_, fun d hd => ?_, fun g hg => ?_⟩, fun g hg => ?_⟩
  · rw [up2_e, if_neg (by omega)]; exact a2
  · rw [up2_e, if_neg (by omega)]; exact a3
  · rw [up2_e, up2_e, if_neg (by omega), if_neg (by omega)]; exact a4 g hg
  · rw [up2_e, if_neg (by omega)]; exact a5 d hd
  · rw [up2_e, if_neg (by omega)]; exact b1
  · rw [up2_e, up2_e, if_neg (by omega), if_neg (by omega)]; exact b2 d hd
  · rw [up2_e, up2_e, if_neg (by omega), if_neg (by omega)]; exact b3 g hg
  · rw [up2_e, if_neg (by omega)]; exact b4 g hg
theorem DC_g {v1 v2 v3 : Nat} (ok : DOk δ) (hG : δ.1.2.1 < 6) (hD : DC I q δ) : DC (up2 (up2 (up2 (up2 I (q + 4 + 3) δ.1.2.1 (nI v1)) (q + 1) δ.1.2.1 (nI v2)) (q + 2) δ.1.2.1 (nI v3)) q 1 (nI (δ.1.2.1 + 1))) q (gst δ v1 v2 v3) := by
  obtain ⟨⟨⟨a1, a2, a3⟩, a4, a5⟩, ⟨b1, b2, b3⟩, b4⟩ := hD
  refine ⟨⟨⟨?_, us, ?_⟩, fun g hg => ⟨?_, ?_⟩, fun d hd => ?_⟩, ⟨?_, fun d hd => ⟨?_, ?_⟩, fun g hg => ⟨?_, ?_⟩⟩, fun g hg => ?_⟩
  · simp only [up2_e]; repeat rw [if_neg (by omega)]
    exact a1
  · simp only [up2_e]; repeat rw [if_neg (by omega)]
    exact a3
  · have hg' : g < δ.1.2.1 + 1 := hg
    show _ = nI (udn δ.1.2.2.2.1 δ.1.2.1 v2 g)
    simp only [up2_e]
    by_cases z : g = δ.1.2.1
    · rw [z, udn_s, if_neg (by omega), if_neg (by omega), if_pos (by simp)]
    · rw [udn_o z, if_neg (by omega), if_neg (by omega), if_neg (by omega), if_neg (by omega)]; exact (a4 g (by omega)).1
  · have hg' : g < δ.1.2.1 + 1 := hg
    show _ = nI (udn δ.1.2.2.2.2.1 δ.1.2.1 v3 g)
    simp only [up2_e]
    by_cases z : g = δ.1.2.1
    · rw [z, udn_s, if_neg (by omega), if_pos (by simp)]
    · rw [udn_o z, if_neg (by omega), if_neg (by omega), if_neg (by omega), if_neg (by omega)]; exact (a4 g (by omega)).2
  · simp only [up2_e]; repeat rw [if_neg (by omega)]
    exact a5 d hd
  · simp only [up2_e]; repeat rw [if_neg (by omega)]
    exact b1
  · simp only [up2_e]; repeat rw [if_neg (by omega)]
    exact (b2 d hd).1
  · simp only [up2_e]; repeat rw [if_neg (by omega)]
    exact (b2 d hd).2
  · have hg' : g < δ.1.2.1 + 1 := hg
    show _ = nI (udn δ.2.2.2.2.1 δ.1.2.1 v1 g)
    simp only [up2_e]
    by_cases z : g = δ.1.2.1
    · rw [z, udn_s, if_neg (by omega), if_neg (by omega), if_neg (by omega), if_pos (by simp)]
    · rw [udn_o z, if_neg (by omega), if_neg (by omega), if_neg (by omega), if_neg (by omega)]; exact (b3 g (by omega)).1
  · have hg' : g < δ.1.2.1 + 1 := hg
    show _ = nI (δ.2.2.2.2.2 g)
    rw [ok.2.2.1 g]
    simp only [up2_e]; repeat rw [if_neg (by omega)]
    exact b4 g (by omega)
  · simp only [up2_e]; repeat rw [if_neg (by omega)]
    exact b4 g hg
theorem DC_d {v1 v2 v3 : Nat} (hG : δ.1.2.2.1 < 6) (hD : DC I q δ) : DC (up2 (up2 (up2 (up2 I (q + 4 + 2) δ.1.2.2.1 (nI v1)) (q + 4 + 1) δ.1.2.2.1 (nI v2)) (q + 3) δ.1.2.2.1 (nI v3)) q 2 (nI (δ.1.2.2.1 + 1))) q (dsh δ v1 v2 v3) := by
  obtain ⟨⟨⟨a1, a2, a3⟩, a4, a5⟩, ⟨b1, b2, b3⟩, b4⟩ := hD
  refine ⟨⟨⟨?_, ?_, us⟩, fun g hg => ⟨?_, ?_⟩, fun d hd => ?_⟩, ⟨?_, fun d hd => ⟨?_, ?_⟩, fun g hg => ⟨?_, ?_⟩⟩, fun g hg => ?_⟩
  · simp only [up2_e]; repeat rw [if_neg (by omega)]
    exact a1
  · simp only [up2_e]; repeat rw [if_neg (by omega)]
    exact a2
  · simp only [up2_e]; repeat rw [if_neg (by omega)]
    exact (a4 g hg).1
  · simp only [up2_e]; repeat rw [if_neg (by omega)]
    exact (a4 g hg).2
  · have hd' : d < δ.1.2.2.1 + 1 := hd
    show _ = nI (udn δ.1.2.2.2.2.2 δ.1.2.2.1 v3 d)
    simp only [up2_e]
    by_cases z : d = δ.1.2.2.1
    · rw [z, udn_s, if_neg (by omega), if_pos (by simp)]
    · rw [udn_o z, if_neg (by omega), if_neg (by omega), if_neg (by omega), if_neg (by omega)]; exact a5 d (by omega)
  · simp only [up2_e]; repeat rw [if_neg (by omega)]
    exact b1
  · have hd' : d < δ.1.2.2.1 + 1 := hd
    show _ = nI (udn δ.2.2.1 δ.1.2.2.1 v2 d)
    simp only [up2_e]
    by_cases z : d = δ.1.2.2.1
    · rw [z, udn_s, if_neg (by omega), if_neg (by omega), if_pos (by simp)]
    · rw [udn_o z, if_neg (by omega), if_neg (by omega), if_neg (by omega), if_neg (by omega)]; exact (b2 d (by omega)).1
  · have hd' : d < δ.1.2.2.1 + 1 := hd
    show _ = nI (udn δ.2.2.2.1 δ.1.2.2.1 v1 d)
    simp only [up2_e]
    by_cases z : d = δ.1.2.2.1
    · rw [z, udn_s, if_neg (by omega), if_neg (by omega), if_neg (by omega), if_pos (by simp)]
    · rw [udn_o z, if_neg (by omega), if_neg (by omega), if_neg (by omega), if_neg (by omega)]; exact (b2 d (by omega)).2
  · simp only [up2_e]; repeat rw [if_neg (by omega)]
    exact (b3 g hg).1
  · simp only [up2_e]; repeat rw [if_neg (by omega)]
    exact (b3 g hg).2
  · simp only [up2_e]; repeat rw [if_neg (by omega)]
    exact b4 g hg
theorem failC {I1 : Nat → Nat → Int32} {b : Sm} {δ' : Dr} {a : Nat} (hs : b = .inl a) (hI : I1 1 4 = nI a) (hF : cF p I I1) : ∃ I', (Option.bind (zr (0 : Int32)) fun r => some (r, ((129, I1, R, L) : Mem))) = some (bi (snB b), (129, I', R, L)) ∧ OutC q I' (b, δ') ∧ cF p I I' := by
  subst hs
  refine ⟨I1, rfl, ⟨fun a' h => ?_, fun t h => ?_⟩, hF⟩
  · cases h; exact hI
  · cases h
theorem closeC {I1 : Nat → Nat → Int32} {b : Sm} {δ' : Dr} (hd : (t.1 = 3 ∧ TkC I1 (tokE tx T t.2.2.1)) ∨ (t.1 ≠ 3 ∧ I1 1 4 = nI t.2.1)) (hs : b = clS tx T (.inr t)) (hD : DC I1 q δ') (hF : cF p I I1) : ∃ I', (Option.bind (zr (bi (decide (t.1 = 3)))) fun r => some (r, ((129, I1, R, L) : Mem))) = some (bi (snB b), (129, I', R, L)) ∧ OutC q I' (b, δ') ∧ cF p I I' := by
  rcases hd with ⟨z, h⟩ | ⟨z, h⟩
  · have e : b = .inr (tokE tx T t.2.2.1) := by rw [hs]; unfold clS; exact if_pos z
    subst e
    refine ⟨I1, by rw [decide_eq_true z]; rfl, ⟨fun a' h' => ?_, fun t' h' => ?_⟩, hF⟩
    · cases h'
    · cases h'; exact ⟨h, hD⟩
  · have e : b = .inl t.2.1 := by rw [hs]; unfold clS; exact if_neg z
    subst e
    refine ⟨I1, by rw [decide_eq_false z]; rfl, ⟨fun a' h' => ?_, fun t' h' => ?_⟩, hF⟩
    · cases h'; exact h
    · cases h'
theorem rdS_c (hp : p = 3 ∨ p = 19) (hqe : 22 - p = q) (hT : T ≤ 140) (htx : ∀ i, i < T → tx i < 256) (ht : TxC I T tx) (hD : DC I q δ) (he : t.2.2.1 ≤ T) (h5 : I 1 5 = nI t.2.2.1) : ∃ I1, f_X9_readSeats 1 (129, I, Rof p kn, L) = some (bi (snB (itN tx T δ t).1), (129, I1, Rof p kn, L)) ∧ OutC q I1 (itN tx T δ t) ∧ cF p I I1 := by
  have hq : isP q := by rw [← hqe]; exact q_ok hp
  have e2 : ∀ J, gR (129, J, Rof p kn, L) 1 9 2 = some q := fun J => by rw [← hqe]; exact e_r2
  have hq3 : 3 ≤ q := by omega
  have hq1 : 1 < q := by omega
  have hqi : ∀ i, 1 < q + i := fun i => by omega
  have hqj : ∀ i, 3 ≤ q + i := fun i => by omega
  have hqk : ∀ i j, 1 < q + i + j := fun i j => by omega
  have hql : ∀ i j, 3 ≤ q + i + j := fun i j => by omega
  unfold f_X9_readSeats
  obtain ⟨I1, r1, F1, T1⟩ := rdN_c (p := p) (kn := kn) (L := L) (lo := 3) (hi := 9) (x1 := 3) (x2 := 9) rfl rfl (by decide) (by decide) hT htx ht he h5
  obtain ⟨-, o2, -, -, o5, -⟩ := TOk_e (tx := tx) he
  simp only [e_cv, r1, bs]
  have hit : itN tx T δ t = (clS tx T (nmS tx T 3 9 (.inr (tokE tx T t.2.2.1))).2, sea δ (nmS tx T 3 9 (.inr (tokE tx T t.2.2.1))).1) := rfl
  rw [hit]
  generalize tokE tx T t.2.2.1 = t1 at *
  by_cases z : t1.1 = 2 ∧ 3 ≤ t1.2.2.2 ∧ t1.2.2.2 ≤ 9
  · rw [decide_eq_true z, bi_t, if_neg z10]
    have hn : nmS tx T 3 9 (.inr t1) = (t1.2.2.2, .inr (tokE tx T t1.2.2.1)) := by unfold nmS; exact if_pos z
    rw [hn]
    simp only [e2, bs, e_gI, T1.2.2.2 z.1, p_pI hq]
    have t2 : TxC (up2 I1 (q) 0 (nI t1.2.2.2)) T tx := TxC_u hq3 (TxC_r F1 ht)
    obtain ⟨I2, r2, F2, T2⟩ := rdC_c (p := p) (kn := kn) (L := L) hT htx t2 o2 (by rw [ul hq1]; exact T1.2.2.1)
    simp only [e_cv, r2, bs]
    exact closeC T2 (by rfl) (DC_a3 F2.a3 hq3 (DC_s (DC_a3 F1.a3 hq3 hD))) ((F1.cf.up (cs_0 hp hqe)).tr F2.cf)
  · rw [decide_eq_false z, bi_f, if_pos rfl]
    have hn : nmS tx T 3 9 (.inr t1) = (0, .inl t1.2.1) := by unfold nmS; exact if_neg z
    rw [hn]
    exact failC (by rfl) T1.2.1 F1.cf
set_option maxHeartbeats 4000000 in
theorem rdG_c (hp : p = 3 ∨ p = 19) (hqe : 22 - p = q) (hT : T ≤ 140) (htx : ∀ i, i < T → tx i < 256) (ht : TxC I T tx) (hD : DC I q δ) (ok : DOk δ) (hG : δ.1.2.1 < 6) (he : t.2.2.1 ≤ T) (h5 : I 1 5 = nI t.2.2.1) : ∃ I1, f_X9_readGuest 1 (129, I, Rof p kn, L) = some (bi (snB (itG tx T δ t).1), (129, I1, Rof p kn, L)) ∧ OutC q I1 (itG tx T δ t) ∧ cF p I I1 := by
  have hq : isP q := by rw [← hqe]; exact q_ok hp
  have e2 : ∀ J, gR (129, J, Rof p kn, L) 1 9 2 = some q := fun J => by rw [← hqe]; exact e_r2
  have hN := hq.2.2.2.2.2.1
  have hq3 : 3 ≤ q := by omega
  have hq1 : 1 < q := by omega
  have hqi : ∀ i, 1 < q + i := fun i => by omega
  have hqj : ∀ i, 3 ≤ q + i := fun i => by omega
  have hqk : ∀ i j, 1 < q + i + j := fun i j => by omega
  have hql : ∀ i j, 3 ≤ q + i + j := fun i j => by omega
  obtain ⟨hn3, hn9, -, -⟩ := ok.1.1
  have e1 : nI δ.1.1 - (1 : Int32) = nI (δ.1.1 - 1) := pk_sub (b := 1) (by omega)
  unfold f_X9_readGuest
  simp only [e2, bs, p_gI hq, hD.1.1.1, hD.1.1.2.1, e1]
  obtain ⟨I1, r1, F1, T1⟩ := rdN_c (p := p) (kn := kn) (L := L) (lo := 0) (hi := δ.1.1 - 1) (x1 := 0) rfl rfl (by decide) (by omega) hT htx ht he h5
  obtain ⟨-, o2, -, -, o5, -⟩ := TOk_e (tx := tx) he
  simp only [e_cv, r1, bs]
  have hit : itG tx T δ t = (clS tx T (rwS tx T (nmS tx T 0 2 (frS tx T δ.1.1 δ.2.2.2.2.1 δ.1.2.1 (.inr (tokE tx T t.2.2.1))).2).2).2, gst δ (frS tx T δ.1.1 δ.2.2.2.2.1 δ.1.2.1 (.inr (tokE tx T t.2.2.1))).1 (nmS tx T 0 2 (frS tx T δ.1.1 δ.2.2.2.2.1 δ.1.2.1 (.inr (tokE tx T t.2.2.1))).2).1 (rwS tx T (nmS tx T 0 2 (frS tx T δ.1.1 δ.2.2.2.2.1 δ.1.2.1 (.inr (tokE tx T t.2.2.1))).2).2).1) := rfl
  rw [hit]
  generalize tokE tx T t.2.2.1 = t1 at *
  by_cases z : t1.1 = 2 ∧ 0 ≤ t1.2.2.2 ∧ t1.2.2.2 ≤ δ.1.1 - 1
  · rw [decide_eq_true z, bi_t, if_neg z10]
    have h6 := T1.2.2.2 z.1
    have hv := o5 z.1
    have hA := amg_c (I := I1) (R := Rof p kn) (L := L) (r := q + 4 + 3) (k := δ.1.2.1) (v := t1.2.2.2) (tkn := δ.2.2.2.2.1) (by have := hN.1; omega) hN.2.2.2.2.1 (by omega) (fun i hi => ⟨by rw [F1 _ _ (by omega)]; exact (hD.2.1.2.2 i hi).1, by have := (ok.2.1.2.2 i hi).1; omega⟩) (by omega) h6
    simp only [e2, bs, p_r6 hq, n_gR hN (show 1 ≤ 3 by decide) (show 3 ≤ 4 by decide), e_cv, hA]
    cases y : emB δ.2.2.2.2.1 t1.2.2.2 δ.1.2.1
    · rw [Bool.not_false, bi_t, if_neg z10]
      have hf : frS tx T δ.1.1 δ.2.2.2.2.1 δ.1.2.1 (.inr t1) = (0, .inl t1.2.1) := by unfold frS; exact if_neg (fun h => by rw [y] at h; exact absurd h.2 (by decide))
      rw [hf]
      exact failC (by rfl) T1.2.1 F1.cf
    · rw [Bool.not_true, bi_f, if_pos rfl]
      have hf : frS tx T δ.1.1 δ.2.2.2.2.1 δ.1.2.1 (.inr t1) = (t1.2.2.2, .inr (tokE tx T t1.2.2.1)) := by unfold frS; exact if_pos ⟨⟨z.1, z.2.2⟩, y⟩
      rw [hf]
      simp only [e_gI, bs, h6, n_sI hN (show 1 ≤ 3 by decide) (show 3 ≤ 4 by decide) hG]
      have x1 : TxC (up2 I1 (q + 4 + 3) δ.1.2.1 (nI t1.2.2.2)) T tx := TxC_u (by first | exact hqj _ | exact hql _ _) (TxC_r F1 ht)
      obtain ⟨I2, r2, F2, T2⟩ := rdN_c (p := p) (kn := kn) (L := L) (lo := 0) (hi := 2) (x1 := 0) (x2 := 2) rfl rfl (by decide) (by decide) hT htx x1 o2 (by rw [ul (hqk _ _)]; exact T1.2.2.1)
      have c2 : cF p I I2 := (F1.cf.up (cs_q (i := 7) hp hqe (by decide) (by decide) (fun h => absurd h (by decide)))).tr F2.cf
      obtain ⟨-, o2, -, -, o5, -⟩ := TOk_e (tx := tx) o2
      simp only [e_cv, r2, bs]
      generalize tokE tx T t1.2.2.1 = t2 at *
      by_cases z2 : t2.1 = 2 ∧ 0 ≤ t2.2.2.2 ∧ t2.2.2.2 ≤ 2
      · rw [decide_eq_true z2, bi_t, if_neg z10]
        have hn : nmS tx T 0 2 (.inr t2) = (t2.2.2.2, .inr (tokE tx T t2.2.2.1)) := by unfold nmS; exact if_pos z2
        rw [hn]
        simp only [e2, bs, p_r3 hq, e_gI, T2.2.2.2 z2.1, p_sI hq (show 1 ≤ 1 by decide) (show 1 ≤ 3 by decide) hG]
        have x2 : TxC (up2 I2 (q + 1) δ.1.2.1 (nI t2.2.2.2)) T tx := TxC_u (by first | exact hqj _ | exact hql _ _) (TxC_r F2 x1)
        obtain ⟨I3, r3, F3, T34, T35, T36⟩ := rdR_c (p := p) (kn := kn) (L := L) hT htx x2 o2 (by rw [ul (by first | exact hqi _ | exact hqk _ _)]; exact T2.2.2.1)
        have c3 : cF p I I3 := (c2.up (cs_q (i := 1) hp hqe (by decide) (by decide) (fun h => absurd h (by decide)))).tr F3.cf
        obtain ⟨-, o2, -, -, o5, -⟩ := TOk_e (tx := tx) o2
        simp only [e_cv, r3, bs]
        generalize tokE tx T t2.2.2.1 = t3 at *
        by_cases z3 : (t3.1 = 1 ∧ t3.2.2.1 - t3.2.1 ≤ 6) ∧ rwB tx t3.2.1 (t3.2.2.1 - t3.2.1) = true
        · rw [decide_eq_true z3, bi_t, if_neg z10]
          have hr : rwS tx T (.inr t3) = (rwV tx t3.2.1 (t3.2.2.1 - t3.2.1), .inr (tokE tx T t3.2.2.1)) := by unfold rwS; exact if_pos z3
          rw [hr]
          have g1 : up2 I3 (q + 2) δ.1.2.1 (nI (rwV tx t3.2.1 (t3.2.2.1 - t3.2.1))) (q) 1 = nI δ.1.2.1 := by
            rw [up2_e, if_neg (by omega), F3 _ _ (by omega), up2_e, if_neg (by omega), F2 _ _ (by omega), up2_e, if_neg (by omega), F1 _ _ (by omega)]; exact hD.1.1.2.1
          simp only [e2, bs, p_r4 hq, e_gI, T36 z3, p_sI hq (show 1 ≤ 2 by decide) (show 2 ≤ 3 by decide) hG, p_gI hq, g1, p_pI hq, nI_1]
          have x3 : TxC (up2 (up2 I3 (q + 2) δ.1.2.1 (nI (rwV tx t3.2.1 (t3.2.2.1 - t3.2.1)))) (q) 1 (nI (δ.1.2.1 + 1))) T tx := TxC_u hq3 (TxC_u (hqj _) (TxC_r F3 x2))
          obtain ⟨I4, r4, F4, T4⟩ := rdC_c (p := p) (kn := kn) (L := L) hT htx x3 o2 (by rw [ul hq1, ul (hqi _)]; exact T35)
          simp only [e_cv, r4, bs]
          refine closeC T4 (by rfl) ?_ (((c3.up (cs_q hp hqe (by decide) (by decide) (fun h => absurd h (by decide)))).up (cs_0 hp hqe)).tr F4.cf)
          exact DC_a3 (A3.tr (A3.up (A3.up (A3.tr (A3.up (A3.tr (A3.up F1.a3) F2.a3)) F3.a3))) F4.a3) hq3 (DC_g ok hG hD)
        · rw [decide_eq_false z3, bi_f, if_pos rfl]
          have hr : rwS tx T (.inr t3) = (0, .inl t3.2.1) := by unfold rwS; exact if_neg z3
          rw [hr]
          exact failC (by rfl) T34 c3
      · rw [decide_eq_false z2, bi_f, if_pos rfl]
        have hn : nmS tx T 0 2 (.inr t2) = (0, .inl t2.2.1) := by unfold nmS; exact if_neg z2
        rw [hn]
        exact failC (by rfl) T2.2.1 c2
  · rw [decide_eq_false z, bi_f, if_pos rfl]
    have hf : frS tx T δ.1.1 δ.2.2.2.2.1 δ.1.2.1 (.inr t1) = (0, .inl t1.2.1) := by unfold frS; exact if_neg (fun h => z ⟨h.1.1, Nat.zero_le _, h.1.2⟩)
    rw [hf]
    exact failC (by rfl) T1.2.1 F1.cf
set_option maxHeartbeats 4000000 in
theorem rdD_c (hp : p = 3 ∨ p = 19) (hqe : 22 - p = q) (hT : T ≤ 140) (htx : ∀ i, i < T → tx i < 256) (ht : TxC I T tx) (hD : DC I q δ) (ok : DOk δ) (hG : δ.1.2.2.1 < 6) (he : t.2.2.1 ≤ T) (h5 : I 1 5 = nI t.2.2.1) : ∃ I1, f_X9_readDish 1 (129, I, Rof p kn, L) = some (bi (snB (itD tx T δ t).1), (129, I1, Rof p kn, L)) ∧ OutC q I1 (itD tx T δ t) ∧ cF p I I1 := by
  have hq : isP q := by rw [← hqe]; exact q_ok hp
  have e2 : ∀ J, gR (129, J, Rof p kn, L) 1 9 2 = some q := fun J => by rw [← hqe]; exact e_r2
  have hN := hq.2.2.2.2.2.1
  have hq3 : 3 ≤ q := by omega
  have hq1 : 1 < q := by omega
  have hqi : ∀ i, 1 < q + i := fun i => by omega
  have hqj : ∀ i, 3 ≤ q + i := fun i => by omega
  have hqk : ∀ i j, 1 < q + i + j := fun i j => by omega
  have hql : ∀ i j, 3 ≤ q + i + j := fun i j => by omega
  obtain ⟨hn3, hn9, -, -⟩ := ok.1.1
  have e1 : nI δ.1.1 - (1 : Int32) = nI (δ.1.1 - 1) := pk_sub (b := 1) (by omega)
  unfold f_X9_readDish
  simp only [e2, bs, p_gI hq, hD.1.1.1, hD.1.1.2.2, e1]
  obtain ⟨I1, r1, F1, T1⟩ := rdN_c (p := p) (kn := kn) (L := L) (lo := 0) (hi := δ.1.1 - 1) (x1 := 0) rfl rfl (by decide) (by omega) hT htx ht he h5
  obtain ⟨-, o2, -, -, o5, -⟩ := TOk_e (tx := tx) he
  simp only [e_cv, r1, bs]
  have hit : itD tx T δ t = (clS tx T (nmS tx T 0 1 (nmS tx T 1 9 (frS tx T δ.1.1 δ.2.2.2.1 δ.1.2.2.1 (.inr (tokE tx T t.2.2.1))).2).2).2, dsh δ (frS tx T δ.1.1 δ.2.2.2.1 δ.1.2.2.1 (.inr (tokE tx T t.2.2.1))).1 (nmS tx T 1 9 (frS tx T δ.1.1 δ.2.2.2.1 δ.1.2.2.1 (.inr (tokE tx T t.2.2.1))).2).1 (nmS tx T 0 1 (nmS tx T 1 9 (frS tx T δ.1.1 δ.2.2.2.1 δ.1.2.2.1 (.inr (tokE tx T t.2.2.1))).2).2).1) := rfl
  rw [hit]
  generalize tokE tx T t.2.2.1 = t1 at *
  by_cases z : t1.1 = 2 ∧ 0 ≤ t1.2.2.2 ∧ t1.2.2.2 ≤ δ.1.1 - 1
  · rw [decide_eq_true z, bi_t, if_neg z10]
    have h6 := T1.2.2.2 z.1
    have hv := o5 z.1
    have hA := amg_c (I := I1) (R := Rof p kn) (L := L) (r := q + 4 + 2) (k := δ.1.2.2.1) (v := t1.2.2.2) (tkn := δ.2.2.2.1) (by have := hN.1; omega) hN.2.2.2.1 (by omega) (fun i hi => ⟨by rw [F1 _ _ (by omega)]; exact (hD.2.1.2.1 i hi).2, by have := (ok.2.1.2.1 i hi).2; omega⟩) (by omega) h6
    simp only [e2, bs, p_r6 hq, n_gR hN (show 1 ≤ 2 by decide) (show 2 ≤ 4 by decide), e_cv, hA]
    cases y : emB δ.2.2.2.1 t1.2.2.2 δ.1.2.2.1
    · rw [Bool.not_false, bi_t, if_neg z10]
      have hf : frS tx T δ.1.1 δ.2.2.2.1 δ.1.2.2.1 (.inr t1) = (0, .inl t1.2.1) := by unfold frS; exact if_neg (fun h => by rw [y] at h; exact absurd h.2 (by decide))
      rw [hf]
      exact failC (by rfl) T1.2.1 F1.cf
    · rw [Bool.not_true, bi_f, if_pos rfl]
      have hf : frS tx T δ.1.1 δ.2.2.2.1 δ.1.2.2.1 (.inr t1) = (t1.2.2.2, .inr (tokE tx T t1.2.2.1)) := by unfold frS; exact if_pos ⟨⟨z.1, z.2.2⟩, y⟩
      rw [hf]
      simp only [e_gI, bs, h6, n_sI hN (show 1 ≤ 2 by decide) (show 2 ≤ 4 by decide) hG]
      have x1 : TxC (up2 I1 (q + 4 + 2) δ.1.2.2.1 (nI t1.2.2.2)) T tx := TxC_u (by first | exact hqj _ | exact hql _ _) (TxC_r F1 ht)
      obtain ⟨I2, r2, F2, T2⟩ := rdN_c (p := p) (kn := kn) (L := L) (lo := 1) (hi := 9) (x1 := 1) (x2 := 9) rfl rfl (by decide) (by decide) hT htx x1 o2 (by rw [ul (hqk _ _)]; exact T1.2.2.1)
      have c2 : cF p I I2 := (F1.cf.up (cs_q (i := 6) hp hqe (by decide) (by decide) (fun h => absurd h (by decide)))).tr F2.cf
      obtain ⟨-, o2, -, -, o5, -⟩ := TOk_e (tx := tx) o2
      simp only [e_cv, r2, bs]
      generalize tokE tx T t1.2.2.1 = t2 at *
      by_cases z2 : t2.1 = 2 ∧ 1 ≤ t2.2.2.2 ∧ t2.2.2.2 ≤ 9
      · rw [decide_eq_true z2, bi_t, if_neg z10]
        have hn : nmS tx T 1 9 (.inr t2) = (t2.2.2.2, .inr (tokE tx T t2.2.2.1)) := by unfold nmS; exact if_pos z2
        rw [hn]
        simp only [e2, bs, p_r6 hq, n_gR hN (show 1 ≤ 1 by decide) (show 1 ≤ 4 by decide), e_gI, T2.2.2.2 z2.1, n_sI hN (show 1 ≤ 1 by decide) (show 1 ≤ 4 by decide) hG]
        have x2 : TxC (up2 I2 (q + 4 + 1) δ.1.2.2.1 (nI t2.2.2.2)) T tx := TxC_u (by first | exact hqj _ | exact hql _ _) (TxC_r F2 x1)
        obtain ⟨I3, r3, F3, T3⟩ := rdN_c (p := p) (kn := kn) (L := L) (lo := 0) (hi := 1) (x1 := 0) (x2 := 1) rfl rfl (by decide) (by decide) hT htx x2 o2 (by rw [ul (by first | exact hqi _ | exact hqk _ _)]; exact T2.2.2.1)
        have c3 : cF p I I3 := (c2.up (cs_q (i := 5) hp hqe (by decide) (by decide) (fun h => absurd h (by decide)))).tr F3.cf
        obtain ⟨-, o2, -, -, o5, -⟩ := TOk_e (tx := tx) o2
        simp only [e_cv, r3, bs]
        generalize tokE tx T t2.2.2.1 = t3 at *
        by_cases z3 : t3.1 = 2 ∧ 0 ≤ t3.2.2.2 ∧ t3.2.2.2 ≤ 1
        · rw [decide_eq_true z3, bi_t, if_neg z10]
          have hr : nmS tx T 0 1 (.inr t3) = (t3.2.2.2, .inr (tokE tx T t3.2.2.1)) := by unfold nmS; exact if_pos z3
          rw [hr]
          have g1 : up2 I3 (q + 3) δ.1.2.2.1 (nI t3.2.2.2) (q) 2 = nI δ.1.2.2.1 := by
            rw [up2_e, if_neg (by omega), F3 _ _ (by omega), up2_e, if_neg (by omega), F2 _ _ (by omega), up2_e, if_neg (by omega), F1 _ _ (by omega)]; exact hD.1.1.2.2
          simp only [e2, bs, p_r5 hq, e_gI, T3.2.2.2 z3.1, p_sI hq (show 1 ≤ 3 by decide) (show 3 ≤ 3 by decide) hG, p_gI hq, g1, p_pI hq, nI_1]
          have x3 : TxC (up2 (up2 I3 (q + 3) δ.1.2.2.1 (nI t3.2.2.2)) (q) 2 (nI (δ.1.2.2.1 + 1))) T tx := TxC_u hq3 (TxC_u (hqj _) (TxC_r F3 x2))
          obtain ⟨I4, r4, F4, T4⟩ := rdC_c (p := p) (kn := kn) (L := L) hT htx x3 o2 (by rw [ul hq1, ul (hqi _)]; exact T3.2.2.1)
          simp only [e_cv, r4, bs]
          refine closeC T4 (by rfl) ?_ (((c3.up (cs_q hp hqe (by decide) (by decide) (fun h => absurd h (by decide)))).up (cs_0 hp hqe)).tr F4.cf)
          exact DC_a3 (A3.tr (A3.up (A3.up (A3.tr (A3.up (A3.tr (A3.up F1.a3) F2.a3)) F3.a3))) F4.a3) hq3 (DC_d hG hD)
        · rw [decide_eq_false z3, bi_f, if_pos rfl]
          have hr : nmS tx T 0 1 (.inr t3) = (0, .inl t3.2.1) := by unfold nmS; exact if_neg z3
          rw [hr]
          exact failC (by rfl) T3.2.1 c3
      · rw [decide_eq_false z2, bi_f, if_pos rfl]
        have hn : nmS tx T 1 9 (.inr t2) = (0, .inl t2.2.1) := by unfold nmS; exact if_neg z2
        rw [hn]
        exact failC (by rfl) T2.2.1 c2
  · rw [decide_eq_false z, bi_f, if_pos rfl]
    have hf : frS tx T δ.1.1 δ.2.2.2.1 δ.1.2.2.1 (.inr t1) = (0, .inl t1.2.1) := by unfold frS; exact if_neg (fun h => z ⟨h.1.1, Nat.zero_le _, h.1.2⟩)
    rw [hf]
    exact failC (by rfl) T1.2.1 F1.cf
end S30
