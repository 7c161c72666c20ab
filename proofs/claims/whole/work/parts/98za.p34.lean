/-! ===== items: the model's reading of one, of all ===== -/
def DM (I : Nat → Nat → Int32) (δ : Dr) : Prop := (I 114 3 = nI δ.1.1 ∧ I 114 4 = nI δ.1.2.1 ∧ I 114 5 = nI δ.1.2.2.1) ∧ (∀ g, g < δ.1.2.1 → I 115 (6 + g) = nI (δ.1.2.2.2.1 g) ∧ I 116 (6 + g) = nI (δ.1.2.2.2.2.1 g)) ∧ (∀ d, d < δ.1.2.2.1 → I 117 (6 + d) = nI (δ.1.2.2.2.2.2 d)) ∧ (I 118 0 = nI δ.2.1 ∧ (∀ d, d < δ.1.2.2.1 → I 118 (1 + d) = nI (δ.2.2.1 d) ∧ I 118 (7 + d) = nI (δ.2.2.2.1 d)) ∧ (∀ g, g < δ.1.2.1 → I 118 (13 + g) = nI (δ.2.2.2.2.1 g))) ∧ (∀ g, g < 6 → I 118 (19 + g) = 0)
def OutM (I : Nat → Nat → Int32) (s : Sm × Dr) : Prop := StM I s.1 ∧ ∀ t, s.1 = .inr t → DM I s.2
def H3 (I I1 : Nat → Nat → Int32) : Prop := ∀ a b, 113 ≤ a → I1 a b = I a b
section S34
variable {p : Nat} {kn : Nat → Nat} {I I1 : Nat → Nat → Int32} {L : Nat → Nat → Int64} {T : Nat} {tx : Nat → Nat} {s : Sm} {t : Tk} {δ : Dr}
theorem kF.h3 (h : kF I I1) : H3 I I1 := fun a b ha => h a b (by omega)
theorem H3.tr {I2 : Nat → Nat → Int32} (h : H3 I I1) (h2 : H3 I1 I2) : H3 I I2 := fun a b ha => by rw [h2 a b ha]; exact h a b ha
theorem H3.up {k j : Nat} {v : Int32} (h : H3 I I1) : H3 (up2 I k j v) (up2 I1 k j v) := fun a b ha => by rw [up2_e, up2_e, h a b ha]
theorem DM_h (h : H3 I I1) (hD : DM I δ) : DM I1 δ := by
  obtain ⟨⟨a1, a2, a3⟩, a4, a5, ⟨b1, b2, b3⟩, b4⟩ := hD
  refine ⟨⟨?_, ?_, ?_⟩, fun g hg => ?_, fun d hd => ?_, ⟨?_, fun d hd => ?_, fun g hg => ?_⟩, fun g hg => ?_⟩
  · rw [h _ _ (by omega)]; exact a1
  · rw [h _ _ (by omega)]; exact a2
  · rw [h _ _ (by omega)]; exact a3
  · rw [h _ _ (by omega), h _ _ (by omega)]; exact a4 g hg
  · rw [h _ _ (by omega)]; exact a5 d hd
  · rw [h _ _ (by omega)]; exact b1
  · rw [h _ _ (by omega), h _ _ (by omega)]; exact b2 d hd
  · rw [h _ _ (by omega)]; exact b3 g hg
  · rw [h _ _ (by omega)]; exact b4 g hg
theorem DM_s {v : Nat} (hD : DM I δ) : DM (up2 I 114 3 (nI v)) (sea δ v) := by
  obtain ⟨⟨a1, a2, a3⟩, a4, a5, ⟨b1, b2, b3⟩, b4⟩ := hD
  refine ⟨⟨us, ?_, ?_⟩, fun g hg => ?_, fun d hd => ?_, ⟨?_, fun d hd => ?_, fun g hg => ?_⟩, fun g hg => ?_⟩
  · rw [up2_e, if_neg (by omega)]; exact a2
  · rw [up2_e, if_neg (by omega)]; exact a3
  · rw [up2_e, up2_e, if_neg (by omega), if_neg (by omega)]; exact a4 g hg
  · rw [up2_e, if_neg (by omega)]; exact a5 d hd
  · rw [up2_e, if_neg (by omega)]; exact b1
  · rw [up2_e, up2_e, if_neg (by omega), if_neg (by omega)]; exact b2 d hd
  · rw [up2_e, if_neg (by omega)]; exact b3 g hg
  · rw [up2_e, if_neg (by omega)]; exact b4 g hg
theorem DM_g {v1 v2 v3 : Nat} (ok : DOk δ) (hG : δ.1.2.1 < 6) (hD : DM I δ) : DM (up2 (up2 (up2 (up2 I 118 (13 + δ.1.2.1) (nI v1)) 115 (6 + δ.1.2.1) (nI v2)) 116 (6 + δ.1.2.1) (nI v3)) 114 4 (nI (δ.1.2.1 + 1))) (gst δ v1 v2 v3) := by
  have hD6 := ok.1.1.2.2.2
  obtain ⟨⟨a1, a2, a3⟩, a4, a5, ⟨b1, b2, b3⟩, b4⟩ := hD
  refine ⟨⟨?_, us, ?_⟩, fun g hg => ⟨?_, ?_⟩, fun d hd => ?_, ⟨?_, fun d hd => ⟨?_, ?_⟩, fun g hg => ?_⟩, fun g hg => ?_⟩
  · simp only [up2_e]; repeat rw [if_neg (by omega)]
    exact a1
  · simp only [up2_e]; repeat rw [if_neg (by omega)]
    exact a3
  · have hg' : g < δ.1.2.1 + 1 := hg
    show _ = nI (udn δ.1.2.2.2.1 δ.1.2.1 v2 g)
    simp only [up2_e]
    by_cases z : g = δ.1.2.1
    · rw [z, udn_s, if_neg (by omega), if_neg (by omega), if_pos (by simp)]
    · rw [udn_o z, if_neg (by omega), if_neg (by omega), if_neg (by omega), if_neg (by omega)]; exact (a4 g (by omega)).1
  · have hg' : g < δ.1.2.1 + 1 := hg
    show _ = nI (udn δ.1.2.2.2.2.1 δ.1.2.1 v3 g)
    simp only [up2_e]
    by_cases z : g = δ.1.2.1
    · rw [z, udn_s, if_neg (by omega), if_pos (by simp)]
    · rw [udn_o z, if_neg (by omega), if_neg (by omega), if_neg (by omega), if_neg (by omega)]; exact (a4 g (by omega)).2
  · simp only [up2_e]; repeat rw [if_neg (by omega)]
    exact a5 d hd
  · simp only [up2_e]; repeat rw [if_neg (by omega)]
    exact b1
  · have hd' : d < δ.1.2.2.1 := hd
    simp only [up2_e]; repeat rw [if_neg (by omega)]
    exact (b2 d hd).1
  · have hd' : d < δ.1.2.2.1 := hd
    simp only [up2_e]; repeat rw [if_neg (by omega)]
    exact (b2 d hd).2
  · have hg' : g < δ.1.2.1 + 1 := hg
    show _ = nI (udn δ.2.2.2.2.1 δ.1.2.1 v1 g)
    simp only [up2_e]
    by_cases z : g = δ.1.2.1
    · rw [z, udn_s, if_neg (by omega), if_neg (by omega), if_neg (by omega), if_pos (by simp)]
    · rw [udn_o z, if_neg (by omega), if_neg (by omega), if_neg (by omega), if_neg (by omega)]; exact b3 g (by omega)
  · simp only [up2_e]; repeat rw [if_neg (by omega)]
    exact b4 g hg
theorem DM_d {v1 v2 v3 : Nat} (hG : δ.1.2.2.1 < 6) (hD : DM I δ) : DM (up2 (up2 (up2 (up2 I 118 (7 + δ.1.2.2.1) (nI v1)) 118 (1 + δ.1.2.2.1) (nI v2)) 117 (6 + δ.1.2.2.1) (nI v3)) 114 5 (nI (δ.1.2.2.1 + 1))) (dsh δ v1 v2 v3) := by
  obtain ⟨⟨a1, a2, a3⟩, a4, a5, ⟨b1, b2, b3⟩, b4⟩ := hD
  refine ⟨⟨?_, ?_, us⟩, fun g hg => ⟨?_, ?_⟩, fun d hd => ?_, ⟨?_, fun d hd => ⟨?_, ?_⟩, fun g hg => ?_⟩, fun g hg => ?_⟩
  · simp only [up2_e]; repeat rw [if_neg (by omega)]
    exact a1
  · simp only [up2_e]; repeat rw [if_neg (by omega)]
    exact a2
  · simp only [up2_e]; repeat rw [if_neg (by omega)]
    exact (a4 g hg).1
  · simp only [up2_e]; repeat rw [if_neg (by omega)]
    exact (a4 g hg).2
  · have hd' : d < δ.1.2.2.1 + 1 := hd
    show _ = nI (udn δ.1.2.2.2.2.2 δ.1.2.2.1 v3 d)
    simp only [up2_e]
    by_cases z : d = δ.1.2.2.1
    · rw [z, udn_s, if_neg (by omega), if_pos (by simp)]
    · rw [udn_o z, if_neg (by omega), if_neg (by omega), if_neg (by omega), if_neg (by omega)]; exact a5 d (by omega)
  · simp only [up2_e]; repeat rw [if_neg (by omega)]
    exact b1
  · have hd' : d < δ.1.2.2.1 + 1 := hd
    show _ = nI (udn δ.2.2.1 δ.1.2.2.1 v2 d)
    simp only [up2_e]
    by_cases z : d = δ.1.2.2.1
    · rw [z, udn_s, if_neg (by omega), if_neg (by omega), if_pos (by simp)]
    · rw [udn_o z, if_neg (by omega), if_neg (by omega), if_neg (by omega), if_neg (by omega)]; exact (b2 d (by omega)).1
  · have hd' : d < δ.1.2.2.1 + 1 := hd
    show _ = nI (udn δ.2.2.2.1 δ.1.2.2.1 v1 d)
    simp only [up2_e]
    by_cases z : d = δ.1.2.2.1
    · rw [z, udn_s, if_neg (by omega), if_neg (by omega), if_neg (by omega), if_pos (by simp)]
    · rw [udn_o z, if_neg (by omega), if_neg (by omega), if_neg (by omega), if_neg (by omega)]; exact (b2 d (by omega)).2
  · simp only [up2_e]; repeat rw [if_neg (by omega)]
    exact b3 g hg
  · simp only [up2_e]; repeat rw [if_neg (by omega)]
    exact b4 g hg
theorem SmOk_b {e : Nat} (hb : Bhd tx T e s) (hl : LeS T s) : SmOk tx T s := ⟨fun t h => (hb t h).1, hl⟩
theorem Bhd.to (ho : TOk tx T t) : Bhd tx T t.2.1 (.inr t) := fun u h => (by cases h; exact ⟨ho, Nat.le_refl _⟩)
theorem cl_in {u : Tk} (h : clS tx T s = .inr u) : ∃ u, s = .inr u := by
  cases s with
  | inl a => cases h
  | inr t => exact ⟨t, rfl⟩
theorem rdsN_m (hT : T ≤ 140) (htx : ∀ i, i < T → tx i < 256) (ht : TxM I T tx) (ho : TOk tx T t) (hs : StM I (.inr t)) (hD : DM I δ) : ∃ I1, f_X12_readsItem 112 110 (129, I, Rof p kn, L) = some (129, I1, Rof p kn, L) ∧ mF I I1 ∧ StM I1 (nmS tx T 3 9 (.inr t)).2 ∧ (∀ u, (nmS tx T 3 9 (.inr t)).2 = .inr u → DM I1 (sea δ (nmS tx T 3 9 (.inr t)).1)) := by
  obtain ⟨I1, r1, F1, S1⟩ := num_m (p := p) (kn := kn) (L := L) (lo := 3) (hi := 9) (x1 := 3) (x2 := 9) rfl rfl (by decide) (by decide) hT htx ht (SmOk_b (Bhd.to ho) LeS.tk) hs
  unfold f_X12_readsItem
  rw [if_pos rfl]
  simp only [m_r9, bs, m_cv, r1, sany3]
  exact ⟨_, rfl, F1.mf.up (by unfold mscr; omega), StM_u (by decide) S1, fun _ _ => DM_s (DM_h F1.h3 hD)⟩
set_option maxHeartbeats 1000000 in
theorem rdsG_m (hT : T ≤ 140) (htx : ∀ i, i < T → tx i < 256) (ht : TxM I T tx) (ho : TOk tx T t) (hs : StM I (.inr t)) (hD : DM I δ) (ok : DOk δ) (hG : δ.1.2.1 < 6) : ∃ I1, f_X12_readsItem 112 103 (129, I, Rof p kn, L) = some (129, I1, Rof p kn, L) ∧ mF I I1 ∧ StM I1 (rwS tx T (nmS tx T 0 2 (frS tx T δ.1.1 δ.2.2.2.2.1 δ.1.2.1 (.inr t)).2).2).2 ∧ (∀ u, (rwS tx T (nmS tx T 0 2 (frS tx T δ.1.1 δ.2.2.2.2.1 δ.1.2.1 (.inr t)).2).2).2 = .inr u → DM I1 (gst δ (frS tx T δ.1.1 δ.2.2.2.2.1 δ.1.2.1 (.inr t)).1 (nmS tx T 0 2 (frS tx T δ.1.1 δ.2.2.2.2.1 δ.1.2.1 (.inr t)).2).1 (rwS tx T (nmS tx T 0 2 (frS tx T δ.1.1 δ.2.2.2.2.1 δ.1.2.1 (.inr t)).2).2).1)) := by
  obtain ⟨hn3, hn9, -, -⟩ := ok.1.1
  have e13 : (13 : Int32) + nI δ.1.2.1 = nI (13 + δ.1.2.1) := nI_add 13 _
  have e6 : (6 : Int32) + nI δ.1.2.1 = nI (6 + δ.1.2.1) := nI_add 6 _
  have b0 := Bhd.to ho
  have l0 : LeS T (.inr t) := LeS.tk
  obtain ⟨I1, r1, F1, S1⟩ := fre_m (p := p) (kn := kn) (L := L) (fo := 13) (k := δ.1.2.1) (n := δ.1.1) (x1 := 13) (tkn := δ.2.2.2.2.1) rfl (by decide) (by omega) (fun i hi => ⟨hD.2.2.2.1.2.2 i hi, by have := (ok.2.1.2.2 i hi).1; omega⟩) hD.1.1 hn3 hn9 hT htx ht ho hs
  have b1 := (frS_b (n := δ.1.1) (tkn := δ.2.2.2.2.1) (k := δ.1.2.1) b0).1
  have l1 := frS_l (n := δ.1.1) (tkn := δ.2.2.2.2.1) (k := δ.1.2.1) b0 l0
  unfold f_X12_readsItem
  rw [if_neg (by decide), if_pos rfl]
  simp only [m_r9, bs, many4, hD.1.2.1, m_r13, m_cv, r1, e13, s118 (show 13 + δ.1.2.1 < 25 by omega)]
  generalize frS tx T δ.1.1 δ.2.2.2.2.1 δ.1.2.1 (.inr t) = f1 at *
  have x1 : TxM (up2 I1 118 (13 + δ.1.2.1) (nI f1.1)) T tx := TxM_u (by decide) (TxM_m F1.mf ht)
  obtain ⟨I2, r2, F2, S2⟩ := num_m (p := p) (kn := kn) (L := L) (lo := 0) (hi := 2) (x1 := 0) (x2 := 2) rfl rfl (by decide) (by decide) hT htx x1 (SmOk_b b1 l1) (StM_u (by decide) S1)
  have b2 := (nmS_b (lo := 0) (hi := 2) b1).1
  have l2 := nmS_l (lo := 0) (hi := 2) b1 l1
  simp only [m_r10, bs, m_cv, r2, e6, s115 (show 6 + δ.1.2.1 < 12 by omega)]
  generalize nmS tx T 0 2 f1.2 = f2 at *
  have x2 : TxM (up2 I2 115 (6 + δ.1.2.1) (nI f2.1)) T tx := TxM_u (by decide) (TxM_m F2.mf x1)
  obtain ⟨I3, v, r3, F3, S3, V3⟩ := row_m (p := p) (kn := kn) (L := L) hT htx x2 (SmOk_b b2 l2) (StM_u (by decide) S2)
  have g4 : up2 I3 116 (6 + δ.1.2.1) v 114 4 = nI δ.1.2.1 := by
    rw [ul (by decide), F3 _ _ (by omega), ul (by decide), F2 _ _ (by omega), ul (by decide), F1 _ _ (by omega)]; exact hD.1.2.1
  simp only [m_r11, bs, m_cv, r3, s116 (show 6 + δ.1.2.1 < 12 by omega), m_r9, many4, g4, nI_1, sany4]
  refine ⟨_, rfl, ?_, StM_u (by decide) (StM_u (by decide) S3), fun u hu => ?_⟩
  · exact ((((F1.mf.up (by unfold mscr; omega)).tr F2.mf).up (by unfold mscr; omega)).tr F3.mf |>.up (by unfold mscr; omega)).up (by unfold mscr; omega)
  · rw [V3 u hu]
    exact DM_h (H3.up (H3.up (H3.tr (H3.up (H3.tr (H3.up F1.h3) F2.h3)) F3.h3))) (DM_g ok hG hD)
set_option maxHeartbeats 1000000 in
theorem rdsD_m (hT : T ≤ 140) (htx : ∀ i, i < T → tx i < 256) (ht : TxM I T tx) (ho : TOk tx T t) (hs : StM I (.inr t)) (hD : DM I δ) (ok : DOk δ) (hG : δ.1.2.2.1 < 6) : ∃ I1, f_X12_readsItem 112 100 (129, I, Rof p kn, L) = some (129, I1, Rof p kn, L) ∧ mF I I1 ∧ StM I1 (nmS tx T 0 1 (nmS tx T 1 9 (frS tx T δ.1.1 δ.2.2.2.1 δ.1.2.2.1 (.inr t)).2).2).2 ∧ (∀ u, (nmS tx T 0 1 (nmS tx T 1 9 (frS tx T δ.1.1 δ.2.2.2.1 δ.1.2.2.1 (.inr t)).2).2).2 = .inr u → DM I1 (dsh δ (frS tx T δ.1.1 δ.2.2.2.1 δ.1.2.2.1 (.inr t)).1 (nmS tx T 1 9 (frS tx T δ.1.1 δ.2.2.2.1 δ.1.2.2.1 (.inr t)).2).1 (nmS tx T 0 1 (nmS tx T 1 9 (frS tx T δ.1.1 δ.2.2.2.1 δ.1.2.2.1 (.inr t)).2).2).1)) := by
  obtain ⟨hn3, hn9, -, -⟩ := ok.1.1
  have e7 : (7 : Int32) + nI δ.1.2.2.1 = nI (7 + δ.1.2.2.1) := nI_add 7 _
  have e1 : (1 : Int32) + nI δ.1.2.2.1 = nI (1 + δ.1.2.2.1) := nI_add 1 _
  have e6 : (6 : Int32) + nI δ.1.2.2.1 = nI (6 + δ.1.2.2.1) := nI_add 6 _
  have b0 := Bhd.to ho
  have l0 : LeS T (.inr t) := LeS.tk
  obtain ⟨I1, r1, F1, S1⟩ := fre_m (p := p) (kn := kn) (L := L) (fo := 7) (k := δ.1.2.2.1) (n := δ.1.1) (x1 := 7) (tkn := δ.2.2.2.1) rfl (by decide) (by omega) (fun i hi => ⟨(hD.2.2.2.1.2.1 i hi).2, by have := (ok.2.1.2.1 i hi).2; omega⟩) hD.1.1 hn3 hn9 hT htx ht ho hs
  have b1 := (frS_b (n := δ.1.1) (tkn := δ.2.2.2.1) (k := δ.1.2.2.1) b0).1
  have l1 := frS_l (n := δ.1.1) (tkn := δ.2.2.2.1) (k := δ.1.2.2.1) b0 l0
  unfold f_X12_readsItem
  rw [if_neg (by decide), if_neg (by decide)]
  simp only [m_r9, bs, many5, hD.1.2.2, m_r13, m_cv, r1, e7, s118 (show 7 + δ.1.2.2.1 < 25 by omega)]
  generalize frS tx T δ.1.1 δ.2.2.2.1 δ.1.2.2.1 (.inr t) = f1 at *
  have x1 : TxM (up2 I1 118 (7 + δ.1.2.2.1) (nI f1.1)) T tx := TxM_u (by decide) (TxM_m F1.mf ht)
  obtain ⟨I2, r2, F2, S2⟩ := num_m (p := p) (kn := kn) (L := L) (lo := 1) (hi := 9) (x1 := 1) (x2 := 9) rfl rfl (by decide) (by decide) hT htx x1 (SmOk_b b1 l1) (StM_u (by decide) S1)
  have b2 := (nmS_b (lo := 1) (hi := 9) b1).1
  have l2 := nmS_l (lo := 1) (hi := 9) b1 l1
  simp only [m_r13, bs, m_cv, r2, e1, s118 (show 1 + δ.1.2.2.1 < 25 by omega)]
  generalize nmS tx T 1 9 f1.2 = f2 at *
  have x2 : TxM (up2 I2 118 (1 + δ.1.2.2.1) (nI f2.1)) T tx := TxM_u (by decide) (TxM_m F2.mf x1)
  obtain ⟨I3, r3, F3, S3⟩ := num_m (p := p) (kn := kn) (L := L) (lo := 0) (hi := 1) (x1 := 0) (x2 := 1) rfl rfl (by decide) (by decide) hT htx x2 (SmOk_b b2 l2) (StM_u (by decide) S2)
  have g4 : up2 I3 117 (6 + δ.1.2.2.1) (nI (nmS tx T 0 1 f2.2).1) 114 5 = nI δ.1.2.2.1 := by
    rw [ul (by decide), F3 _ _ (by omega), ul (by decide), F2 _ _ (by omega), ul (by decide), F1 _ _ (by omega)]; exact hD.1.2.2
  simp only [m_r12, bs, m_cv, r3, e6, s117 (show 6 + δ.1.2.2.1 < 12 by omega), m_r9, many5, g4, nI_1, sany5]
  refine ⟨_, rfl, ?_, StM_u (by decide) (StM_u (by decide) S3), fun u hu => ?_⟩
  · exact ((((F1.mf.up (by unfold mscr; omega)).tr F2.mf).up (by unfold mscr; omega)).tr F3.mf |>.up (by unfold mscr; omega)).up (by unfold mscr; omega)
  · exact DM_h (H3.up (H3.up (H3.tr (H3.up (H3.tr (H3.up F1.h3) F2.h3)) F3.h3))) (DM_d hG hD)
theorem cls_m {k : Nat} {ag : Int32 × Mem → Option (Int32 × Mem)} (hT : T ≤ 140) (htx : ∀ i, i < T → tx i < 256) (ht : TxM I T tx) (ho : SmOk tx T s) (hs : StM I s) : ∃ I1, f_X12_table_77 ag 112 (nI k) (129, I, Rof p kn, L) = ag (nI (k + 1), (129, I1, Rof p kn, L)) ∧ kF I I1 ∧ StM I1 (clS tx T s) := by
  have key : ∀ b, (tkS tx T b s).2 = clS tx T s → ∃ I1, f_X12_table_91 ag 112 (nI k) 112 (bi b) (129, I, Rof p kn, L) = ag (nI (k + 1), (129, I1, Rof p kn, L)) ∧ kF I I1 ∧ StM I1 (clS tx T s) := by
    intro b hb
    obtain ⟨I1, a1, a2, a3⟩ := tk_m (p := p) (kn := kn) (L := L) (b := b) hT htx ht ho hs
    rw [hb] at a3
    refine ⟨I1, ?_, a2, a3⟩
    unfold f_X12_table_91
    simp only [m_cv, a1, bs, nI_1]
  unfold f_X12_table_77
  simp only [m_gI, bs]
  cases s with
  | inl a =>
    by_cases z : I 112 5 = 3
    · rw [if_pos z]; exact key true rfl
    · rw [if_neg z]; exact key false rfl
  | inr t =>
    obtain ⟨o1, o2, o3, -⟩ := ho.1 t rfl
    obtain ⟨h8, t5, t6, t4, t7⟩ := hs
    rw [t5]
    by_cases z : t.1 = 3
    · rw [if_pos (show nI t.1 = (3 : Int32) by rw [z]; rfl)]
      exact key true (show clS tx T (.inr t) = .inr (tokE tx T t.2.2.1) from if_pos z).symm
    · rw [if_neg (show ¬ nI t.1 = (3 : Int32) from fun q => z ((nI_eq (b := 3) (by omega) (by decide)).mp q))]
      exact key false (show clS tx T (.inr t) = .inl t.2.1 from if_neg z).symm
def mayB (tx : Nat → Nat) (k : Nat) (δ : Dr) (t : Tk) : Bool := if isW tx t 110 = true then decide (k = 0) else if isW tx t 103 = true then decide (δ.1.2.1 < 6) else if isW tx t 100 = true then decide (δ.1.2.2.1 < 6) else false
theorem mayB_f {k : Nat} (h : mayB tx k δ t = false) : itS tx T (decide (k = 0)) δ t = (.inl t.2.1, δ) := by
  unfold mayB at h; unfold itS
  by_cases y1 : isW tx t 110 = true
  · rw [if_pos y1] at h ⊢; rw [h, if_neg ffn]
  · rw [if_neg y1] at h ⊢
    by_cases y2 : isW tx t 103 = true
    · rw [if_pos y2] at h ⊢; rw [if_neg (of_decide_eq_false h)]
    · rw [if_neg y2] at h ⊢
      by_cases y3 : isW tx t 100 = true
      · rw [if_pos y3] at h ⊢; rw [if_neg (of_decide_eq_false h)]
      · rw [if_neg y3]
theorem mayB_t {k : Nat} (h : mayB tx k δ t = true) : (isW tx t 110 = true ∧ itS tx T (decide (k = 0)) δ t = itN tx T δ t) ∨ (isW tx t 103 = true ∧ δ.1.2.1 < 6 ∧ itS tx T (decide (k = 0)) δ t = itG tx T δ t) ∨ (isW tx t 100 = true ∧ δ.1.2.2.1 < 6 ∧ itS tx T (decide (k = 0)) δ t = itD tx T δ t) := by
  unfold mayB at h; unfold itS
  by_cases y1 : isW tx t 110 = true
  · rw [if_pos y1] at h; left; rw [if_pos y1, h, if_pos rfl]; exact ⟨y1, rfl⟩
  · rw [if_neg y1] at h; right
    by_cases y2 : isW tx t 103 = true
    · rw [if_pos y2] at h; left; rw [if_neg y1, if_pos y2, if_pos (of_decide_eq_true h)]; exact ⟨y2, of_decide_eq_true h, rfl⟩
    · rw [if_neg y2] at h; right
      by_cases y3 : isW tx t 100 = true
      · rw [if_pos y3] at h; rw [if_neg y1, if_neg y2, if_pos y3, if_pos (of_decide_eq_true h)]; exact ⟨y3, of_decide_eq_true h, rfl⟩
      · rw [if_neg y3] at h; cases h
theorem isW_v {c : Nat} (hc : 0 < c) (hc2 : c < 256) (hT : T ≤ 140) (htx : ∀ i, i < T → tx i < 256) (ho : TOk tx T t) (z : t.1 = 1) : nI t.2.2.2 = nI c ↔ isW tx t c = true := by
  obtain ⟨o1, o2, o3, o4, o5, o6⟩ := ho
  have hlt := o4 (by omega)
  have hx := htx t.2.1 (by omega)
  have hv := (o6 z).2
  unfold isW
  rw [hv, decide_eq_true z, Bool.true_and]
  by_cases y : t.2.2.1 - t.2.1 = 1
  · rw [if_pos y, decide_eq_true y, Bool.true_and, nI_eq (by omega) (by omega), decide_eq_true_eq]
  · rw [if_neg y, decide_eq_false y, Bool.false_and, nI_eq (by omega) (by omega)]
    exact ⟨fun h => by omega, fun h => by cases h⟩
theorem may_m {k : Nat} (hk : k ≤ 140) (hT : T ≤ 140) (htx : ∀ i, i < T → tx i < 256) (ho : TOk tx T t) (ok : DOk δ) (hs : StM I (.inr t)) (hD : DM I δ) (z : t.1 = 1) : f_X12_mayBegin 112 (nI k) (129, I, Rof p kn, L) = some (bi (mayB tx k δ t)) := by
  have hG6 := ok.1.1.2.2.1
  have hD6 := ok.1.1.2.2.2
  obtain ⟨h8, t5, t6, t4, t7⟩ := hs
  have w1 := isW_v (c := 110) (by decide) (by decide) hT htx ho z
  have w2 := isW_v (c := 103) (by decide) (by decide) hT htx ho z
  have w3 := isW_v (c := 100) (by decide) (by decide) hT htx ho z
  unfold f_X12_mayBegin f_X12_mayBegin_73 mayB
  simp only [m_gI, bs, t7, m_r9, many4, many5, hD.1.2.1, hD.1.2.2, zr_0, zr_1]
  by_cases y1 : isW tx t 110 = true
  · rw [if_pos (show nI t.2.2.2 = (110 : Int32) from w1.mpr y1), if_pos y1]
    by_cases y : k = 0
    · rw [if_pos (show nI k = 0 by rw [y]; rfl), decide_eq_true y]; rfl
    · rw [if_neg (show ¬ nI k = 0 from fun h => y ((nI_eq (b := 0) (by omega) (by decide)).mp h)), decide_eq_false y]; rfl
  · rw [if_neg (show ¬ nI t.2.2.2 = (110 : Int32) from fun q => y1 (w1.mp q)), if_neg y1]
    by_cases y2 : isW tx t 103 = true
    · rw [if_pos (show nI t.2.2.2 = (103 : Int32) from w2.mpr y2), if_pos y2]
      by_cases y : δ.1.2.1 < 6
      · rw [if_neg (six' y), decide_eq_true y]; rfl
      · rw [if_pos (six y hG6), decide_eq_false y]; rfl
    · rw [if_neg (show ¬ nI t.2.2.2 = (103 : Int32) from fun q => y2 (w2.mp q)), if_neg y2]
      by_cases y3 : isW tx t 100 = true
      · rw [if_pos (show nI t.2.2.2 = (100 : Int32) from w3.mpr y3), if_pos y3]
        by_cases y : δ.1.2.2.1 < 6
        · rw [if_neg (six' y), decide_eq_true y]; rfl
        · rw [if_pos (six y hD6), decide_eq_false y]; rfl
      · rw [if_neg (show ¬ nI t.2.2.2 = (100 : Int32) from fun q => y3 (w3.mp q)), if_neg y3]; rfl
theorem isW_1 {c : Nat} (h : isW tx t c = true) : t.1 = 1 := by
  unfold isW at h
  by_cases z : t.1 = 1
  · exact z
  · rw [decide_eq_false z, Bool.false_and] at h; cases h
theorem mayB_1 {k : Nat} (z : ¬ t.1 = 1) : mayB tx k δ t = false := by
  unfold mayB
  rw [if_neg (fun h => z (isW_1 h)), if_neg (fun h => z (isW_1 h)), if_neg (fun h => z (isW_1 h))]
theorem itm_m {k : Nat} {ag : Int32 × Mem → Option (Int32 × Mem)} (hk : k ≤ 140) (hT : T ≤ 140) (htx : ∀ i, i < T → tx i < 256) (ht : TxM I T tx) (ho : TOk tx T t) (ok : DOk δ) (hs : StM I (.inr t)) (hD : DM I δ) (z : ¬ t.1 = 0) : ∃ I1, f_X12_table_25b 112 ag (nI k) (129, I, Rof p kn, L) = ag (nI (k + 1), (129, I1, Rof p kn, L)) ∧ mF I I1 ∧ OutM I1 (itS tx T (decide (k = 0)) δ t) := by
  have ho' : SmOk tx T (.inr t) := SmOk_b (Bhd.to ho) LeS.tk
  have o2 := ho.2.1
  have o3 := ho.2.2.1
  obtain ⟨h8, t5, t6, t4, t7⟩ := id hs
  -- what can't begin
  have fail : mayB tx k δ t = false → ∃ I1, f_X12_table_60 ag 112 (nI k) 112 (129, I, Rof p kn, L) = ag (nI (k + 1), (129, I1, Rof p kn, L)) ∧ mF I I1 ∧ OutM I1 (itS tx T (decide (k = 0)) δ t) := by
    intro hf
    rw [mayB_f hf]
    obtain ⟨I1, a1, a2, a3⟩ := tk_m (p := p) (kn := kn) (L := L) (b := false) hT htx ht ho' hs
    have hl : SmOk tx T (.inl t.2.1) := tkS_ok (b := false) ho'
    have a3' : StM I1 (.inl t.2.1) := a3
    obtain ⟨I2, c1, c2, c3⟩ := cls_m (p := p) (kn := kn) (L := L) (k := k) (ag := ag) hT htx (TxM_m a2.mf ht) hl a3'
    rw [bi_f] at a1
    refine ⟨I2, ?_, a2.mf.tr c2.mf, c3, fun u h => by cases h⟩
    unfold f_X12_table_60 f_X12_table_61
    simp only [m_cv, a1, bs, well_m (p := p) (kn := kn) (L := L) hT hl.2 a3', show bi (snB (.inl t.2.1)) = 0 from rfl, ↓reduceIte, c1]
  have good : ∀ (sx : Sm) (δx : Dr), (∀ I1, StM I1 (.inr (tokE tx T t.2.2.1)) → DM I1 δ → TxM I1 T tx → ∃ I2, f_X12_readsItem 112 (nI t.2.2.2) (129, I1, Rof p kn, L) = some (129, I2, Rof p kn, L) ∧ mF I1 I2 ∧ StM I2 sx ∧ (∀ u, sx = .inr u → DM I2 δx)) → SmOk tx T sx → ∃ I3, f_X12_table_61 ag 112 (nI k) 112 1 (129, I, Rof p kn, L) = ag (nI (k + 1), (129, I3, Rof p kn, L)) ∧ mF I I3 ∧ OutM I3 (clS tx T sx, δx) := by
    intro sx δx hr hsx
    obtain ⟨I1, a1, a2, a3⟩ := tk_m (p := p) (kn := kn) (L := L) (b := true) hT htx ht ho' hs
    have hl : SmOk tx T (.inr (tokE tx T t.2.2.1)) := tkS_ok (b := true) ho'
    have a3' : StM I1 (.inr (tokE tx T t.2.2.1)) := a3
    have a1' : f_X12_takesToken 112 1 (129, I, Rof p kn, L) = some (nI t.2.2.2, (129, I1, Rof p kn, L)) := a1
    have x1 := TxM_m a2.mf ht
    obtain ⟨I2, r1, r2, r3, r4⟩ := hr I1 a3' (DM_h a2.h3 hD) x1
    obtain ⟨I3, c1, c2, c3⟩ := cls_m (p := p) (kn := kn) (L := L) (k := k) (ag := ag) hT htx (TxM_m r2 x1) hsx r3
    refine ⟨I3, ?_, (a2.mf.tr r2).tr c2.mf, c3, fun u h => ?_⟩
    · unfold f_X12_table_61
      simp only [m_cv, a1', bs, well_m (p := p) (kn := kn) (L := L) hT hl.2 a3', show bi (snB (.inr (tokE tx T t.2.2.1))) = 1 from rfl, z10, ↓reduceIte, r1, c1]
    · obtain ⟨u', hu'⟩ := cl_in h
      exact DM_h c2.h3 (r4 u' hu')
  unfold f_X12_table_25b
  simp only [m_cv, well_m (p := p) (kn := kn) (L := L) hT ho'.2 hs, show bi (snB (.inr t)) = 1 from rfl, bs, z10, ↓reduceIte, m_gI, t5]
  rw [if_neg (show ¬ nI t.1 = 0 from fun h => z ((nI_eq (b := 0) (by omega) (by decide)).mp h))]
  by_cases y : t.1 = 1
  · rw [if_pos (show nI t.1 = (1 : Int32) by rw [y]; rfl), may_m (p := p) (kn := kn) (L := L) hk hT htx ho ok hs hD y, bs]
    cases w : mayB tx k δ t
    · rw [bi_f, if_pos rfl]; exact fail w
    · rw [bi_t, if_neg z10]
      have tk := TOk_e (tx := tx) o2
      have b0 := Bhd.to tk
      have l0 : LeS T (.inr (tokE tx T t.2.2.1)) := LeS.tk
      rcases mayB_t (T := T) w with ⟨w1, w2⟩ | ⟨w1, w2, w3⟩ | ⟨w1, w2, w3⟩
      · rw [w2]
        have hv : nI t.2.2.2 = (110 : Int32) := (isW_v (c := 110) (by decide) (by decide) hT htx ho y).mpr w1
        exact good _ _ (fun I1 s1 d1 x1 => by rw [hv]; exact rdsN_m hT htx x1 tk s1 d1) (SmOk_b (nmS_b (lo := 3) (hi := 9) b0).1 (nmS_l b0 l0))
      · rw [w3]
        have hv : nI t.2.2.2 = (103 : Int32) := (isW_v (c := 103) (by decide) (by decide) hT htx ho y).mpr w1
        have a1 := (frS_b (n := δ.1.1) (tkn := δ.2.2.2.2.1) (k := δ.1.2.1) b0).1
        have b1 := (nmS_b (lo := 0) (hi := 2) a1).1
        exact good _ _ (fun I1 s1 d1 x1 => by rw [hv]; exact rdsG_m hT htx x1 tk s1 d1 ok w2) (SmOk_b (rwS_b b1).1 (rwS_l b1 (nmS_l a1 (frS_l b0 l0))))
      · rw [w3]
        have hv : nI t.2.2.2 = (100 : Int32) := (isW_v (c := 100) (by decide) (by decide) hT htx ho y).mpr w1
        have a1 := (frS_b (n := δ.1.1) (tkn := δ.2.2.2.1) (k := δ.1.2.2.1) b0).1
        have b1 := (nmS_b (lo := 1) (hi := 9) a1).1
        exact good _ _ (fun I1 s1 d1 x1 => by rw [hv]; exact rdsD_m hT htx x1 tk s1 d1 ok w2) (SmOk_b (nmS_b (lo := 0) (hi := 1) b1).1 (nmS_l b1 (nmS_l a1 (frS_l b0 l0))))
  · rw [if_neg (show ¬ nI t.1 = (1 : Int32) from fun h => y ((nI_eq (b := 1) (by omega) (by decide)).mp h))]
    exact fail (mayB_1 y)
end S34
