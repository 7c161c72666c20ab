/-! ===== tours, the class's ===== -/
def nbP (P : PtyS) (w : NowS) (g d : Nat) : Bool := decide (ndG P w g / 2 ^ d % 2 = 1)
def leP (P : PtyS) (w : NowS) (g d : Nat) : Nat := leS P.1 (P.2.2.2.1 g) (w.2.2.2.1 g) (w.2.2.1 d) w.1
def moP (P : PtyS) (w : NowS) (g d : Nat) : Nat := moS P.1 (P.2.2.2.1 g) (w.2.2.2.1 g) (w.2.2.1 d) w.1
def cntP (P : PtyS) (w : NowS) (d : Nat) : Nat → Nat
  | 0 => 0
  | g + 1 => cntP P w d g + ndG P w g / 2 ^ d % 2
theorem cntP_le (P : PtyS) (w : NowS) (d : Nat) : ∀ g, cntP P w d g ≤ g := by
  intro g
  induction g with
  | zero => exact Nat.le_refl _
  | succ g ih =>
    show cntP P w d g + ndG P w g / 2 ^ d % 2 ≤ g + 1
    have : ndG P w g / 2 ^ d % 2 < 2 := Nat.mod_lt _ (by decide)
    omega
def enP (P : PtyS) (w : NowS) (d : Nat) : Bool := decide (cntP P w d P.2.1 ≤ w.2.1 d)
def touN (P : PtyS) (w : NowS) : Nat := (cLM P.1 (fOut P.2.2.1 (nbP P w) (leP P w) (moP P w) P.2.1) P.1).1
def touI (P : PtyS) (w : NowS) : Int32 := if allB (enP P w) P.2.2.1 then nI (touN P w) else -9
def zrF (I : Nat → Nat → Int32) (r i : Nat) : Nat → Nat → Int32 := fun a b => if a = r ∧ b < i then 0 else I a b
def ffI (I : Nat → Nat → Int32) (r : Nat) (F : Nat → Nat) : Nat → Nat → Int32 := fun a b => if a = r ∧ b < 9 then nI (F b) else I a b
theorem zrF_s {I : Nat → Nat → Int32} {r i : Nat} : up2 (zrF I r i) r i 0 = zrF I r (i + 1) := by
  funext a b
  rw [up2_e]; unfold zrF
  by_cases h : a = r ∧ b = i
  · rw [if_pos h, if_pos ⟨h.1, by omega⟩]
  · rw [if_neg h]
    by_cases h2 : a = r ∧ b < i
    · rw [if_pos h2, if_pos ⟨h2.1, by omega⟩]
    · rw [if_neg h2, if_neg (by omega)]
theorem zrF_0 {I : Nat → Nat → Int32} {r : Nat} : zrF I r 0 = I := by
  funext a b; unfold zrF; rw [if_neg (by omega)]
theorem ff_up {I : Nat → Nat → Int32} {r l v : Nat} {F : Nat → Nat} (hl : l < 9) : up2 (ffI I r F) r l (nI v) = ffI I r (udn F l v) := by
  funext a b
  rw [up2_e]; unfold ffI udn
  by_cases h : a = r ∧ b = l
  · rw [if_pos h, if_pos ⟨h.1, by omega⟩, if_pos h.2]
  · rw [if_neg h]
    by_cases h2 : a = r ∧ b < 9
    · rw [if_pos h2, if_pos h2, if_neg (by omega)]
    · rw [if_neg h2, if_neg h2]
theorem ff_rd {I : Nat → Nat → Int32} {r l : Nat} {F : Nat → Nat} (hl : l < 9) : ffI I r F r l = nI (F l) := by unfold ffI; rw [if_pos ⟨rfl, hl⟩]
theorem ff_o {I : Nat → Nat → Int32} {r a b : Nat} {F : Nat → Nat} (h : a ≠ r) : ffI I r F a b = I a b := by unfold ffI; rw [if_neg (fun z => h z.1)]
section S17
variable {p : Nat} {kn : Nat → Nat} {I : Nat → Nat → Int32} {L : Nat → Nat → Int64} {P : PtyS} {w : NowS} {c k : Nat}
theorem fill_c {R : Nat → Nat → Option Nat} (hc : isP c) : f_J7_fill_53178 (c + 9) (0 : Int32) (129, I, R, L) = some (129, ffI I (c + 9) (fun _ => 0), R, L) := by
  obtain ⟨h0, -, -, -, -, -, a9⟩ := id hc
  unfold f_J7_fill_53178 aL
  rw [a9, if_pos ⟨by show c + 9 < 129; omega, rfl⟩, bs]
  have hz : zrF I (c + 9) 9 = ffI I (c + 9) (fun _ => 0) := rfl
  unfold f_J7_fill_53178_5
  have z := lup0 (fun ag (s : Int32 × Mem) => f_J7_fill_53178_5b (c + 9) (0 : Int32) (Int32.ofNat 9) ag s.1 s.2) (fun j => (nI j, (129, zrF I (c + 9) j, R, L))) 9 (FU_big (by decide)) (some (129, ffI I (c + 9) (fun _ => 0), R, L)) (fun ag => ?_) (fun j hj ag => ?_)
  · rw [zrF_0] at z; exact z
  · show f_J7_fill_53178_5b (c + 9) (0 : Int32) (Int32.ofNat 9) ag (nI 9) (129, zrF I (c + 9) 9, R, L) = _
    unfold f_J7_fill_53178_5b
    rw [if_pos (by decide), hz]
  · show f_J7_fill_53178_5b (c + 9) (0 : Int32) (Int32.ofNat 9) ag (nI j) (129, zrF I (c + 9) j, R, L) = ag (nI (j + 1), (129, zrF I (c + 9) (j + 1), R, L))
    unfold f_J7_fill_53178_5b
    rw [if_neg (show ¬ Int32.ofNat 9 ≤ nI j from nI_ge (b := 9) hj (by decide))]
    simp only [p_fS hc hj, bs, zrF_s, nI_1]
theorem hasE_c {d : Nat} (hc : isP c) (hk : isN k) (hP : PtyC I c P) (hw : NowC I k P.2.1 P.2.2.1 w) (okP : PtyOk P) (ok : NowOk P.1 P.2.1 P.2.2.1 w) (hd : d < P.2.2.1) : f_X8_hasEnough c k (nI d) (129, I, Rof p kn, L) = some (bi (enP P w d)) := by
  obtain ⟨⟨hn3, hn9, hG, hD⟩, -, -⟩ := id okP
  have hcl := cntP_le P w d P.2.1
  have hpo := (ok.2.1 d hd).1
  unfold f_X8_hasEnough f_X8_hasEnough_5
  refine lup0 _ (fun j => (nI (cntP P w d j), nI j)) P.2.1 (FU_big (by omega)) _ (fun ag => ?_) (fun j hj ag => ?_)
  · show f_X8_hasEnough_5b c k (nI d) _ ag (nI (cntP P w d P.2.1)) (nI P.2.1) = _
    unfold f_X8_hasEnough_5b
    rw [p_gI hc, bs, hP.1.2.1, if_pos (nI_le (Nat.le_refl _) (by omega))]
    simp only [n_gR hk (show 1 ≤ 1 by decide) (show 1 ≤ 4 by decide), bs, n_aI hk (show 1 ≤ 1 by decide) (show 1 ≤ 4 by decide) (show d < 6 by omega), (hw.2.1 d hd).1]
    unfold enP
    by_cases z : cntP P w d P.2.1 ≤ w.2.1 d
    · rw [if_neg (nI_nlt z (by omega)), decide_eq_true z]; rfl
    · rw [if_pos (nI_lt (by omega) (by omega)), decide_eq_false z]; rfl
  · show f_X8_hasEnough_5b c k (nI d) _ ag (nI (cntP P w d j)) (nI j) = ag (nI (cntP P w d j + ndG P w j / 2 ^ d % 2), nI (j + 1))
    unfold f_X8_hasEnough_5b
    rw [p_gI hc, bs, hP.1.2.1, if_neg (nI_ge hj (by omega))]
    simp only [p_cv hc, needs_c (p := p) (kn := kn) (L := L) hc hk hP hw okP ok hj, bs, bitV (ndG_64 okP ok hj) (show d < 6 by omega), nI_add, nI_1]
theorem leP_lt (okP : PtyOk P) (ok : NowOk P.1 P.2.1 P.2.2.1 w) {g d : Nat} (hg : g < P.2.1) (hd : d < P.2.2.1) : leP P w g d < P.1 ∧ moP P w g d < P.1 := by
  have h := stp0 okP.1.1 okP.1.2.1 (ok.2.2 g hg).1 (ok.2.1 d hd).2 ok.1 (okP.2.1 g hg).1
  exact ⟨h.2.2.1, h.2.1⟩
theorem fill28 {g : Nat} {F : Nat → Nat} (hc : isP c) (hk : isN k) (h9 : c + 9 < k ∨ k + 4 < c + 9) (hP : PtyC I c P) (hw : NowC I k P.2.1 P.2.2.1 w) (okP : PtyOk P) (ok : NowOk P.1 P.2.1 P.2.2.1 w) (hg : g < P.2.1) (hF : ∀ j, j ≤ P.2.2.1 → ∀ l, fIn (nbP P w) (leP P w) (moP P w) g F j l < 9) (ag10 : Int32 × Mem → Option Mem) : f_X8_fillFurthest_28 ag10 c k (nI g) (nI (ndG P w g)) (0 : Int32) (129, ffI I (c + 9) F, Rof p kn, L) = ag10 (nI (g + 1), (129, ffI I (c + 9) (fIn (nbP P w) (leP P w) (moP P w) g F P.2.2.1), Rof p kn, L)) := by
  obtain ⟨⟨hn3, hn9, hG, hD⟩, -, -⟩ := id okP
  unfold f_X8_fillFurthest_28
  refine lup0 (fun ag (s : Int32 × Mem) => f_X8_fillFurthest_28b ag10 c k (nI g) (nI (ndG P w g)) ag s.1 s.2) (fun j => (nI j, (129, ffI I (c + 9) (fIn (nbP P w) (leP P w) (moP P w) g F j), Rof p kn, L))) P.2.2.1 (FU_big (by omega)) _ (fun ag => ?_) (fun j hj ag => ?_)
  · show f_X8_fillFurthest_28b ag10 c k (nI g) (nI (ndG P w g)) ag (nI P.2.2.1) (129, ffI I (c + 9) (fIn (nbP P w) (leP P w) (moP P w) g F P.2.2.1), Rof p kn, L) = _
    unfold f_X8_fillFurthest_28b
    rw [p_gI hc, bs, ff_o (by omega), hP.1.2.2, if_pos (nI_le (Nat.le_refl _) (by omega)), nI_1]
  · have hfb := hF j (by omega)
    obtain ⟨hl, hm⟩ := leP_lt okP ok hg hj
    have hE : fIn (nbP P w) (leP P w) (moP P w) g F (j + 1) = if nbP P w g j then udn (fIn (nbP P w) (leP P w) (moP P w) g F j) (leP P w g j) (if fIn (nbP P w) (leP P w) (moP P w) g F j (leP P w g j) < moP P w g j then moP P w g j else fIn (nbP P w) (leP P w) (moP P w) g F j (leP P w g j)) else fIn (nbP P w) (leP P w) (moP P w) g F j := rfl
    show f_X8_fillFurthest_28b ag10 c k (nI g) (nI (ndG P w g)) ag (nI j) (129, ffI I (c + 9) (fIn (nbP P w) (leP P w) (moP P w) g F j), Rof p kn, L) = ag (nI (j + 1), (129, ffI I (c + 9) (fIn (nbP P w) (leP P w) (moP P w) g F (j + 1)), Rof p kn, L))
    rw [hE]
    generalize fIn (nbP P w) (leP P w) (moP P w) g F j = F' at *
    have hP' : PtyC (ffI I (c + 9) F') c P := PtyC_fr (fun i b hi => ff_o (by omega)) hP
    have hw' : NowC (ffI I (c + 9) F') k P.2.1 P.2.2.1 w := NowC_fr (fun i b hi => ff_o (by omega)) hw
    have s0 := stepsBy_c (p := p) (kn := kn) (L := L) (b := 0) hc hk hP' hw' okP ok hg hj (by decide)
    have s1 := stepsBy_c (p := p) (kn := kn) (L := L) (b := 1) hc hk hP' hw' okP ok hg hj (by decide)
    rw [if_pos rfl] at s0
    rw [if_neg (by decide)] at s1
    have s0' : f_X8_stepsBy c k (nI g) (nI j) (0 : Int32) (129, ffI I (c + 9) F', Rof p kn, L) = some (nI (moP P w g j)) := s0
    have s1' : f_X8_stepsBy c k (nI g) (nI j) (1 : Int32) (129, ffI I (c + 9) F', Rof p kn, L) = some (nI (leP P w g j)) := s1
    unfold f_X8_fillFurthest_28b
    rw [p_gI hc, bs, ff_o (by omega), hP.1.2.2, if_neg (nI_ge hj (by omega)), bitV (ndG_64 okP ok hg) (show j < 6 by omega)]
    by_cases z : ndG P w g / 2 ^ j % 2 = 1
    · rw [if_pos (by rw [z]; rfl), if_pos (show nbP P w g j = true from decide_eq_true z)]
      have hb := hfb (leP P w g j)
      have hmx : (if nI (F' (leP P w g j)) < nI (moP P w g j) then nI (moP P w g j) else nI (F' (leP P w g j))) = nI (if F' (leP P w g j) < moP P w g j then moP P w g j else F' (leP P w g j)) := by
        by_cases y : F' (leP P w g j) < moP P w g j
        · rw [if_pos y, if_pos (nI_lt y (by omega))]
        · rw [if_neg y, if_neg (nI_nlt (by omega) (by omega))]
      simp only [p_cv hc, s1', s0', bs, p_r7 hc, p_fI hc (show leP P w g j < 9 by omega), ff_rd (show leP P w g j < 9 by omega), hmx, p_fS hc (show leP P w g j < 9 by omega), ff_up (show leP P w g j < 9 by omega), nI_1]
    · have : ndG P w g / 2 ^ j % 2 < 2 := Nat.mod_lt _ (by decide)
      rw [if_neg (by rw [show ndG P w g / 2 ^ j % 2 = 0 by omega]; decide), if_neg (show ¬ nbP P w g j = true from by unfold nbP; rw [decide_eq_false z]; decide), nI_1]
theorem fOut_9 (okP : PtyOk P) (ok : NowOk P.1 P.2.1 P.2.2.1 w) {g : Nat} (hg : g < P.2.1) : ∀ j, j ≤ P.2.2.1 → ∀ l, fIn (nbP P w) (leP P w) (moP P w) g (fOut P.2.2.1 (nbP P w) (leP P w) (moP P w) g) j l < 9 := by
  intro j hj l
  obtain ⟨-, h⟩ := fIn_ok (nbP P w) (leP P w) (moP P w) (g := g) (fOut_ok P.2.2.1 (nbP P w) (leP P w) (moP P w) g) j
  by_cases z : 0 < fIn (nbP P w) (leP P w) (moP P w) g (fOut P.2.2.1 (nbP P w) (leP P w) (moP P w) g) j l
  · obtain ⟨x, y, hs, -, -, e⟩ := h l z
    rw [← e]
    have := (leP_lt okP ok (g := x) (d := y) (by rcases hs with hs | hs <;> omega) (by rcases hs with hs | hs <;> omega)).2
    have := okP.1.2.1
    omega
  · omega
theorem fOut_9' (okP : PtyOk P) (ok : NowOk P.1 P.2.1 P.2.2.1 w) (l : Nat) : fOut P.2.2.1 (nbP P w) (leP P w) (moP P w) P.2.1 l < 9 := by
  obtain ⟨-, h⟩ := fOut_ok P.2.2.1 (nbP P w) (leP P w) (moP P w) P.2.1
  by_cases z : 0 < fOut P.2.2.1 (nbP P w) (leP P w) (moP P w) P.2.1 l
  · obtain ⟨x, y, hs, -, -, e⟩ := h l z
    rw [← e]
    have := (leP_lt okP ok (g := x) (d := y) hs.1 hs.2).2
    have := okP.1.2.1
    omega
  · omega
theorem furth_c (hc : isP c) (hk : isN k) (h9 : c + 9 < k ∨ k + 4 < c + 9) (hP : PtyC I c P) (hw : NowC I k P.2.1 P.2.2.1 w) (okP : PtyOk P) (ok : NowOk P.1 P.2.1 P.2.2.1 w) : f_X8_fillFurthest c k (129, I, Rof p kn, L) = some (129, ffI I (c + 9) (fOut P.2.2.1 (nbP P w) (leP P w) (moP P w) P.2.1), Rof p kn, L) := by
  obtain ⟨⟨hn3, hn9, hG, hD⟩, -, -⟩ := id okP
  unfold f_X8_fillFurthest
  simp only [p_r7 hc, bs, fill_c hc]
  unfold f_X8_fillFurthest_10
  refine lup0 (fun ag (s : Int32 × Mem) => f_X8_fillFurthest_10b c k ag s.1 s.2) (fun j => (nI j, (129, ffI I (c + 9) (fOut P.2.2.1 (nbP P w) (leP P w) (moP P w) j), Rof p kn, L))) P.2.1 (FU_big (by omega)) _ (fun ag => ?_) (fun j hj ag => ?_)
  · show f_X8_fillFurthest_10b c k ag (nI P.2.1) (129, ffI I (c + 9) (fOut P.2.2.1 (nbP P w) (leP P w) (moP P w) P.2.1), Rof p kn, L) = _
    unfold f_X8_fillFurthest_10b
    rw [p_gI hc, bs, ff_o (by omega), hP.1.2.1, if_pos (nI_le (Nat.le_refl _) (by omega))]
  · show f_X8_fillFurthest_10b c k ag (nI j) (129, ffI I (c + 9) (fOut P.2.2.1 (nbP P w) (leP P w) (moP P w) j), Rof p kn, L) = ag (nI (j + 1), (129, ffI I (c + 9) (fIn (nbP P w) (leP P w) (moP P w) j (fOut P.2.2.1 (nbP P w) (leP P w) (moP P w) j) P.2.2.1), Rof p kn, L))
    have hF := fOut_9 okP ok hj
    generalize fOut P.2.2.1 (nbP P w) (leP P w) (moP P w) j = F' at *
    have hP' : PtyC (ffI I (c + 9) F') c P := PtyC_fr (fun i b hi => ff_o (by omega)) hP
    have hw' : NowC (ffI I (c + 9) F') k P.2.1 P.2.2.1 w := NowC_fr (fun i b hi => ff_o (by omega)) hw
    unfold f_X8_fillFurthest_10b
    rw [p_gI hc, bs, ff_o (by omega), hP.1.2.1, if_neg (nI_ge hj (by omega))]
    simp only [p_cv hc, needs_c (p := p) (kn := kn) (L := L) hc hk hP' hw' okP ok hj, bs]
    exact fill28 hc hk h9 hP hw okP ok hj hF ag
theorem cLM_b {n : Nat} {F : Nat → Nat} (hn : n ≤ 9) (hF : ∀ l, F l < 9) : ∀ j, (cLM n F j).1 ≤ n - 1 ∧ (cLM n F j).2 < 9 := by
  intro j
  induction j with
  | zero => exact ⟨Nat.le_refl _, by show 0 < 9; decide⟩
  | succ j ih =>
    simp only [cLM]
    have := hF (n - 1 - j)
    refine ⟨by split <;> omega, by split <;> omega⟩
theorem tour50_c {F : Nat → Nat} {n : Nat} (hc : isP c) (hn3 : 3 ≤ n) (hn9 : n ≤ 9) (hF : ∀ l, F l < 9) : f_X8_tour_50 c (129, ffI I (c + 9) F, Rof p kn, L) (nI n - 1) 0 (nI n - 1) = some (nI (cLM n F n).1, (129, ffI I (c + 9) F, Rof p kn, L)) := by
  have hb := cLM_b hn9 hF
  have h0 : nI n - (1 : Int32) = nI (n - 1) := by
    obtain ⟨q, rfl⟩ : ∃ q, n = q + 1 := ⟨n - 1, by omega⟩
    rw [nI_pred]; rfl
  unfold f_X8_tour_50
  have z := lup0 (fun ag (s : Int32 × Int32 × Int32) => f_X8_tour_50b c (129, ffI I (c + 9) F, Rof p kn, L) ag s.1 s.2.1 s.2.2) (fun j => (nI (cLM n F j).1, nI (cLM n F j).2, nI (n - j) - 1)) n (FU_big (by omega)) (some (nI (cLM n F n).1, (129, ffI I (c + 9) F, Rof p kn, L))) (fun ag => ?_) (fun j hj ag => ?_)
  · have e : ((nI n - 1, 0, nI n - 1) : Int32 × Int32 × Int32) = (nI (cLM n F 0).1, nI (cLM n F 0).2, nI (n - 0) - 1) := by
      rw [Nat.sub_zero, h0]; rfl
    rw [e]; exact z
  · show f_X8_tour_50b c _ ag (nI (cLM n F n).1) (nI (cLM n F n).2) (nI (n - n) - 1) = _
    unfold f_X8_tour_50b
    rw [Nat.sub_self, if_pos (by decide)]
  · obtain ⟨l, hl⟩ : ∃ l, n - j = l + 1 := ⟨n - j - 1, by omega⟩
    have hl2 : n - 1 - j = l := by omega
    have hl3 : n - (j + 1) = l := by omega
    obtain ⟨b1, b2⟩ := hb j
    have hE : cLM n F (j + 1) = ((if c3 (n - 1 - j) (cLM n F j).2 < (cLM n F j).1 then c3 (n - 1 - j) (cLM n F j).2 else (cLM n F j).1), (if (cLM n F j).2 < F (n - 1 - j) then F (n - 1 - j) else (cLM n F j).2)) := rfl
    show f_X8_tour_50b c _ ag (nI (cLM n F j).1) (nI (cLM n F j).2) (nI (n - j) - 1) = ag (nI (cLM n F (j + 1)).1, nI (cLM n F (j + 1)).2, nI (n - (j + 1)) - 1)
    rw [hE, hl, hl2, hl3, nI_pred]
    generalize (cLM n F j).1 = le at *
    generalize (cLM n F j).2 = mo at *
    have hFl := hF l
    have e1 : (if nI mo < nI l then nI mo else nI l) = nI (if l < mo then l else mo) := by
      by_cases y : mo < l
      · rw [if_pos (nI_lt y (by omega)), if_neg (by omega)]
      · rw [if_neg (nI_nlt (by omega) (by omega))]
        by_cases x : l < mo
        · rw [if_pos x]
        · rw [if_neg x, show l = mo by omega]
    have e2 : nI l + nI mo + nI (if l < mo then l else mo) = nI (c3 l mo) := by rw [nI_add, nI_add]; rfl
    have hc3 : c3 l mo < 100 := by unfold c3; split <;> omega
    have e3 : (if nI (c3 l mo) < nI le then nI (c3 l mo) else nI le) = nI (if c3 l mo < le then c3 l mo else le) := by
      by_cases y : c3 l mo < le
      · rw [if_pos y, if_pos (nI_lt y (by omega))]
      · rw [if_neg y, if_neg (nI_nlt (by omega) (by omega))]
    have e4 : (if nI mo < nI (F l) then nI (F l) else nI mo) = nI (if mo < F l then F l else mo) := by
      by_cases y : mo < F l
      · rw [if_pos y, if_pos (nI_lt y (by omega))]
      · rw [if_neg y, if_neg (nI_nlt (by omega) (by omega))]
    have e5 : nI l + (-1 : Int32) = nI l - 1 := (Int32.sub_eq_add_neg (nI l) 1).symm
    unfold f_X8_tour_50b
    rw [if_neg (nI_pos (by omega))]
    simp only [p_r7 hc, bs, p_fI hc (show l < 9 by omega), ff_rd (show l < 9 by omega), e1, e2, e3, e4, e5]
theorem tour_c (hc : isP c) (hk : isN k) (h9 : c + 9 < k ∨ k + 4 < c + 9) (hP : PtyC I c P) (hw : NowC I k P.2.1 P.2.2.1 w) (okP : PtyOk P) (ok : NowOk P.1 P.2.1 P.2.2.1 w) : ∃ I1, f_X8_tour c k (129, I, Rof p kn, L) = some (touI P w, (129, I1, Rof p kn, L)) ∧ ∀ a b, a ≠ c + 9 → I1 a b = I a b := by
  obtain ⟨⟨hn3, hn9, hG, hD⟩, -, -⟩ := id okP
  have hF := fOut_9' okP ok
  have key : f_X8_tour c k (129, I, Rof p kn, L) = if allB (enP P w) P.2.2.1 then some (nI (touN P w), (129, ffI I (c + 9) (fOut P.2.2.1 (nbP P w) (leP P w) (moP P w) P.2.1), Rof p kn, L)) else some (-9, (129, I, Rof p kn, L)) := by
    unfold f_X8_tour f_X8_tour_2
    refine lupX _ (fun j => nI j) P.2.2.1 _ (fun j => allB (enP P w) j = true) (fun hI ag => ?_) (fun j hj hI ag => ?_) FU 0 (Nat.zero_le _) (by have := FU_big (e := P.2.2.1) (by omega); omega) rfl
    · show f_X8_tour_2b c k _ ag (nI P.2.2.1) = _
      unfold f_X8_tour_2b
      rw [p_gI hc, bs, hP.1.2.2, if_pos (nI_le (Nat.le_refl _) (by omega)), if_pos hI]
      simp only [p_cv hc, furth_c (p := p) (kn := kn) (L := L) hc hk h9 hP hw okP ok, bs, p_gI hc, ff_o (show c ≠ c + 9 by omega), hP.1.1]
      exact tour50_c hc hn3 hn9 hF
    · have he : allB (enP P w) (j + 1) = (allB (enP P w) j && enP P w j) := rfl
      rw [hI, Bool.true_and] at he
      show f_X8_tour_2b c k _ ag (nI j) = _ ∨ (_ ∧ f_X8_tour_2b c k _ ag (nI j) = _)
      unfold f_X8_tour_2b
      rw [p_gI hc, bs, hP.1.2.2, if_neg (nI_ge hj (by omega))]
      simp only [p_cv hc, hasE_c (p := p) (kn := kn) (L := L) hc hk hP hw okP ok hj, bs, nI_1]
      rcases (Bool.eq_false_or_eq_true (enP P w j)).symm with h | h
      · left
        rw [allB_f (i := j + 1) (by rw [he, h]) _ (by omega), h, bi_f, if_pos rfl]; rfl
      · right
        rw [h, bi_t, if_neg z10]; exact ⟨by rw [he, h], rfl⟩
  unfold touI
  rcases (Bool.eq_false_or_eq_true (allB (enP P w) P.2.2.1)).symm with h | h
  · rw [h] at key ⊢; exact ⟨I, key, fun _ _ _ => rfl⟩
  · rw [h] at key ⊢; exact ⟨_, key, fun a b hab => ff_o hab⟩
end S17
