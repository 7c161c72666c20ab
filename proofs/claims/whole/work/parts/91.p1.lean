/-! ===== who reaches what ===== -/
theorem rall {n : Nat} {f : Nat → Bool} (h : (List.range n).all f = true) {j : Nat} (hj : j < n) : f j = true := List.all_eq_true.mp h j (List.mem_range.mpr hj)
def gp (n s p t : Nat) : Nat := (2 * n + s - p - t) % n
def rch (n a s p t : Nat) : Bool := decide (gp n s p t ≤ a) || decide (n - gp n s p t ≤ a)
def of_ (n s p t : Nat) : Nat := (p + t + 2 * n - s) % n
theorem fm_gap1 : ((List.range 10).all fun n => decide (n < 3) || (List.range n).all fun s => (List.range n).all fun p => (List.range n).all fun t => decide (f_J9_floorMod_7cf53 ((nI s - nI p) - nI t) (nI n) (0, fun _ _ => 0, fun _ _ => none, fun _ _ => 0) = some (nI (gp n s p t)))) = true := by decide +kernel
theorem fm_gap0 (n : Nat) (h9 : n < 10) (h3 : 3 ≤ n) (s : Nat) (hs : s < n) (p : Nat) (hp : p < n) (t : Nat) (ht : t < n) : f_J9_floorMod_7cf53 ((nI s - nI p) - nI t) (nI n) (0, fun _ _ => 0, fun _ _ => none, fun _ _ => 0) = some (nI (gp n s p t)) := by
  have h := rall fm_gap1 h9
  rw [decide_eq_false (by omega : ¬ n < 3), Bool.false_or] at h
  exact of_decide_eq_true (rall (rall (rall h hs) hp) ht)
theorem fm_gap {n s p t : Nat} {M : Mem} (h3 : 3 ≤ n) (h9 : n ≤ 9) (hs : s < n) (hp : p < n) (ht : t < n) : f_J9_floorMod_7cf53 ((nI s - nI p) - nI t) (nI n) M = some (nI (gp n s p t)) := fm_gap0 n (by omega) h3 s hs p hp t ht
theorem fm_pos0 : ∀ n, n < 10 → 3 ≤ n → ∀ a, a < 20 → f_J9_floorMod_7cf53 (nI a) (nI n) (0, fun _ _ => 0, fun _ _ => none, fun _ _ => 0) = some (nI (a % n)) := by decide +kernel
theorem fm_pos {n a : Nat} {M : Mem} (h3 : 3 ≤ n) (h9 : n ≤ 9) (ha : a < 20) : f_J9_floorMod_7cf53 (nI a) (nI n) M = some (nI (a % n)) := fm_pos0 n (by omega) h3 a ha
theorem fm_neg0 : ∀ n, n < 10 → 3 ≤ n → ∀ t, t < n → ∀ k, k < n → f_J9_floorMod_7cf53 (nI t - nI k) (nI n) (0, fun _ _ => 0, fun _ _ => none, fun _ _ => 0) = some (nI ((t + (n - k)) % n)) := by decide +kernel
theorem fm_neg {n t k : Nat} {M : Mem} (h3 : 3 ≤ n) (h9 : n ≤ 9) (ht : t < n) (hk : k < n) : f_J9_floorMod_7cf53 (nI t - nI k) (nI n) M = some (nI ((t + (n - k)) % n)) := fm_neg0 n (by omega) h3 t ht k hk
theorem rm_of1 : ((List.range 10).all fun n => decide (n < 3) || (List.range n).all fun s => (List.range n).all fun p => (List.range n).all fun t => decide (rmI (((nI p + nI t) - nI s) + ((2 : Int32) * nI n)) (nI n) = some (nI (of_ n s p t)))) = true := by decide +kernel
theorem rm_of0 (n : Nat) (h9 : n < 10) (h3 : 3 ≤ n) (s : Nat) (hs : s < n) (p : Nat) (hp : p < n) (t : Nat) (ht : t < n) : rmI (((nI p + nI t) - nI s) + ((2 : Int32) * nI n)) (nI n) = some (nI (of_ n s p t)) := by
  have h := rall rm_of1 h9
  rw [decide_eq_false (by omega : ¬ n < 3), Bool.false_or] at h
  exact of_decide_eq_true (rall (rall (rall h hs) hp) ht)
theorem rch_of1 : ((List.range 10).all fun n => decide (n < 3) || (List.range n).all fun s => (List.range n).all fun p => (List.range n).all fun t => (List.range 3).all fun a => (decide (of_ n s p t ≤ a) || decide (n - of_ n s p t ≤ a)) == rch n a s p t) = true := by decide +kernel
theorem rch_of0 (n : Nat) (h9 : n < 10) (h3 : 3 ≤ n) (s : Nat) (hs : s < n) (p : Nat) (hp : p < n) (t : Nat) (ht : t < n) (a : Nat) (ha : a < 3) : (decide (of_ n s p t ≤ a) || decide (n - of_ n s p t ≤ a)) = rch n a s p t := by
  have h := rall rch_of1 h9
  rw [decide_eq_false (by omega : ¬ n < 3), Bool.false_or] at h
  exact beq_iff_eq.mp (rall (rall (rall (rall h hs) hp) ht) ha)
theorem gp_lt {n s p t : Nat} (h : 3 ≤ n) : gp n s p t < n := Nat.mod_lt _ (by omega)
theorem of_lt {n s p t : Nat} (h : 3 ≤ n) : of_ n s p t < n := Nat.mod_lt _ (by omega)
theorem rm_nat {a n : Nat} (ha : a < 2 ^ 31) (h0 : 0 < n) (hn : n < 2 ^ 31) : rmI (nI a) (nI n) = some (nI (a % n)) := by
  unfold rmI
  rw [if_neg (nI_ne0 h0 hn), pk_rem ha h0 hn]
theorem dv_nat {a n : Nat} (ha : a < 2 ^ 31) (h0 : 0 < n) (hn : n < 2 ^ 31) : dvI (nI a) (nI n) = some (nI (a / n)) := by
  unfold dvI
  rw [if_neg (nI_ne0 h0 hn), pk_div ha h0 hn]
section P1
variable {I : Nat → Nat → Int32} {L : Nat → Nat → Int64} {p : Nat} {kn : Nat → Nat} {P : PtyS} {w : NowS} {c k g d t : Nat}
theorem around_c {v q : Int32} (hc : isP c) (hP : PtyC I c P) (okP : PtyOk P) (h : f_J9_floorMod_7cf53 v (nI P.1) (129, I, Rof p kn, L) = some q) : f_X8_around c v (129, I, Rof p kn, L) = some q := by
  unfold f_X8_around
  have hn := okP.1
  rw [p_gI hc, hP.1.1]
  simp only [Option.bind_some]
  rw [if_neg (nI_nle (by omega) (by omega)), h]
  rfl
theorem gap_c (hc : isP c) (hk : isN k) (hP : PtyC I c P) (hw : NowC I k P.2.1 P.2.2.1 w) (okP : PtyOk P) (ok : NowOk P.1 P.2.1 P.2.2.1 w) (hg : g < P.2.1) (hd : d < P.2.2.1) (ht : t < P.1) : f_X8_gap c k (nI g) (nI d) (nI t) (129, I, Rof p kn, L) = some (nI (gp P.1 (w.2.2.2.1 g) (w.2.2.1 d) t)) := by
  obtain ⟨⟨hn3, hn9, hG, hD⟩, -, -⟩ := id okP
  unfold f_X8_gap
  rw [n_gR hk (by decide) (by decide), Option.bind_some, n_aI hk (by decide) (by decide) (by omega), Option.bind_some, (hw.2.2 g hg).1, n_gR hk (by decide) (by decide), Option.bind_some, n_aI hk (by decide) (by decide) (by omega), Option.bind_some, (hw.2.1 d hd).2, p_cv hc, around_c hc hP okP (fm_gap hn3 hn9 (ok.2.2 g hg).1 (ok.2.1 d hd).2 ht)]
  rfl
theorem reaches_c (hc : isP c) (hk : isN k) (hP : PtyC I c P) (hw : NowC I k P.2.1 P.2.2.1 w) (okP : PtyOk P) (ok : NowOk P.1 P.2.1 P.2.2.1 w) (hg : g < P.2.1) (hd : d < P.2.2.1) (ht : t < P.1) : f_X8_reaches c k (nI g) (nI d) (nI t) (129, I, Rof p kn, L) = some (bi (rch P.1 (P.2.2.2.1 g) (w.2.2.2.1 g) (w.2.2.1 d) t)) := by
  obtain ⟨⟨hn3, hn9, hG, hD⟩, hga, -⟩ := id okP
  have ha := (hga g hg).1
  unfold f_X8_reaches f_X8_reaches_38
  have a1 : aI 20 (129, I, Rof p kn, L) (c + 1) (nI g) = some (nI (P.2.2.2.1 g)) := by rw [p_aI hc (by decide) (by decide) (by omega), (hP.2.1 g hg).1]
  simp only [p_cv hc, gap_c hc hk hP hw okP ok hg hd ht, p_r3 hc, a1, p_gI hc, hP.1.1, Option.bind_some]
  have hq := gp_lt (s := w.2.2.2.1 g) (p := w.2.2.1 d) (t := t) hn3
  unfold rch
  generalize gp P.1 (w.2.2.2.1 g) (w.2.2.1 d) t = q at hq ⊢
  generalize P.2.2.2.1 g = a at ha ⊢
  by_cases h1 : q ≤ a
  · rw [if_pos (nI_le h1 (by omega)), decide_eq_true h1]; rfl
  · rw [if_neg (fun z => h1 ((nI_leI (by omega) (by omega)).mp z)), decide_eq_false h1, pk_sub (by omega)]
    by_cases h2 : P.1 - q ≤ a
    · rw [if_neg (fun z => absurd ((nI_ltI (by omega) (by omega)).mp z) (by omega)), decide_eq_true h2]; rfl
    · rw [if_pos (nI_lt (by omega) (by omega)), decide_eq_false h2]; rfl
theorem m_aI {i j n : Nat} (hk : i < 129) (hl : lay i = (20, n)) (hj : j < n) (hn : n ≤ 1000) {R : Nat → Nat → Option Nat} : aI 20 (129, I, R, L) i (nI j) = some (I i j) := aI_n hk hl hj hn
theorem reaches_m (hP : PtyM I P) (hw : NowM I 119 0 P.2.1 P.2.2.1 w) (okP : PtyOk P) (ok : NowOk P.1 P.2.1 P.2.2.1 w) (hg : g < P.2.1) (hd : d < P.2.2.1) (ht : t < P.1) : f_X12_reachesBy 112 (nI g) (nI d) (nI t) (129, I, Rof p kn, L) = some (bi (rch P.1 (P.2.2.2.1 g) (w.2.2.2.1 g) (w.2.2.1 d) t)) := by
  obtain ⟨⟨hn3, hn9, hG, hD⟩, hga, -⟩ := id okP
  have ha := (hga g hg).1
  have e7 : (7 : Int32) + nI d = nI (7 + d) := nI_add 7 d
  have e13 : (13 : Int32) + nI g = nI (13 + g) := nI_add 13 g
  have h0 : aI 20 (129, I, Rof p kn, L) 114 (0 : Int32) = some (I 114 0) := m_aI (j := 0) (by decide) rfl (by decide) (by decide)
  have h7 : I 119 (7 + d) = nI (w.2.2.1 d) := by have := (hw.2.1 d hd).2; rwa [Nat.zero_add] at this
  have h13 : I 119 (13 + g) = nI (w.2.2.2.1 g) := by have := (hw.2.2 g hg).1; rwa [Nat.zero_add] at this
  unfold f_X12_reachesBy f_X12_reachesBy_64
  have b7 : aI 20 (129, I, Rof p kn, L) 119 (nI (7 + d)) = some (nI (w.2.2.1 d)) := by rw [m_aI (n := 25) (by decide) rfl (by omega) (by decide), h7]
  have b13 : aI 20 (129, I, Rof p kn, L) 119 (nI (13 + g)) = some (nI (w.2.2.2.1 g)) := by rw [m_aI (n := 25) (by decide) rfl (by omega) (by decide), h13]
  have b15 : aI 20 (129, I, Rof p kn, L) 115 (nI g) = some (nI (P.2.2.2.1 g)) := by rw [m_aI (n := 12) (by decide) rfl (by omega) (by decide), (hP.2.1 g hg).1]
  have br := rm_of0 P.1 (by omega) hn3 _ (ok.2.2 g hg).1 _ (ok.2.1 d hd).2 t ht
  simp only [m_r9, h0, hP.1.1, m_r14, e7, b7, e13, b13, br, m_r10, b15, Option.bind_some]
  have hq := of_lt (s := w.2.2.2.1 g) (p := w.2.2.1 d) (t := t) hn3
  rw [← rch_of0 P.1 (by omega) hn3 _ (ok.2.2 g hg).1 _ (ok.2.1 d hd).2 t ht _ (by omega)]
  generalize of_ P.1 (w.2.2.2.1 g) (w.2.2.1 d) t = q at hq ⊢
  generalize P.2.2.2.1 g = a at ha ⊢
  by_cases h1 : q ≤ a
  · rw [if_pos (nI_le h1 (by omega)), decide_eq_true h1]; rfl
  · rw [if_neg (fun z => h1 ((nI_leI (by omega) (by omega)).mp z)), decide_eq_false h1, pk_sub (by omega)]
    by_cases h2 : P.1 - q ≤ a
    · rw [if_neg (fun z => absurd ((nI_ltI (by omega) (by omega)).mp z) (by omega)), decide_eq_true h2]; rfl
    · rw [if_pos (nI_lt (by omega) (by omega)), decide_eq_false h2]; rfl
/-- bits gathered by a test -/
def fOr (f : Nat → Bool) : Nat → Int32
  | 0 => 0
  | j + 1 => if f j then fOr f j ||| ((1 : Int32) <<< (nI j &&& 31)) else fOr f j
theorem or_0 (x : Int32) : x ||| (0 : Int32) = x := by
  apply Int32.toBitVec_inj.mp
  simp
/-- what a guest needs, as bits -/
def nd (li D had : Nat) : Nat := (li &&& (2 ^ D - 1)) &&& (63 ^^^ had)
theorem nd0 : ∀ D, D < 7 → ∀ li, li < 64 → ∀ had, had < 64 → ((nI li &&& (((1 : Int32) <<< (nI D &&& 31)) - (1 : Int32))) &&& (nI had ^^^ (-1 : Int32))) = nI (nd li D had) := by decide +kernel
theorem nd_lt0 : ∀ D, D < 7 → ∀ li, li < 64 → ∀ had, had < 64 → nd li D had < 2 ^ D := by decide +kernel
def ndG (P : PtyS) (w : NowS) (g : Nat) : Nat := nd (P.2.2.2.2.1 g) P.2.2.1 (w.2.2.2.2 g)
theorem ndG_lt (okP : PtyOk P) (ok : NowOk P.1 P.2.1 P.2.2.1 w) (hg : g < P.2.1) : ndG P w g < 2 ^ P.2.2.1 := nd_lt0 _ (by have := okP.1; omega) _ (okP.2.1 g hg).2 _ (ok.2.2 g hg).2
theorem ndG_64 (okP : PtyOk P) (ok : NowOk P.1 P.2.1 P.2.2.1 w) (hg : g < P.2.1) : ndG P w g < 64 := Nat.lt_of_lt_of_le (ndG_lt okP ok hg) (by have := okP.1; calc 2 ^ P.2.2.1 ≤ 2 ^ 6 := Nat.pow_le_pow_right (by decide) (by omega)
  _ = 64 := rfl)
theorem needs_c (hc : isP c) (hk : isN k) (hP : PtyC I c P) (hw : NowC I k P.2.1 P.2.2.1 w) (okP : PtyOk P) (ok : NowOk P.1 P.2.1 P.2.2.1 w) (hg : g < P.2.1) : f_X8_needs c k (nI g) (129, I, Rof p kn, L) = some (nI (ndG P w g)) := by
  obtain ⟨⟨hn3, hn9, hG, hD⟩, hga, -⟩ := id okP
  unfold f_X8_needs
  rw [p_gI hc, Option.bind_some, hP.1.2.2, p_r4 hc, Option.bind_some, p_aI hc (by decide) (by decide) (by omega), Option.bind_some, (hP.2.1 g hg).2, n_gR hk (by decide) (by decide), Option.bind_some, n_aI hk (by decide) (by decide) (by omega), Option.bind_some, (hw.2.2 g hg).2, nd0 _ (by omega) _ (hga g hg).2 _ (ok.2.2 g hg).2]
  rfl
theorem needs_m (hP : PtyM I P) (hw : NowM I 119 0 P.2.1 P.2.2.1 w) (okP : PtyOk P) (ok : NowOk P.1 P.2.1 P.2.2.1 w) (hg : g < P.2.1) : f_X12_needsOf 112 (nI g) (129, I, Rof p kn, L) = some (nI (ndG P w g)) := by
  obtain ⟨⟨hn3, hn9, hG, hD⟩, hga, -⟩ := id okP
  have e19 : (19 : Int32) + nI g = nI (19 + g) := nI_add 19 g
  have h2 : aI 20 (129, I, Rof p kn, L) 114 (2 : Int32) = some (I 114 2) := m_aI (j := 2) (by decide) rfl (by decide) (by decide)
  have h19 : I 119 (19 + g) = nI (w.2.2.2.2 g) := by have := (hw.2.2 g hg).2; rwa [Nat.zero_add] at this
  unfold f_X12_needsOf
  rw [m_r11, Option.bind_some, m_aI (n := 12) (by decide) rfl (by omega) (by decide), Option.bind_some, (hP.2.1 g hg).2, m_r9, Option.bind_some, h2, Option.bind_some, hP.1.2.2, m_r14, Option.bind_some, e19, m_aI (n := 25) (by decide) rfl (by omega) (by decide), Option.bind_some, h19, nd0 _ (by omega) _ (hga g hg).2 _ (ok.2.2 g hg).2]
  rfl
theorem reachedBy_c (hc : isP c) (hk : isN k) (hP : PtyC I c P) (hw : NowC I k P.2.1 P.2.2.1 w) (okP : PtyOk P) (ok : NowOk P.1 P.2.1 P.2.2.1 w) (hg : g < P.2.1) : f_X8_reachedBy c k (nI g) (129, I, Rof p kn, L) = some (fOr (fun d => rch P.1 (P.2.2.2.1 g) (w.2.2.2.1 g) (w.2.2.1 d) w.1) P.2.2.1) := by
  obtain ⟨⟨hn3, hn9, hG, hD⟩, hga, -⟩ := id okP
  unfold f_X8_reachedBy f_X8_reachedBy_5
  refine lup0 _ (fun j => (fOr (fun d => rch P.1 (P.2.2.2.1 g) (w.2.2.2.1 g) (w.2.2.1 d) w.1) j, nI j)) P.2.2.1 (FU_big (by omega)) _ (fun ag => ?_) (fun j hj ag => ?_)
  · show f_X8_reachedBy_5b c k (nI g) _ ag _ (nI P.2.2.1) = _
    unfold f_X8_reachedBy_5b
    rw [p_gI hc, Option.bind_some, hP.1.2.2, if_pos (nI_le (Nat.le_refl _) (by omega))]
  · show f_X8_reachedBy_5b c k (nI g) _ ag _ (nI j) = _
    unfold f_X8_reachedBy_5b
    rw [p_gI hc, Option.bind_some, hP.1.2.2, if_neg (nI_ge hj (by omega)), n_gI hk, Option.bind_some, hw.1, p_cv hc, reaches_c hc hk hP hw okP ok hg hj ok.1, Option.bind_some]
    have e1 : nI j + (1 : Int32) = nI (j + 1) := nI_1 j
    rw [e1]
    show _ = ag (fOr _ (j + 1), nI (j + 1))
    simp only [fOr]
    rcases Bool.eq_false_or_eq_true (rch P.1 (P.2.2.2.1 g) (w.2.2.2.1 g) (w.2.2.1 j) w.1) with h | h <;> simp [h, bi]
theorem reachedBy_m (hP : PtyM I P) (hw : NowM I 119 0 P.2.1 P.2.2.1 w) (okP : PtyOk P) (ok : NowOk P.1 P.2.1 P.2.2.1 w) (hg : g < P.2.1) : f_X12_reachedBy 112 (nI g) (129, I, Rof p kn, L) = some (fOr (fun d => rch P.1 (P.2.2.2.1 g) (w.2.2.2.1 g) (w.2.2.1 d) w.1) P.2.2.1) := by
  obtain ⟨⟨hn3, hn9, hG, hD⟩, hga, -⟩ := id okP
  have h2 : aI 20 (129, I, Rof p kn, L) 114 (2 : Int32) = some (I 114 2) := m_aI (j := 2) (by decide) rfl (by decide) (by decide)
  have h0 : aI 20 (129, I, Rof p kn, L) 119 (0 : Int32) = some (I 119 0) := m_aI (j := 0) (n := 25) (by decide) rfl (by decide) (by decide)
  unfold f_X12_reachedBy f_X12_reachedBy_4
  refine lup0 _ (fun j => (fOr (fun d => rch P.1 (P.2.2.2.1 g) (w.2.2.2.1 g) (w.2.2.1 d) w.1) j, nI j)) P.2.2.1 (FU_big (by omega)) _ (fun ag => ?_) (fun j hj ag => ?_)
  · show f_X12_reachedBy_4b 112 (nI g) _ ag _ (nI P.2.2.1) = _
    unfold f_X12_reachedBy_4b
    rw [m_r9, Option.bind_some, h2, Option.bind_some, hP.1.2.2, if_pos (nI_le (Nat.le_refl _) (by omega))]
  · show f_X12_reachedBy_4b 112 (nI g) _ ag _ (nI j) = _
    unfold f_X12_reachedBy_4b
    rw [m_r9, Option.bind_some, h2, Option.bind_some, hP.1.2.2, if_neg (nI_ge hj (by omega)), m_r14, Option.bind_some, h0, Option.bind_some, hw.1, m_cv, reaches_m hP hw okP ok hg hj ok.1, Option.bind_some]
    have e1 : nI j + (1 : Int32) = nI (j + 1) := nI_1 j
    rw [e1, or_0]
    show _ = ag (fOr _ (j + 1), nI (j + 1))
    simp only [fOr]
    rcases Bool.eq_false_or_eq_true (rch P.1 (P.2.2.2.1 g) (w.2.2.2.1 g) (w.2.2.1 j) w.1) with h | h <;> simp [h, bi]
theorem whoReach_c (hc : isP c) (hk : isN k) (hP : PtyC I c P) (hw : NowC I k P.2.1 P.2.2.1 w) (okP : PtyOk P) (ok : NowOk P.1 P.2.1 P.2.2.1 w) (hd : d < P.2.2.1) (ht : t < P.1) : f_X8_whoReach c k (nI d) (nI t) (129, I, Rof p kn, L) = some (fOr (fun g => rch P.1 (P.2.2.2.1 g) (w.2.2.2.1 g) (w.2.2.1 d) t) P.2.1) := by
  obtain ⟨⟨hn3, hn9, hG, hD⟩, hga, -⟩ := id okP
  unfold f_X8_whoReach f_X8_whoReach_6
  refine lup0 _ (fun j => (fOr (fun g => rch P.1 (P.2.2.2.1 g) (w.2.2.2.1 g) (w.2.2.1 d) t) j, nI j)) P.2.1 (FU_big (by omega)) _ (fun ag => ?_) (fun j hj ag => ?_)
  · show f_X8_whoReach_6b c k (nI d) (nI t) _ ag _ (nI P.2.1) = _
    unfold f_X8_whoReach_6b
    rw [p_gI hc, Option.bind_some, hP.1.2.1, if_pos (nI_le (Nat.le_refl _) (by omega))]
  · show f_X8_whoReach_6b c k (nI d) (nI t) _ ag _ (nI j) = _
    unfold f_X8_whoReach_6b
    rw [p_gI hc, Option.bind_some, hP.1.2.1, if_neg (nI_ge hj (by omega)), p_cv hc, reaches_c hc hk hP hw okP ok hj hd ht, Option.bind_some]
    have e1 : nI j + (1 : Int32) = nI (j + 1) := nI_1 j
    rw [e1]
    show _ = ag (fOr _ (j + 1), nI (j + 1))
    simp only [fOr]
    rcases Bool.eq_false_or_eq_true (rch P.1 (P.2.2.2.1 j) (w.2.2.2.1 j) (w.2.2.1 d) t) with h | h <;> simp [h, bi]
theorem whoReach_m (hP : PtyM I P) (hw : NowM I 119 0 P.2.1 P.2.2.1 w) (okP : PtyOk P) (ok : NowOk P.1 P.2.1 P.2.2.1 w) (hd : d < P.2.2.1) (ht : t < P.1) : f_X12_whoReach 112 (nI d) (nI t) (129, I, Rof p kn, L) = some (fOr (fun g => rch P.1 (P.2.2.2.1 g) (w.2.2.2.1 g) (w.2.2.1 d) t) P.2.1) := by
  obtain ⟨⟨hn3, hn9, hG, hD⟩, hga, -⟩ := id okP
  have h1 : aI 20 (129, I, Rof p kn, L) 114 (1 : Int32) = some (I 114 1) := m_aI (j := 1) (by decide) rfl (by decide) (by decide)
  unfold f_X12_whoReach f_X12_whoReach_5
  refine lup0 _ (fun j => (fOr (fun g => rch P.1 (P.2.2.2.1 g) (w.2.2.2.1 g) (w.2.2.1 d) t) j, nI j)) P.2.1 (FU_big (by omega)) _ (fun ag => ?_) (fun j hj ag => ?_)
  · show f_X12_whoReach_5b 112 (nI d) (nI t) _ ag _ (nI P.2.1) = _
    unfold f_X12_whoReach_5b
    rw [m_r9, Option.bind_some, h1, Option.bind_some, hP.1.2.1, if_pos (nI_le (Nat.le_refl _) (by omega))]
  · show f_X12_whoReach_5b 112 (nI d) (nI t) _ ag _ (nI j) = _
    unfold f_X12_whoReach_5b
    rw [m_r9, Option.bind_some, h1, Option.bind_some, hP.1.2.1, if_neg (nI_ge hj (by omega)), m_cv, reaches_m hP hw okP ok hj hd ht, Option.bind_some]
    have e1 : nI j + (1 : Int32) = nI (j + 1) := nI_1 j
    rw [e1, or_0]
    show _ = ag (fOr _ (j + 1), nI (j + 1))
    simp only [fOr]
    rcases Bool.eq_false_or_eq_true (rch P.1 (P.2.2.2.1 j) (w.2.2.2.1 j) (w.2.2.1 d) t) with h | h <;> simp [h, bi]
end P1
