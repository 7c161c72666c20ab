/-! ===== bits ===== -/
def b2n (b : Bool) : Nat := if b then 1 else 0
def fN (f : Nat → Bool) : Nat → Nat
  | 0 => 0
  | j + 1 => fN f j + b2n (f j) * 2 ^ j
theorem fN_lt (f : Nat → Bool) : ∀ j, fN f j < 2 ^ j := by
  intro j
  induction j with
  | zero => exact Nat.one_pos
  | succ j ih =>
    have : fN f (j + 1) = fN f j + b2n (f j) * 2 ^ j := rfl
    have hp : 2 ^ (j + 1) = 2 * 2 ^ j := by rw [Nat.pow_succ]; omega
    have hb : b2n (f j) ≤ 1 := by unfold b2n; split <;> omega
    have hm : b2n (f j) * 2 ^ j ≤ 1 * 2 ^ j := Nat.mul_le_mul_right _ hb
    omega
theorem or1 : ((List.range 6).all fun j => (List.range (2 ^ j)).all fun v => decide ((nI v ||| ((1 : Int32) <<< (nI j &&& 31))) = nI (v + 2 ^ j))) = true := by decide +kernel
theorem fOr_N (f : Nat → Bool) : ∀ j, j ≤ 6 → fOr f j = nI (fN f j) := by
  intro j
  induction j with
  | zero => intro _; rfl
  | succ j ih =>
    intro hj
    have h1 := of_decide_eq_true (rall (rall or1 (show j < 6 by omega)) (fN_lt f j))
    simp only [fOr, fN, ih (by omega)]
    rcases Bool.eq_false_or_eq_true (f j) with h | h
    · simp only [h, if_true, b2n, Nat.one_mul]; exact h1
    · simp [h, b2n]
theorem fN_congr {f g : Nat → Bool} : ∀ j, (∀ i, i < j → f i = g i) → fN f j = fN g j := by
  intro j
  induction j with
  | zero => intro _; rfl
  | succ j ih =>
    intro h
    show fN f j + b2n (f j) * 2 ^ j = fN g j + b2n (g j) * 2 ^ j
    rw [ih (fun i hi => h i (by omega)), h j (by omega)]
theorem and1 : ((List.range 6).all fun j => (List.range (2 ^ j)).all fun x => (List.range (2 ^ j)).all fun y => (List.range 2).all fun b => (List.range 2).all fun c => decide ((x + b * 2 ^ j) &&& (y + c * 2 ^ j) = (x &&& y) + (b * c) * 2 ^ j) && decide ((x + b * 2 ^ j) &&& ((2 ^ (j + 1) - 1) ^^^ (y + c * 2 ^ j)) = (x &&& ((2 ^ j - 1) ^^^ y)) + (b * (1 - c)) * 2 ^ j)) = true := by decide +kernel
theorem b2n_lt (b : Bool) : b2n b < 2 := by cases b <;> decide
theorem fN_and (f g : Nat → Bool) : ∀ j, j ≤ 6 → fN f j &&& fN g j = fN (fun i => f i && g i) j ∧ fN f j &&& ((2 ^ j - 1) ^^^ fN g j) = fN (fun i => f i && !g i) j := by
  intro j
  induction j with
  | zero => intro _; exact ⟨by show 0 &&& _ = 0; exact Nat.zero_and _, by show 0 &&& _ = 0; exact Nat.zero_and _⟩
  | succ j ih =>
    intro hj
    obtain ⟨i1, i2⟩ := ih (by omega)
    have h := rall (rall (rall (rall (rall and1 (show j < 6 by omega)) (fN_lt f j)) (fN_lt g j)) (b2n_lt (f j))) (b2n_lt (g j))
    rw [Bool.and_eq_true] at h
    have h1 := of_decide_eq_true h.1
    have h2 := of_decide_eq_true h.2
    constructor
    · show (fN f j + b2n (f j) * 2 ^ j) &&& (fN g j + b2n (g j) * 2 ^ j) = fN (fun i => f i && g i) j + b2n (f j && g j) * 2 ^ j
      rw [h1, i1]; cases f j <;> cases g j <;> rfl
    · show (fN f j + b2n (f j) * 2 ^ j) &&& ((2 ^ (j + 1) - 1) ^^^ (fN g j + b2n (g j) * 2 ^ j)) = fN (fun i => f i && !g i) j + b2n (f j && !g j) * 2 ^ j
      rw [h2, i2]; cases f j <;> cases g j <;> rfl
theorem andI : ((List.range 64).all fun x => (List.range 64).all fun y => decide ((nI x &&& nI y) = nI (x &&& y))) = true := by decide +kernel
theorem andN : ((List.range 7).all fun G => (List.range (2 ^ G)).all fun x => (List.range (2 ^ G)).all fun y => decide ((nI x &&& (nI y ^^^ (-1 : Int32))) = nI (x &&& ((2 ^ G - 1) ^^^ y)))) = true := by decide +kernel
theorem p64 {j : Nat} (h : j ≤ 6) : 2 ^ j ≤ 64 := by
  calc 2 ^ j ≤ 2 ^ 6 := Nat.pow_le_pow_right (by decide) h
  _ = 64 := rfl
theorem fN_64 (f : Nat → Bool) {j : Nat} (h : j ≤ 6) : fN f j < 64 := Nat.lt_of_lt_of_le (fN_lt f j) (p64 h)
/-- how many bits -/
def pcN (v : Nat) : Nat → Nat
  | 0 => 0
  | j + 1 => pcN v j + v / 2 ^ j % 2
def pc (v : Nat) : Nat := pcN v 6
theorem bit1 : ((List.range 64).all fun v => (List.range 6).all fun j => decide (((nI v >>> (nI j &&& 31)) &&& (1 : Int32)) = nI (v / 2 ^ j % 2))) = true := by decide +kernel
theorem bitV {v j : Nat} (hv : v < 64) (hj : j < 6) : ((nI v >>> (nI j &&& 31)) &&& (1 : Int32)) = nI (v / 2 ^ j % 2) := of_decide_eq_true (rall (rall bit1 hv) hj)
theorem pcN_le (v : Nat) : ∀ j, pcN v j ≤ j := by
  intro j
  induction j with
  | zero => exact Nat.le_refl _
  | succ j ih =>
    show pcN v j + v / 2 ^ j % 2 ≤ j + 1
    have : v / 2 ^ j % 2 < 2 := Nat.mod_lt _ (by decide)
    omega
theorem pc_le (v : Nat) : pc v ≤ 6 := pcN_le v 6
theorem ones_m {v : Nat} {M : Mem} (hv : v < 64) : f_X12_ones (nI v) M = some (nI (pc v)) := by
  unfold f_X12_ones f_X12_ones_4
  refine lup0 _ (fun j => (nI (pcN v j), nI j)) 6 (FU_big (by decide)) _ (fun ag => ?_) (fun j hj ag => ?_)
  · show f_X12_ones_4b (nI v) M ag (nI (pcN v 6)) (nI 6) = _
    unfold f_X12_ones_4b
    rw [if_pos (by decide)]; rfl
  · show f_X12_ones_4b (nI v) M ag (nI (pcN v j)) (nI j) = _
    unfold f_X12_ones_4b
    have c : ¬ (6 : Int32) ≤ nI j := nI_ge (b := 6) hj (by decide)
    rw [if_neg c, bitV hv hj, nI_add, nI_1]; rfl
theorem bc1 : ((List.range 64).all fun v => decide (f_J6_bitCount_0f7a4 (nI v) (0, fun _ _ => 0, fun _ _ => none, fun _ _ => 0) = some (nI (pc v)))) = true := by decide +kernel
theorem bitCount_c {v : Nat} {M : Mem} (hv : v < 64) : f_J6_bitCount_0f7a4 (nI v) M = some (nI (pc v)) := of_decide_eq_true (rall bc1 hv)
theorem no_0 {x : Int32} {n : Nat} (h : x < 0 ∨ nI n ≤ x) (hn : 0 < n ∧ n < 100) : ¬ x = (0 : Int32) := ne_of_out (j := 0) (by omega) h hn.1
theorem no_1 {x : Int32} {n : Nat} (h : x < 0 ∨ nI n ≤ x) (hn : 1 < n ∧ n < 100) : ¬ x = (1 : Int32) := ne_of_out (j := 1) (by omega) h hn.1
theorem no_2 {x : Int32} {n : Nat} (h : x < 0 ∨ nI n ≤ x) (hn : 2 < n ∧ n < 100) : ¬ x = (2 : Int32) := ne_of_out (j := 2) (by omega) h hn.1
theorem no_3 {x : Int32} {n : Nat} (h : x < 0 ∨ nI n ≤ x) (hn : 3 < n ∧ n < 100) : ¬ x = (3 : Int32) := ne_of_out (j := 3) (by omega) h hn.1
theorem no_4 {x : Int32} {n : Nat} (h : x < 0 ∨ nI n ≤ x) (hn : 4 < n ∧ n < 100) : ¬ x = (4 : Int32) := ne_of_out (j := 4) (by omega) h hn.1
theorem no_5 {x : Int32} {n : Nat} (h : x < 0 ∨ nI n ≤ x) (hn : 5 < n ∧ n < 100) : ¬ x = (5 : Int32) := ne_of_out (j := 5) (by omega) h hn.1
section S4
variable {σ : St} {p : Nat} {kn : Nat → Nat} {I : Nat → Nat → Int32} {L : Nat → Nat → Int64}
theorem c_st {i j : Nat} {R : Nat → Nat → Option Nat} (h1 : 1 ≤ i) (h4 : i ≤ 4) (hj : j < 6) : aI 20 (129, I, R, L) (29 + i) (nI j) = some (I (29 + i) j) := n_aI isN_29 h1 h4 hj
theorem n29_r {j : Nat} (h1 : 1 ≤ j) (h4 : j ≤ 4) : gR (129, I, Rof p kn, L) 29 7 j = some (29 + j) := n_gR isN_29 h1 h4
set_option maxRecDepth 100000 in
theorem st_guest (M : Mem) (a1 a2 : Int32) (h : Rel M) : StepP (f_X11_guest 0 a1 a2 M) M (fun M => f_X12_guest 112 a1 a2 M) Rel := by
  obtain ⟨σ, p, kn, I, L, rfl, ok, hC, hM⟩ := h
  have hp := isP_of hC.1.1
  have hM' := RM_th ok hM
  obtain ⟨hn3, hn9, hG, hD⟩ := okn ok
  rcases ixn a1 (sG σ) (by omega) with hx | ⟨g, hg, rfl⟩
  · refine ⟨-1, (129, up2 I 112 0 0, Rof p kn, L), ?_, ?_, Rel_th ok hC hM⟩
    · unfold f_X11_guest
      simp only [c_cv, isG_c_no hC ok hx, bs, ↓reduceIte]
    · show f_X12_guest 112 _ _ _ = _
      unfold f_X12_guest
      simp only [m_pI, bs, m_cv, isG_m_no hM' ok hx, ↓reduceIte]
  · rcases ixn a2 6 (by decide) with hx | ⟨j, hj, rfl⟩
    · refine ⟨-1, (129, up2 I 112 0 0, Rof p kn, L), ?_, ?_, Rel_th ok hC hM⟩
      · unfold f_X11_guest
        simp only [c_cv, isG_c_yes hC ok hg, bs]
        rw [if_neg (by decide), if_neg (no_0 hx (by decide)), if_neg (no_1 hx (by decide)), if_neg (no_2 hx (by decide)), if_neg (no_3 hx (by decide)), if_neg (no_4 hx (by decide)), if_neg (no_5 hx (by decide))]
      · show f_X12_guest 112 _ _ _ = _
        unfold f_X12_guest
        simp only [m_pI, bs, m_cv, isG_m_yes hM' ok hg]
        rw [if_neg (by decide)]
        simp only [in6_no hx, bs, ↓reduceIte]
    · have e13 : (13 : Int32) + nI g = nI (13 + g) := nI_add 13 g
      have e19 : (19 : Int32) + nI g = nI (19 + g) := nI_add 19 g
      have mw := hM'.2.1.2.2 g hg
      rw [Nat.zero_add, Nat.zero_add] at mw
      have a13 : aI 20 (129, up2 I 112 0 0, Rof p kn, L) 119 (nI (13 + g)) = some (nI ((sW σ).2.2.2.1 g)) := by rw [m_aI (n := 25) (by decide) rfl (by omega) (by decide), mw.1]
      have a19 : aI 20 (129, up2 I 112 0 0, Rof p kn, L) 119 (nI (19 + g)) = some (nI ((sW σ).2.2.2.2 g)) := by rw [m_aI (n := 25) (by decide) rfl (by omega) (by decide), mw.2]
      have a15 : aI 20 (129, up2 I 112 0 0, Rof p kn, L) 115 (nI g) = some (nI ((sP σ).2.2.2.1 g)) := by rw [m_aI (n := 12) (by decide) rfl (by omega) (by decide), (hM'.1.2.1 g hg).1]
      have a16 : aI 20 (129, up2 I 112 0 0, Rof p kn, L) 116 (nI g) = some (nI ((sP σ).2.2.2.2.1 g)) := by rw [m_aI (n := 12) (by decide) rfl (by omega) (by decide), (hM'.1.2.1 g hg).2]
      have mm : ∀ (v : Int32), (if (3 : Int32) ≤ nI j then (if nI j = (3 : Int32) then (Option.bind (gR (129, up2 I 112 0 0, Rof p kn, L) 112 12 14) fun r6 => Option.bind (aI 20 (129, up2 I 112 0 0, Rof p kn, L) r6 ((19 : Int32) + nI g)) fun v7 => some (v7, (129, up2 I 112 0 0, Rof p kn, L))) else (if nI j = (4 : Int32) then (Option.bind (f_X12_needsOf 112 (nI g) (129, up2 I 112 0 0, Rof p kn, L)) fun q5 => some (q5, (129, up2 I 112 0 0, Rof p kn, L))) else (Option.bind (f_X12_reachedBy 112 (nI g) (129, up2 I 112 0 0, Rof p kn, L)) fun q4 => some (q4, (129, up2 I 112 0 0, Rof p kn, L))))) else (if nI j = 0 then (Option.bind (gR (129, up2 I 112 0 0, Rof p kn, L) 112 12 14) fun r12 => Option.bind (aI 20 (129, up2 I 112 0 0, Rof p kn, L) r12 ((13 : Int32) + nI g)) fun v13 => some (v13, (129, up2 I 112 0 0, Rof p kn, L))) else (if nI j = (1 : Int32) then (Option.bind (gR (129, up2 I 112 0 0, Rof p kn, L) 112 12 10) fun r10 => Option.bind (aI 20 (129, up2 I 112 0 0, Rof p kn, L) r10 (nI g)) fun v11 => some (v11, (129, up2 I 112 0 0, Rof p kn, L))) else (Option.bind (gR (129, up2 I 112 0 0, Rof p kn, L) 112 12 11) fun r8 => Option.bind (aI 20 (129, up2 I 112 0 0, Rof p kn, L) r8 (nI g)) fun v9 => some (v9, (129, up2 I 112 0 0, Rof p kn, L)))))) = some (v, (129, up2 I 112 0 0, Rof p kn, L)) → f_X12_guest 112 (nI g) (nI j) (129, I, Rof p kn, L) = some (v, (129, up2 I 112 0 0, Rof p kn, L)) := by
        intro v hv
        rw [← hv]
        unfold f_X12_guest
        simp only [m_pI, bs, m_cv, isG_m_yes hM' ok hg]
        rw [if_neg (by decide)]
        simp only [in6_yes hj, bs]
        rw [if_neg (by decide)]
      have cc : ∀ (v : Int32), (if nI j = 0 then (Option.bind (gR (129, I, Rof p kn, L) 0 11 5) fun r2 => Option.bind (gR (129, I, Rof p kn, L) r2 7 3) fun r3 => Option.bind (aI 20 (129, I, Rof p kn, L) r3 (nI g)) fun v4 => some v4) else (if nI j = 1 then (Option.bind (gR (129, I, Rof p kn, L) 0 11 4) fun r5 => Option.bind (gR (129, I, Rof p kn, L) r5 8 3) fun r6 => Option.bind (aI 20 (129, I, Rof p kn, L) r6 (nI g)) fun v7 => some v7) else (if nI j = 2 then (Option.bind (gR (129, I, Rof p kn, L) 0 11 4) fun r8 => Option.bind (gR (129, I, Rof p kn, L) r8 8 4) fun r9 => Option.bind (aI 20 (129, I, Rof p kn, L) r9 (nI g)) fun v10 => some v10) else (if nI j = 3 then (Option.bind (gR (129, I, Rof p kn, L) 0 11 5) fun r11 => Option.bind (gR (129, I, Rof p kn, L) r11 7 4) fun r12 => Option.bind (aI 20 (129, I, Rof p kn, L) r12 (nI g)) fun v13 => some v13) else (if nI j = 4 then (Option.bind (gR (129, I, Rof p kn, L) 0 11 4) fun r14 => Option.bind (gR (129, I, Rof p kn, L) 0 11 5) fun r15 => Option.bind (cv (129, I, Rof p kn, L) r14 8 (f_X8_needs r14 r15 (nI g) (129, I, Rof p kn, L))) fun q16 => some q16) else (if nI j = 5 then (Option.bind (gR (129, I, Rof p kn, L) 0 11 4) fun r17 => Option.bind (gR (129, I, Rof p kn, L) 0 11 5) fun r18 => Option.bind (cv (129, I, Rof p kn, L) r17 8 (f_X8_reachedBy r17 r18 (nI g) (129, I, Rof p kn, L))) fun q19 => some q19) else (some (-1 : Int32)))))))) = some v → f_X11_guest 0 (nI g) (nI j) (129, I, Rof p kn, L) = some v := by
        intro v hv
        rw [← hv]
        unfold f_X11_guest
        simp only [c_cv, isG_c_yes hC ok hg, bs]
        rw [if_neg (by decide)]
      have k3 : I 32 g = nI ((sW σ).2.2.2.1 g) ∧ I 33 g = nI ((sW σ).2.2.2.2 g) := hC.2.2.1.2.2 g hg
      have b3 : aI 20 (129, I, Rof p kn, L) 32 (nI g) = some (nI ((sW σ).2.2.2.1 g)) := by rw [aI_n (k := 32) (n := 6) (by decide) rfl (by omega) (by decide), k3.1]
      have b4 : aI 20 (129, I, Rof p kn, L) 33 (nI g) = some (nI ((sW σ).2.2.2.2 g)) := by rw [aI_n (k := 33) (n := 6) (by decide) rfl (by omega) (by decide), k3.2]
      have r3 : gR (129, I, Rof p kn, L) 29 7 3 = some 32 := rfl
      have r4 : gR (129, I, Rof p kn, L) 29 7 4 = some 33 := rfl
      have q1 : aI 20 (129, I, Rof p kn, L) (p + 1) (nI g) = some (nI ((sP σ).2.2.2.1 g)) := by rw [p_aI hp (by decide) (by decide) (by omega), (hC.2.1.2.1 g hg).1]
      have q2 : aI 20 (129, I, Rof p kn, L) (p + 2) (nI g) = some (nI ((sP σ).2.2.2.2.1 g)) := by rw [p_aI hp (by decide) (by decide) (by omega), (hC.2.1.2.1 g hg).2]
      rcases (show j = 0 ∨ j = 1 ∨ j = 2 ∨ j = 3 ∨ j = 4 ∨ j = 5 by omega) with rfl | rfl | rfl | rfl | rfl | rfl
      · refine ⟨nI ((sW σ).2.2.2.1 g), _, cc _ ?_, mm _ ?_, Rel_th ok hC hM⟩
        · rw [if_pos (by decide)]; simp only [c_r5, bs, r3, b3]
        · rw [if_neg (by decide), if_pos (by decide)]; simp only [m_r14, bs, e13, a13]
      · refine ⟨nI ((sP σ).2.2.2.1 g), _, cc _ ?_, mm _ ?_, Rel_th ok hC hM⟩
        · rw [if_neg (by decide), if_pos (by decide)]; simp only [c_r4, bs, p_r3 hp, q1]
        · rw [if_neg (by decide), if_neg (by decide), if_pos (by decide)]; simp only [m_r10, bs, a15]
      · refine ⟨nI ((sP σ).2.2.2.2.1 g), _, cc _ ?_, mm _ ?_, Rel_th ok hC hM⟩
        · rw [if_neg (by decide), if_neg (by decide), if_pos (by decide)]; simp only [c_r4, bs, p_r4 hp, q2]
        · rw [if_neg (by decide), if_neg (by decide), if_neg (by decide)]; simp only [m_r11, bs, a16]
      · refine ⟨nI ((sW σ).2.2.2.2 g), _, cc _ ?_, mm _ ?_, Rel_th ok hC hM⟩
        · rw [if_neg (by decide), if_neg (by decide), if_neg (by decide), if_pos (by decide)]; simp only [c_r5, bs, r4, b4]
        · rw [if_pos (by decide), if_pos (by decide)]; simp only [m_r14, bs, e19, a19]
      · refine ⟨nI (ndG (sP σ) (sW σ) g), _, cc _ ?_, mm _ ?_, Rel_th ok hC hM⟩
        · rw [if_neg (by decide), if_neg (by decide), if_neg (by decide), if_neg (by decide), if_pos (by decide)]; simp only [c_r4, c_r5, bs, p_cv hp, needs_c hp isN_29 hC.2.1 hC.2.2.1 ok.1 ok.2.1 hg]
        · rw [if_pos (by decide), if_neg (by decide), if_pos (by decide)]; simp only [bs, needs_m hM'.1 hM'.2.1 ok.1 ok.2.1 hg]
      · refine ⟨fOr (fun d => rch (sP σ).1 ((sP σ).2.2.2.1 g) ((sW σ).2.2.2.1 g) ((sW σ).2.2.1 d) (sW σ).1) (sP σ).2.2.1, _, cc _ ?_, mm _ ?_, Rel_th ok hC hM⟩
        · rw [if_neg (by decide), if_neg (by decide), if_neg (by decide), if_neg (by decide), if_neg (by decide), if_pos (by decide)]; simp only [c_r4, c_r5, bs, p_cv hp, reachedBy_c hp isN_29 hC.2.1 hC.2.2.1 ok.1 ok.2.1 hg]
        · rw [if_pos (by decide), if_neg (by decide), if_neg (by decide)]; simp only [bs, reachedBy_m hM'.1 hM'.2.1 ok.1 ok.2.1 hg]
end S4
