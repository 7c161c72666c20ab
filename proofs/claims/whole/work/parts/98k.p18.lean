/-! ===== tours, the model's ===== -/
def anyR (f : Nat → Bool) : Nat → Bool
  | 0 => false
  | j + 1 => anyR f j || f j
def rq (n a q : Nat) : Bool := decide (q ≤ a) || decide (n - q ≤ a)
theorem gp_sh1 : ((List.range 10).all fun n => decide (n < 3) || (List.range n).all fun s => (List.range n).all fun p => (List.range n).all fun t => (List.range (2 * n)).all fun e => decide (gp n s p ((t + e) % n) = (gp n s p t + 2 * n - e) % n)) = true := by decide +kernel
theorem gp_sh {n s p t e : Nat} (h3 : 3 ≤ n) (h9 : n ≤ 9) (hs : s < n) (hp : p < n) (ht : t < n) (he : e < 2 * n) : gp n s p ((t + e) % n) = (gp n s p t + 2 * n - e) % n := by
  have h := rall gp_sh1 (show n < 10 by omega)
  rw [decide_eq_false (by omega : ¬ n < 3), Bool.false_or] at h
  exact of_decide_eq_true (rall (rall (rall (rall h hs) hp) ht) he)
theorem any1 : ((List.range 10).all fun n => decide (n < 3) || (List.range n).all fun q => (List.range 3).all fun a => (List.range n).all fun l => (List.range (n - l)).all fun m => anyR (fun i => rq n a ((q + 2 * n - (i + n - l)) % n)) (l + m + 1) == (decide ((if rq n a q then 0 else n - q - a) ≤ l) || decide ((if rq n a q then 0 else q - a) ≤ m))) = true := by decide +kernel
theorem anyR_congr {f g : Nat → Bool} : ∀ j, (∀ i, i < j → f i = g i) → anyR f j = anyR g j := by
  intro j
  induction j with
  | zero => intro _; rfl
  | succ j ih =>
    intro h
    show (anyR f j || f j) = (anyR g j || g j)
    rw [ih (fun i hi => h i (by omega)), h j (by omega)]
theorem any_ok {n a s p t l m : Nat} (h3 : 3 ≤ n) (h9 : n ≤ 9) (hs : s < n) (hp : p < n) (ht : t < n) (ha : a ≤ 2) (hlm : l + m < n) : anyR (fun i => rch n a s p ((t + i + n - l) % n)) (l + m + 1) = (decide (leS n a s p t ≤ l) || decide (moS n a s p t ≤ m)) := by
  have h := rall any1 (show n < 10 by omega)
  rw [decide_eq_false (by omega : ¬ n < 3), Bool.false_or] at h
  have hq := gp_lt (s := s) (p := p) (t := t) h3
  have h := beq_iff_eq.mp (rall (rall (rall (rall h hq) (show a < 3 by omega)) (show l < n by omega)) (show m < n - l by omega))
  have e : ∀ i, i < l + m + 1 → rch n a s p ((t + i + n - l) % n) = rq n a ((gp n s p t + 2 * n - (i + n - l)) % n) := fun i hi => by
    rw [← gp_sh h3 h9 hs hp ht (show i + n - l < 2 * n by omega), show t + i + n - l = t + (i + n - l) by omega]; rfl
  rw [anyR_congr _ e, h]; rfl
theorem kk1 : ((List.range 10).all fun l => (List.range 10).all fun m => (List.range 20).all fun i => decide ((nI m < nI i - nI l) = (l + m < i))) = true := by decide +kernel
theorem kk2 : ((List.range 10).all fun n => decide (n = 0) || (List.range n).all fun t => (List.range n).all fun l => (List.range n).all fun i => decide (rmI ((nI t + (nI i - nI l)) + nI n) (nI n) = some (nI ((t + i + n - l) % n)))) = true := by decide +kernel
theorem kk3 : ((List.range 10).all fun l => (List.range 20).all fun i => decide (nI i - nI l + 1 = nI (i + 1) - nI l)) = true := by decide +kernel
theorem neg0 : ((List.range 10).all fun l => decide (-nI l = nI 0 - nI l)) = true := by decide +kernel
section S18
variable {p : Nat} {kn : Nat → Nat} {I : Nat → Nat → Int32} {L : Nat → Nat → Int64} {P : PtyS} {w : NowS}
theorem isOf_m {v d : Nat} {M : Mem} (hv : v < 64) (hd : d < 6) : f_X12_isOf (nI v) (nI d) M = some (bi (decide (v / 2 ^ d % 2 = 1))) := by
  unfold f_X12_isOf
  rw [bitV hv hd]
  have : v / 2 ^ d % 2 < 2 := Nat.mod_lt _ (by decide)
  rcases (show v / 2 ^ d % 2 = 0 ∨ v / 2 ^ d % 2 = 1 by omega) with h | h <;> rw [h]
  · rw [if_neg (by decide)]; rfl
  · rw [if_pos (by decide)]; rfl
theorem isEn_m (hP : PtyM I P) (hw : NowM I 119 0 P.2.1 P.2.2.1 w) (okP : PtyOk P) (ok : NowOk P.1 P.2.1 P.2.2.1 w) : f_X12_isEnough 112 (129, I, Rof p kn, L) = some (bi (allB (enP P w) P.2.2.1)) := by
  obtain ⟨⟨hn3, hn9, hG, hD⟩, -, -⟩ := id okP
  unfold f_X12_isEnough f_X12_isEnough_2
  refine lupX _ (fun j => nI j) P.2.2.1 _ (fun j => allB (enP P w) j = true) (fun hI ag => ?_) (fun j hj hI ag => ?_) FU 0 (Nat.zero_le _) (by have := FU_big (e := P.2.2.1) (by omega); omega) rfl
  · show f_X12_isEnough_2b 112 _ ag (nI P.2.2.1) = _
    unfold f_X12_isEnough_2b
    simp only [m_r9, bs, many2, hP.1.2.2]
    rw [if_pos (nI_le (Nat.le_refl _) (by omega)), hI]; rfl
  · have he : allB (enP P w) (j + 1) = (allB (enP P w) j && enP P w j) := rfl
    rw [hI, Bool.true_and] at he
    have hcl := cntP_le P w j P.2.1
    have hpo := (ok.2.1 j hj).1
    have hm : I 119 (1 + j) = nI (w.2.1 j) := by have := (hw.2.1 j hj).1; rwa [Nat.zero_add] at this
    have e1 : (1 : Int32) + nI j = nI (1 + j) := nI_add 1 j
    have key : f_X12_isEnough_2b 112 (129, I, Rof p kn, L) ag (nI j) = if enP P w j then ag (nI (j + 1)) else some 0 := by
      unfold f_X12_isEnough_2b
      simp only [m_r9, bs, many2, hP.1.2.2]
      rw [if_neg (nI_ge hj (by omega))]
      unfold f_X12_isEnough_16
      refine lup0 (fun ag16 (s : Int32 × Int32) => f_X12_isEnough_16b ag 112 (nI j) (129, I, Rof p kn, L) ag16 s.1 s.2) (fun g => (nI (cntP P w j g), nI g)) P.2.1 (FU_big (by omega)) _ (fun ag16 => ?_) (fun g hg ag16 => ?_)
      · show f_X12_isEnough_16b ag 112 (nI j) _ ag16 (nI (cntP P w j P.2.1)) (nI P.2.1) = _
        unfold f_X12_isEnough_16b
        simp only [m_r9, bs, many1, hP.1.2.1]
        rw [if_pos (nI_le (Nat.le_refl _) (by omega))]
        simp only [m_r14, bs, e1, m119 (show 1 + j < 25 by omega), hm, nI_1]
        unfold enP
        by_cases z : cntP P w j P.2.1 ≤ w.2.1 j
        · rw [if_pos (nI_le z (by omega)), decide_eq_true z, if_pos rfl]
        · rw [if_neg (nI_ge (by omega) (by omega)), decide_eq_false z, if_neg (by decide)]; rfl
      · show f_X12_isEnough_16b ag 112 (nI j) _ ag16 (nI (cntP P w j g)) (nI g) = ag16 (nI (cntP P w j g + ndG P w g / 2 ^ j % 2), nI (g + 1))
        unfold f_X12_isEnough_16b
        simp only [m_r9, bs, many1, hP.1.2.1]
        rw [if_neg (nI_ge hg (by omega))]
        have ea : nI (cntP P w j g) + (0 : Int32) = nI (cntP P w j g) := nI_add _ 0
        simp only [m_cv, needs_m (p := p) (kn := kn) (L := L) hP hw okP ok hg, bs, isOf_m (ndG_64 okP ok hg) (show j < 6 by omega), nI_1, ea]
        have : ndG P w g / 2 ^ j % 2 < 2 := Nat.mod_lt _ (by decide)
        rcases (show ndG P w g / 2 ^ j % 2 = 0 ∨ ndG P w g / 2 ^ j % 2 = 1 by omega) with h | h <;> rw [h]
        · rw [if_pos (by decide)]; rfl
        · rw [if_neg (by decide)]
    show f_X12_isEnough_2b 112 _ ag (nI j) = _ ∨ (_ ∧ f_X12_isEnough_2b 112 _ ag (nI j) = _)
    rw [key]
    rcases (Bool.eq_false_or_eq_true (enP P w j)).symm with h | h
    · left
      rw [allB_f (i := j + 1) (by rw [he, h]) _ (by omega), h]; rfl
    · right
      rw [h]; exact ⟨by rw [he, h], rfl⟩
theorem isAl_m {l m : Nat} (hP : PtyM I P) (hw : NowM I 119 0 P.2.1 P.2.2.1 w) (okP : PtyOk P) (ok : NowOk P.1 P.2.1 P.2.2.1 w) (hlm : l + m < P.1) : f_X12_isAll 112 (nI l) (nI m) (129, I, Rof p kn, L) = some (bi (feB P.2.1 P.2.2.1 (nbP P w) (leP P w) (moP P w) l m)) := by
  obtain ⟨⟨hn3, hn9, hG, hD⟩, hga, -⟩ := id okP
  have t0 : I 119 0 = nI w.1 := hw.1
  have bt := ok.1
  unfold f_X12_isAll f_X12_isAll_2 feB
  refine lupX _ (fun j => nI j) P.2.1 _ (fun j => allB (fun g => allB (fun d => okB (nbP P w) (leP P w) (moP P w) l m g d) P.2.2.1) j = true) (fun hI ag => ?_) (fun g hg hI ag => ?_) FU 0 (Nat.zero_le _) (by have := FU_big (e := P.2.1) (by omega); omega) rfl
  · show f_X12_isAll_2b 112 _ _ _ ag (nI P.2.1) = _
    unfold f_X12_isAll_2b
    simp only [m_r9, bs, many1, hP.1.2.1]
    rw [if_pos (nI_le (Nat.le_refl _) (by omega)), hI]; rfl
  · have he : allB (fun g => allB (fun d => okB (nbP P w) (leP P w) (moP P w) l m g d) P.2.2.1) (g + 1) = (allB (fun g => allB (fun d => okB (nbP P w) (leP P w) (moP P w) l m g d) P.2.2.1) g && allB (fun d => okB (nbP P w) (leP P w) (moP P w) l m g d) P.2.2.1) := rfl
    rw [hI, Bool.true_and] at he
    have ha := (hga g hg).1
    have key : f_X12_isAll_2b 112 (nI l) (nI m) (129, I, Rof p kn, L) ag (nI g) = if allB (fun d => okB (nbP P w) (leP P w) (moP P w) l m g d) P.2.2.1 then ag (nI (g + 1)) else some 0 := by
      unfold f_X12_isAll_2b
      simp only [m_r9, bs, many1, hP.1.2.1]
      rw [if_neg (nI_ge hg (by omega))]
      unfold f_X12_isAll_15
      refine lupX (fun ag15 (s : Int32) => f_X12_isAll_15b ag 112 (nI l) (nI m) (nI g) (129, I, Rof p kn, L) ag15 s) (fun j => nI j) P.2.2.1 _ (fun j => allB (fun d => okB (nbP P w) (leP P w) (moP P w) l m g d) j = true) (fun hI ag15 => ?_) (fun d hd hI ag15 => ?_) FU 0 (Nat.zero_le _) (by have := FU_big (e := P.2.2.1) (by omega); omega) rfl
      · show f_X12_isAll_15b ag 112 (nI l) (nI m) (nI g) _ ag15 (nI P.2.2.1) = _
        unfold f_X12_isAll_15b
        simp only [m_r9, bs, many2, hP.1.2.2]
        rw [if_pos (nI_le (Nat.le_refl _) (by omega)), hI, nI_1]; rfl
      · have he2 : allB (fun d => okB (nbP P w) (leP P w) (moP P w) l m g d) (d + 1) = (allB (fun d => okB (nbP P w) (leP P w) (moP P w) l m g d) d && okB (nbP P w) (leP P w) (moP P w) l m g d) := rfl
        rw [hI, Bool.true_and] at he2
        have hany := any_ok hn3 hn9 (ok.2.2 g hg).1 (ok.2.1 d hd).2 bt ha hlm
        have hany' : okB (nbP P w) (leP P w) (moP P w) l m g d = (!nbP P w g d || anyR (fun i => rch P.1 (P.2.2.2.1 g) (w.2.2.2.1 g) (w.2.2.1 d) ((w.1 + i + P.1 - l) % P.1)) (l + m + 1)) := by rw [hany]; rfl
        have in50 : ∀ b : Bool, f_X12_isAll_50 ag ag15 112 (nI l) (nI m) (nI g) (nI d) (129, I, Rof p kn, L) (bi b) (-nI l) = if (b || anyR (fun i => rch P.1 (P.2.2.2.1 g) (w.2.2.2.1 g) (w.2.2.1 d) ((w.1 + i + P.1 - l) % P.1)) (l + m + 1)) then ag15 (nI (d + 1)) else some 0 := by
          intro b
          rw [of_decide_eq_true (rall neg0 (show l < 10 by omega))]
          unfold f_X12_isAll_50
          have z := lup0 (fun ag50 (s : Int32 × Int32) => f_X12_isAll_50b ag ag15 112 (nI l) (nI m) (nI g) (nI d) (129, I, Rof p kn, L) ag50 s.1 s.2) (fun i => (bi (b || anyR (fun i => rch P.1 (P.2.2.2.1 g) (w.2.2.2.1 g) (w.2.2.1 d) ((w.1 + i + P.1 - l) % P.1)) i), nI i - nI l)) (l + m + 1) (FU_big (by omega)) (if (b || anyR (fun i => rch P.1 (P.2.2.2.1 g) (w.2.2.2.1 g) (w.2.2.1 d) ((w.1 + i + P.1 - l) % P.1)) (l + m + 1)) then ag15 (nI (d + 1)) else some 0) (fun ag50 => ?_) (fun i hi ag50 => ?_)
          · have e0 : (b || anyR (fun i => rch P.1 (P.2.2.2.1 g) (w.2.2.2.1 g) (w.2.2.1 d) ((w.1 + i + P.1 - l) % P.1)) 0) = b := by show (b || false) = b; exact Bool.or_false b
            simp only [e0] at z
            exact z
          · show f_X12_isAll_50b ag ag15 112 (nI l) (nI m) (nI g) (nI d) _ ag50 _ (nI (l + m + 1) - nI l) = _
            unfold f_X12_isAll_50b
            have k1 := of_decide_eq_true (rall (rall (rall kk1 (show l < 10 by omega)) (show m < 10 by omega)) (show l + m + 1 < 20 by omega))
            rw [if_pos (by rw [k1]; omega)]
            rcases (Bool.eq_false_or_eq_true (b || anyR (fun i => rch P.1 (P.2.2.2.1 g) (w.2.2.2.1 g) (w.2.2.1 d) ((w.1 + i + P.1 - l) % P.1)) (l + m + 1))).symm with h | h <;> rw [h]
            · rw [bi_f, if_pos rfl]; rfl
            · rw [bi_t, if_neg z10, nI_1]; rfl
          · show f_X12_isAll_50b ag ag15 112 (nI l) (nI m) (nI g) (nI d) _ ag50 (bi (b || anyR (fun i => rch P.1 (P.2.2.2.1 g) (w.2.2.2.1 g) (w.2.2.1 d) ((w.1 + i + P.1 - l) % P.1)) i)) (nI i - nI l) = ag50 (bi (b || (anyR (fun i => rch P.1 (P.2.2.2.1 g) (w.2.2.2.1 g) (w.2.2.1 d) ((w.1 + i + P.1 - l) % P.1)) i || rch P.1 (P.2.2.2.1 g) (w.2.2.2.1 g) (w.2.2.1 d) ((w.1 + i + P.1 - l) % P.1))), nI (i + 1) - nI l)
            unfold f_X12_isAll_50b f_X12_isAll_94
            have k1 := of_decide_eq_true (rall (rall (rall kk1 (show l < 10 by omega)) (show m < 10 by omega)) (show i < 20 by omega))
            have k2 := rall kk2 (show P.1 < 10 by omega)
            rw [decide_eq_false (show ¬ P.1 = 0 by omega), Bool.false_or] at k2
            have k2 := of_decide_eq_true (rall (rall (rall k2 bt) (show l < P.1 by omega)) (show i < P.1 by omega))
            have k3 := of_decide_eq_true (rall (rall kk3 (show l < 10 by omega)) (show i < 20 by omega))
            have hr := reaches_m (p := p) (kn := kn) (L := L) hP hw okP ok hg hd (Nat.mod_lt (w.1 + i + P.1 - l) (show 0 < P.1 by omega))
            rw [if_neg (by rw [k1]; omega), k3, ← Bool.or_assoc]
            rcases (Bool.eq_false_or_eq_true (b || anyR (fun i => rch P.1 (P.2.2.2.1 g) (w.2.2.2.1 g) (w.2.2.1 d) ((w.1 + i + P.1 - l) % P.1)) i)).symm with h | h <;> rw [h]
            · rw [bi_f, if_pos rfl]
              simp only [m_r14, m_r9, bs, turn0, t0, many0, hP.1.1, k2, m_cv, hr, Bool.false_or]
              rcases (Bool.eq_false_or_eq_true (rch P.1 (P.2.2.2.1 g) (w.2.2.2.1 g) (w.2.2.1 d) ((w.1 + i + P.1 - l) % P.1))).symm with y | y <;> rw [y]
              · rw [bi_f, if_pos rfl]
              · rw [bi_t, if_neg z10]
            · rw [bi_t, if_neg z10]; rfl
        have key2 : f_X12_isAll_15b ag 112 (nI l) (nI m) (nI g) (129, I, Rof p kn, L) ag15 (nI d) = if okB (nbP P w) (leP P w) (moP P w) l m g d then ag15 (nI (d + 1)) else some 0 := by
          unfold f_X12_isAll_15b
          simp only [m_r9, bs, many2, hP.1.2.2]
          rw [if_neg (nI_ge hd (by omega)), hany']
          simp only [m_cv, needs_m (p := p) (kn := kn) (L := L) hP hw okP ok hg, bs, isOf_m (ndG_64 okP ok hg) (show d < 6 by omega)]
          show (if bi (nbP P w g d) = 0 then _ else _) = _
          rcases (Bool.eq_false_or_eq_true (nbP P w g d)).symm with h | h <;> rw [h]
          · rw [bi_f, if_pos rfl]; exact in50 true
          · rw [bi_t, if_neg z10]; exact in50 false
        show f_X12_isAll_15b ag 112 (nI l) (nI m) (nI g) _ ag15 (nI d) = _ ∨ (_ ∧ f_X12_isAll_15b ag 112 (nI l) (nI m) (nI g) _ ag15 (nI d) = _)
        rw [key2]
        rcases (Bool.eq_false_or_eq_true (okB (nbP P w) (leP P w) (moP P w) l m g d)).symm with h | h
        · left
          rw [allB_f (i := d + 1) (by rw [he2, h]) _ (by omega), h]; rfl
        · right
          rw [h]; exact ⟨by rw [he2, h], rfl⟩
    show f_X12_isAll_2b 112 _ _ _ ag (nI g) = _ ∨ (_ ∧ f_X12_isAll_2b 112 _ _ _ ag (nI g) = _)
    rw [key]
    rcases (Bool.eq_false_or_eq_true (allB (fun d => okB (nbP P w) (leP P w) (moP P w) l m g d) P.2.2.1)).symm with h | h
    · left
      rw [allB_f (he.trans h) P.2.1 (by omega), h]; rfl
    · right
      rw [h]; exact ⟨by rw [he, h], rfl⟩
theorem tour_m (hP : PtyM I P) (hw : NowM I 119 0 P.2.1 P.2.2.1 w) (okP : PtyOk P) (ok : NowOk P.1 P.2.1 P.2.2.1 w) : f_X12_tourOf 112 (129, I, Rof p kn, L) = some (touI P w) := by
  obtain ⟨⟨hn3, hn9, hG, hD⟩, hga, -⟩ := id okP
  unfold f_X12_tourOf touI
  simp only [m_cv, isEn_m (p := p) (kn := kn) (L := L) hP hw okP ok, bs]
  rcases (Bool.eq_false_or_eq_true (allB (enP P w) P.2.2.1)).symm with h | h <;> rw [h]
  · rw [bi_f, if_pos rfl]; rfl
  · rw [bi_t, if_neg z10, if_pos rfl]
    unfold touN
    rw [tour_eq (by omega) hn9 (fun g d hg hd => (leP_lt okP ok hg hd).1)]
    generalize hnb : nbP P w = nb
    generalize hle : leP P w = le
    generalize hmo : moP P w = mo
    have hA : ∀ l m, l + m < P.1 → f_X12_isAll 112 (nI l) (nI m) (129, I, Rof p kn, L) = some (bi (feB P.2.1 P.2.2.1 nb le mo l m)) := fun l m hlm => by rw [← hnb, ← hle, ← hmo]; exact isAl_m hP hw okP ok hlm
    have b99 : ∀ l, l ≤ P.1 → bOut P.1 P.2.1 P.2.2.1 nb le mo l ≤ 99 := fun l hl => (bOut_le l hl).2.2
    unfold f_X12_tourOf_15
    refine lup0 _ (fun l => (nI (bOut P.1 P.2.1 P.2.2.1 nb le mo l), nI l)) P.1 (FU_big (by omega)) _ (fun ag => ?_) (fun l hl ag => ?_)
    · show f_X12_tourOf_15b 112 _ ag _ (nI P.1) = _
      unfold f_X12_tourOf_15b
      simp only [m_r9, bs, many0, hP.1.1]
      rw [if_pos (nI_le (Nat.le_refl _) (by omega))]
    · have hb9 := b99 l (by omega)
      show f_X12_tourOf_15b 112 _ ag (nI (bOut P.1 P.2.1 P.2.2.1 nb le mo l)) (nI l) = ag (nI (bIn P.2.1 P.2.2.1 nb le mo l (bOut P.1 P.2.1 P.2.2.1 nb le mo l) (P.1 - l)), nI (l + 1))
      generalize bOut P.1 P.2.1 P.2.2.1 nb le mo l = x at *
      have hbi : ∀ m, bIn P.2.1 P.2.2.1 nb le mo l x m ≤ 99 := fun m => Nat.le_trans (bIn_le m).1 hb9
      unfold f_X12_tourOf_15b
      simp only [m_r9, bs, many0, hP.1.1]
      rw [if_neg (nI_ge hl (by omega))]
      unfold f_X12_tourOf_27
      refine lup0 (fun ag27 (s : Int32 × Int32) => f_X12_tourOf_27b ag 112 (nI l) (129, I, Rof p kn, L) ag27 s.1 s.2) (fun m => (nI (bIn P.2.1 P.2.2.1 nb le mo l x m), nI m)) (P.1 - l) (FU_big (by omega)) _ (fun ag27 => ?_) (fun m hm ag27 => ?_)
      · show f_X12_tourOf_27b ag 112 (nI l) _ ag27 _ (nI (P.1 - l)) = _
        unfold f_X12_tourOf_27b
        simp only [m_r9, bs, many0, hP.1.1, nI_add]
        rw [if_pos (nI_le (by omega) (by omega)), nI_1]
      · have hy := hbi m
        have hE : bIn P.2.1 P.2.2.1 nb le mo l x (m + 1) = if c3 l m < bIn P.2.1 P.2.2.1 nb le mo l x m ∧ feB P.2.1 P.2.2.1 nb le mo l m = true then c3 l m else bIn P.2.1 P.2.2.1 nb le mo l x m := rfl
        show f_X12_tourOf_27b ag 112 (nI l) _ ag27 (nI (bIn P.2.1 P.2.2.1 nb le mo l x m)) (nI m) = ag27 (nI (bIn P.2.1 P.2.2.1 nb le mo l x (m + 1)), nI (m + 1))
        rw [hE]
        generalize bIn P.2.1 P.2.2.1 nb le mo l x m = y at *
        have hc3 : c3 l m < 100 := by unfold c3; split <;> omega
        have h52 : f_X12_tourOf_52 ag ag27 112 (nI y) (nI l) (nI m) (nI (l + m)) (nI (if l < m then l else m)) (129, I, Rof p kn, L) = ag27 (nI (if c3 l m < y ∧ feB P.2.1 P.2.2.1 nb le mo l m = true then c3 l m else y), nI (m + 1)) := by
          unfold f_X12_tourOf_52 f_X12_tourOf_75
          rw [nI_add, show l + m + (if l < m then l else m) = c3 l m from rfl]
          by_cases z : y ≤ c3 l m
          · rw [if_pos (nI_le z (by omega)), if_neg (by omega), nI_1]
          · rw [if_neg (nI_ge (by omega) (by omega))]
            simp only [m_cv, hA l m (by omega), bs, nI_1]
            rcases (Bool.eq_false_or_eq_true (feB P.2.1 P.2.2.1 nb le mo l m)).symm with q | q <;> rw [q]
            · rw [bi_f, if_pos rfl, if_neg (by simp)]
            · rw [bi_t, if_neg z10, if_pos ⟨by omega, rfl⟩]
        unfold f_X12_tourOf_27b
        simp only [m_r9, bs, many0, hP.1.1, nI_add]
        rw [if_neg (nI_ge (by omega) (by omega))]
        by_cases q : m ≤ l
        · rw [if_pos (nI_le q (by omega))]
          rw [if_neg (show ¬ l < m by omega)] at h52
          exact h52
        · rw [if_neg (nI_ge (by omega) (by omega))]
          rw [if_pos (show l < m by omega)] at h52
          exact h52
end S18
