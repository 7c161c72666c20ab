/-! ===== steps, rate ===== -/
def moS (n a s p t : Nat) : Nat := if rch n a s p t then 0 else gp n s p t - a
def leS (n a s p t : Nat) : Nat := if rch n a s p t then 0 else n - gp n s p t - a
def kkS (n a s p t : Nat) : Nat := if leS n a s p t < moS n a s p t then leS n a s p t else moS n a s p t
theorem stp1 : ((List.range 10).all fun n => decide (n < 3) || (List.range n).all fun s => (List.range n).all fun p => (List.range n).all fun t => (List.range 3).all fun a => decide (kkS n a s p t < n) && decide (moS n a s p t < n) && decide (leS n a s p t < n) && (List.range (kkS n a s p t)).all (fun k => !rch n a s p ((t + k) % n) && !rch n a s p ((t + n - k) % n)) && (rch n a s p ((t + kkS n a s p t) % n) || rch n a s p ((t + n - kkS n a s p t) % n)) && (decide (kkS n a s p t = 0) || (rch n a s p ((t + kkS n a s p t) % n) == !decide (leS n a s p t < moS n a s p t)))) = true := by decide +kernel
theorem stp0 {n a s p t : Nat} (h3 : 3 ≤ n) (h9 : n ≤ 9) (hs : s < n) (hp : p < n) (ht : t < n) (ha : a ≤ 2) : kkS n a s p t < n ∧ moS n a s p t < n ∧ leS n a s p t < n ∧ (∀ k, k < kkS n a s p t → rch n a s p ((t + k) % n) = false ∧ rch n a s p ((t + n - k) % n) = false) ∧ (rch n a s p ((t + kkS n a s p t) % n) = true ∨ rch n a s p ((t + n - kkS n a s p t) % n) = true) ∧ (kkS n a s p t = 0 ∨ rch n a s p ((t + kkS n a s p t) % n) = !decide (leS n a s p t < moS n a s p t)) := by
  have h := rall stp1 (show n < 10 by omega)
  rw [decide_eq_false (by omega : ¬ n < 3), Bool.false_or] at h
  have h := rall (rall (rall (rall h hs) hp) ht) (show a < 3 by omega)
  simp only [Bool.and_eq_true, Bool.or_eq_true, decide_eq_true_eq, beq_iff_eq] at h
  obtain ⟨⟨⟨⟨⟨h1, h2⟩, h3⟩, h4⟩, h5⟩, h6⟩ := h
  refine ⟨h1, h2, h3, fun k hk => ?_, h5, h6⟩
  have := rall h4 hk
  simpa using this
theorem sb1 : ((List.range 10).all fun n => (List.range n).all fun q => (List.range 3).all fun a => (List.range 2).all fun b => decide ((if (nI q - nI a) ≤ 0 then (some (0 : Int32)) else (if 0 < ((nI n - nI q) - nI a) then (if nI b = 0 then (some (nI q - nI a)) else (some ((nI n - nI q) - nI a))) else (some (0 : Int32)))) = some (nI (if b = 0 then (if (decide (q ≤ a) || decide (n - q ≤ a)) = true then 0 else q - a) else (if (decide (q ≤ a) || decide (n - q ≤ a)) = true then 0 else n - q - a))))) = true := by decide +kernel
theorem sb0 {n q a b : Nat} (h9 : n ≤ 9) (hq : q < n) (ha : a ≤ 2) (hb : b < 2) : (if (nI q - nI a) ≤ 0 then (some (0 : Int32)) else (if 0 < ((nI n - nI q) - nI a) then (if nI b = 0 then (some (nI q - nI a)) else (some ((nI n - nI q) - nI a))) else (some (0 : Int32)))) = some (nI (if b = 0 then (if (decide (q ≤ a) || decide (n - q ≤ a)) = true then 0 else q - a) else (if (decide (q ≤ a) || decide (n - q ≤ a)) = true then 0 else n - q - a))) :=
  of_decide_eq_true (rall (rall (rall (rall sb1 (show n < 10 by omega)) hq) (show a < 3 by omega)) hb)
section S14
variable {σ : St} {p : Nat} {kn : Nat → Nat} {I : Nat → Nat → Int32} {L : Nat → Nat → Int64}
theorem stepsBy_c {P : PtyS} {w : NowS} {c k g d b : Nat} (hc : isP c) (hk : isN k) (hP : PtyC I c P) (hw : NowC I k P.2.1 P.2.2.1 w) (okP : PtyOk P) (ok : NowOk P.1 P.2.1 P.2.2.1 w) (hg : g < P.2.1) (hd : d < P.2.2.1) (hb : b < 2) : f_X8_stepsBy c k (nI g) (nI d) (nI b) (129, I, Rof p kn, L) = some (nI (if b = 0 then moS P.1 (P.2.2.2.1 g) (w.2.2.2.1 g) (w.2.2.1 d) w.1 else leS P.1 (P.2.2.2.1 g) (w.2.2.2.1 g) (w.2.2.1 d) w.1)) := by
  obtain ⟨⟨hn3, hn9, hG, hD⟩, hga, -⟩ := id okP
  have ha := (hga g hg).1
  have hgap := gap_c (p := p) (kn := kn) (L := L) hc hk hP hw okP ok hg hd ok.1
  have a1 : aI 20 (129, I, Rof p kn, L) (c + 1) (nI g) = some (nI (P.2.2.2.1 g)) := by rw [p_aI hc (by decide) (by decide) (by omega), (hP.2.1 g hg).1]
  have hq := gp_lt (s := w.2.2.2.1 g) (p := w.2.2.1 d) (t := w.1) hn3
  unfold f_X8_stepsBy
  simp only [n_gI hk, hw.1, bs, p_cv hc, hgap, p_r3 hc, a1, p_gI hc, hP.1.1]
  exact sb0 hn9 hq ha hb
theorem st_steps (M : Mem) (a1 a2 a3 : Int32) (h : Rel M) : StepP (f_X11_steps 0 a1 a2 a3 M) M (fun M => f_X12_steps 112 a1 a2 a3 M) Rel := by
  obtain ⟨σ, p, kn, I, L, rfl, ok, hC, hM⟩ := h
  have hp := isP_of hC.1.1
  have hM' := RM_th ok hM
  obtain ⟨hn3, hn9, hG, hD⟩ := okn ok
  rcases ixn a1 (sG σ) (by omega) with hx | ⟨g, hg, rfl⟩
  · refine ⟨-1, (129, up2 I 112 0 0, Rof p kn, L), ?_, ?_, Rel_th ok hC hM⟩
    · unfold f_X11_steps
      simp only [c_cv, isG_c_no hC ok hx, bs, ↓reduceIte]
    · show f_X12_steps 112 _ _ _ _ = _
      unfold f_X12_steps
      simp only [m_pI, bs, m_cv, isG_m_no hM' ok hx, ↓reduceIte]
  rcases ixn a2 (sD σ) (by omega) with hx | ⟨d, hd, rfl⟩
  · refine ⟨-1, (129, up2 I 112 0 0, Rof p kn, L), ?_, ?_, Rel_th ok hC hM⟩
    · unfold f_X11_steps
      simp only [c_cv, isG_c_yes hC ok hg, isD_c_no hC ok hx, z10, bs, ↓reduceIte]
    · show f_X12_steps 112 _ _ _ _ = _
      unfold f_X12_steps
      simp only [m_pI, bs, m_cv, isG_m_yes hM' ok hg, isD_m_no hM' ok hx, z10, ↓reduceIte]
  rcases ixn a3 2 (by decide) with hx | ⟨b, hb, rfl⟩
  · refine ⟨-1, (129, up2 I 112 0 0, Rof p kn, L), ?_, ?_, Rel_th ok hC hM⟩
    · unfold f_X11_steps
      simp only [c_cv, isG_c_yes hC ok hg, isD_c_yes hC ok hd, isBit_no hx, z10, bs, ↓reduceIte]
    · show f_X12_steps 112 _ _ _ _ = _
      unfold f_X12_steps
      simp only [m_pI, bs, m_cv, isG_m_yes hM' ok hg, isD_m_yes hM' ok hd, in2_no hx, z10, ↓reduceIte]
  have bt : (sW σ).1 < sn σ := ok.2.1.1
  have s0 := stepsBy_c (p := p) (kn := kn) (L := L) (b := 0) hp isN_29 hC.2.1 hC.2.2.1 ok.1 ok.2.1 hg hd (by decide)
  have s1 := stepsBy_c (p := p) (kn := kn) (L := L) (b := 1) hp isN_29 hC.2.1 hC.2.2.1 ok.1 ok.2.1 hg hd (by decide)
  rw [if_pos rfl] at s0
  rw [if_neg (by decide)] at s1
  have s0' : f_X8_stepsBy p 29 (nI g) (nI d) (0 : Int32) (129, I, Rof p kn, L) = _ := s0
  have s1' : f_X8_stepsBy p 29 (nI g) (nI d) (1 : Int32) (129, I, Rof p kn, L) = _ := s1
  have hrm : ∀ t, t < sn σ → f_X12_reachesBy 112 (nI g) (nI d) (nI t) (129, up2 I 112 0 0, Rof p kn, L) = some (bi (rch (sP σ).1 ((sP σ).2.2.2.1 g) ((sW σ).2.2.2.1 g) ((sW σ).2.2.1 d) t)) := fun t ht => reaches_m (p := p) (kn := kn) (L := L) hM'.1 hM'.2.1 ok.1 ok.2.1 hg hd ht
  obtain ⟨k1, k2, k3, k4, k5, k6⟩ := stp0 (n := (sP σ).1) (a := (sP σ).2.2.2.1 g) (s := (sW σ).2.2.2.1 g) (p := (sW σ).2.2.1 d) (t := (sW σ).1) hn3 hn9 (ok.2.1.2.2 g hg).1 (ok.2.1.2.1 d hd).2 bt (ok.1.2.1 g hg).1
  have kdef : kkS (sP σ).1 ((sP σ).2.2.2.1 g) ((sW σ).2.2.2.1 g) ((sW σ).2.2.1 d) (sW σ).1 = _ := rfl
  unfold kkS at kdef
  generalize (fun t => rch (sP σ).1 ((sP σ).2.2.2.1 g) ((sW σ).2.2.2.1 g) ((sW σ).2.2.1 d) t) = RR at *
  have t0 : up2 I 112 0 0 119 0 = nI (sW σ).1 := hM'.2.1.1
  have q0 : up2 I 112 0 0 114 0 = nI (sn σ) := hM'.1.1.1
  generalize hmo : moS (sP σ).1 ((sP σ).2.2.2.1 g) ((sW σ).2.2.2.1 g) ((sW σ).2.2.1 d) (sW σ).1 = mo at *
  generalize hle : leS (sP σ).1 ((sP σ).2.2.2.1 g) ((sW σ).2.2.2.1 g) ((sW σ).2.2.1 d) (sW σ).1 = le at *
  have hkk : kkS (sP σ).1 ((sP σ).2.2.2.1 g) ((sW σ).2.2.2.1 g) ((sW σ).2.2.1 d) (sW σ).1 = if le < mo then le else mo := by unfold kkS; rw [hmo, hle]
  generalize kkS (sP σ).1 ((sP σ).2.2.2.1 g) ((sW σ).2.2.2.1 g) ((sW σ).2.2.1 d) (sW σ).1 = K at *
  have hn3' : 3 ≤ (sP σ).1 := hn3
  have k1' : K < sn σ := k1
  have hn9' : (sP σ).1 ≤ 9 := hn9
  have hK : (if nI le < nI mo then nI le else nI mo) = nI K := by
    rw [hkk]
    by_cases z : le < mo
    · rw [if_pos z, if_pos (nI_lt z (by omega))]
    · rw [if_neg z, if_neg (nI_nlt (by omega) (by omega))]
  refine ⟨if b = 0 then nI K else if K = 0 then -9 else if le < mo then 1 else 0, (129, up2 I 112 0 0, Rof p kn, L), ?_, ?_, Rel_th ok hC hM⟩
  · unfold f_X11_steps
    simp only [c_cv, isG_c_yes hC ok hg, isD_c_yes hC ok hd, isBit_yes hb, z10, bs, ↓reduceIte, c_r4, c_r5, p_cv hp, s0', s1', hK]
    rcases (show b = 0 ∨ b = 1 by omega) with rfl | rfl
    · rw [if_pos (show nI 0 = (0 : Int32) by decide), if_pos rfl]
    · rw [if_neg (show ¬ nI 1 = (0 : Int32) by decide), if_neg (show ¬ (1 : Nat) = 0 by decide)]
      by_cases z : K = 0
      · rw [if_pos z, if_pos (show nI K = (0 : Int32) by rw [z]; rfl)]
      · rw [if_neg z, if_neg (nI_ne0 (by omega) (by omega))]
        by_cases y : le < mo
        · rw [if_pos y, if_pos (nI_lt y (by omega))]
        · rw [if_neg y, if_neg (nI_nlt (by omega) (by omega))]
  · show f_X12_steps 112 _ _ _ _ = _
    unfold f_X12_steps
    simp only [m_pI, bs, m_cv, isG_m_yes hM' ok hg, isD_m_yes hM' ok hd, in2_yes hb, z10, ↓reduceIte, m_r9, many0, q0]
    unfold f_X12_steps_43
    refine lup0 _ (fun j => nI j) K (FU_big (by omega)) _ (fun ag => ?_) (fun j hj ag => ?_)
    · show f_X12_steps_43b 112 (nI g) (nI d) (nI b) (nI (sn σ)) _ ag (nI K) = _
      unfold f_X12_steps_43b
      rw [if_neg (nI_ge k1 (by omega))]
      simp only [m_r14, bs, turn0, t0, nI_add, m_cv, rm_nat (show (sW σ).1 + K < 2 ^ 31 by omega) (show 0 < sn σ by omega) (show sn σ < 2 ^ 31 by omega), pk_sub (show K ≤ (sW σ).1 + sn σ by omega), rm_nat (show (sW σ).1 + sn σ - K < 2 ^ 31 by omega) (show 0 < sn σ by omega) (show sn σ < 2 ^ 31 by omega), hrm _ (Nat.mod_lt ((sW σ).1 + K) (show 0 < sn σ by omega)), hrm _ (Nat.mod_lt ((sW σ).1 + sn σ - K) (show 0 < sn σ by omega))]
      have hfin : ∀ q : Bool, (K = 0 ∨ q = !decide (le < mo)) → f_X12_steps_99 (nI b) (nI K) (bi q) (129, up2 I 112 0 0, Rof p kn, L) = some (if b = 0 then nI K else if K = 0 then -9 else if le < mo then 1 else 0, (129, up2 I 112 0 0, Rof p kn, L)) := by
        intro q hq
        unfold f_X12_steps_99
        rcases (show b = 0 ∨ b = 1 by omega) with rfl | rfl
        · rw [if_pos (show nI 0 = (0 : Int32) by decide), if_pos rfl]
        · rw [if_neg (show ¬ nI 1 = (0 : Int32) by decide), if_neg (show ¬ (1 : Nat) = 0 by decide)]
          by_cases z : K = 0
          · rw [if_pos z, if_pos (show nI K = (0 : Int32) by rw [z]; rfl)]
          · rw [if_neg z, if_neg (nI_ne0 (by omega) (by omega))]
            rw [hq.resolve_left z]
            by_cases y : le < mo
            · rw [if_pos y, decide_eq_true y, if_pos (by decide)]
            · rw [if_neg y, decide_eq_false y, if_neg (by decide)]
      rcases (Bool.eq_false_or_eq_true (rch (sP σ).1 ((sP σ).2.2.2.1 g) ((sW σ).2.2.2.1 g) ((sW σ).2.2.1 d) (((sW σ).1 + K) % sn σ))).symm with hr | hr
      · have h5 := k5.resolve_left (by rw [hr]; decide)
        rw [hr, bi_f, if_pos rfl, show rch (sP σ).1 ((sP σ).2.2.2.1 g) ((sW σ).2.2.2.1 g) ((sW σ).2.2.1 d) (((sW σ).1 + sn σ - K) % sn σ) = true from h5, bi_t, if_neg z10]
        exact hfin false (by rw [← hr]; exact k6)
      · rw [hr, bi_t, if_neg z10]
        exact hfin true (by rw [← hr]; exact k6)
    · obtain ⟨r1, r2⟩ := k4 j hj
      have r1' : rch (sP σ).1 ((sP σ).2.2.2.1 g) ((sW σ).2.2.2.1 g) ((sW σ).2.2.1 d) (((sW σ).1 + j) % sn σ) = false := r1
      have r2' : rch (sP σ).1 ((sP σ).2.2.2.1 g) ((sW σ).2.2.2.1 g) ((sW σ).2.2.1 d) (((sW σ).1 + sn σ - j) % sn σ) = false := r2
      show f_X12_steps_43b 112 (nI g) (nI d) (nI b) (nI (sn σ)) _ ag (nI j) = _
      unfold f_X12_steps_43b
      rw [if_neg (nI_ge (show j < sn σ by omega) (by omega))]
      simp only [m_r14, bs, turn0, t0, nI_add, m_cv, rm_nat (show (sW σ).1 + j < 2 ^ 31 by omega) (show 0 < sn σ by omega) (show sn σ < 2 ^ 31 by omega), pk_sub (show j ≤ (sW σ).1 + sn σ by omega), rm_nat (show (sW σ).1 + sn σ - j < 2 ^ 31 by omega) (show 0 < sn σ by omega) (show sn σ < 2 ^ 31 by omega), hrm _ (Nat.mod_lt ((sW σ).1 + j) (show 0 < sn σ by omega)), hrm _ (Nat.mod_lt ((sW σ).1 + sn σ - j) (show 0 < sn σ by omega)), r1', r2', bi_f, ↓reduceIte, nI_1]
end S14
