/-! ===== the feast, the class's ===== -/
theorem ns1 : ((List.range 7).all fun D => (List.range (2 ^ D)).all fun x => (List.range (2 ^ D)).all fun y => decide ((nI x &&& (nI y ^^^ (-1 : Int32))) = 0) == !nsb x y D) = true := by decide +kernel
theorem sh1 : ((List.range 7).all fun D => decide ((1 : Int32) <<< (nI D &&& 31) = nI (2 ^ D))) = true := by decide +kernel
theorem tb_eq {x d : Nat} : x / 2 ^ d % 2 = b2n (x.testBit d) := by
  rw [Nat.testBit_eq_decide_div_mod_eq]
  have : x / 2 ^ d % 2 < 2 := Nat.mod_lt _ (by decide)
  rcases (show x / 2 ^ d % 2 = 0 ∨ x / 2 ^ d % 2 = 1 by omega) with h | h <;> rw [h] <;> rfl
theorem lS_le {left : Nat → Nat} {S D : Nat} (h : ∀ d, d < D → left d ≤ 9) : ∀ j, j ≤ D → lS left S j ≤ 9 * j := by
  intro j
  induction j with
  | zero => intro _; exact Nat.le_refl _
  | succ j ih =>
    intro hj
    have h1 := ih (by omega)
    have h2 := h j (by omega)
    simp only [lS]
    split <;> omega
def qI (q : Nat) : Int32 := if q = 6 then -9 else nI q
theorem up2_back {I : Nat → Nat → Int32} {k j : Nat} {v : Int32} : up2 (up2 I k j v) k j (I k j) = I := by
  funext a b
  rw [up2_e, up2_e]
  by_cases z : a = k ∧ b = j
  · rw [if_pos z, z.1, z.2]
  · rw [if_neg z, if_neg z]
def lf (N : Nat → Nat) (G D : Nat) (po : Nat → Nat) : Nat → Nat → Nat
  | 0 => po
  | g + 1 => nx (lf N G D po g) (qF N G D (G - 1 - g) (lf N G D po g))
theorem tk_le (left : Nat → Nat) (q d : Nat) : tk left q d ≤ left d := by
  unfold tk udn; split
  · rename_i h; rw [h]; omega
  · exact Nat.le_refl _
theorem lf_le {N : Nat → Nat} {G D : Nat} {po : Nat → Nat} : ∀ g d, lf N G D po g d ≤ po d := by
  intro g
  induction g with
  | zero => intro d; exact Nat.le_refl _
  | succ g ih =>
    intro d
    show nx (lf N G D po g) _ d ≤ po d
    unfold nx; split
    · exact Nat.le_trans (tk_le _ _ _) (ih d)
    · exact ih d
section S22
variable {p : Nat} {kn : Nat → Nat} {I : Nat → Nat → Int32} {R : Nat → Nat → Option Nat} {L : Nat → Nat → Int64} {N left : Nat → Nat} {G D k : Nat}
theorem a14 {j : Nat} (h : j < 6) : aI 20 (129, I, R, L) 14 (nI j) = some (I 14 j) := aI_n (k := 14) (n := 6) (by decide) rfl h (by decide)
theorem a15 {j : Nat} (h : j < 6) : aI 20 (129, I, R, L) 15 (nI j) = some (I 15 j) := aI_n (k := 15) (n := 6) (by decide) rfl h (by decide)
theorem a16 {j : Nat} (h : j < 6) : aI 20 (129, I, R, L) 16 (nI j) = some (I 16 j) := aI_n (k := 16) (n := 6) (by decide) rfl h (by decide)
theorem s14 {j : Nat} {v : Int32} (h : j < 6) : sI (129, I, R, L) 14 (nI j) v = some (129, up2 I 14 j v, R, L) := sI_n (k := 14) (n := 6) (by decide) rfl h (by decide)
theorem s15 {j : Nat} {v : Int32} (h : j < 6) : sI (129, I, R, L) 15 (nI j) v = some (129, up2 I 15 j v, R, L) := sI_n (k := 15) (n := 6) (by decide) rfl h (by decide)
theorem s16 {j : Nat} {v : Int32} (h : j < 6) : sI (129, I, R, L) 16 (nI j) v = some (129, up2 I 16 j v, R, L) := sI_n (k := 16) (n := 6) (by decide) rfl h (by decide)
/-- what the feast holds -/
def FeI (I : Nat → Nat → Int32) (N left : Nat → Nat) (G D : Nat) : Prop := I 13 3 = nI G ∧ I 13 4 = nI D ∧ (∀ g, g < G → I 15 g = nI (N g)) ∧ (∀ d, d < D → I 16 d = nI (left d))
theorem most_c (hI : FeI I N left G D) (hG : G ≤ 6) (hD : D ≤ 6) (hN : ∀ g, g < G → N g < 2 ^ D) (hl : ∀ d, d < D → left d ≤ 9) (hk : k ≤ G) : f_X5_most 13 (nI (G - k)) (129, I, Rof p kn, L) = some (nI (mx N G D k left)) := by
  obtain ⟨h3, h4, h15, h16⟩ := hI
  have h64 : 2 ^ D ≤ 64 := p64 hD
  unfold f_X5_most
  simp only [f_gI, bs, h3]
  unfold f_X5_most_7
  refine lup0 _ (fun S => (nI (mn (fS N G D k left) G S), nI S)) (2 ^ D) (FU_big (by omega)) _ (fun ag => ?_) (fun S hS ag => ?_)
  · show f_X5_most_7b 13 (nI (G - k)) _ ag _ (nI (2 ^ D)) = _
    unfold f_X5_most_7b
    simp only [f_gI, bs, h4]
    rw [of_decide_eq_true (rall sh1 (show D < 7 by omega)), if_pos (nI_le (Nat.le_refl _) (by omega))]; rfl
  · have hmG : mn (fS N G D k left) G S ≤ G := (mn_le S).1
    show f_X5_most_7b 13 (nI (G - k)) _ ag (nI (mn (fS N G D k left) G S)) (nI S) = ag (nI (if fS N G D k left S < mn (fS N G D k left) G S then fS N G D k left S else mn (fS N G D k left) G S), nI (S + 1))
    generalize mn (fS N G D k left) G S = y at *
    unfold f_X5_most_7b
    simp only [f_gI, bs, h4]
    rw [of_decide_eq_true (rall sh1 (show D < 7 by omega)), if_neg (nI_ge hS (by omega))]
    unfold f_X5_most_23
    refine lup0 (fun ag23 (s : Int32 × Int32) => f_X5_most_23b ag 13 (nI (G - k)) (nI y) (nI S) (129, I, Rof p kn, L) ag23 s.1 s.2) (fun d => (nI (lS left S d), nI d)) D (FU_big (by omega)) _ (fun ag23 => ?_) (fun d hd ag23 => ?_)
    · show f_X5_most_23b ag 13 (nI (G - k)) (nI y) (nI S) _ ag23 (nI (lS left S D)) (nI D) = _
      have hlb := lS_le (S := S) hl D (Nat.le_refl _)
      unfold f_X5_most_23b
      simp only [f_gI, bs, h4]
      rw [if_pos (nI_le (Nat.le_refl _) (by omega))]
      unfold f_X5_most_60
      refine lup0 (fun ag60 (s : Int32 × Int32) => f_X5_most_60b ag 13 (nI (G - k)) (nI y) (nI S) (129, I, Rof p kn, L) ag60 s.1 s.2) (fun j => (nI (lS left S D + cG N D S (G - k) j), nI (G - k + j))) k (FU_big (by omega)) _ (fun ag60 => ?_) (fun j hj ag60 => ?_)
      · show f_X5_most_60b ag 13 (nI (G - k)) (nI y) (nI S) _ ag60 (nI (fS N G D k left S)) (nI (G - k + k)) = _
        have hcb := cG_le (N := N) (D := D) (S := S) (fr := G - k) k
        have hfb : fS N G D k left S < 100 := by unfold fS; omega
        unfold f_X5_most_60b
        simp only [f_gI, bs, h3]
        rw [if_pos (nI_le (by omega) (by omega)), nI_1]
        by_cases z : fS N G D k left S < y
        · rw [if_pos z, if_pos (nI_lt z (by omega))]
        · rw [if_neg z, if_neg (nI_nlt (by omega) (by omega))]
      · show f_X5_most_60b ag 13 (nI (G - k)) (nI y) (nI S) _ ag60 (nI (lS left S D + cG N D S (G - k) j)) (nI (G - k + j)) = ag60 (nI (lS left S D + (cG N D S (G - k) j + b2n (nsb (N (G - k + j)) S D))), nI (G - k + (j + 1)))
        unfold f_X5_most_60b
        simp only [f_gI, bs, h3]
        rw [if_neg (nI_ge (by omega) (by omega))]
        have hns := beq_iff_eq.mp (rall (rall (rall ns1 (show D < 7 by omega)) (hN (G - k + j) (by omega))) hS)
        have ea : nI (lS left S D + cG N D S (G - k) j) + (0 : Int32) = nI (lS left S D + cG N D S (G - k) j) := nI_add _ 0
        simp only [f_r1, bs, a15 (show G - k + j < 6 by omega), h15 _ (show G - k + j < G by omega), nI_1, ea]
        cases z : nsb (N (G - k + j)) S D
        · rw [z] at hns
          rw [if_pos (of_decide_eq_true hns)]; rfl
        · rw [z] at hns
          rw [if_neg (of_decide_eq_false hns)]; rfl
    · show f_X5_most_23b ag 13 (nI (G - k)) (nI y) (nI S) _ ag23 (nI (lS left S d)) (nI d) = ag23 (nI (lS left S d + (if S.testBit d then left d else 0)), nI (d + 1))
      unfold f_X5_most_23b
      simp only [f_gI, bs, h4]
      rw [if_neg (nI_ge hd (by omega))]
      simp only [f_r2, bs, a16 (show d < 6 by omega), h16 d hd, bitV (show S < 64 by omega) (show d < 6 by omega), pk_mul, nI_add, nI_1, tb_eq]
      cases S.testBit d <;> simp [b2n]
theorem firstFor_c (hI : FeI I N left G D) (hG : G ≤ 6) (hD : D ≤ 6) (hN : ∀ g, g < G → N g < 2 ^ D) (hl : ∀ d, d < D → left d ≤ 9) (hk : k + 1 ≤ G) : f_X5_firstFor 13 (nI (G - 1 - k)) (nI (mx N G D (k + 1) left)) (129, I, Rof p kn, L) = some (qI (qF N G D k left), (129, (if qF N G D k left < 6 then up2 I 16 (qF N G D k left) (nI (left (qF N G D k left) - 1)) else I), Rof p kn, L)) := by
  obtain ⟨h3, h4, h15, h16⟩ := id hI
  have h64 : 2 ^ D ≤ 64 := p64 hD
  have hg : G - 1 - k < G := by omega
  have hm1 := mx_G (N := N) (G := G) (D := D) (k := k + 1) (left := left)
  unfold f_X5_firstFor f_X5_firstFor_2 qF
  refine lupX (fun ag (s : Int32 × Mem) => f_X5_firstFor_2b 13 (nI (G - 1 - k)) (nI (mx N G D (k + 1) left)) ag s.1 s.2) (fun j => (nI j, (129, I, Rof p kn, L))) D _ (fun j => fst6 (cdB N G D k left) j = 6) (fun hI ag => ?_) (fun d hd hI6 ag => ?_) FU 0 (Nat.zero_le _) (by have := FU_big (e := D) (by omega); omega) rfl
  · show f_X5_firstFor_2b 13 _ _ ag (nI D) (129, I, Rof p kn, L) = _
    unfold f_X5_firstFor_2b
    simp only [f_gI, bs, h4]
    rw [if_pos (nI_le (Nat.le_refl _) (by omega)), hI]; rfl
  · have hnext : cdB N G D k left d = false → fst6 (cdB N G D k left) (d + 1) = 6 := fun h => by
      simp only [fst6, hI6, h]; rfl
    have hfound : cdB N G D k left d = true → fst6 (cdB N G D k left) D = d := fun h => by
      have e1 : fst6 (cdB N G D k left) (d + 1) = d := by simp only [fst6, hI6, h]; rfl
      have : ∀ j, d + 1 ≤ j → fst6 (cdB N G D k left) j = d := by
        intro j
        induction j with
        | zero => intro hj; omega
        | succ j ih =>
          intro hj
          by_cases z : d = j
          · subst z; exact e1
          · simp only [fst6, ih (by omega)]; rw [if_pos (by omega)]
      exact this D (by omega)
    show f_X5_firstFor_2b 13 (nI (G - 1 - k)) (nI (mx N G D (k + 1) left)) ag (nI d) (129, I, Rof p kn, L) = _ ∨ (_ ∧ f_X5_firstFor_2b 13 (nI (G - 1 - k)) (nI (mx N G D (k + 1) left)) ag (nI d) (129, I, Rof p kn, L) = ag (nI (d + 1), (129, I, Rof p kn, L)))
    have hld := hl d hd
    have hcd : cdB N G D k left d = ((N (G - 1 - k)).testBit d && decide (0 < left d) && (1 + mx N G D k (tk left d) == mx N G D (k + 1) left)) := rfl
    unfold f_X5_firstFor_2b
    simp only [f_gI, bs, h4]
    rw [if_neg (nI_ge hd (by omega))]
    simp only [f_r1, bs, a15 (show G - 1 - k < 6 by omega), h15 _ hg, bitV (show N (G - 1 - k) < 64 by have := hN _ hg; omega) (show d < 6 by omega), tb_eq, nI_1]
    cases z : (N (G - 1 - k)).testBit d
    · right
      rw [z] at hcd
      rw [if_neg (show ¬ nI (b2n false) = (1 : Int32) by decide)]
      exact ⟨hnext (by rw [hcd]; rfl), rfl⟩
    · rw [if_pos (show nI (b2n true) = (1 : Int32) by decide)]
      simp only [f_r2, bs, a16 (show d < 6 by omega), h16 d hd]
      by_cases y : left d = 0
      · right
        rw [y, if_pos (by decide)]
        exact ⟨hnext (by rw [hcd, decide_eq_false (by omega)]; simp), rfl⟩
      · rw [if_neg (nI_nle (by omega) (by omega))]
        obtain ⟨q, hq⟩ : ∃ q, left d = q + 1 := ⟨left d - 1, by omega⟩
        have hq' : left d - 1 = q := by omega
        have hI2 : FeI (up2 I 16 d (nI q)) N (tk left d) G D := by
          refine ⟨by rw [up2_e, if_neg (by omega)]; exact h3, by rw [up2_e, if_neg (by omega)]; exact h4, fun g hg => by rw [up2_e, if_neg (by omega)]; exact h15 g hg, fun i hi => ?_⟩
          unfold tk; rw [hq']; exact up_upd0 (h16 i hi)
        have hmo := most_c (p := p) (kn := kn) (L := L) (k := k) hI2 hG hD hN (fun i hi => Nat.le_trans (tk_le _ _ _) (hl i hi)) (by omega)
        rw [show G - k = G - 1 - k + 1 by omega] at hmo
        have hm2 := mx_G (N := N) (G := G) (D := D) (k := k) (left := tk left d)
        have e1 : (1 : Int32) + nI (mx N G D k (tk left d)) = nI (1 + mx N G D k (tk left d)) := nI_add 1 _
        have hbk : up2 (up2 I 16 d (nI q)) 16 d (nI (q + 1)) = I := by
          have := up2_back (I := I) (k := 16) (j := d) (v := nI q)
          rw [h16 d hd, hq] at this; exact this
        rw [hq]
        simp only [nI_pred, s16 (show d < 6 by omega), bs, f_cv, hmo, e1, f_r2, a16 (show d < 6 by omega), us, nI_1, hbk]
        by_cases x : 1 + mx N G D k (tk left d) = mx N G D (k + 1) left
        · left
          have hT := hfound (by rw [hcd, z, decide_eq_true (show 0 < left d by omega), x]; simp)
          rw [if_pos (by rw [x]), hT, if_pos (by omega), hq']
          unfold qI; rw [if_neg (by omega)]
        · right
          rw [if_neg (fun e => x ((nI_eq (by omega) (by omega)).mp e))]
          exact ⟨hnext (by rw [hcd, z]; simp; intro _; exact x), rfl⟩
theorem share71_c {po : Nat → Nat} {x3 : Int32} (hI : FeI I N po G D) (hG : G ≤ 6) (hD : D ≤ 6) (hN : ∀ g, g < G → N g < 2 ^ D) (hl : ∀ d, d < D → po d ≤ 9) : ∃ I1, f_X5_share_71 13 x3 (nI (mx N G D G po)) 0 (129, I, Rof p kn, L) = some (x3, (129, I1, Rof p kn, L)) ∧ (∀ a b, a < 13 ∨ 16 < a → I1 a b = I a b) ∧ ∀ g, g < G → I1 14 g = qI (qF N G D (G - 1 - g) (lf N G D po g)) := by
  unfold f_X5_share_71
  refine lupR0 (fun ag (s : Int32 × Int32 × Mem) => f_X5_share_71b 13 x3 ag s.1 s.2.1 s.2.2) (fun g s => ∃ I1, s = (nI (mx N G D (G - g) (lf N G D po g)), nI g, (129, I1, Rof p kn, L)) ∧ FeI I1 N (lf N G D po g) G D ∧ (∀ a b, a < 13 ∨ 16 < a → I1 a b = I a b) ∧ ∀ i, i < g → I1 14 i = qI (qF N G D (G - 1 - i) (lf N G D po i))) G (FU_big (by omega)) (fun r => ∃ I1, r = some (x3, (129, I1, Rof p kn, L)) ∧ (∀ a b, a < 13 ∨ 16 < a → I1 a b = I a b) ∧ ∀ g, g < G → I1 14 g = qI (qF N G D (G - 1 - g) (lf N G D po g))) _ ⟨I, rfl, hI, fun _ _ _ => rfl, fun i hi => absurd hi (Nat.not_lt_zero _)⟩ ?_ ?_
  · rintro s ⟨I1, rfl, hI1, hF, hv⟩ ag
    refine ⟨I1, ?_, hF, hv⟩
    show f_X5_share_71b 13 x3 ag _ (nI G) (129, I1, Rof p kn, L) = _
    unfold f_X5_share_71b
    simp only [f_gI, bs, hI1.1]
    rw [if_pos (nI_le (Nat.le_refl _) (by omega))]
  · rintro g s hg ⟨I1, rfl, hI1, hF, hv⟩ ag
    have hll : ∀ d, d < D → lf N G D po g d ≤ 9 := fun d hd => Nat.le_trans (lf_le g d) (hl d hd)
    have hk : (G - 1 - g) + 1 ≤ G := by omega
    have hff := firstFor_c (p := p) (kn := kn) (L := L) hI1 hG hD hN hll hk
    rw [show G - 1 - (G - 1 - g) = g by omega, show G - 1 - g + 1 = G - g by omega] at hff
    have hqk := qF_ok (N := N) (G := G) (D := D) (left := lf N G D po g) hk hD
    rw [show G - 1 - g + 1 = G - g by omega] at hqk
    have hlf : lf N G D po (g + 1) = nx (lf N G D po g) (qF N G D (G - 1 - g) (lf N G D po g)) := rfl
    show ∃ s', _ ∧ f_X5_share_71b 13 x3 ag (nI (mx N G D (G - g) (lf N G D po g))) (nI g) (129, I1, Rof p kn, L) = ag s'
    rw [show G - (g + 1) = G - 1 - g by omega, hlf]
    generalize hQ : qF N G D (G - 1 - g) (lf N G D po g) = q at *
    generalize hI2 : (if q < 6 then up2 I1 16 q (nI (lf N G D po g q - 1)) else I1) = I2 at *
    have F2 : ∀ a b, a ≠ 16 → I2 a b = I1 a b := fun a b h => by
      rw [← hI2]; split
      · rw [up2_e, if_neg (by omega)]
      · rfl
    have L2 : ∀ d, d < D → I2 16 d = nI (nx (lf N G D po g) q d) := fun d hd => by
      rw [← hI2]; unfold nx; split
      · unfold tk; exact up_upd0 (hI1.2.2.2 d hd)
      · exact hI1.2.2.2 d hd
    refine ⟨_, ⟨up2 I2 14 g (qI q), rfl, ⟨?_, ?_, fun i hi => ?_, fun d hd => ?_⟩, fun a b hab => ?_, fun i hi => ?_⟩, ?_⟩
    · rw [up2_e, if_neg (by omega), F2 _ _ (by omega)]; exact hI1.1
    · rw [up2_e, if_neg (by omega), F2 _ _ (by omega)]; exact hI1.2.1
    · rw [up2_e, if_neg (by omega), F2 _ _ (by omega)]; exact hI1.2.2.1 i hi
    · rw [up2_e, if_neg (by omega)]; exact L2 d hd
    · rw [up2_e, if_neg (by omega), F2 _ _ (by omega)]; exact hF a b hab
    · by_cases z : i = g
      · subst z; rw [hQ]; exact us
      · rw [up2_e, if_neg (by omega), F2 _ _ (by omega)]; exact hv i (by omega)
    · unfold f_X5_share_71b
      simp only [f_gI, bs, hI1.1]
      rw [if_neg (nI_ge hg (by omega))]
      simp only [f_r0, bs, f_cv, hff, s14 (show g < 6 by omega), a14 (show g < 6 by omega), us, nI_1]
      rcases hqk with ⟨h1, h2⟩ | ⟨h1, h2, h3, h4⟩
      · have e : nx (lf N G D po g) q = lf N G D po g := by unfold nx; rw [if_neg (by omega)]
        rw [if_pos (by unfold qI; rw [if_pos h1]), h2, e]
      · have e : nx (lf N G D po g) q = tk (lf N G D po g) q := by unfold nx; rw [if_pos (by omega)]
        rw [if_neg (by unfold qI; rw [if_neg (by omega)]; exact n9 (by omega)), h4, e, Nat.add_comm 1, pk_m1]
theorem share_c {P : PtyS} {w : NowS} (hp : isP p) (hp3 : p = 3 ∨ p = 19) (hP : PtyC I p P) (hw : NowC I 29 P.2.1 P.2.2.1 w) (okP : PtyOk P) (ok : NowOk P.1 P.2.1 P.2.2.1 w) : ∃ I1, f_X5_share 13 p 29 (129, I, Rof p kn, L) = some (nI (mx (ndG P w) P.2.1 P.2.2.1 P.2.1 w.2.1), (129, I1, Rof p kn, L)) ∧ (∀ a b, a < 13 ∨ 16 < a → I1 a b = I a b) ∧ ∀ g, g < P.2.1 → I1 14 g = qI (qF (ndG P w) P.2.1 P.2.2.1 (P.2.1 - 1 - g) (lf (ndG P w) P.2.1 P.2.2.1 w.2.1 g)) := by
  obtain ⟨⟨hn3, hn9, hG, hD⟩, -, -⟩ := id okP
  have hN : ∀ g, g < P.2.1 → ndG P w g < 2 ^ P.2.2.1 := fun g hg => ndG_lt okP ok hg
  have hl : ∀ d, d < P.2.2.1 → w.2.1 d ≤ 9 := fun d hd => (ok.2.1 d hd).1
  unfold f_X5_share
  have g1 : I p 1 = nI P.2.1 := hP.1.2.1
  have g2 : up2 I 13 3 (nI P.2.1) p 2 = nI P.2.2.1 := by rw [up2_e, if_neg (by omega)]; exact hP.1.2.2
  simp only [p_gI hp, bs, g1, f_pI, g2, r291, f_r2, cp_n (show 30 < 129 by decide) rfl (show 16 < 129 by decide) rfl]
  generalize hI0 : upR (up2 (up2 I 13 3 (nI P.2.1)) 13 4 (nI P.2.2.1)) 16 (va_cpy (up2 (up2 I 13 3 (nI P.2.1)) 13 4 (nI P.2.2.1) 30) (up2 (up2 I 13 3 (nI P.2.1)) 13 4 (nI P.2.2.1) 16) 0 0 6) = I0
  have F0 : ∀ a b, a < 13 ∨ 16 < a → I0 a b = I a b := fun a b h => by rw [← hI0, upR_e, if_neg (by omega), up2_e, if_neg (by omega), up2_e, if_neg (by omega)]
  have q3 : I0 13 3 = nI P.2.1 := by rw [← hI0, upR_e, if_neg (by omega), up2_e, if_neg (by omega)]; exact us
  have q4 : I0 13 4 = nI P.2.2.1 := by rw [← hI0, upR_e, if_neg (by omega)]; exact us
  have q16 : ∀ d, d < P.2.2.1 → I0 16 d = nI (w.2.1 d) := fun d hd => by
    rw [← hI0, upR_e, if_pos rfl, pk_cpy_in (by omega) (by omega)]
    rw [show 0 + (d - 0) = d by omega, up2_e, if_neg (by omega), up2_e, if_neg (by omega)]
    exact (hw.2.1 d hd).1
  unfold f_X5_share_33
  refine lupR0 (fun ag (s : Int32 × Mem) => f_X5_share_33b 13 p 29 ag s.1 s.2) (fun g s => ∃ I1, s = (nI g, (129, I1, Rof p kn, L)) ∧ (∀ a b, a ≠ 15 → I1 a b = I0 a b) ∧ ∀ i, i < g → I1 15 i = nI (ndG P w i)) P.2.1 (FU_big (by omega)) (fun r => ∃ I1, r = some (nI (mx (ndG P w) P.2.1 P.2.2.1 P.2.1 w.2.1), (129, I1, Rof p kn, L)) ∧ (∀ a b, a < 13 ∨ 16 < a → I1 a b = I a b) ∧ ∀ g, g < P.2.1 → I1 14 g = qI (qF (ndG P w) P.2.1 P.2.2.1 (P.2.1 - 1 - g) (lf (ndG P w) P.2.1 P.2.2.1 w.2.1 g))) _ ⟨I0, rfl, fun _ _ _ => rfl, fun i hi => absurd hi (Nat.not_lt_zero _)⟩ ?_ ?_
  · rintro s ⟨I1, rfl, hF, hv⟩ ag
    have hFe : FeI I1 (ndG P w) w.2.1 P.2.1 P.2.2.1 := ⟨by rw [hF _ _ (by omega)]; exact q3, by rw [hF _ _ (by omega)]; exact q4, hv, fun d hd => by rw [hF _ _ (by omega)]; exact q16 d hd⟩
    obtain ⟨I2, e2, F2, v2⟩ := share71_c (p := p) (kn := kn) (L := L) (x3 := nI (mx (ndG P w) P.2.1 P.2.2.1 P.2.1 w.2.1)) hFe hG hD hN hl
    refine ⟨I2, ?_, fun a b hab => ?_, v2⟩
    · show f_X5_share_33b 13 p 29 ag (nI P.2.1) (129, I1, Rof p kn, L) = _
      have hm := most_c (p := p) (kn := kn) (L := L) (k := P.2.1) hFe hG hD hN hl (Nat.le_refl _)
      rw [Nat.sub_self] at hm
      have hm' : f_X5_most 13 (0 : Int32) (129, I1, Rof p kn, L) = _ := hm
      unfold f_X5_share_33b
      simp only [f_gI, bs, hFe.1]
      rw [if_pos (nI_le (Nat.le_refl _) (by omega))]
      simp only [f_cv, hm', bs]
      exact e2
    · rw [F2 a b hab, hF a b (by omega)]; exact F0 a b hab
  · rintro g s hg ⟨I1, rfl, hF, hv⟩ ag
    have hP1 : PtyC I1 p P := PtyC_fr (fun i b hi => by rw [hF _ _ (by omega)]; exact F0 _ _ (by omega)) hP
    have hw1 : NowC I1 29 P.2.1 P.2.2.1 w := NowC_fr (fun i b hi => by rw [hF _ _ (by omega)]; exact F0 _ _ (by omega)) hw
    refine ⟨_, ⟨up2 I1 15 g (nI (ndG P w g)), rfl, fun a b h => by rw [up2_e, if_neg (by omega)]; exact hF a b h, fun i hi => ?_⟩, ?_⟩
    · by_cases z : i = g
      · subst z; exact us
      · rw [up2_e, if_neg (by omega)]; exact hv i (by omega)
    · show f_X5_share_33b 13 p 29 ag (nI g) (129, I1, Rof p kn, L) = _
      have e3 : I1 13 3 = nI P.2.1 := by rw [hF _ _ (by omega)]; exact q3
      unfold f_X5_share_33b
      simp only [f_gI, bs, e3]
      rw [if_neg (nI_ge hg (by omega))]
      simp only [f_r1, bs, p_cv hp, needs_c (p := p) (kn := kn) (L := L) hp isN_29 hP1 hw1 okP ok hg, s15 (show g < 6 by omega), nI_1]
end S22
