/-! ===== the odds ===== -/
section S26
variable {p : Nat} {kn : Nat → Nat} {I : Nat → Nat → Int32} {R : Nat → Nat → Option Nat} {L : Nat → Nat → Int64}
theorem power_m {b k : Nat} {M : Mem} (hk : k ≤ 6) : f_X12_power (nI b) (nI k) M = some (nI (b ^ k)) := by
  unfold f_X12_power f_X12_power_4
  refine lup0 _ (fun j => (nI (b ^ j), nI j)) k (FU_big (by omega)) _ (fun ag => ?_) (fun j hj ag => ?_)
  · show f_X12_power_4b (nI b) (nI k) M ag _ (nI k) = _
    unfold f_X12_power_4b
    rw [if_pos (nI_le (Nat.le_refl _) (by omega))]
  · show f_X12_power_4b (nI b) (nI k) M ag (nI (b ^ j)) (nI j) = ag (nI (b ^ (j + 1)), nI (j + 1))
    unfold f_X12_power_4b
    rw [if_neg (nI_ge hj (by omega)), nI_1, Nat.pow_succ, ← pk_mul]
theorem gcdb {M : Mem} {ag : Int32 × Int32 → Option Int32} {x y : Int32} : f_X12_gcd_4b M ag x y = if y = 0 then some x else Option.bind (rmI x y) fun v1 => ag (y, v1) := rfl
theorem gcd_l {M : Mem} : ∀ k n u v, v < 2 ^ k → v < 2 ^ 31 → u < 2 ^ 31 → 2 * k + 1 ≤ n → loopF (fun ag (s : Int32 × Int32) => f_X12_gcd_4b M ag s.1 s.2) n (nI u, nI v) = some (nI (Nat.gcd u v)) := by
  intro k
  induction k with
  | zero =>
    intro n u v hv _ _ hn
    obtain ⟨n', rfl⟩ : ∃ n', n = n' + 1 := ⟨n - 1, by omega⟩
    have hv0 : v = 0 := by rw [Nat.pow_zero] at hv; omega
    subst hv0
    show f_X12_gcd_4b M _ (nI u) (nI 0) = _
    rw [gcdb, if_pos (by decide), Nat.gcd_zero_right]
  | succ k ih =>
    intro n u v hv hv3 hu hn
    obtain ⟨n', rfl⟩ : ∃ n', n = n' + 2 := ⟨n - 2, by omega⟩
    show f_X12_gcd_4b M (loopF (fun ag (s : Int32 × Int32) => f_X12_gcd_4b M ag s.1 s.2) (n' + 1)) (nI u) (nI v) = _
    rw [gcdb]
    by_cases z : v = 0
    · subst z; rw [if_pos (by decide), Nat.gcd_zero_right]
    · rw [if_neg (nI_ne0 (by omega) (by omega)), rm_nat hu (by omega) hv3, bs]
      have hr : u % v < v := Nat.mod_lt _ (by omega)
      have hg1 : Nat.gcd u v = Nat.gcd v (u % v) := by rw [Nat.gcd_comm, Nat.gcd_rec, Nat.gcd_comm]
      show f_X12_gcd_4b M (loopF (fun ag (s : Int32 × Int32) => f_X12_gcd_4b M ag s.1 s.2) n') (nI v) (nI (u % v)) = _
      rw [gcdb]
      by_cases y : u % v = 0
      · rw [y, if_pos (by decide), hg1, y, Nat.gcd_zero_right]
      · rw [if_neg (nI_ne0 (by omega) (by omega)), rm_nat hv3 (by omega) (by omega), bs]
        have hr2 : v % (u % v) < u % v := Nat.mod_lt _ (by omega)
        have hhalf : v % (u % v) < 2 ^ k := by
          have h1 := Nat.div_add_mod v (u % v)
          have h2 : 1 ≤ v / (u % v) := (Nat.one_le_div_iff (by omega)).mpr (by omega)
          have h3 := Nat.mul_le_mul_left (u % v) h2
          rw [Nat.pow_succ] at hv
          omega
        rw [ih n' (u % v) (v % (u % v)) hhalf (by omega) (by omega) (by omega), hg1]
        congr 2
        rw [Nat.gcd_comm v, Nat.gcd_rec (u % v) v, Nat.gcd_comm]
theorem gcd_m {u v : Nat} {M : Mem} (hu : u < 2 ^ 31) (hv : v < 2 ^ 31) : f_X12_gcd (nI u) (nI v) M = some (nI (Nat.gcd u v)) := by
  unfold f_X12_gcd f_X12_gcd_4
  exact gcd_l 31 FU u v hv hv hu (by unfold FU; decide)
theorem fill_r {r : Nat} (hr : r < 129) (hl : lay r = (20, 9)) : f_J7_fill_53178 r (0 : Int32) (129, I, R, L) = some (129, ffI I r (fun _ => 0), R, L) := by
  unfold f_J7_fill_53178 aL
  rw [hl, if_pos ⟨by show r < 129; omega, rfl⟩, bs]
  have hz : zrF I r 9 = ffI I r (fun _ => 0) := rfl
  unfold f_J7_fill_53178_5
  have z := lup0 (fun ag (s : Int32 × Mem) => f_J7_fill_53178_5b r (0 : Int32) (Int32.ofNat 9) ag s.1 s.2) (fun j => (nI j, (129, zrF I r j, R, L))) 9 (FU_big (by decide)) (some (129, ffI I r (fun _ => 0), R, L)) (fun ag => ?_) (fun j hj ag => ?_)
  · rw [zrF_0] at z; exact z
  · show f_J7_fill_53178_5b r (0 : Int32) (Int32.ofNat 9) ag (nI 9) (129, zrF I r 9, R, L) = _
    unfold f_J7_fill_53178_5b
    rw [if_pos (by decide), hz]
  · show f_J7_fill_53178_5b r (0 : Int32) (Int32.ofNat 9) ag (nI j) (129, zrF I r j, R, L) = ag (nI (j + 1), (129, zrF I r (j + 1), R, L))
    unfold f_J7_fill_53178_5b
    rw [if_neg (show ¬ Int32.ofNat 9 ≤ nI j from nI_ge (b := 9) hj (by decide))]
    simp only [sI_n hr hl hj (show 9 ≤ 1000 by decide), bs, zrF_s, nI_1]
theorem a45 {j : Nat} (h : j < 9) : aI 20 (129, I, R, L) 45 (nI j) = some (I 45 j) := aI_n (k := 45) (n := 9) (by decide) rfl h (by decide)
theorem s45 {j : Nat} {v : Int32} (h : j < 9) : sI (129, I, R, L) 45 (nI j) v = some (129, up2 I 45 j v, R, L) := sI_n (k := 45) (n := 9) (by decide) rfl h (by decide)
theorem spr61 {n x g : Nat} {F : Nat → Nat} {x2 x4 x5 : Int32} {ag36 : Int32 × Int32 × Mem → Option (Int32 × Mem)} (hn3 : 3 ≤ n) (hn9 : n ≤ 9) (hx : x ≤ 10) (h2 : x2 = nI (10 ^ g)) (h4 : x4 = nI g) (h5 : x5 = nI (F (n - 1) * x)) : f_X11_spreadChances_61 ag36 0 (nI x) x2 (nI (n - 1)) x4 x5 (nI (n - 1)) (129, ffI I 45 F, Rof p kn, L) = ag36 (nI (10 ^ (g + 1)), nI (g + 1), (129, ffI I 45 (nxF n x F), Rof p kn, L)) := by
  subst h2 h4 h5
  have e10 : (10 : Int32) - nI x = nI (10 - x) := pk_sub (a := 10) hx
  unfold f_X11_spreadChances_61
  have z := lup0 (fun ag61 (s : Int32 × Mem) => f_X11_spreadChances_61b ag36 0 (nI x) (nI (10 ^ g)) (nI (n - 1)) (nI g) (nI (F (n - 1) * x)) ag61 s.1 s.2) (fun j => (nI (n - 1 - j), (129, ffI I 45 (inF n x F j), Rof p kn, L))) (n - 1) (FU_big (by omega)) (ag36 (nI (10 ^ (g + 1)), nI (g + 1), (129, ffI I 45 (nxF n x F), Rof p kn, L))) (fun ag61 => ?_) (fun j hj ag61 => ?_)
  · exact z
  · show f_X11_spreadChances_61b ag36 0 (nI x) (nI (10 ^ g)) (nI (n - 1)) (nI g) (nI (F (n - 1) * x)) ag61 (nI (n - 1 - (n - 1))) (129, ffI I 45 (inF n x F (n - 1)), Rof p kn, L) = _
    have r0 : aI 20 (129, ffI I 45 (inF n x F (n - 1)), Rof p kn, L) 45 (0 : Int32) = some (nI (F 0)) := by
      rw [show aI 20 (129, ffI I 45 (inF n x F (n - 1)), Rof p kn, L) 45 (0 : Int32) = _ from a45 (j := 0) (by decide), ff_rd (by decide), inF_lo _ _ (by omega)]
    have s0 : ∀ v, sI (129, ffI I 45 (inF n x F (n - 1)), Rof p kn, L) 45 (0 : Int32) (nI v) = some (129, ffI I 45 (udn (inF n x F (n - 1)) 0 v), Rof p kn, L) := fun v => by
      rw [show sI (129, ffI I 45 (inF n x F (n - 1)), Rof p kn, L) 45 (0 : Int32) (nI v) = _ from s45 (j := 0) (by decide), ff_up (by decide)]
    have em : nI (10 ^ g) * (10 : Int32) = nI (10 ^ (g + 1)) := by rw [Nat.pow_succ, ← pk_mul]; rfl
    unfold f_X11_spreadChances_61b
    rw [Nat.sub_self, if_pos (by decide)]
    simp only [c_r15, bs, r0, e10, pk_mul, nI_add, s0, em, nI_1]
    rfl
  · obtain ⟨q, hq⟩ : ∃ q, n - 1 - j = q + 1 := ⟨n - 2 - j, by omega⟩
    have hq2 : n - 2 - j = q := by omega
    have hq3 : n - 1 - (j + 1) = q := by omega
    show f_X11_spreadChances_61b ag36 0 (nI x) (nI (10 ^ g)) (nI (n - 1)) (nI g) (nI (F (n - 1) * x)) ag61 (nI (n - 1 - j)) (129, ffI I 45 (inF n x F j), Rof p kn, L) = ag61 (nI (n - 1 - (j + 1)), (129, ffI I 45 (udn (inF n x F j) (n - 1 - j) (F (n - 1 - j) * (10 - x) + F (n - 2 - j) * x)), Rof p kn, L))
    rw [hq, hq2, hq3]
    have r1 : ffI I 45 (inF n x F j) 45 (q + 1) = nI (F (q + 1)) := by rw [ff_rd (by omega), inF_lo _ _ (by omega)]
    have r2 : ffI I 45 (inF n x F j) 45 q = nI (F q) := by rw [ff_rd (by omega), inF_lo _ _ (by omega)]
    unfold f_X11_spreadChances_61b
    rw [if_neg (nI_nle (by omega) (by omega))]
    simp only [c_r15, bs, a45 (show q + 1 < 9 by omega), nI_pred, a45 (show q < 9 by omega), r1, r2, e10, pk_mul, nI_add, s45 (show q + 1 < 9 by omega), ff_up (show q + 1 < 9 by omega), pk_m1]
theorem spread_c {P : PtyS} {w : NowS} {x : Nat} (hp : isP p) (hp3 : p = 3 ∨ p = 19) (hP : PtyC I p P) (hw : NowC I 29 P.2.1 P.2.2.1 w) (okP : PtyOk P) (ok : NowOk P.1 P.2.1 P.2.2.1 w) (hx : x ≤ 10) : f_X11_spreadChances 0 (nI x) (129, I, Rof p kn, L) = some (nI (10 ^ P.2.1), (129, ffI I 45 (chF P.1 w.1 x P.2.1), Rof p kn, L)) := by
  obtain ⟨⟨hn3, hn9, hG, hD⟩, -, -⟩ := id okP
  have bt := ok.1
  have t0 : ffI I 45 (fun _ => 0) 29 0 = nI w.1 := by rw [ff_o (by decide)]; exact hw.1
  have q0 : ∀ F, ffI I 45 F p 0 = nI P.1 := fun F => by rw [ff_o (by omega)]; exact hP.1.1
  have q1 : ∀ F, ffI I 45 F p 1 = nI P.2.1 := fun F => by rw [ff_o (by omega)]; exact hP.1.2.1
  have hst : sI (129, ffI I 45 (fun _ => 0), Rof p kn, L) 45 (nI w.1) (1 : Int32) = some (129, ffI I 45 (chF P.1 w.1 x 0), Rof p kn, L) := by
    rw [s45 (by omega), show (1 : Int32) = nI 1 from rfl, ff_up (by omega)]; rfl
  have hl : nI P.1 - (1 : Int32) = nI (P.1 - 1) := by
    obtain ⟨q, hq⟩ : ∃ q, P.1 = q + 1 := ⟨P.1 - 1, by omega⟩
    rw [hq, nI_pred]; rfl
  unfold f_X11_spreadChances
  simp only [c_r15, bs, fill_r (show 45 < 129 by decide) rfl, c_r5, n_gI isN_29, t0, hst, c_r4, p_gI hp, q0, hl]
  unfold f_X11_spreadChances_36
  refine lup0 (fun ag (s : Int32 × Int32 × Mem) => f_X11_spreadChances_36b 0 (nI x) (nI (P.1 - 1)) ag s.1 s.2.1 s.2.2) (fun g => (nI (10 ^ g), nI g, (129, ffI I 45 (chF P.1 w.1 x g), Rof p kn, L))) P.2.1 (FU_big (by omega)) _ (fun ag => ?_) (fun g hg ag => ?_)
  · show f_X11_spreadChances_36b 0 (nI x) (nI (P.1 - 1)) ag _ (nI P.2.1) (129, ffI I 45 (chF P.1 w.1 x P.2.1), Rof p kn, L) = _
    unfold f_X11_spreadChances_36b
    simp only [c_r4, bs, p_gI hp, q1]
    rw [if_pos (nI_le (Nat.le_refl _) (by omega))]
  · show f_X11_spreadChances_36b 0 (nI x) (nI (P.1 - 1)) ag (nI (10 ^ g)) (nI g) (129, ffI I 45 (chF P.1 w.1 x g), Rof p kn, L) = ag (nI (10 ^ (g + 1)), nI (g + 1), (129, ffI I 45 (nxF P.1 x (chF P.1 w.1 x g)), Rof p kn, L))
    unfold f_X11_spreadChances_36b
    simp only [c_r4, bs, p_gI hp, q1]
    rw [if_neg (nI_ge hg (by omega))]
    simp only [c_r15, bs, a45 (show P.1 - 1 < 9 by omega), ff_rd (show P.1 - 1 < 9 by omega), pk_mul]
    exact spr61 hn3 hn9 hx rfl rfl rfl
theorem rdS_le (s : Nat × Nat) : ∀ j, (rdS s j).1 ≤ s.1 ∧ (rdS s j).2 ≤ s.2 := by
  have h1 : ∀ q s, (rd1 q s).1 ≤ s.1 ∧ (rd1 q s).2 ≤ s.2 := fun q s => by
    unfold rd1; split
    · exact ⟨Nat.div_le_self _ _, Nat.div_le_self _ _⟩
    · exact ⟨Nat.le_refl _, Nat.le_refl _⟩
  intro j
  induction j with
  | zero => exact ⟨Nat.le_refl _, Nat.le_refl _⟩
  | succ j ih =>
    have a := h1 2 (rdS s j)
    have b := h1 5 (rd1 2 (rdS s j))
    show (rd1 5 (rd1 2 (rdS s j))).1 ≤ _ ∧ (rd1 5 (rd1 2 (rdS s j))).2 ≤ _
    omega
theorem odds45_c {G al up : Nat} {b : Nat} (hp : isP p) (hG : G ≤ 6) (h1 : I p 1 = nI G) (hal : al < 2 ^ 30) (hup : up < 2 ^ 30) (hb : b < 2) : f_X11_odds_45 0 (nI b) (129, I, Rof p kn, L) (nI al) (nI up) 0 = some ((if b = 0 then nI (rdS (al, up) G).2 else nI (rdS (al, up) G).1), (129, I, Rof p kn, L)) := by
  unfold f_X11_odds_45
  refine lup0 (fun ag (s : Int32 × Int32 × Int32) => f_X11_odds_45b 0 (nI b) (129, I, Rof p kn, L) ag s.1 s.2.1 s.2.2) (fun g => (nI (rdS (al, up) g).1, nI (rdS (al, up) g).2, nI g)) G (FU_big (by omega)) _ (fun ag => ?_) (fun g hg ag => ?_)
  · show f_X11_odds_45b 0 (nI b) _ ag _ _ (nI G) = _
    unfold f_X11_odds_45b
    simp only [c_r4, bs, p_gI hp, h1]
    rw [if_pos (nI_le (Nat.le_refl _) (by omega))]
    rcases (show b = 0 ∨ b = 1 by omega) with rfl | rfl
    · rw [if_pos (by decide), if_pos rfl]
    · rw [if_neg (by decide), if_neg (by decide)]
  · obtain ⟨l1, l2⟩ := rdS_le (al, up) g
    show f_X11_odds_45b 0 (nI b) _ ag (nI (rdS (al, up) g).1) (nI (rdS (al, up) g).2) (nI g) = ag (nI (rd1 5 (rd1 2 (rdS (al, up) g))).1, nI (rd1 5 (rd1 2 (rdS (al, up) g))).2, nI (g + 1))
    have l1' : (rdS (al, up) g).1 ≤ al := l1
    have l2' : (rdS (al, up) g).2 ≤ up := l2
    generalize rdS (al, up) g = s at *
    have key5 : ∀ u v : Nat, u < 2 ^ 30 → v < 2 ^ 30 → f_X11_odds_83 ag 0 (nI b) (nI u) (nI v) (nI g) (129, I, Rof p kn, L) = ag (nI (rd1 5 (u, v)).1, nI (rd1 5 (u, v)).2, nI (g + 1)) := fun u v hu hv => by
      have m1 : rmI (nI u) (5 : Int32) = some (nI (u % 5)) := rm_nat (n := 5) (by omega) (by decide) (by decide)
      have m2 : rmI (nI v) (5 : Int32) = some (nI (v % 5)) := rm_nat (n := 5) (by omega) (by decide) (by decide)
      have d1 : dvI (nI u) (5 : Int32) = some (nI (u / 5)) := dv_nat (n := 5) (by omega) (by decide) (by decide)
      have d2 : dvI (nI v) (5 : Int32) = some (nI (v / 5)) := dv_nat (n := 5) (by omega) (by decide) (by decide)
      unfold f_X11_odds_83
      simp only [m1, m2, d1, d2, bs, nI_1]
      unfold rd1
      by_cases z : u % 5 = 0
      · rw [if_pos (show nI (u % 5) = 0 by rw [z]; rfl)]
        by_cases y : v % 5 = 0
        · rw [if_pos (show nI (v % 5) = 0 by rw [y]; rfl), if_pos ⟨z, y⟩]
        · rw [if_neg (nI_ne0 (by omega) (by omega)), if_neg (fun q => y q.2)]
      · rw [if_neg (nI_ne0 (by omega) (by omega)), if_neg (fun q => z q.1)]
    have m1 : rmI (nI s.1) (2 : Int32) = some (nI (s.1 % 2)) := rm_nat (n := 2) (by omega) (by decide) (by decide)
    have m2 : rmI (nI s.2) (2 : Int32) = some (nI (s.2 % 2)) := rm_nat (n := 2) (by omega) (by decide) (by decide)
    have d1 : dvI (nI s.1) (2 : Int32) = some (nI (s.1 / 2)) := dv_nat (n := 2) (by omega) (by decide) (by decide)
    have d2 : dvI (nI s.2) (2 : Int32) = some (nI (s.2 / 2)) := dv_nat (n := 2) (by omega) (by decide) (by decide)
    unfold f_X11_odds_45b
    simp only [c_r4, bs, p_gI hp, h1]
    rw [if_neg (nI_ge hg (by omega))]
    simp only [m1, m2, d1, d2, bs]
    rw [key5 _ _ (by omega) (by omega), key5 _ _ (by omega) (by omega)]
    by_cases z : s.1 % 2 = 0
    · rw [if_pos (show nI (s.1 % 2) = 0 by rw [z]; rfl)]
      by_cases y : s.2 % 2 = 0
      · rw [if_pos (show nI (s.2 % 2) = 0 by rw [y]; rfl), show rd1 2 s = (s.1 / 2, s.2 / 2) from if_pos ⟨z, y⟩]
      · rw [if_neg (nI_ne0 (by omega) (by omega)), show rd1 2 s = s from if_neg (fun q => y q.2)]
    · rw [if_neg (nI_ne0 (by omega) (by omega)), show rd1 2 s = s from if_neg (fun q => z q.1)]
theorem odds48_m {P : PtyS} {w : NowS} {x t b : Nat} (hP : PtyM I P) (hw : NowM I 119 0 P.2.1 P.2.2.1 w) (okP : PtyOk P) (ok : NowOk P.1 P.2.1 P.2.2.1 w) (hx : x ≤ 10) (ht : t < P.1) (hb : b < 2) : f_X12_odds_48 112 (nI x) (nI t) (nI b) (nI P.2.1) (129, I, Rof p kn, L) 0 0 = some ((if b = 0 then nI (smS P.1 w.1 x P.2.1 t (2 ^ P.2.1) / Nat.gcd (smS P.1 w.1 x P.2.1 t (2 ^ P.2.1)) (10 ^ P.2.1)) else nI (10 ^ P.2.1 / Nat.gcd (smS P.1 w.1 x P.2.1 t (2 ^ P.2.1)) (10 ^ P.2.1))), (129, I, Rof p kn, L)) := by
  obtain ⟨⟨hn3, hn9, hG, hD⟩, -, -⟩ := id okP
  have h64 := p64 hG
  have t0 : I 119 0 = nI w.1 := hw.1
  have bt := ok.1
  have e10 : (10 : Int32) - nI x = nI (10 - x) := pk_sub (a := 10) hx
  unfold f_X12_odds_48
  refine lup0 (fun ag (s : Int32 × Int32) => f_X12_odds_48b 112 (nI x) (nI t) (nI b) (nI P.2.1) (129, I, Rof p kn, L) ag s.1 s.2) (fun j => (nI (smS P.1 w.1 x P.2.1 t j), nI j)) (2 ^ P.2.1) (FU_big (by omega)) _ (fun ag => ?_) (fun j hj ag => ?_)
  · show f_X12_odds_48b 112 (nI x) (nI t) (nI b) (nI P.2.1) _ ag (nI (smS P.1 w.1 x P.2.1 t (2 ^ P.2.1))) (nI (2 ^ P.2.1)) = _
    have hle := smS_le (t0 := w.1) (show 0 < P.1 by omega) hx P.2.1 hG t ht
    have hal : 10 ^ P.2.1 ≤ 1000000 := by
      calc 10 ^ P.2.1 ≤ 10 ^ 6 := Nat.pow_le_pow_right (by decide) hG
      _ = 1000000 := by decide
    have hal0 : 0 < 10 ^ P.2.1 := Nat.pow_pos (by decide)
    generalize smS P.1 w.1 x P.2.1 t (2 ^ P.2.1) = up at *
    have hg0 : 0 < Nat.gcd up (10 ^ P.2.1) := Nat.gcd_pos_of_pos_right _ hal0
    have hgl : Nat.gcd up (10 ^ P.2.1) ≤ 10 ^ P.2.1 := Nat.le_of_dvd hal0 (Nat.gcd_dvd_right _ _)
    have hpw : f_X12_power (10 : Int32) (nI P.2.1) (129, I, Rof p kn, L) = some (nI (10 ^ P.2.1)) := power_m (b := 10) hG
    generalize 10 ^ P.2.1 = al at *
    unfold f_X12_odds_48b
    rw [of_decide_eq_true (rall sh1 (show P.2.1 < 7 by omega)), if_pos (nI_le (Nat.le_refl _) (by omega))]
    simp only [hpw, bs, gcd_m (show up < 2 ^ 31 by omega) (show al < 2 ^ 31 by omega), dv_nat (show up < 2 ^ 31 by omega) hg0 (show Nat.gcd up al < 2 ^ 31 by omega), dv_nat (show al < 2 ^ 31 by omega) hg0 (show Nat.gcd up al < 2 ^ 31 by omega)]
    rcases (show b = 0 ∨ b = 1 by omega) with rfl | rfl
    · rw [if_pos (by decide), if_pos rfl]
    · rw [if_neg (by decide), if_neg (by decide)]
  · have hpc := pcG hG hj
    have hj64 : j < 64 := by omega
    have hmod : (w.1 + pc j) % P.1 < P.1 := Nat.mod_lt _ (by omega)
    show f_X12_odds_48b 112 (nI x) (nI t) (nI b) (nI P.2.1) _ ag (nI (smS P.1 w.1 x P.2.1 t j)) (nI j) = ag (nI (smS P.1 w.1 x P.2.1 t j + (if (w.1 + pc j) % P.1 = t then tmS x P.2.1 (pc j) else 0)), nI (j + 1))
    generalize smS P.1 w.1 x P.2.1 t j = sm
    have ea : nI sm + (0 : Int32) = nI sm := nI_add _ 0
    unfold f_X12_odds_48b f_X12_odds_85
    rw [of_decide_eq_true (rall sh1 (show P.2.1 < 7 by omega)), if_neg (nI_ge hj (by omega))]
    simp only [m_r14, bs, turn0, t0, ones_m hj64, m_r9, many0, hP.1.1, nI_add, rm_nat (show w.1 + pc j < 2 ^ 31 by omega) (show 0 < P.1 by omega) (show P.1 < 2 ^ 31 by omega), power_m (show pc j ≤ 6 by omega), e10, pk_sub hpc, power_m (show P.2.1 - pc j ≤ 6 by omega), pk_mul, nI_1, ea, z10, ↓reduceIte]
    by_cases z : (w.1 + pc j) % P.1 = t
    · rw [if_pos (by rw [z]), if_pos z]; rfl
    · rw [if_neg (fun q => z ((nI_eq (by omega) (by omega)).mp q)), if_neg z]; rfl
theorem in11_no {x : Int32} {M : Mem} (h : x < 0 ∨ nI 11 ≤ x) : f_X12_in x 0 10 M = some 0 := in_no (m := 11) (by decide) h
theorem in11_yes {j : Nat} {M : Mem} (h : j < 11) : f_X12_in (nI j) 0 10 M = some 1 := in_yes (m := 11) (by decide) h
theorem st_odds (M : Mem) (a1 a2 a3 : Int32) (h : Rel M) : StepI (f_X11_odds 0 a1 a2 a3 M) (fun M => f_X12_odds 112 a1 a2 a3 M) Rel := by
  obtain ⟨σ, p, kn, I, L, rfl, ok, hC, hM⟩ := h
  have hp := isP_of hC.1.1
  have hp3 := hC.1.1
  have hM' := RM_th ok hM
  obtain ⟨hn3, hn9, hG, hD⟩ := okn ok
  rcases ixn a1 11 (by decide) with hx | ⟨x, hx, rfl⟩
  · refine stepI (r := -1) (I1 := I) (R1 := Rof p kn) (L1 := L) ?_ ?_ (Rel_th ok hC hM)
    · unfold f_X11_odds
      by_cases z : a1 < 0
      · rw [if_pos z]
      · rw [if_neg z, if_pos]
        have := Int32.le_iff_toInt_le.mp (hx.resolve_left z)
        apply Int32.lt_iff_toInt_lt.mpr
        rw [nI_toInt (by decide)] at this
        rw [show (10 : Int32).toInt = 10 by decide]
        omega
    · show f_X12_odds 112 _ _ _ _ = _
      unfold f_X12_odds
      simp only [m_pI, bs, in11_no hx, ↓reduceIte]
  have x0 : ¬ nI x < 0 := nI_pos (by omega)
  have x10 : ¬ (10 : Int32) < nI x := nI_nlt (a := 10) (by omega) (by decide)
  rcases ixn a2 (sn σ) (by omega) with hx2 | ⟨t, ht, rfl⟩
  · refine stepI (r := -1) (I1 := I) (R1 := Rof p kn) (L1 := L) ?_ ?_ (Rel_th ok hC hM)
    · unfold f_X11_odds
      simp only [x0, x10, c_cv, isT_c_no hC ok hx2, bs, ↓reduceIte]
    · show f_X12_odds 112 _ _ _ _ = _
      unfold f_X12_odds
      simp only [m_pI, bs, m_cv, in11_yes hx, isT_m_no hM' ok hx2, z10, ↓reduceIte]
  rcases ixn a3 2 (by decide) with hx2 | ⟨b, hb, rfl⟩
  · refine stepI (r := -1) (I1 := I) (R1 := Rof p kn) (L1 := L) ?_ ?_ (Rel_th ok hC hM)
    · unfold f_X11_odds
      simp only [x0, x10, c_cv, isT_c_yes hC ok ht, isBit_no hx2, z10, bs, ↓reduceIte]
    · show f_X12_odds 112 _ _ _ _ = _
      unfold f_X12_odds
      simp only [m_pI, bs, m_cv, in11_yes hx, isT_m_yes hM' ok ht, in2_no hx2, z10, ↓reduceIte]
  have hsp := spread_c (kn := kn) (L := L) (x := x) hp hp3 hC.2.1 hC.2.2.1 ok.1 ok.2.1 (by omega)
  have hce := chF_eq (n := sn σ) (t0 := (sW σ).1) (x := x) (by omega) ok.2.1.1 (sG σ) hG t ht
  have hle := smS_le (n := sn σ) (t0 := (sW σ).1) (x := x) (by omega) (by omega) (sG σ) hG t ht
  have hal : 10 ^ sG σ ≤ 1000000 := by
    calc 10 ^ sG σ ≤ 10 ^ 6 := Nat.pow_le_pow_right (by decide) hG
    _ = 1000000 := by decide
  have hrd := rd_eq (sG σ) (smS (sn σ) (sW σ).1 x (sG σ) t (2 ^ sG σ))
  have hC1 : RC σ p kn (ffI I 45 (chF (sn σ) (sW σ).1 x (sG σ))) L := RC_fr (fun a b ha hb => ff_o (fun z => hb (by unfold cscr; omega))) rfl ok.2.2.1.1 hC
  have hM1 : RM σ (ffI I 45 (chF (sn σ) (sW σ).1 x (sG σ))) L := RM_hi (fun a b ha => ff_o (by omega)) hiEq.rf ok hM
  have hM1' := RM_th ok hM1
  have hm := odds48_m (p := p) (kn := kn) (L := L) (x := x) (t := t) (b := b) hM1'.1 hM1'.2.1 ok.1 ok.2.1 (by omega) ht hb
  have hrd' : ffI I 45 (chF (sn σ) (sW σ).1 x (sG σ)) 45 t = nI (smS (sn σ) (sW σ).1 x (sG σ) t (2 ^ sG σ)) := by rw [ff_rd (by omega), hce]
  have hc := odds45_c (I := ffI I 45 (chF (sn σ) (sW σ).1 x (sG σ))) (kn := kn) (L := L) (G := sG σ) (al := 10 ^ sG σ) (up := smS (sn σ) (sW σ).1 x (sG σ) t (2 ^ sG σ)) (b := b) hp hG hC1.2.1.1.2.1 (by omega) (by omega) hb
  rw [hrd.1, hrd.2] at hc
  refine stepI (r := if b = 0 then nI (smS (sn σ) (sW σ).1 x (sG σ) t (2 ^ sG σ) / Nat.gcd (smS (sn σ) (sW σ).1 x (sG σ) t (2 ^ sG σ)) (10 ^ sG σ)) else nI (10 ^ sG σ / Nat.gcd (smS (sn σ) (sW σ).1 x (sG σ) t (2 ^ sG σ)) (10 ^ sG σ))) (I1 := ffI I 45 (chF (sn σ) (sW σ).1 x (sG σ))) (R1 := Rof p kn) (L1 := L) ?_ ?_ (Rel_th ok hC1 hM1)
  · unfold f_X11_odds
    simp only [x0, x10, c_cv, isT_c_yes hC ok ht, isBit_yes hb, z10, bs, ↓reduceIte]
    rw [show f_X11_spreadChances 0 (nI x) (129, I, Rof p kn, L) = some (nI (10 ^ sG σ), (129, ffI I 45 (chF (sn σ) (sW σ).1 x (sG σ)), Rof p kn, L)) from hsp]
    simp only [bs, c_r15, a45 (show t < 9 by omega), hrd']
    exact hc
  · show f_X12_odds 112 _ _ _ _ = _
    have q1 : up2 (ffI I 45 (chF (sn σ) (sW σ).1 x (sG σ))) 112 0 0 114 1 = nI (sG σ) := hM1'.1.1.2.1
    unfold f_X12_odds
    simp only [m_pI, bs, m_cv, in11_yes hx, isT_m_yes hM1' ok ht, in2_yes hb, z10, ↓reduceIte, m_r9, many1, q1]
    exact hm
end S26
