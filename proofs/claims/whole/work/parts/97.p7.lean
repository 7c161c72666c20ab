/-! ===== copies of states ===== -/
def cpK (I : Nat → Nat → Int32) (dc d0 sc s0 j : Nat) : Nat → Nat → Int32 := fun a b => if a = dc ∧ d0 ≤ b ∧ b < d0 + j then I sc (s0 + (b - d0)) else I a b
theorem cpK_0 {I : Nat → Nat → Int32} {dc d0 sc s0 : Nat} : cpK I dc d0 sc s0 0 = I := by
  funext a b; unfold cpK; rw [if_neg (by omega)]
theorem cpK_s {I : Nat → Nat → Int32} {dc d0 sc s0 j : Nat} : up2 (cpK I dc d0 sc s0 j) dc (d0 + j) (I sc (s0 + j)) = cpK I dc d0 sc s0 (j + 1) := by
  funext a b
  rw [up2_e]
  unfold cpK
  by_cases h : a = dc ∧ b = d0 + j
  · rw [if_pos h, if_pos ⟨h.1, by omega, by omega⟩, h.2, Nat.add_sub_cancel_left]
  · rw [if_neg h]
    by_cases h2 : a = dc ∧ d0 ≤ b ∧ b < d0 + j
    · rw [if_pos h2, if_pos ⟨h2.1, h2.2.1, by omega⟩]
    · rw [if_neg h2, if_neg (fun z => h2 ⟨z.1, z.2.1, by have : ¬ b = d0 + j := fun q => h ⟨z.1, q⟩; omega⟩)]
theorem cpK_v {I : Nat → Nat → Int32} {dc d0 sc s0 j : Nat} (h : dc ≠ sc ∨ d0 ≤ s0) : cpK I dc d0 sc s0 j sc (s0 + j) = I sc (s0 + j) := by
  unfold cpK; rw [if_neg (by omega)]
theorem cpK_o {I : Nat → Nat → Int32} {dc d0 sc s0 j a b : Nat} (h : a ≠ dc ∨ b < d0 ∨ d0 + j ≤ b) : cpK I dc d0 sc s0 j a b = I a b := by
  unfold cpK; rw [if_neg (by omega)]
theorem cpK_i {I : Nat → Nat → Int32} {dc d0 sc s0 j b : Nat} (h : d0 ≤ b) (h2 : b < d0 + j) : cpK I dc d0 sc s0 j dc b = I sc (s0 + (b - d0)) := by
  unfold cpK; rw [if_pos ⟨rfl, h, h2⟩]
theorem NowM_cp {I I1 : Nat → Nat → Int32} {c o c' o' G D : Nat} {w : NowS} (hG : G ≤ 6) (hD : D ≤ 6) (h : ∀ b, b < 25 → I1 c (o + b) = I c' (o' + b)) (hw : NowM I c' o' G D w) : NowM I1 c o G D w := by
  refine ⟨by rw [← hw.1]; exact h 0 (by omega), fun d hd => ?_, fun g hg => ?_⟩
  · rw [Nat.add_assoc, Nat.add_assoc, h (1 + d) (by omega), h (7 + d) (by omega), ← Nat.add_assoc, ← Nat.add_assoc]; exact hw.2.1 d hd
  · rw [Nat.add_assoc, Nat.add_assoc, h (13 + g) (by omega), h (19 + g) (by omega), ← Nat.add_assoc, ← Nat.add_assoc]; exact hw.2.2 g hg
theorem NowC_cp {I I1 : Nat → Nat → Int32} {k k' G D : Nat} {w : NowS} (hG : G ≤ 6) (hD : D ≤ 6) (h0 : I1 k 0 = I k' 0) (h : ∀ i b, 1 ≤ i → i ≤ 4 → b < 6 → I1 (k + i) b = I (k' + i) b) (hw : NowC I k' G D w) : NowC I1 k G D w := by
  refine ⟨by rw [h0]; exact hw.1, fun d hd => ?_, fun g hg => ?_⟩
  · rw [h 1 d (by omega) (by omega) (by omega), h 2 d (by omega) (by omega) (by omega)]; exact hw.2.1 d hd
  · rw [h 3 g (by omega) (by omega) (by omega), h 4 g (by omega) (by omega) (by omega)]; exact hw.2.2 g hg
theorem cp_n {I : Nat → Nat → Int32} {R : Nat → Nat → Option Nat} {L : Nat → Nat → Int64} {a b : Nat} (ha : a < 129) (la : lay a = (20, 6)) (hb : b < 129) (lb : lay b = (20, 6)) : cpI (129, I, R, L) a 0 b 0 6 = some (129, upR I b (va_cpy (I a) (I b) 0 0 6), R, L) := by
  unfold cpI
  rw [la, lb, if_pos ⟨ha, rfl, hb, rfl, by decide, by decide, by decide, by decide, by decide⟩]
  rfl
section S7
variable {σ : St} {p : Nat} {kn : Nat → Nat} {I : Nat → Nat → Int32} {L : Nat → Nat → Int64}
theorem become_c {k j : Nat} (hk : isN k) (hj : isN j) (hd : k + 4 < j ∨ j + 4 < k) : ∃ I1, f_X7_become k j (129, I, Rof p kn, L) = some (129, I1, Rof p kn, L) ∧ (∀ a b, a < k ∨ k + 4 < a → I1 a b = I a b) ∧ I1 k 0 = I j 0 ∧ (∀ i b, 1 ≤ i → i ≤ 4 → b < 6 → I1 (k + i) b = I (j + i) b) := by
  obtain ⟨k0, -, k1, k2, k3, k4⟩ := id hk
  obtain ⟨j0, -, j1, j2, j3, j4⟩ := id hj
  unfold f_X7_become
  simp only [n_gI hj, n_pI hk, bs, n_gR hj (show 1 ≤ 1 by decide) (show 1 ≤ 4 by decide), n_gR hk (show 1 ≤ 1 by decide) (show 1 ≤ 4 by decide), n_gR hj (show 1 ≤ 2 by decide) (show 2 ≤ 4 by decide), n_gR hk (show 1 ≤ 2 by decide) (show 2 ≤ 4 by decide), n_gR hj (show 1 ≤ 3 by decide) (show 3 ≤ 4 by decide), n_gR hk (show 1 ≤ 3 by decide) (show 3 ≤ 4 by decide), n_gR hj (show 1 ≤ 4 by decide) (show 4 ≤ 4 by decide), n_gR hk (show 1 ≤ 4 by decide) (show 4 ≤ 4 by decide), cp_n (show j + 1 < 129 by omega) j1 (show k + 1 < 129 by omega) k1, cp_n (show j + 2 < 129 by omega) j2 (show k + 2 < 129 by omega) k2, cp_n (show j + 3 < 129 by omega) j3 (show k + 3 < 129 by omega) k3, cp_n (show j + 4 < 129 by omega) j4 (show k + 4 < 129 by omega) k4]
  refine ⟨_, rfl, fun a b ha => ?_, ?_, fun i b h1 h4 hb => ?_⟩
  · simp only [upR_e, up2_e]; repeat rw [if_neg (by omega)]
  · rw [upR_e, if_neg (by omega), upR_e, if_neg (by omega), upR_e, if_neg (by omega), upR_e, if_neg (by omega)]; exact up2_s
  · have hc : ∀ (f g : Nat → Int32), va_cpy f g 0 0 6 b = f b := fun f g => by rw [pk_cpy_in (by omega) (by omega)]; simp
    rcases (show i = 1 ∨ i = 2 ∨ i = 3 ∨ i = 4 by omega) with rfl | rfl | rfl | rfl
    · rw [upR_e, if_neg (by omega), upR_e, if_neg (by omega), upR_e, if_neg (by omega), upR_e, if_pos rfl, hc, up2_e, if_neg (by omega)]
    · rw [upR_e, if_neg (by omega), upR_e, if_neg (by omega), upR_e, if_pos rfl, hc, upR_e, if_neg (by omega), up2_e, if_neg (by omega)]
    · rw [upR_e, if_neg (by omega), upR_e, if_pos rfl, hc, upR_e, if_neg (by omega), upR_e, if_neg (by omega), up2_e, if_neg (by omega)]
    · rw [upR_e, if_pos rfl, hc, upR_e, if_neg (by omega), upR_e, if_neg (by omega), upR_e, if_neg (by omega), up2_e, if_neg (by omega)]
theorem Rof_up {i r : Nat} (hi : i < 10) : up2 (Rof p kn) 39 i (some r) = Rof p (fun j => if j = i then r else kn j) := by
  funext a b
  rw [up2_e]
  by_cases h : a = 39
  · subst h
    show (if 39 = 39 ∧ b = i then some r else if b < 10 then some (kn b) else none) = if b < 10 then some (if b = i then r else kn b) else none
    by_cases hb : b = i
    · subst hb; rw [if_pos ⟨rfl, rfl⟩, if_pos hi, if_pos rfl]
    · rw [if_neg (fun z => hb z.2), if_neg hb]
  · rw [if_neg (fun z => h z.1)]
    unfold Rof
    simp only [h, ↓reduceIte]
theorem k39 {i : Nat} (hi : i < 10) : aR 23 (129, I, Rof p kn, L) 39 (nI i) = some (kn i) := by
  rw [aR_n (k := 39) (n := 10) (by decide) rfl hi (by decide)]
  show (if i < 10 then some (kn i) else none) = _
  rw [if_pos hi]
theorem s39 {i r : Nat} (hi : i < 10) (hr : isN r) : sR 23 7 (129, I, Rof p kn, L) 39 (nI i) r = some (129, I, Rof p (fun j => if j = i then r else kn j), L) := by
  have h0 := hr.1
  unfold sR
  rw [if_pos ⟨by show 39 < 129; decide, rfl, by show r < 129; omega, by rw [hr.2.1], ix_ok (n := 10) hi (by decide)⟩, nI_clamp (by omega)]
  show some (129, I, up2 (Rof p kn) 39 i (some r), L) = _
  rw [Rof_up hi]
theorem kn_N (hk : KnOk p kn) {i : Nat} (hi : i < 10) : isN (kn i) ∧ 46 ≤ kn i ∧ kn i + 4 ≤ 95 := by
  obtain ⟨j, hj, e⟩ := hk.2.1 i hi
  rw [e]
  exact ⟨isN_kn (by omega), by omega, by omega⟩
def push (σ : St) : St := setW σ (sW σ) (if sU σ = 10 then 10 else sU σ + 1) (if sU σ = 10 then (fun i => if i = 9 then sW σ else sun σ (i + 1)) else (fun i => if i = sU σ then sW σ else sun σ i))
theorem SOk_push (ok : SOk σ) : SOk (push σ) := by
  have hU := ok.2.2.1.1
  refine SOk_W ok ok.2.1 ?_ (fun i hi => ?_)
  · split <;> omega
  · by_cases h : sU σ = 10
    · rw [if_pos h]; rw [if_pos h] at hi
      by_cases z : i = 9
      · simp only [z, ↓reduceIte]; exact ok.2.1
      · simp only [z, ↓reduceIte]; exact ok.2.2.1.2 (i + 1) (by omega)
    · rw [if_neg h]; rw [if_neg h] at hi
      by_cases z : i = sU σ
      · simp only [z, ↓reduceIte]; exact ok.2.1
      · simp only [z, ↓reduceIte]; exact ok.2.2.1.2 i (by omega)
/-- the end of remember(): the state goes behind the known ones -/
theorem rem58 {c : Nat} (hk : KnOk p kn) (hc : c < 10) (h8 : I 0 8 = nI c) : ∃ I1, f_X11_remember_58 0 (129, I, Rof p kn, L) = some (129, I1, Rof p kn, L) ∧ I1 0 8 = nI (c + 1) ∧ (∀ a b, ¬ (a = 0 ∧ b = 8) → a < kn c ∨ kn c + 4 < a → I1 a b = I a b) ∧ I1 (kn c) 0 = I 29 0 ∧ (∀ i b, 1 ≤ i → i ≤ 4 → b < 6 → I1 (kn c + i) b = I (29 + i) b) := by
  obtain ⟨hn, h46, h95⟩ := kn_N hk hc
  obtain ⟨I1, e1, f1, f2, f3⟩ := become_c (p := p) (kn := kn) (I := I) (L := L) (k := kn c) (j := 29) hn isN_29 (by omega)
  have h8' : I1 0 8 = nI c := by rw [f1 0 8 (by omega)]; exact h8
  unfold f_X11_remember_58
  simp only [c_r7, bs, c_gI, h8, k39 hc, c_r5, n_cv hn, e1, h8', c_pI, nI_1]
  refine ⟨_, rfl, us, fun a b h1 h2 => by rw [up2_e, if_neg h1]; exact f1 a b h2, by rw [up2_e, if_neg (by omega)]; exact f2, fun i b h1 h4 hb => by rw [up2_e, if_neg (by omega)]; exact f3 i b h1 h4 hb⟩
theorem remember_c (hC : RC σ p kn I L) (ok : SOk σ) : ∃ I1 kn', f_X11_remember 0 (129, I, Rof p kn, L) = some (129, I1, Rof p kn', L) ∧ RC (push σ) p kn' I1 L ∧ (∀ a b, ¬ (a = 0 ∧ b = 8) → a < 46 ∨ 95 < a → I1 a b = I a b) := by
  obtain ⟨hn3, hn9, hG, hD⟩ := okn ok
  have hU := ok.2.2.1.1
  have hk := hC.1
  have h8 := hC.2.2.2.1.1
  by_cases h : sU σ = 10
  · -- the oldest is lost
    have c1 : ¬ nI (sU σ) < (10 : Int32) := by rw [h]; decide
    have hkr : KnOk p (fun i => if i = 9 then kn 0 else if i < 9 then kn (i + 1) else kn i) := by
      refine ⟨hk.1, fun i hi => ?_, fun i j hi hj e => ?_⟩
      · by_cases z : i = 9
        · simp only [z, ↓reduceIte]; exact hk.2.1 0 (by omega)
        · simp only [z, show i < 9 by omega, ↓reduceIte]; exact hk.2.1 (i + 1) (by omega)
      · by_cases z : i = 9 <;> by_cases y : j = 9
        · omega
        · simp only [z, y, show j < 9 by omega, ↓reduceIte] at e
          have := hk.2.2 0 (j + 1) (by omega) (by omega) e; omega
        · simp only [z, y, show i < 9 by omega, ↓reduceIte] at e
          have := hk.2.2 (i + 1) 0 (by omega) (by omega) e; omega
        · simp only [z, y, show i < 9 by omega, show j < 9 by omega, ↓reduceIte] at e
          have := hk.2.2 (i + 1) (j + 1) (by omega) (by omega) e; omega
    have q9 : ∃ knr : Nat → Nat, KnOk p knr ∧ knr 9 = kn 0 ∧ (∀ i, i < 9 → knr i = kn (i + 1)) ∧ knr = (fun i => if i = 9 then kn 0 else if i < 9 then kn (i + 1) else kn i) := ⟨_, hkr, rfl, fun i hi => by simp only [show ¬ i = 9 by omega, hi, ↓reduceIte], rfl⟩
    clear hkr
    obtain ⟨knr, hkr, k9, ki, hknr⟩ := q9
    obtain ⟨I1, e1, g8, f1, f2, f3⟩ := rem58 (I := up2 I 0 8 (nI 9)) (L := L) hkr (c := 9) (by decide) us
    have h46 := kn_N hkr (i := 9) (by decide)
    refine ⟨I1, knr, ?_, ?_, fun a b ha hb => ?_⟩
    · unfold f_X11_remember
      simp only [c_gI, bs, h8, c1, ↓reduceIte, c_r7]
      rw [show aR 23 (129, I, Rof p kn, L) 39 (0 : Int32) = some (kn 0) from k39 (i := 0) (by decide), bs]
      unfold f_X11_remember_18
      refine lup0 _ (fun j => (nI (j + 1), (129, I, Rof p (fun i => if i < j then kn (i + 1) else kn i), L))) 9 (FU_big (by decide)) _ (fun ag => ?_) (fun j hj ag => ?_)
      · show f_X11_remember_18b 0 (kn 0) ag (nI 10) (129, I, Rof p (fun i => if i < 9 then kn (i + 1) else kn i), L) = _
        unfold f_X11_remember_18b
        rw [if_pos (by decide)]
        have hs := s39 (I := I) (L := L) (p := p) (kn := fun i => if i < 9 then kn (i + 1) else kn i) (i := 9) (r := kn 0) (by decide) (kn_N hk (by decide)).1
        simp only [c_r7, bs, show sR 23 7 (129, I, Rof p (fun i => if i < 9 then kn (i + 1) else kn i), L) 39 (9 : Int32) (kn 0) = _ from hs, c_pI]
        rw [← hknr]
        exact e1
      · show f_X11_remember_18b 0 (kn 0) ag (nI (j + 1)) (129, I, Rof p (fun i => if i < j then kn (i + 1) else kn i), L) = ag (nI (j + 1 + 1), _)
        unfold f_X11_remember_18b
        have hg := k39 (I := I) (L := L) (p := p) (kn := fun i => if i < j then kn (i + 1) else kn i) (i := j + 1) (by omega)
        have hg' : aR 23 (129, I, Rof p (fun i => if i < j then kn (i + 1) else kn i), L) 39 (nI (j + 1)) = some (kn (j + 1)) := by rw [hg, if_neg (by omega)]
        have hs := s39 (I := I) (L := L) (p := p) (kn := fun i => if i < j then kn (i + 1) else kn i) (i := j) (r := kn (j + 1)) (by omega) (kn_N hk (by omega)).1
        rw [if_neg (show ¬ (10 : Int32) ≤ nI (j + 1) from nI_ge (b := 10) (by omega) (by decide))]
        simp only [c_r7, bs, hg', nI_pred, hs, nI_1]
        have hfun : (fun q => if q = j then kn (j + 1) else if q < j then kn (q + 1) else kn q) = (fun q => if q < j + 1 then kn (q + 1) else kn q) := by
          funext i
          by_cases z : i = j
          · rw [if_pos z, if_pos (by omega), z]
          · rw [if_neg z]
            by_cases y : i < j
            · rw [if_pos y, if_pos (by omega)]
            · rw [if_neg y, if_neg (by omega)]
        rw [hfun]
    · refine RC_W hC ok (fun a b ha hn => ?_) rfl hkr (NowC_fr (fun i b hi => ?_) hC.2.2.1) ⟨by rw [if_pos h]; exact g8, fun i hi => ?_⟩
      · rw [f1 a b (by omega) (by omega), up2_e, if_neg (by omega)]
      · rw [f1 _ b (by omega) (by omega), up2_e, if_neg (by omega)]
      · rw [if_pos h] at hi; rw [if_pos h]
        by_cases z : i = 9
        · subst z
          refine NowC_cp (k' := 29) hG hD ?_ (fun i b h1 h4 hb => ?_) hC.2.2.1
          · rw [f2, up2_e, if_neg (by omega)]
          · rw [f3 i b h1 h4 hb, up2_e, if_neg (by omega)]
        · simp only [z, ↓reduceIte]
          rw [ki i (by omega)]
          refine NowC_fr (fun q b hq => ?_) (hC.2.2.2.1.2 (i + 1) (by omega))
          obtain ⟨u, hu, eu⟩ := hk.2.1 (i + 1) (by omega)
          obtain ⟨v, hv, ev⟩ := hk.2.1 0 (by omega)
          have hne : ¬ kn (i + 1) = kn 0 := fun e => by have := hk.2.2 _ _ (by omega) (by omega) e; omega
          rw [f1 _ b (by omega) (by omega), up2_e, if_neg (by omega)]
    · rw [f1 a b ha (by have := h46.2.1; have := h46.2.2; omega), up2_e, if_neg ha]
  · have hlt : sU σ < 10 := by omega
    have c1 : nI (sU σ) < (10 : Int32) := nI_lt (b := 10) hlt (by decide)
    obtain ⟨I1, e1, g8, f1, f2, f3⟩ := rem58 (I := I) (L := L) hk hlt h8
    have h46 := kn_N hk hlt
    refine ⟨I1, kn, ?_, ?_, fun a b ha hb => f1 a b ha (by have := h46.2.1; have := h46.2.2; omega)⟩
    · unfold f_X11_remember
      simp only [c_gI, bs, h8, c1, ↓reduceIte]
      exact e1
    · refine RC_W hC ok (fun a b ha hn => f1 a b (by omega) (by have := h46.2.1; have := h46.2.2; omega)) rfl hk (NowC_fr (fun i b hi => f1 _ b (by omega) (by have := h46.2.1; omega)) hC.2.2.1) ⟨by rw [if_neg h]; exact g8, fun i hi => ?_⟩
      rw [if_neg h] at hi; rw [if_neg h]
      by_cases z : i = sU σ
      · subst z
        simp only [↓reduceIte]
        exact NowC_cp (k' := 29) hG hD f2 (fun i b h1 h4 hb => f3 i b h1 h4 hb) hC.2.2.1
      · simp only [z, ↓reduceIte]
        refine NowC_fr (fun q b hq => ?_) (hC.2.2.2.1.2 i (by omega))
        obtain ⟨u, hu, eu⟩ := hk.2.1 i (by omega)
        obtain ⟨v, hv, ev⟩ := hk.2.1 (sU σ) (by omega)
        have hne : ¬ kn i = kn (sU σ) := fun e => z (hk.2.2 _ _ (by omega) (by omega) e)
        exact f1 _ b (by omega) (by omega)
end S7
