theorem ffn : ¬ (false = true) := by decide
/-! ===== tokens: the class's, the model's ===== -/
theorem tok_ok {tx : Nat → Nat} {T e : Nat} (he : e ≤ T) : e ≤ (tokE tx T e).2.1 ∧ (tokE tx T e).2.1 ≤ (tokE tx T e).2.2.1 ∧ (tokE tx T e).2.2.1 ≤ T ∧ (tokE tx T e).1 ≤ 4 ∧ ((tokE tx T e).1 ≠ 0 → (tokE tx T e).2.1 < (tokE tx T e).2.2.1) ∧ ((tokE tx T e).1 = 2 → (tokE tx T e).2.2.2 ≤ 99) ∧ ((tokE tx T e).1 = 1 → (∀ i, (tokE tx T e).2.1 ≤ i → i < (tokE tx T e).2.2.1 → isL (tx i) = true) ∧ (tokE tx T e).2.2.2 = if (tokE tx T e).2.2.1 - (tokE tx T e).2.1 = 1 then tx (tokE tx T e).2.1 else 0) := by
  obtain ⟨s1, s2, s3, s4⟩ := spE_ok isS tx he
  unfold tokE
  by_cases z : spE isS tx T e = T
  · rw [if_pos z]; exact ⟨he, Nat.le_refl _, Nat.le_refl _, by show 0 ≤ 4; decide, fun h => absurd rfl h, fun h => absurd (show (0 : Nat) = 2 from h) (by decide), fun h => absurd (show (0 : Nat) = 1 from h) (by decide)⟩
  · rw [if_neg z]
    have hlt : spE isS tx T e < T := by omega
    generalize spE isS tx T e = a at *
    by_cases y : isL (tx a) = true
    · rw [if_pos y]
      obtain ⟨u1, u2, u3, u4⟩ := spE_ok isL tx (Nat.le_of_lt hlt)
      have hne : spE isL tx T a ≠ a := fun q => by
        rw [q] at u4
        rcases u4 with u | u
        · omega
        · rw [y] at u; exact absurd u (by decide)
      exact ⟨s1, u1, u2, by show 1 ≤ 4; decide, fun _ => by show a < spE isL tx T a; omega, fun h => absurd (show (1 : Nat) = 2 from h) (by decide), fun _ => ⟨u3, rfl⟩⟩
    · rw [if_neg y]
      by_cases x : isD (tx a) = true
      · rw [if_pos x]
        obtain ⟨u1, u2, u3, u4⟩ := spE_ok isD tx (Nat.le_of_lt hlt)
        have hne : spE isD tx T a ≠ a := fun q => by
          rw [q] at u4
          rcases u4 with u | u
          · omega
          · rw [x] at u; exact absurd u (by decide)
        refine ⟨s1, u1, u2, by show (if _ then 4 else 2) ≤ 4; split <;> omega, fun _ => by show a < spE isD tx T a; omega, fun h => ?_, fun h => ?_⟩
        · have h' : (if 99 < nvS tx a (spE isD tx T a - a) ∨ (tx a = 48 ∧ 1 < spE isD tx T a - a) then 4 else 2) = 2 := h
          show nvS tx a (spE isD tx T a - a) ≤ 99
          by_cases q : 99 < nvS tx a (spE isD tx T a - a) ∨ (tx a = 48 ∧ 1 < spE isD tx T a - a)
          · rw [if_pos q] at h'; omega
          · omega
        · have h' : (if 99 < nvS tx a (spE isD tx T a - a) ∨ (tx a = 48 ∧ 1 < spE isD tx T a - a) then 4 else 2) = 1 := h
          split at h' <;> omega
      · rw [if_neg x]
        refine ⟨s1, by show a ≤ a + 1; omega, by show a + 1 ≤ T; omega, by show (if _ then 3 else 4) ≤ 4; split <;> omega, fun _ => by show a < a + 1; omega, fun h => ?_, fun h => ?_⟩
        · have h' : (if tx a = 59 then 3 else 4) = 2 := h
          split at h' <;> omega
        · have h' : (if tx a = 59 then 3 else 4) = 1 := h
          split at h' <;> omega
section S28
variable {p : Nat} {kn : Nat → Nat} {I : Nat → Nat → Int32} {R : Nat → Nat → Option Nat} {L : Nat → Nat → Int64} {T : Nat} {tx : Nat → Nat}
def TkC (I : Nat → Nat → Int32) (t : Tk) : Prop := I 1 3 = nI t.1 ∧ I 1 4 = nI t.2.1 ∧ I 1 5 = nI t.2.2.1 ∧ (t.1 = 2 → I 1 6 = nI t.2.2.2)
theorem tok_c {e : Nat} (hT : T ≤ 140) (htx : ∀ i, i < T → tx i < 256) (ht : TxC I T tx) (he : e ≤ T) (h5 : I 1 5 = nI e) : ∃ I1, f_X9_nextToken 1 (129, I, Rof p kn, L) = some (129, I1, Rof p kn, L) ∧ rF I I1 ∧ TkC I1 (tokE tx T e) := by
  obtain ⟨s1, s2, s3, s4⟩ := spE_ok isS tx he
  -- behind the blanks
  have fin : ∀ I1, rF I I1 → I1 1 4 = nI (spE isS tx T e) → ∃ I2, f_X9_nextToken_46 1 (129, I1, Rof p kn, L) = some (129, I2, Rof p kn, L) ∧ rF I I2 ∧ TkC I2 (tokE tx T e) := by
    intro I1 hF e4
    have hF' : rF I (up2 I1 1 5 (nI (spE isS tx T e))) := hF.up (by decide)
    have t1 := TxC_r hF' ht
    have e4' : up2 I1 1 5 (nI (spE isS tx T e)) 1 4 = nI (spE isS tx T e) := by rw [up2_e, if_neg (by omega)]; exact e4
    unfold f_X9_nextToken_46 tokE
    simp only [e_gI, bs, e4, e_pI, e4', t1.1]
    by_cases z : spE isS tx T e = T
    · rw [if_neg (nI_nlt (by omega) (by omega)), if_pos z]
      refine ⟨_, rfl, hF'.up (by decide), us, ?_, ?_, fun h => absurd (show (0 : Nat) = 2 from h) (by decide)⟩
      · rw [up2_e, if_neg (by omega), e4', z]
      · rw [up2_e, if_neg (by omega), us, z]
    · have hlt : spE isS tx T e < T := by omega
      rw [if_pos (nI_lt hlt (by omega)), if_neg z]
      have e5' : up2 I1 1 5 (nI (spE isS tx T e)) 1 5 = nI (spE isS tx T e) := us
      generalize spE isS tx T e = a at *
      generalize up2 I1 1 5 (nI a) = I2 at *
      have hc := htx a hlt
      simp only [e_r0, bs, a2 (show a < 140 by omega), t1.2 a hlt, (chrs _ hc).1, (chrs _ hc).2.1]
      cases y : isL (tx a)
      · rw [bi_f, if_pos rfl, if_neg ffn]
        cases x : isD (tx a)
        · rw [bi_f, if_pos rfl, if_neg ffn]
          unfold f_X9_nextToken_137
          have k4 : ∀ v : Int32, up2 I2 1 3 v 1 4 = nI a := fun v => by rw [up2_e, if_neg (by omega)]; exact e4'
          simp only [e_pI, bs, e_gI, k4, nI_1]
          by_cases w : tx a = 59
          · rw [if_pos (show nI (tx a) = (59 : Int32) by rw [w]; rfl), if_pos w]
            exact ⟨_, rfl, (hF'.up (by decide)).up (by decide), by rw [up2_e, if_neg (by omega)]; exact us, by rw [up2_e, if_neg (by omega)]; exact k4 _, us, fun h => absurd (show (3 : Nat) = 2 from h) (by decide)⟩
          · rw [if_neg (show ¬ nI (tx a) = (59 : Int32) from fun q => w ((nI_eq (b := 59) (by omega) (by decide)).mp q)), if_neg w]
            exact ⟨_, rfl, (hF'.up (by decide)).up (by decide), by rw [up2_e, if_neg (by omega)]; exact us, by rw [up2_e, if_neg (by omega)]; exact k4 _, us, fun h => absurd (show (4 : Nat) = 2 from h) (by decide)⟩
        · rw [bi_t, if_neg z10, if_pos rfl]
          obtain ⟨I3, n1, n2, n3, n4, n5, n6⟩ := numb_c (p := p) (kn := kn) (L := L) hT htx t1 hlt e4' e5'
          simp only [e_cv, n1, bs]
          refine ⟨I3, rfl, hF'.tr n2, n3, n4, n5, fun h => ?_⟩
          have h' : (if 99 < nvS tx a (spE isD tx T a - a) ∨ (tx a = 48 ∧ 1 < spE isD tx T a - a) then 4 else 2) = 2 := h
          rw [n6]
          show nI (mn100 (nvS tx a (spE isD tx T a - a))) = nI (nvS tx a (spE isD tx T a - a))
          unfold mn100
          by_cases q : 99 < nvS tx a (spE isD tx T a - a) ∨ (tx a = 48 ∧ 1 < spE isD tx T a - a)
          · rw [if_pos q] at h'; omega
          · rw [if_neg (by omega)]
      · rw [bi_t, if_neg z10, if_pos rfl]
        obtain ⟨I3, n1, n2, n3, n4, n5⟩ := word_c (p := p) (kn := kn) (L := L) hT htx t1 (Nat.le_of_lt hlt) e5'
        simp only [e_cv, n1, bs]
        exact ⟨I3, rfl, hF'.tr n2, n3, by rw [n4]; exact e4', n5, fun h => absurd (show (1 : Nat) = 2 from h) (by decide)⟩
  unfold f_X9_nextToken
  simp only [e_gI, bs, h5, e_pI]
  unfold f_X9_nextToken_8
  refine lupR0 (fun ag (s : Mem) => f_X9_nextToken_8b 1 ag s) (fun j s => ∃ I1, s = (129, I1, Rof p kn, L) ∧ rF I I1 ∧ I1 1 4 = nI (e + j)) (spE isS tx T e - e) (FU_big (by omega)) (fun r => ∃ I1, r = some (129, I1, Rof p kn, L) ∧ rF I I1 ∧ TkC I1 (tokE tx T e)) _ ⟨_, rfl, rF.rf.up (by decide), us⟩ ?_ ?_
  · rintro s ⟨I1, rfl, hF, e4⟩ ag
    rw [show e + (spE isS tx T e - e) = spE isS tx T e by omega] at e4
    have t1 := TxC_r hF ht
    have hf := fin I1 hF e4
    show ∃ I2, f_X9_nextToken_8b 1 ag (129, I1, Rof p kn, L) = _ ∧ _
    unfold f_X9_nextToken_8b
    simp only [e_gI, bs, e4, t1.1]
    by_cases z : spE isS tx T e = T
    · rw [if_pos (nI_le (by omega) (by omega))]; exact hf
    · have hlt : spE isS tx T e < T := by omega
      have hn := s4.resolve_left z
      rw [if_neg (nI_ge hlt (by omega))]
      simp only [e_r0, bs, a2 (show spE isS tx T e < 140 by omega), t1.2 _ hlt]
      rw [if_neg (show ¬ nI (tx (spE isS tx T e)) = (32 : Int32) from fun q => by
        have := (nI_eq (b := 32) (by have := htx _ hlt; omega) (by decide)).mp q
        unfold isS at hn; exact of_decide_eq_false hn this)]
      exact hf
  · rintro j s hj ⟨I1, rfl, hF, e4⟩ ag
    have t1 := TxC_r hF ht
    have hlt : e + j < T := by omega
    have hs := of_decide_eq_true (s3 (e + j) (by omega) (by omega))
    refine ⟨_, ⟨up2 I1 1 4 (nI (e + (j + 1))), rfl, hF.up (by decide), us⟩, ?_⟩
    show f_X9_nextToken_8b 1 ag (129, I1, Rof p kn, L) = _
    unfold f_X9_nextToken_8b
    simp only [e_gI, bs, e4, t1.1]
    rw [if_neg (nI_ge hlt (by omega))]
    simp only [e_r0, bs, a2 (show e + j < 140 by omega), t1.2 _ hlt]
    rw [if_pos (show nI (tx (e + j)) = (32 : Int32) by rw [hs]; rfl)]
    simp only [e_gI, e4, bs, e_pI, nI_1]
    rfl
/-! the model's -/
def lt_ (tx : Nat → Nat) (T i : Nat) : Int32 := if i < T then nI (tx i) else -1
theorem let_m {i : Nat} (hT : T ≤ 140) (ht : TxM I T tx) (hi : i ≤ T) : f_X12_letterAt 112 (nI i) (129, I, Rof p kn, L) = some (lt_ tx T i) := by
  unfold f_X12_letterAt lt_
  simp only [m_gI, bs, ht.1]
  by_cases z : i < T
  · rw [if_neg (nI_ge z (by omega)), if_pos z]
    simp only [m_r2, bs, a113 (show i < 140 by omega), ht.2 i z]
  · rw [if_pos (nI_le (by omega) (by omega)), if_neg z]
theorem lt_r {i : Nat} (M : Mem) (htx : ∀ i, i < T → tx i < 256) : f_X12_in (lt_ tx T i) 97 122 M = some (bi (decide (i < T) && isL (tx i))) ∧ f_X12_in (lt_ tx T i) 48 57 M = some (bi (decide (i < T) && isD (tx i))) := by
  unfold lt_
  by_cases z : i < T
  · rw [if_pos z, decide_eq_true z, Bool.true_and, Bool.true_and]
    exact ⟨(chrs M (htx i z)).2.2.1, (chrs M (htx i z)).2.2.2⟩
  · rw [if_neg z, decide_eq_false z]
    exact ⟨rfl, rfl⟩
/-- the model's token: at, token, place, value -/
def TkM (I : Nat → Nat → Int32) (t : Tk) : Prop := I 112 5 = nI t.1 ∧ I 112 6 = nI t.2.1 ∧ I 112 4 = nI t.2.2.1 ∧ I 112 7 = nI t.2.2.2
def qF4 (I I1 : Nat → Nat → Int32) : Prop := ∀ a b, ¬ (a = 112 ∧ 4 ≤ b ∧ b ≤ 7) → I1 a b = I a b
theorem qF4.up {I1 : Nat → Nat → Int32} {j : Nat} {v : Int32} (h : qF4 I I1) (h4 : 4 ≤ j) (h7 : j ≤ 7) : qF4 I (up2 I1 112 j v) := fun a b hab => by rw [up2_e, if_neg (by omega)]; exact h a b hab
theorem TxM_q {I1 : Nat → Nat → Int32} (h : qF4 I I1) (ht : TxM I T tx) : TxM I1 T tx := ⟨by rw [h _ _ (by omega)]; exact ht.1, fun i hi => by rw [h _ _ (by omega)]; exact ht.2 i hi⟩
theorem adv_m {e : Nat} (hT : T ≤ 140) (htx : ∀ i, i < T → tx i < 256) (ht : TxM I T tx) (he : e ≤ T) (h4 : I 112 4 = nI e) : ∃ I1, f_X12_advances 112 (129, I, Rof p kn, L) = some (129, I1, Rof p kn, L) ∧ qF4 I I1 ∧ TkM I1 (tokE tx T e) := by
  obtain ⟨s1, s2, s3, s4⟩ := spE_ok isS tx he
  unfold f_X12_advances f_X12_advances_0
  refine lupR0 (fun ag (s : Mem) => f_X12_advances_0b 112 ag s) (fun j s => ∃ I1, s = (129, I1, Rof p kn, L) ∧ qF4 I I1 ∧ I1 112 4 = nI (e + j)) (spE isS tx T e - e) (FU_big (by omega)) (fun r => ∃ I1, r = some (129, I1, Rof p kn, L) ∧ qF4 I I1 ∧ TkM I1 (tokE tx T e)) _ ⟨I, rfl, fun _ _ _ => rfl, h4⟩ ?_ ?_
  · rintro s ⟨I1, rfl, hF, e4⟩ ag
    rw [show e + (spE isS tx T e - e) = spE isS tx T e by omega] at e4
    have t1 := TxM_q hF ht
    show ∃ I2, f_X12_advances_0b 112 ag (129, I1, Rof p kn, L) = _ ∧ _
    have hn32 : ¬ lt_ tx T (spE isS tx T e) = (32 : Int32) := by
      unfold lt_
      by_cases z : spE isS tx T e < T
      · rw [if_pos z]
        intro q
        have := (nI_eq (b := 32) (by have := htx _ z; omega) (by decide)).mp q
        have hn := s4.resolve_left (by omega)
        unfold isS at hn; exact of_decide_eq_false hn this
      · rw [if_neg z]; decide
    have hF2 : qF4 I (up2 I1 112 6 (nI (spE isS tx T e))) := hF.up (by decide) (by decide)
    have t2 := TxM_q hF2 ht
    have e42 : up2 I1 112 6 (nI (spE isS tx T e)) 112 4 = nI (spE isS tx T e) := by rw [up2_e, if_neg (by omega)]; exact e4
    unfold f_X12_advances_0b
    simp only [m_gI, bs, e4, m_cv, let_m (p := p) (kn := kn) (L := L) hT t1 s2, hn32, ↓reduceIte, m_pI, e42, let_m (p := p) (kn := kn) (L := L) hT t2 s2]
    have hF3 : qF4 I (up2 (up2 I1 112 6 (nI (spE isS tx T e))) 112 7 0) := hF2.up (by decide) (by decide)
    have t3 := TxM_q hF3 ht
    have e43 : up2 (up2 I1 112 6 (nI (spE isS tx T e))) 112 7 0 112 4 = nI (spE isS tx T e) := by rw [up2_e, if_neg (by omega)]; exact e42
    have e63 : up2 (up2 I1 112 6 (nI (spE isS tx T e))) 112 7 0 112 6 = nI (spE isS tx T e) := by rw [up2_e, if_neg (by omega)]; exact us
    have e73 : up2 (up2 I1 112 6 (nI (spE isS tx T e))) 112 7 0 112 7 = 0 := us
    generalize up2 (up2 I1 112 6 (nI (spE isS tx T e))) 112 7 0 = I3 at *
    unfold tokE
    by_cases z : spE isS tx T e = T
    · have hl : ¬ 0 ≤ lt_ tx T (spE isS tx T e) := by unfold lt_; rw [if_neg (by omega)]; decide
      rw [if_neg hl, if_pos z]
      refine ⟨_, rfl, hF3.up (by decide) (by decide), us, ?_, ?_, ?_⟩
      · rw [up2_e, if_neg (by omega), e63, z]
      · rw [up2_e, if_neg (by omega), e43, z]
      · rw [up2_e, if_neg (by omega), e73]; rfl
    · have hlt : spE isS tx T e < T := by omega
      rw [if_neg z]
      generalize spE isS tx T e = a at *
      have hc := htx a hlt
      have hl : lt_ tx T a = nI (tx a) := if_pos hlt
      rw [hl, if_pos (nI_pos' (by omega))]
      simp only [(chrs _ hc).2.2.1, (chrs _ hc).2.2.2, bs]
      cases x : isD (tx a)
      · rw [bi_f, if_pos rfl]
        cases y : isL (tx a)
        · rw [bi_f, if_pos rfl, if_neg ffn, if_neg ffn]
          unfold f_X12_advances_275
          simp only [m_gI, bs, e43, m_pI, nI_1]
          by_cases w : tx a = 59
          · rw [if_pos (show nI (tx a) = (59 : Int32) by rw [w]; rfl), if_pos w]
            exact ⟨_, rfl, (hF3.up (by decide) (by decide)).up (by decide) (by decide), us, by rw [up2_e, if_neg (by omega), up2_e, if_neg (by omega)]; exact e63, by rw [up2_e, if_neg (by omega)]; exact us, by rw [up2_e, if_neg (by omega), up2_e, if_neg (by omega)]; exact e73⟩
          · rw [if_neg (show ¬ nI (tx a) = (59 : Int32) from fun q => w ((nI_eq (b := 59) (by omega) (by decide)).mp q)), if_neg w]
            exact ⟨_, rfl, (hF3.up (by decide) (by decide)).up (by decide) (by decide), us, by rw [up2_e, if_neg (by omega), up2_e, if_neg (by omega)]; exact e63, by rw [up2_e, if_neg (by omega)]; exact us, by rw [up2_e, if_neg (by omega), up2_e, if_neg (by omega)]; exact e73⟩
        · rw [bi_t, if_neg z10, if_pos rfl]
          obtain ⟨u1, u2, u3, u4⟩ := spE_ok isL tx (Nat.le_of_lt hlt)
          unfold f_X12_advances_192
          refine lupR0 (fun ag (s : Mem) => f_X12_advances_192b 112 (nI (tx a)) ag s) (fun j s => ∃ I4, s = (129, I4, Rof p kn, L) ∧ qF4 I I4 ∧ I4 112 4 = nI (a + j) ∧ I4 112 6 = nI a) (spE isL tx T a - a) (FU_big (by omega)) (fun r => ∃ I2, r = some (129, I2, Rof p kn, L) ∧ qF4 I I2 ∧ TkM I2 (1, a, spE isL tx T a, if spE isL tx T a - a = 1 then tx a else 0)) _ ⟨I3, rfl, hF3, e43, e63⟩ ?_ ?_
          · rintro s ⟨I4, rfl, hF4, e44, e64⟩ ag2
            rw [show a + (spE isL tx T a - a) = spE isL tx T a by omega] at e44
            have t4 := TxM_q hF4 ht
            have hnl : (decide (spE isL tx T a < T) && isL (tx (spE isL tx T a))) = false := by
              rcases u4 with u | u
              · rw [decide_eq_false (by omega)]; rfl
              · rw [u, Bool.and_false]
            have k4 : up2 I4 112 5 1 112 4 = nI (spE isL tx T a) := by rw [up2_e, if_neg (by omega)]; exact e44
            have k6 : up2 I4 112 5 1 112 6 = nI a := by rw [up2_e, if_neg (by omega)]; exact e64
            unfold f_X12_advances_192b f_X12_advances_247
            simp only [m_gI, bs, e44, m_cv, let_m (p := p) (kn := kn) (L := L) hT t4 u2, (lt_r _ htx).1, hnl, bi_f, ↓reduceIte, m_pI, k4, k6, pk_sub u1]
            by_cases w : spE isL tx T a - a = 1
            · rw [if_pos (show nI (spE isL tx T a - a) = (1 : Int32) by rw [w]; rfl), if_pos w]
              exact ⟨_, rfl, (hF4.up (by decide) (by decide)).up (by decide) (by decide), by rw [up2_e, if_neg (by omega)]; exact us, by rw [up2_e, if_neg (by omega)]; exact k6, by rw [up2_e, if_neg (by omega)]; exact k4, us⟩
            · rw [if_neg (show ¬ nI (spE isL tx T a - a) = (1 : Int32) from fun q => w ((nI_eq (b := 1) (by omega) (by decide)).mp q)), if_neg w]
              exact ⟨_, rfl, (hF4.up (by decide) (by decide)).up (by decide) (by decide), by rw [up2_e, if_neg (by omega)]; exact us, by rw [up2_e, if_neg (by omega)]; exact k6, by rw [up2_e, if_neg (by omega)]; exact k4, us⟩
          · rintro j s hj ⟨I4, rfl, hF4, e44, e64⟩ ag2
            have t4 := TxM_q hF4 ht
            have hy : (decide (a + j < T) && isL (tx (a + j))) = true := by rw [decide_eq_true (by omega), u3 _ (by omega) (by omega)]; rfl
            refine ⟨_, ⟨up2 I4 112 4 (nI (a + (j + 1))), rfl, hF4.up (by decide) (by decide), us, by rw [up2_e, if_neg (by omega)]; exact e64⟩, ?_⟩
            show f_X12_advances_192b 112 (nI (tx a)) ag2 (129, I4, Rof p kn, L) = _
            unfold f_X12_advances_192b
            simp only [m_gI, bs, e44, m_cv, let_m (p := p) (kn := kn) (L := L) hT t4 (show a + j ≤ T by omega), (lt_r _ htx).1, hy, bi_t, z10, ↓reduceIte, m_pI, nI_1]
            rfl
      · have y : isL (tx a) = false := by
          cases y : isL (tx a)
          · rfl
          · have := isL_i.mp y; have := isD_i.mp x; omega
        rw [bi_t, if_neg z10, y, if_neg ffn, if_pos rfl]
        obtain ⟨u1, u2, u3, u4⟩ := spE_ok isD tx (Nat.le_of_lt hlt)
        have hnv : ∀ j, j ≤ spE isD tx T a - a → nvS tx a j ≤ 999 := fun j hj => nvS_le _ (fun i hi => ((isD_i.mp (u3 (a + i) (by omega) (by omega))).2))
        unfold f_X12_advances_71
        refine lupR0 (fun ag (s : Mem) => f_X12_advances_71b 112 (nI (tx a)) ag s) (fun j s => ∃ I4, s = (129, I4, Rof p kn, L) ∧ qF4 I I4 ∧ I4 112 4 = nI (a + j) ∧ I4 112 6 = nI a ∧ I4 112 7 = nI (nvS tx a j)) (spE isD tx T a - a) (FU_big (by omega)) (fun r => ∃ I2, r = some (129, I2, Rof p kn, L) ∧ qF4 I I2 ∧ TkM I2 ((if 99 < nvS tx a (spE isD tx T a - a) ∨ (tx a = 48 ∧ 1 < spE isD tx T a - a) then 4 else 2), a, spE isD tx T a, nvS tx a (spE isD tx T a - a))) _ ⟨I3, rfl, hF3, e43, e63, e73⟩ ?_ ?_
        · rintro s ⟨I4, rfl, hF4, e44, e64, e74⟩ ag2
          rw [show a + (spE isD tx T a - a) = spE isD tx T a by omega] at e44
          have t4 := TxM_q hF4 ht
          have hv := hnv _ (Nat.le_refl _)
          have hnl : (decide (spE isD tx T a < T) && isD (tx (spE isD tx T a))) = false := by
            rcases u4 with u | u
            · rw [decide_eq_false (by omega)]; rfl
            · rw [u, Bool.and_false]
          have hfin : ∀ so : Nat, ∃ I5, some (129, up2 I4 112 5 (nI so), Rof p kn, L) = some (129, I5, Rof p kn, L) ∧ qF4 I I5 ∧ TkM I5 (so, a, spE isD tx T a, nvS tx a (spE isD tx T a - a)) := fun so => ⟨_, rfl, hF4.up (by decide) (by decide), us, by rw [up2_e, if_neg (by omega)]; exact e64, by rw [up2_e, if_neg (by omega)]; exact e44, by rw [up2_e, if_neg (by omega)]; exact e74⟩
          unfold f_X12_advances_71b f_X12_advances_170 f_X12_advances_174 f_X12_advances_175
          simp only [m_gI, bs, e44, m_cv, let_m (p := p) (kn := kn) (L := L) hT t4 u2, (lt_r _ htx).2, hnl, bi_f, ↓reduceIte, m_pI, e64, e74, pk_sub u1]
          by_cases w : 99 < nvS tx a (spE isD tx T a - a)
          · rw [if_pos (show (99 : Int32) < nI (nvS tx a (spE isD tx T a - a)) from nI_lt (a := 99) w (by omega)), if_pos (Or.inl w)]
            exact hfin 4
          · rw [if_neg (show ¬ (99 : Int32) < nI (nvS tx a (spE isD tx T a - a)) from nI_nlt (a := 99) (by omega) (by decide))]
            by_cases v : tx a = 48
            · rw [if_pos (show nI (tx a) = (48 : Int32) by rw [v]; rfl)]
              by_cases u : spE isD tx T a - a ≤ 1
              · rw [if_pos (show nI (spE isD tx T a - a) ≤ (1 : Int32) from nI_le (b := 1) u (by decide)), if_neg (by omega)]
                exact hfin 2
              · rw [if_neg (show ¬ nI (spE isD tx T a - a) ≤ (1 : Int32) from nI_ge (a := 1) (by omega) (by omega)), if_pos (Or.inr ⟨v, by omega⟩)]
                exact hfin 4
            · rw [if_neg (show ¬ nI (tx a) = (48 : Int32) from fun q => v ((nI_eq (b := 48) (by omega) (by decide)).mp q)), if_neg (by omega)]
              exact hfin 2
        · rintro j s hj ⟨I4, rfl, hF4, e44, e64, e74⟩ ag2
          have t4 := TxM_q hF4 ht
          have hd := isD_i.mp (u3 (a + j) (by omega) (by omega))
          have hy : (decide (a + j < T) && isD (tx (a + j))) = true := by rw [decide_eq_true (by omega), u3 _ (by omega) (by omega)]; rfl
          have hv := hnv j (by omega)
          have hlj : lt_ tx T (a + j) = nI (tx (a + j)) := if_pos (by omega)
          have hin : ∀ M, f_X12_in (nI (tx (a + j))) 48 57 M = some (bi (isD (tx (a + j)))) := fun M => (chrs M (htx (a + j) (by omega))).2.2.2
          have hd0 : isD (tx (a + j)) = true := u3 _ (by omega) (by omega)
          have e10 : (10 : Int32) * nI (nvS tx a j) = nI (10 * nvS tx a j) := pk_mul 10 _
          have e48 : nI (10 * nvS tx a j + tx (a + j)) - (48 : Int32) = nI (10 * nvS tx a j + tx (a + j) - 48) := pk_sub (b := 48) (by omega)
          have k4 : ∀ v : Int32, up2 I4 112 7 v 112 4 = nI (a + j) := fun v => by rw [up2_e, if_neg (by omega)]; exact e44
          refine ⟨_, ⟨up2 (up2 I4 112 7 (nI (nvS tx a (j + 1)))) 112 4 (nI (a + (j + 1))), rfl, (hF4.up (by decide) (by decide)).up (by decide) (by decide), us, by rw [up2_e, if_neg (by omega), up2_e, if_neg (by omega)]; exact e64, by rw [up2_e, if_neg (by omega)]; exact us⟩, ?_⟩
          show f_X12_advances_71b 112 (nI (tx a)) ag2 (129, I4, Rof p kn, L) = _
          unfold f_X12_advances_71b f_X12_advances_125
          simp only [m_gI, bs, e44, m_cv, let_m (p := p) (kn := kn) (L := L) hT t4 (show a + j ≤ T by omega), hlj, hin, hd0, bi_t, z10, ↓reduceIte, m_pI, e74, e10, nI_add, e48, k4, nI_1]
          simp only [nvS]
          by_cases w : 99 < nvS tx a j
          · rw [if_neg (show ¬ nI (nvS tx a j) ≤ (99 : Int32) from nI_ge (a := 99) w (by omega)), if_pos w]; rfl
          · rw [if_pos (show nI (nvS tx a j) ≤ (99 : Int32) from nI_le (b := 99) (by omega) (by decide)), if_neg w]; rfl
  · rintro j s hj ⟨I1, rfl, hF, e4⟩ ag
    have t1 := TxM_q hF ht
    have hlt : e + j < T := by omega
    have hs := of_decide_eq_true (s3 (e + j) (by omega) (by omega))
    have hl : lt_ tx T (e + j) = (32 : Int32) := by unfold lt_; rw [if_pos hlt, hs]; rfl
    refine ⟨_, ⟨up2 I1 112 4 (nI (e + (j + 1))), rfl, hF.up (by decide) (by decide), us⟩, ?_⟩
    show f_X12_advances_0b 112 ag (129, I1, Rof p kn, L) = _
    unfold f_X12_advances_0b
    simp only [m_gI, bs, e4, m_cv, let_m (p := p) (kn := kn) (L := L) hT t1 (show e + j ≤ T by omega), hl, ↓reduceIte, m_pI, nI_1]
    rfl
end S28
