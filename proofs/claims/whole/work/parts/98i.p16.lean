/-! ===== tours, in numbers ===== -/
def allB (f : Nat → Bool) : Nat → Bool
  | 0 => true
  | j + 1 => allB f j && f j
theorem allB_f {f : Nat → Bool} {i : Nat} (h : allB f i = false) : ∀ j, i ≤ j → allB f j = false := by
  intro j
  induction j with
  | zero => intro hj; rw [show i = 0 by omega] at h; exact h
  | succ j ih =>
    intro hj
    by_cases z : i = j + 1
    · subst z; exact h
    · simp only [allB, ih (by omega), Bool.false_and]
theorem allB_t {f : Nat → Bool} : ∀ j, allB f j = true ↔ ∀ i, i < j → f i = true := by
  intro j
  induction j with
  | zero => exact ⟨fun _ i hi => absurd hi (Nat.not_lt_zero _), fun _ => rfl⟩
  | succ j ih =>
    simp only [allB, Bool.and_eq_true, ih]
    refine ⟨fun h i hi => ?_, fun h => ⟨fun i hi => h i (by omega), h j (by omega)⟩⟩
    by_cases z : i = j
    · subst z; exact h.2
    · exact h.1 i (by omega)
def c3 (l m : Nat) : Nat := l + m + (if l < m then l else m)
theorem c3_le {l m m' : Nat} (h : m ≤ m') : c3 l m ≤ c3 l m' := by unfold c3; split <;> split <;> omega
theorem c3_ge (l m : Nat) : l + m ≤ c3 l m := by unfold c3; omega
section T16
variable (n G D : Nat) (nb : Nat → Nat → Bool) (le mo : Nat → Nat → Nat)
/-- the furthest, by steps the other way -/
def fIn (g : Nat) (F : Nat → Nat) : Nat → Nat → Nat
  | 0 => F
  | d + 1 => if nb g d then udn (fIn g F d) (le g d) (if fIn g F d (le g d) < mo g d then mo g d else fIn g F d (le g d)) else fIn g F d
def fOut : Nat → Nat → Nat
  | 0 => fun _ => 0
  | g + 1 => fIn nb le mo g (fOut g) D
/-- of the class: least, more -/
def cLM (F : Nat → Nat) : Nat → Nat × Nat
  | 0 => (n - 1, 0)
  | j + 1 => ((if c3 (n - 1 - j) (cLM F j).2 < (cLM F j).1 then c3 (n - 1 - j) (cLM F j).2 else (cLM F j).1), (if (cLM F j).2 < F (n - 1 - j) then F (n - 1 - j) else (cLM F j).2))
def okB (l m g d : Nat) : Bool := !nb g d || (decide (le g d ≤ l) || decide (mo g d ≤ m))
def feB (l m : Nat) : Bool := allB (fun g => allB (fun d => okB nb le mo l m g d) D) G
def bIn (l x : Nat) : Nat → Nat
  | 0 => x
  | m + 1 => if c3 l m < bIn l x m ∧ feB G D nb le mo l m = true then c3 l m else bIn l x m
def bOut : Nat → Nat
  | 0 => 99
  | l + 1 => bIn G D nb le mo l (bOut l) (n - l)
theorem feB_t {l m : Nat} : feB G D nb le mo l m = true ↔ ∀ g d, g < G → d < D → nb g d = true → le g d ≤ l ∨ mo g d ≤ m := by
  unfold feB
  rw [allB_t]
  refine ⟨fun h g d hg hd hn => ?_, fun h g hg => (allB_t _).mpr (fun d hd => ?_)⟩
  · have := (allB_t _).mp (h g hg) d hd
    simp only [okB, hn, Bool.not_true, Bool.false_or, Bool.or_eq_true, decide_eq_true_eq] at this
    exact this
  · simp only [okB, Bool.or_eq_true, Bool.not_eq_true', decide_eq_true_eq]
    by_cases z : nb g d = true
    · exact Or.inr (h g d hg hd z)
    · exact Or.inl (by simpa using z)
/-- F is right about the pairs that were looked at -/
def fRt (S : Nat → Nat → Prop) (F : Nat → Nat) : Prop := (∀ g d, S g d → nb g d = true → mo g d ≤ F (le g d)) ∧ (∀ l, 0 < F l → ∃ g d, S g d ∧ nb g d = true ∧ le g d = l ∧ mo g d = F l)
theorem fIn_ok {g : Nat} {S : Nat → Nat → Prop} {F : Nat → Nat} (h : fRt nb le mo S F) : ∀ j, fRt nb le mo (fun x y => S x y ∨ (x = g ∧ y < j)) (fIn nb le mo g F j) := by
  intro j
  induction j with
  | zero => exact ⟨fun x y hs hn => h.1 x y (hs.resolve_right (by omega)) hn, fun l hl => by obtain ⟨x, y, h1, h2⟩ := h.2 l hl; exact ⟨x, y, Or.inl h1, h2⟩⟩
  | succ j ih =>
    obtain ⟨i1, i2⟩ := ih
    simp only [fIn]
    by_cases z : nb g j = true
    · rw [if_pos z]
      refine ⟨fun x y hs hn => ?_, fun l hl => ?_⟩
      · unfold udn
        by_cases q : x = g ∧ y = j
        · obtain ⟨rfl, rfl⟩ := q
          rw [if_pos rfl]; split <;> omega
        · have h1 := i1 x y (by rcases hs with hs | hs; exact Or.inl hs; exact Or.inr ⟨hs.1, by omega⟩) hn
          split
          · rename_i e; rw [e] at h1; split <;> omega
          · exact h1
      · unfold udn at hl ⊢
        by_cases e : l = le g j
        · rw [if_pos e] at hl ⊢
          by_cases y : fIn nb le mo g F j (le g j) < mo g j
          · rw [if_pos y]; exact ⟨g, j, Or.inr ⟨rfl, by omega⟩, z, e.symm, rfl⟩
          · rw [if_neg y] at hl ⊢
            obtain ⟨x, u, h1, h2, h3, h4⟩ := i2 _ hl
            exact ⟨x, u, by rcases h1 with h1 | h1; exact Or.inl h1; exact Or.inr ⟨h1.1, by omega⟩, h2, by rw [h3, e], h4⟩
        · rw [if_neg e] at hl ⊢
          obtain ⟨x, u, h1, h2⟩ := i2 _ hl
          exact ⟨x, u, by rcases h1 with h1 | h1; exact Or.inl h1; exact Or.inr ⟨h1.1, by omega⟩, h2⟩
    · rw [if_neg z]
      refine ⟨fun x y hs hn => ?_, fun l hl => ?_⟩
      · refine i1 x y ?_ hn
        rcases hs with hs | hs
        · exact Or.inl hs
        · by_cases q : y = j
          · rw [hs.1, q] at hn; exact absurd hn z
          · exact Or.inr ⟨hs.1, by omega⟩
      · obtain ⟨x, u, h1, h2⟩ := i2 _ hl
        exact ⟨x, u, by rcases h1 with h1 | h1; exact Or.inl h1; exact Or.inr ⟨h1.1, by omega⟩, h2⟩
theorem fOut_ok : ∀ g, fRt nb le mo (fun x y => x < g ∧ y < D) (fOut D nb le mo g) := by
  intro g
  induction g with
  | zero => exact ⟨fun x y hs _ => absurd hs.1 (Nat.not_lt_zero _), fun l hl => absurd hl (Nat.not_lt_zero _)⟩
  | succ g ih =>
    obtain ⟨h1, h2⟩ := fIn_ok nb le mo (g := g) ih D
    exact ⟨fun x y hs hn => h1 x y (by by_cases z : x = g; exact Or.inr ⟨z, hs.2⟩; exact Or.inl ⟨by omega, hs.2⟩) hn, fun l hl => by
      obtain ⟨x, y, q1, q2⟩ := h2 l hl
      exact ⟨x, y, by rcases q1 with q | q; exact ⟨by omega, q.2⟩; exact ⟨by omega, q.2⟩, q2⟩⟩
variable {n G D nb le mo}
theorem cLM_2 {F : Nat → Nat} : ∀ j, j ≤ n → (∀ l, n - 1 - j < l → l < n → F l ≤ (cLM n F j).2) ∧ ((cLM n F j).2 = 0 ∨ ∃ l, n ≤ l + j ∧ l < n ∧ F l = (cLM n F j).2) := by
  intro j
  induction j with
  | zero => intro _; exact ⟨fun l h1 h2 => by omega, Or.inl rfl⟩
  | succ j ih =>
    intro hj
    obtain ⟨i1, i2⟩ := ih (by omega)
    simp only [cLM]
    refine ⟨fun l h1 h2 => ?_, ?_⟩
    · by_cases z : l = n - 1 - j
      · subst z; split <;> omega
      · have := i1 l (by omega) h2
        split <;> omega
    · split
      · exact Or.inr ⟨n - 1 - j, by omega, by omega, rfl⟩
      · rcases i2 with i2 | ⟨l, h1, h2, h3⟩
        · exact Or.inl i2
        · exact Or.inr ⟨l, by omega, h2, h3⟩
theorem cLM_mono {F : Nat → Nat} : ∀ i j, j ≤ i → (cLM n F i).1 ≤ (cLM n F j).1 := by
  intro i
  induction i with
  | zero => intro j hj; rw [show j = 0 by omega]; exact Nat.le_refl _
  | succ i ih =>
    intro j hj
    by_cases z : j = i + 1
    · subst z; exact Nat.le_refl _
    · have := ih j (by omega)
      simp only [cLM]; split <;> omega
theorem cls_le {F : Nat → Nat} (hF : fRt nb le mo (fun x y => x < G ∧ y < D) F) {l m : Nat} (hlm : l + m < n) (hf : feB G D nb le mo l m = true) : (cLM n F n).1 ≤ c3 l m := by
  rw [feB_t] at hf
  have h1 := cLM_mono (n := n) (F := F) n (n - 1 - l + 1) (by omega)
  obtain ⟨-, h2⟩ := cLM_2 (n := n) (F := F) (n - 1 - l) (by omega)
  have hm : (cLM n F (n - 1 - l)).2 ≤ m := by
    rcases h2 with h2 | ⟨l', e1, e2, e3⟩
    · omega
    · by_cases z : F l' = 0
      · omega
      · obtain ⟨g, d, s, q1, q2, q3⟩ := hF.2 l' (by omega)
        have := hf g d s.1 s.2 q1
        omega
  have h3 : (cLM n F (n - 1 - l + 1)).1 ≤ c3 l (cLM n F (n - 1 - l)).2 := by
    simp only [cLM]
    rw [show n - 1 - (n - 1 - l) = l by omega]
    split <;> omega
  have := c3_le (l := l) hm
  omega
theorem cls_at {F : Nat → Nat} (hn : 1 ≤ n) (hle : ∀ g d, g < G → d < D → le g d < n) (hF : fRt nb le mo (fun x y => x < G ∧ y < D) F) : ∀ j, j ≤ n → (cLM n F j).1 ≤ n - 1 ∧ ∃ l m, l + m < n ∧ feB G D nb le mo l m = true ∧ (cLM n F j).1 = c3 l m := by
  intro j
  induction j with
  | zero =>
    intro _
    refine ⟨Nat.le_refl _, n - 1, 0, by omega, ?_, ?_⟩
    · rw [feB_t]; intro g d hg hd _; have := hle g d hg hd; omega
    · show n - 1 = c3 (n - 1) 0
      unfold c3; rw [if_neg (by omega)]; omega
  | succ j ih =>
    intro hj
    obtain ⟨i0, l, m, i1, i2, i3⟩ := ih (by omega)
    have hc := c3_ge (n - 1 - j) (cLM n F j).2
    obtain ⟨h1, -⟩ := cLM_2 (n := n) (F := F) j (by omega)
    by_cases z : c3 (n - 1 - j) (cLM n F j).2 < (cLM n F j).1
    · have e : (cLM n F (j + 1)).1 = c3 (n - 1 - j) (cLM n F j).2 := by simp only [cLM]; rw [if_pos z]
      rw [e]
      refine ⟨by omega, n - 1 - j, (cLM n F j).2, by omega, ?_, rfl⟩
      rw [feB_t]; intro g d hg hd hnb
      by_cases y : le g d ≤ n - 1 - j
      · exact Or.inl y
      · right
        have a := hF.1 g d ⟨hg, hd⟩ hnb
        have b := h1 (le g d) (by omega) (hle g d hg hd)
        omega
    · have e : (cLM n F (j + 1)).1 = (cLM n F j).1 := by simp only [cLM]; rw [if_neg z]
      rw [e]; exact ⟨i0, l, m, i1, i2, i3⟩
theorem bIn_le {l x : Nat} : ∀ m, bIn G D nb le mo l x m ≤ x ∧ (∀ m', m' < m → feB G D nb le mo l m' = true → bIn G D nb le mo l x m ≤ c3 l m') ∧ (bIn G D nb le mo l x m = x ∨ ∃ m', m' < m ∧ feB G D nb le mo l m' = true ∧ bIn G D nb le mo l x m = c3 l m') := by
  intro m
  induction m with
  | zero => exact ⟨Nat.le_refl _, fun m' h => absurd h (Nat.not_lt_zero _), Or.inl rfl⟩
  | succ m ih =>
    obtain ⟨i1, i2, i3⟩ := ih
    simp only [bIn]
    by_cases z : c3 l m < bIn G D nb le mo l x m ∧ feB G D nb le mo l m = true
    · rw [if_pos z]
      refine ⟨by omega, fun m' h hf => ?_, Or.inr ⟨m, by omega, z.2, rfl⟩⟩
      by_cases q : m' = m
      · subst q; exact Nat.le_refl _
      · have := i2 m' (by omega) hf; omega
    · rw [if_neg z]
      refine ⟨i1, fun m' h hf => ?_, ?_⟩
      · by_cases q : m' = m
        · subst q
          by_cases y : c3 l m' < bIn G D nb le mo l x m'
          · exact absurd ⟨y, hf⟩ z
          · omega
        · exact i2 m' (by omega) hf
      · rcases i3 with i3 | ⟨m', e1, e2⟩
        · exact Or.inl i3
        · exact Or.inr ⟨m', by omega, e2⟩
theorem bOut_le : ∀ l, l ≤ n → (∀ l' m', l' < l → l' + m' < n → feB G D nb le mo l' m' = true → bOut n G D nb le mo l ≤ c3 l' m') ∧ (bOut n G D nb le mo l = 99 ∨ ∃ l' m', l' + m' < n ∧ feB G D nb le mo l' m' = true ∧ bOut n G D nb le mo l = c3 l' m') ∧ bOut n G D nb le mo l ≤ 99 := by
  intro l
  induction l with
  | zero => intro _; exact ⟨fun l' m' h => absurd h (Nat.not_lt_zero _), Or.inl rfl, Nat.le_refl _⟩
  | succ l ih =>
    intro hl
    obtain ⟨i1, i2, i3⟩ := ih (by omega)
    obtain ⟨b1, b2, b3⟩ := bIn_le (G := G) (D := D) (nb := nb) (le := le) (mo := mo) (l := l) (x := bOut n G D nb le mo l) (n - l)
    show (∀ l' m', l' < l + 1 → l' + m' < n → feB G D nb le mo l' m' = true → bIn G D nb le mo l (bOut n G D nb le mo l) (n - l) ≤ c3 l' m') ∧ (bIn G D nb le mo l (bOut n G D nb le mo l) (n - l) = 99 ∨ ∃ l' m', l' + m' < n ∧ feB G D nb le mo l' m' = true ∧ bIn G D nb le mo l (bOut n G D nb le mo l) (n - l) = c3 l' m') ∧ bIn G D nb le mo l (bOut n G D nb le mo l) (n - l) ≤ 99
    refine ⟨fun l' m' h1 h2 hf => ?_, ?_, by omega⟩
    · by_cases q : l' = l
      · subst q; exact b2 m' (by omega) hf
      · have := i1 l' m' (by omega) h2 hf; omega
    · rcases b3 with b3 | ⟨m', e1, e2, e3⟩
      · rw [b3]; exact i2
      · exact Or.inr ⟨l, m', by omega, e2, e3⟩
theorem tour_eq (hn : 1 ≤ n) (hn9 : n ≤ 9) (hle : ∀ g d, g < G → d < D → le g d < n) : (cLM n (fOut D nb le mo G) n).1 = bOut n G D nb le mo n := by
  have hF := fOut_ok D nb le mo G
  obtain ⟨c0, l, m, c1, c2, c3'⟩ := cls_at hn hle hF n (Nat.le_refl _)
  obtain ⟨b1, b2, b3⟩ := bOut_le (n := n) (G := G) (D := D) (nb := nb) (le := le) (mo := mo) n (Nat.le_refl _)
  have h1 : bOut n G D nb le mo n ≤ (cLM n (fOut D nb le mo G) n).1 := by rw [c3']; exact b1 l m (by omega) c1 c2
  have h2 : (cLM n (fOut D nb le mo G) n).1 ≤ bOut n G D nb le mo n := by
    rcases b2 with b2 | ⟨l', m', e1, e2, e3⟩
    · omega
    · rw [e3]; exact cls_le hF e1 e2
  omega
end T16
