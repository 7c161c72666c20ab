def layL : List (Nat × Nat) := [(11, 16), (9, 7), (21, 140), (8, 8), (20, 6), (20, 6), (20, 6), (7, 5), (20, 6), (20, 6), (20, 6), (20, 6), (20, 9), (5, 5), (20, 6), (20, 6), (20, 6), (0, 6), (24, 6), (8, 8), (20, 6), (20, 6), (20, 6), (7, 5), (20, 6), (20, 6), (20, 6), (20, 6), (20, 9), (7, 5), (20, 6), (20, 6), (20, 6), (20, 6), (7, 5), (20, 6), (20, 6), (20, 6), (20, 6), (23, 10), (23, 2), (22, 2), (20, 6), (20, 6), (22, 6), (20, 9), (7, 5), (20, 6), (20, 6), (20, 6), (20, 6), (7, 5), (20, 6), (20, 6), (20, 6), (20, 6), (7, 5), (20, 6), (20, 6), (20, 6), (20, 6), (7, 5), (20, 6), (20, 6), (20, 6), (20, 6), (7, 5), (20, 6), (20, 6), (20, 6), (20, 6), (7, 5), (20, 6), (20, 6), (20, 6), (20, 6), (7, 5), (20, 6), (20, 6), (20, 6), (20, 6), (7, 5), (20, 6), (20, 6), (20, 6), (20, 6), (7, 5), (20, 6), (20, 6), (20, 6), (20, 6), (7, 5), (20, 6), (20, 6), (20, 6), (20, 6), (7, 5), (20, 6), (20, 6), (20, 6), (20, 6), (7, 5), (20, 6), (20, 6), (20, 6), (20, 6), (6, 0), (10, 0), (1, 0), (2, 0), (4, 0), (3, 0), (12, 26), (20, 140), (20, 6), (20, 12), (20, 12), (20, 12), (20, 25), (20, 25), (20, 50), (22, 2), (20, 250), (20, 6), (20, 6), (20, 6), (20, 6), (20, 6), (20, 6)]
def lay (k : Nat) : Nat × Nat := layL.getD k (99, 0)
def nf (ci : Nat) : Nat := match ci with | 0 => 6 | 5 => 5 | 7 => 5 | 8 => 8 | 9 => 7 | 11 => 16 | 12 => 26 | _ => 0
def ft (ci j : Nat) : Nat := match ci with | 0 => ([0, 0, 0, 0, 0, 2] : List Nat).getD j 0 | 5 => ([1, 1, 1, 0, 0] : List Nat).getD j 0 | 7 => ([0, 1, 1, 1, 1] : List Nat).getD j 0 | 8 => ([0, 0, 0, 1, 1, 1, 1, 1] : List Nat).getD j 0 | 9 => ([1, 0, 1, 0, 0, 0, 0] : List Nat).getD j 0 | 11 => ([1, 1, 1, 1, 1, 1, 1, 1, 0, 1, 1, 1, 1, 1, 0, 1] : List Nat).getD j 0 | 12 => ([0, 2, 1, 0, 0, 0, 0, 0, 0, 1, 1, 1, 1, 1, 1, 1, 1, 1, 0, 1, 1, 1, 0, 1, 1, 1] : List Nat).getD j 0 | _ => 0
theorem w_nat_copy : Cond.native arraycopyName ∈ tblG := wNat_arraycopyName
theorem w_st_copy : Cond.static arraycopyName ∈ tblG := wS_arraycopyName
theorem w_in_sys : Cond.initialized "java/lang/System" ∈ tblG := wN_J10
theorem w_in_math : Cond.initialized "java/lang/Math" ∈ tblG := wN_J9
theorem w_st_min : Cond.static Lib.Math.min.name ∈ tblG := wS_J9_min_7cf53
theorem w_st_max : Cond.static Lib.Math.max.name ∈ tblG := wS_J9_max_7cf53
theorem w_cd_min : Cond.code Lib.Math.min.name Lib.Math.min.code 2 (some .int) ∈ tblG := wC_J9_min_7cf53
theorem w_cd_max : Cond.code Lib.Math.max.name Lib.Math.max.code 2 (some .int) ∈ tblG := wC_J9_max_7cf53
/-! the flat memory: cells by number; a number's layout is fixed; an object's or an array's contents are read off functions -/
abbrev Mem : Type := Nat × (Nat → Nat → Int32) × (Nat → Nat → Option Nat) × (Nat → Nat → Int64)
def up2 {α : Type} (f : Nat → Nat → α) (k j : Nat) (v : α) : Nat → Nat → α := fun a b => if a = k ∧ b = j then v else f a b
def upR {α : Type} (f : Nat → Nat → α) (k : Nat) (row : Nat → α) : Nat → Nat → α := fun a b => if a = k then row b else f a b
def loopF {S R : Type} (F : (S → Option R) → S → Option R) : Nat → S → Option R
  | 0, _ => none
  | n + 1, s => F (loopF F n) s
def FU : Nat := 200000
def gI (M : Mem) (k ci j : Nat) : Option Int32 := if k < M.1 ∧ (lay k).1 = ci then some (M.2.1 k j) else none
def gR (M : Mem) (k ci j : Nat) : Option Nat := if k < M.1 ∧ (lay k).1 = ci then M.2.2.1 k j else none
def gL (M : Mem) (k ci j : Nat) : Option Int64 := if k < M.1 ∧ (lay k).1 = ci then some (M.2.2.2 k j) else none
def pI (M : Mem) (k ci j : Nat) (v : Int32) : Option Mem := if k < M.1 ∧ (lay k).1 = ci then some (M.1, up2 M.2.1 k j v, M.2.2.1, M.2.2.2) else none
def pR (M : Mem) (k ci j : Nat) (v : Nat) : Option Mem := if k < M.1 ∧ (lay k).1 = ci then some (M.1, M.2.1, up2 M.2.2.1 k j (some v), M.2.2.2) else none
def pL (M : Mem) (k ci j : Nat) (v : Int64) : Option Mem := if k < M.1 ∧ (lay k).1 = ci then some (M.1, M.2.1, M.2.2.1, up2 M.2.2.2 k j v) else none
def aI (t : Nat) (M : Mem) (k : Nat) (i : Int32) : Option Int32 := if k < M.1 ∧ (lay k).1 = t ∧ ¬ (i < 0 ∨ (lay k).2 ≤ i.toNatClampNeg) then some (M.2.1 k i.toNatClampNeg) else none
def sA (t : Nat) (M : Mem) (k : Nat) (i v : Int32) : Option Mem := if k < M.1 ∧ (lay k).1 = t ∧ ¬ (i < 0 ∨ (lay k).2 ≤ i.toNatClampNeg) then some (M.1, up2 M.2.1 k i.toNatClampNeg v, M.2.2.1, M.2.2.2) else none
def sI (M : Mem) (k : Nat) (i v : Int32) : Option Mem := sA 20 M k i v
def sC (M : Mem) (k : Nat) (i v : Int32) : Option Mem := sA 21 M k i (vp_nar .char v)
def sZ (M : Mem) (k : Nat) (i v : Int32) : Option Mem := sA 22 M k i (vp_nar .boolean v)
def aR (t : Nat) (M : Mem) (k : Nat) (i : Int32) : Option Nat := if k < M.1 ∧ (lay k).1 = t ∧ ¬ (i < 0 ∨ (lay k).2 ≤ i.toNatClampNeg) then M.2.2.1 k i.toNatClampNeg else none
def sR (t ci : Nat) (M : Mem) (k : Nat) (i : Int32) (r : Nat) : Option Mem := if k < M.1 ∧ (lay k).1 = t ∧ r < M.1 ∧ (lay r).1 = ci ∧ ¬ (i < 0 ∨ (lay k).2 ≤ i.toNatClampNeg) then some (M.1, M.2.1, up2 M.2.2.1 k i.toNatClampNeg (some r), M.2.2.2) else none
def aL (t : Nat) (M : Mem) (k : Nat) : Option Int32 := if k < M.1 ∧ (lay k).1 = t then some (Int32.ofNat (lay k).2) else none
def cpI (M : Mem) (k1 : Nat) (sp : Int32) (k2 : Nat) (dp n : Int32) : Option Mem :=
  if k1 < M.1 ∧ (lay k1).1 = 20 ∧ k2 < M.1 ∧ (lay k2).1 = 20 ∧ ¬ sp < 0 ∧ ¬ dp < 0 ∧ ¬ n < 0 ∧ sp.toNatClampNeg + n.toNatClampNeg ≤ (lay k1).2 ∧ dp.toNatClampNeg + n.toNatClampNeg ≤ (lay k2).2
  then some (M.1, upR M.2.1 k2 (va_cpy (M.2.1 k1) (M.2.1 k2) sp.toNatClampNeg dp.toNatClampNeg n.toNatClampNeg), M.2.2.1, M.2.2.2) else none
def nCell (M : Mem) : Mem := (M.1 + 1, upR M.2.1 M.1 (fun _ => 0), upR M.2.2.1 M.1 (fun _ => none), upR M.2.2.2 M.1 (fun _ => 0))
def nO (M : Mem) (ci : Nat) : Option (Nat × Mem) := if (lay M.1).1 = ci then some (M.1, nCell M) else none
def nA (M : Mem) (t : Nat) (n : Int32) : Option (Nat × Mem) := if (lay M.1).1 = t ∧ ¬ n < 0 ∧ n.toNatClampNeg = (lay M.1).2 ∧ (lay M.1).2 ≤ 1000 then some (M.1, nCell M) else none
def cv {α : Type} (M : Mem) (k ci : Nat) (o : Option α) : Option α := if k < M.1 ∧ (lay k).1 = ci then o else none
def isK (t : Nat) : Bool := t == 6 || t == 10 || t == 1 || t == 2 || t == 4 || t == 3
theorem isK_c {t : Nat} (h : isK t = true) : t = 6 ∨ t = 10 ∨ t = 1 ∨ t = 2 ∨ t = 4 ∨ t = 3 := by
  simp only [isK, Bool.or_eq_true, beq_iff_eq] at h
  omega
def cvk {α : Type} (M : Mem) (k : Nat) (o : Option α) : Option α := if k < M.1 ∧ isK (lay k).1 = true then o else none
def dvI (x y : Int32) : Option Int32 := if y = 0 then none else some (x / y)
def rmI (x y : Int32) : Option Int32 := if y = 0 then none else some (x - x / y * y)
def zr (v : Int32) : Option Int32 := if v = 0 ∨ v = 1 then some v else none
theorem ob {α β : Type} {o : Option α} {f : α → Option β} {r : β} (h : o.bind f = some r) : ∃ v, o = some v ∧ f v = some r := by
  cases o with
  | none => cases h
  | some v => exact ⟨v, rfl, h⟩
theorem it {c : Prop} [Decidable c] {α : Type} {a b r : α} (hc : c) (h : (if c then a else b) = r) : a = r := by rw [if_pos hc] at h; exact h
theorem ie {c : Prop} [Decidable c] {α : Type} {a b r : α} (hc : ¬ c) (h : (if c then a else b) = r) : b = r := by rw [if_neg hc] at h; exact h
theorem so {c : Prop} [Decidable c] {α : Type} {a : Option α} {r : α} (h : (if c then a else none) = some r) : c ∧ a = some r := by
  by_cases hc : c
  · exact ⟨hc, it hc h⟩
  · rw [if_neg hc] at h; cases h
def fvl (ad : Nat → Nat) (M : Mem) (t k j : Nat) : Value := if t = 0 then .int (M.2.1 k j) else if t = 1 then va_rf ((M.2.2.1 k j).map ad) else .long (M.2.2.2 k j)
def cel (cA : Nat → ClassId) (ad : Nat → Nat) (M : Mem) (k : Nat) : va_E :=
  if (lay k).1 < 20 then .inr ((lay k).1, (List.range (nf (lay k).1)).map (fun j => fvl ad M (ft (lay k).1 j) k j))
  else if (lay k).1 < 23 then .inl (cA ((lay k).1 - 20), (lay k).2, .inl (M.2.1 k))
  else .inl (cA ((lay k).1 - 20), (lay k).2, .inr (.inr (.inr (.inr (fun i => (M.2.2.1 k i).map ad)))))
def wsM (cA : Nat → ClassId) (ad : Nat → Nat) (M : Mem) : va_W := (List.range M.1).map (fun k => (ad k, cel cA ad M k))
def tysOf (cA : Nat → ClassId) : List (ClassId × FieldType) := [(cA 0, .int), (cA 1, .char), (cA 2, .boolean), (cA 3, .object "TrayTurns$Now"), (cA 4, .object "TrayTurns$GuestKind")]
theorem ws_get {cA : Nat → ClassId} {ad : Nat → Nat} {M : Mem} {k : Nat} (h : k < M.1) : (wsM cA ad M)[k]? = some (ad k, cel cA ad M k) := by
  unfold wsM
  rw [List.getElem?_map, List.getElem?_range h]
  rfl
theorem ws_len {cA : Nat → ClassId} {ad : Nat → Nat} {M : Mem} : (wsM cA ad M).length = M.1 := by simp [wsM]
theorem ws_inv {cA : Nat → ClassId} {ad : Nat → Nat} {M : Mem} {k : Nat} {q : Nat × va_E} (h : (wsM cA ad M)[k]? = some q) : k < M.1 ∧ q = (ad k, cel cA ad M k) := by
  have hl := (List.getElem?_eq_some_iff.mp h).1
  rw [ws_len] at hl
  rw [ws_get hl] at h
  exact ⟨hl, (Option.some.inj h).symm⟩
theorem ws_set {cA : Nat → ClassId} {ad : Nat → Nat} {M M' : Mem} {k : Nat} {e : va_E} (h1 : M'.1 = M.1) (hk : cel cA ad M' k = e) (ho : ∀ j, j ≠ k → cel cA ad M' j = cel cA ad M j) : (wsM cA ad M).set k (ad k, e) = wsM cA ad M' := by
  apply List.ext_getElem?
  intro i
  rw [List.getElem?_set]
  by_cases hi : i < M.1
  · rw [ws_get (M := M') (by rw [h1]; exact hi)]
    by_cases hik : k = i
    · subst hik
      rw [if_pos rfl, if_pos (by rw [ws_len]; exact hi), hk]
    · rw [if_neg hik, ws_get hi, ho i (fun q => hik q.symm)]
  · have e1 : (wsM cA ad M')[i]? = none := by rw [List.getElem?_eq_none]; rw [ws_len, h1]; omega
    rw [e1]
    by_cases hik : k = i
    · subst hik
      rw [if_pos rfl, if_neg (by rw [ws_len]; exact hi)]
    · rw [if_neg hik, List.getElem?_eq_none]; rw [ws_len]; omega
theorem cel_o {cA : Nat → ClassId} {ad : Nat → Nat} {M : Mem} {k ci : Nat} (h : (lay k).1 = ci) (hc : ci < 20) : cel cA ad M k = .inr (ci, (List.range (nf ci)).map (fun j => fvl ad M (ft ci j) k j)) := by
  unfold cel; rw [h, if_pos hc]
theorem cel_i {cA : Nat → ClassId} {ad : Nat → Nat} {M : Mem} {k t : Nat} (h : (lay k).1 = t) (h1 : ¬ t < 20) (h2 : t < 23) : cel cA ad M k = .inl (cA (t - 20), (lay k).2, .inl (M.2.1 k)) := by
  unfold cel; rw [h, if_neg h1, if_pos h2]
theorem cel_r {cA : Nat → ClassId} {ad : Nat → Nat} {M : Mem} {k t : Nat} (h : (lay k).1 = t) (h2 : ¬ t < 23) : cel cA ad M k = .inl (cA (t - 20), (lay k).2, .inr (.inr (.inr (.inr (fun i => (M.2.2.1 k i).map ad))))) := by
  unfold cel; rw [h, if_neg (by omega), if_neg h2]
def AdOk (ad : Nat → Nat) (A : Nat → Prop) : Prop := (∀ i j, ad i = ad j → i = j) ∧ ∀ k, A (ad k)
theorem ws_D {cA : Nat → ClassId} {ad : Nat → Nat} {A : Nat → Prop} {M : Mem} (h : AdOk ad A) : va_D A (wsM cA ad M) := by
  refine ⟨fun i j p q hp hq e => ?_, fun k q hq => ?_⟩
  · obtain ⟨-, rfl⟩ := ws_inv hp
    obtain ⟨-, rfl⟩ := ws_inv hq
    exact h.1 i j e
  · obtain ⟨-, rfl⟩ := ws_inv hq
    exact h.2 k
/-- the world at a point of a walk: the memory M lies in the heap H; since the entry nothing outside A has changed -/
def Wd (D : va_G) (cA : Nat → ClassId) (ad : Nat → Nat) (A : Nat → Prop) (s : State) (M : Mem) (H : Heap) (locs : List Loc) : Prop := va_P D vwCl (wsM cA ad M) H ∧ va_S A s.heap H locs
/-- a class by its number -/
def CF (ci : Nat) (C : String) (T : u_T) (N : Nat) (ty : Nat → FieldType) : Prop := vwCl[ci]? = some (C, T, N) ∧ (∀ w ∈ u_ws C T N, w ∈ tblG) ∧ (∀ k, k < N → parseFieldDescriptor (T k).2.2.1 = some (ty k)) ∧ (∀ a, a < N → ∀ b, b < N → a ≠ b → (T a).2.1 ≠ (T b).2.1) ∧ nf ci = N ∧ ci < 20
def rmD (d : Nat) : Room := { frames := d, cells := 0, slots := 0, locals := 32 * d }
abbrev wd (y : MethodName) (bytes : ByteArray) (maxL : Nat) (ret : Option FieldType) : List Cond := Cond.code y bytes maxL ret :: tblG
def PcW (D : va_G) (cA : Nat → ClassId) (ad : Nat → Nat) (av : List Value) (M : Mem) : Array Value → State → Prop := va_Pc av (fun U => va_P D vwCl (wsM cA ad M) U.heap ∧ va_K D vwCl (tysOf cA) U)
def QI (D : va_G) (cA : Nat → ClassId) (ad : Nat → Nat) (A : Nat → Prop) (r : Int32) (M : Mem) : Array Value → State → Outcome → State → Prop := va_Qi (fun (x : Int32) (_ : Unit) => x = r) (fun _ t => va_P D vwCl (wsM cA ad M) t.heap) A
def QL (D : va_G) (cA : Nat → ClassId) (ad : Nat → Nat) (A : Nat → Prop) (r : Int64) (M : Mem) : Array Value → State → Outcome → State → Prop := va_Ql (fun (x : Int64) (_ : Unit) => x = r) (fun _ t => va_P D vwCl (wsM cA ad M) t.heap) A
def QV (D : va_G) (cA : Nat → ClassId) (ad : Nat → Nat) (A : Nat → Prop) (M : Mem) : Array Value → State → Outcome → State → Prop := va_Qv (fun (_ : Unit) => True) (fun _ t => va_P D vwCl (wsM cA ad M) t.heap) A
def QR (D : va_G) (cA : Nat → ClassId) (ad : Nat → Nat) (A : Nat → Prop) (r : Nat) (M : Mem) : Array Value → State → Outcome → State → Prop := va_Qr (fun (_ : Unit) => True) (fun _ a t => a = ad r ∧ va_P D vwCl (wsM cA ad M) t.heap) A
/-- what the tables say of a method that is called: on an object, or static -/
def MY (y : MethodName) (bytes : ByteArray) (maxL : Nat) (ret : Option FieldType) (n : Nat) : Prop := Cond.code y bytes maxL ret ∈ tblG ∧ Cond.initialized y.cls ∈ tblG ∧ (y.cls ≠ "java/lang/invoke/MethodHandle" ∧ y.cls ≠ "java/lang/invoke/VarHandle" ∧ (parseMethodDescriptor y.desc).map (fun d => d.parameters.length) = some n)
theorem gd {y : MethodName} {bytes : ByteArray} {maxL : Nat} {ret : Option FieldType} (h : Cond.code y bytes maxL ret ∈ tblG) : GoodIn tblG (wd y bytes maxL ret) := by
  intro w hw
  rcases List.mem_cons.mp hw with rfl | hw
  · exact ⟨h, good_of_word (List.mem_filter.mp h).2⟩
  · exact ⟨hw, good_of_word (List.mem_filter.mp hw).2⟩
theorem tb {args : Array Value} {s : State} {w0 : Cond} (h : ∀ w ∈ w0 :: tblG, w.before args s = true) : ∀ w ∈ tblG, w.before args s = true := fun v hv => h v (List.mem_cons_of_mem _ hv)
section RW
variable {p : Program} {l : Launch} {e : Env} {R : Room} {s : State} {m : MethodId} {args : Array Value} {below : List Frame} {meth : Method} {c : Code} {H : Heap} {locs : List Loc} {cells slots : Nat} {Q : State → Prop}
variable {cc : ByteArray} {pc nL : Nat} {ls : Array Slot} {rest : List Value} {D : va_G} {cA : Nat → ClassId} {ad : Nat → Nat} {A : Nat → Prop} {own : String} {M M' : Mem}
theorem cvk_s {α : Type} {k : Nat} {o : Option α} {r : α} (h : cvk M k o = some r) : (k < M.1 ∧ isK (lay k).1 = true) ∧ o = some r := so h
theorem fv_get {ci j N : Nat} {k : Nat} (hn : nf ci = N) (hj : j < N) : ((List.range (nf ci)).map (fun j => fvl ad M (ft ci j) k j))[j]? = some (fvl ad M (ft ci j) k j) := by
  rw [List.getElem?_map, List.getElem?_range (by rw [hn]; exact hj)]
  rfl
theorem fv_set {ci j N : Nat} {k : Nat} {v : Value} (hn : nf ci = N) (hj : j < N) (hv : fvl ad M' (ft ci j) k j = v) (ho : ∀ i, i ≠ j → fvl ad M' (ft ci i) k i = fvl ad M (ft ci i) k i) : ((List.range (nf ci)).map (fun j => fvl ad M' (ft ci j) k j)) = ((List.range (nf ci)).map (fun j => fvl ad M (ft ci j) k j)).set j v := by
  apply List.ext_getElem?
  intro i
  rw [List.getElem?_set]
  by_cases hi : i < N
  · rw [fv_get (M := M') hn hi]
    by_cases hij : j = i
    · subst hij
      rw [if_pos rfl, if_pos (by simp [hn, hj]), hv]
    · rw [if_neg hij, fv_get hn hi, ho i (fun q => hij q.symm)]
  · have e1 : ∀ (M : Mem), ((List.range (nf ci)).map (fun j => fvl ad M (ft ci j) k j))[i]? = none := fun M => by rw [List.getElem?_eq_none]; simp [hn]; omega
    rw [e1 M', if_neg (by omega), e1 M]
theorem r_gI {C : String} {T : u_T} {N ci j index k : Nat} {ty : Nat → FieldType} {v : Int32} (hC : CallFix p m c cc nL s args tblG own) (hK : va_K D vwCl (tysOf cA) s) (hW : Wd D cA ad A s M H locs) (cf : CF ci C T N ty) (hj : j < N) (hlink : Cond.fieldLink own index (T j).1 (T j).2.1 (T j).2.2.1 ∈ tblG) (hft : ft ci j = 0) (hg : gI M k ci j = some v) (hdg : decode cc pc = .ok (.getfield index, 3))
    (kk : W p l e R s m args below meth c H locs cells slots Q (F0 m (pc + 3) ls (.int v :: rest))) : W p l e R s m args below meth c H locs cells slots Q (F0 m pc ls (.ref (ad k) :: rest)) := by
  obtain ⟨⟨h1, h2⟩, h3⟩ := so hg
  have he := ws_get (cA := cA) (ad := ad) h1
  rw [cel_o h2 cf.2.2.2.2.2] at he
  refine va_get hC.1 hC.2.1 hC.2.2.2.2 cf.2.1 hC.2.2.2.1 hK hW.1 k he cf.1 j hj (hC.2.2.2.2 _ hlink) (fun _ h => h) (fv_get cf.2.2.2.2.1 hj) hdg ?_
  rw [hft]
  have h4 : M.2.1 k j = v := Option.some.inj h3
  simpa [fvl, h4] using kk
theorem r_gL {C : String} {T : u_T} {N ci j index k : Nat} {ty : Nat → FieldType} {v : Int64} (hC : CallFix p m c cc nL s args tblG own) (hK : va_K D vwCl (tysOf cA) s) (hW : Wd D cA ad A s M H locs) (cf : CF ci C T N ty) (hj : j < N) (hlink : Cond.fieldLink own index (T j).1 (T j).2.1 (T j).2.2.1 ∈ tblG) (hft : ft ci j = 2) (hg : gL M k ci j = some v) (hdg : decode cc pc = .ok (.getfield index, 3))
    (kk : W p l e R s m args below meth c H locs cells slots Q (F0 m (pc + 3) ls (.long v :: rest))) : W p l e R s m args below meth c H locs cells slots Q (F0 m pc ls (.ref (ad k) :: rest)) := by
  obtain ⟨⟨h1, h2⟩, h3⟩ := so hg
  have he := ws_get (cA := cA) (ad := ad) h1
  rw [cel_o h2 cf.2.2.2.2.2] at he
  refine va_get hC.1 hC.2.1 hC.2.2.2.2 cf.2.1 hC.2.2.2.1 hK hW.1 k he cf.1 j hj (hC.2.2.2.2 _ hlink) (fun _ h => h) (fv_get cf.2.2.2.2.1 hj) hdg ?_
  rw [hft]
  have h4 : M.2.2.2 k j = v := Option.some.inj h3
  simpa [fvl, h4] using kk
theorem r_gR {C : String} {T : u_T} {N ci j index k : Nat} {ty : Nat → FieldType} {v : Nat} (hC : CallFix p m c cc nL s args tblG own) (hK : va_K D vwCl (tysOf cA) s) (hW : Wd D cA ad A s M H locs) (cf : CF ci C T N ty) (hj : j < N) (hlink : Cond.fieldLink own index (T j).1 (T j).2.1 (T j).2.2.1 ∈ tblG) (hft : ft ci j = 1) (hg : gR M k ci j = some v) (hdg : decode cc pc = .ok (.getfield index, 3))
    (kk : W p l e R s m args below meth c H locs cells slots Q (F0 m (pc + 3) ls (.ref (ad v) :: rest))) : W p l e R s m args below meth c H locs cells slots Q (F0 m pc ls (.ref (ad k) :: rest)) := by
  obtain ⟨⟨h1, h2⟩, h3⟩ := so hg
  have he := ws_get (cA := cA) (ad := ad) h1
  rw [cel_o h2 cf.2.2.2.2.2] at he
  refine va_get hC.1 hC.2.1 hC.2.2.2.2 cf.2.1 hC.2.2.2.1 hK hW.1 k he cf.1 j hj (hC.2.2.2.2 _ hlink) (fun _ h => h) (fv_get cf.2.2.2.2.1 hj) hdg ?_
  rw [hft]
  simpa [fvl, h3, va_rf] using kk
theorem cel_up {M M' : Mem} {k : Nat} (h1 : ∀ j, j ≠ k → M'.2.1 j = M.2.1 j) (h2 : ∀ j, j ≠ k → M'.2.2.1 j = M.2.2.1 j) (h3 : ∀ j, j ≠ k → M'.2.2.2 j = M.2.2.2 j) : ∀ j, j ≠ k → cel cA ad M' j = cel cA ad M j := by
  intro j hj
  unfold cel fvl
  rw [h1 j hj, h2 j hj, h3 j hj]
theorem up2_o {α : Type} {f : Nat → Nat → α} {k j i : Nat} {v : α} (h : i ≠ k) : up2 f k j v i = f i := by
  funext b; unfold up2; rw [if_neg (fun q => h q.1)]
theorem up2_s {α : Type} {f : Nat → Nat → α} {k j : Nat} {v : α} : up2 f k j v k j = v := by unfold up2; rw [if_pos ⟨rfl, rfl⟩]
theorem up2_n {α : Type} {f : Nat → Nat → α} {k j i : Nat} {v : α} (h : i ≠ j) : up2 f k j v k i = f k i := by unfold up2; rw [if_neg (fun q => h q.2)]
theorem upR_o {α : Type} {f : Nat → Nat → α} {k i : Nat} {r : Nat → α} (h : i ≠ k) : upR f k r i = f i := by
  funext b; unfold upR; rw [if_neg h]
theorem upR_s {α : Type} {f : Nat → Nat → α} {k : Nat} {r : Nat → α} : upR f k r k = r := by
  funext b; unfold upR; rw [if_pos rfl]
theorem up2_row {f : Nat → Nat → Int32} {k j : Nat} {v : Int32} : up2 f k j v k = upd (f k) j v := by
  funext b; unfold up2 upd
  by_cases h : b = j
  · rw [if_pos ⟨rfl, h⟩, if_pos h]
  · rw [if_neg (fun q => h q.2), if_neg h]
theorem r_pI {C : String} {T : u_T} {N ci j index k : Nat} {ty : Nat → FieldType} {v : Int32} (hC : CallFix p m c cc nL s args tblG own) (hK : va_K D vwCl (tysOf cA) s) (hAd : AdOk ad A) (hW : Wd D cA ad A s M H locs) (cf : CF ci C T N ty) (hj : j < N) (hlink : Cond.fieldLink own index (T j).1 (T j).2.1 (T j).2.2.1 ∈ tblG) (hft : ft ci j = 0) (hfin : (T j).2.2.2 = false) (hty : ty j = .int) (hg : pI M k ci j v = some M') (hdg : decode cc pc = .ok (.putfield index, 3))
    (kk : ∀ (H1 : Heap) (locs1 : List Loc), Wd D cA ad A s M' H1 locs1 → W p l e R s m args below meth c H1 locs1 cells slots Q (F0 m (pc + 3) ls rest)) : W p l e R s m args below meth c H locs cells slots Q (F0 m pc ls (.int v :: .ref (ad k) :: rest)) := by
  obtain ⟨⟨h1, h2⟩, h3⟩ := so hg
  have he := ws_get (cA := cA) (ad := ad) h1
  rw [cel_o h2 cf.2.2.2.2.2] at he
  have hM : (M.1, up2 M.2.1 k j v, M.2.2.1, M.2.2.2) = M' := Option.some.inj h3
  refine va_put hC.1 hC.2.1 hC.2.2.2.2 cf.2.1 ty cf.2.2.1 cf.2.2.2.1 hC.2.2.2.1 hK hW.1 (ws_D hAd) hW.2 k he cf.1 j hj (hC.2.2.2.2 _ hlink) (fun _ h => h) hfin (ty := .int) (by rw [cf.2.2.1 j hj, hty]) rfl rfl (by simp [cf.2.2.2.2.1]; exact hj) hdg (fun H1 locs1 hP1 _ hS1 => kk H1 locs1 ⟨?_, hS1⟩)
  rw [ws_set (M' := M') (by rw [← hM]) ?_ ?_] at hP1
  · exact hP1
  · rw [cel_o h2 cf.2.2.2.2.2, fv_set (M := M) (v := .int v) cf.2.2.2.2.1 hj]
    · rw [hft, ← hM]; simp [fvl, up2_s]
    · intro i hi; rw [← hM]; simp [fvl, up2_n hi]
  · rw [← hM]; exact cel_up (fun j hj => up2_o hj) (fun _ _ => rfl) (fun _ _ => rfl)
theorem r_pL {C : String} {T : u_T} {N ci j index k : Nat} {ty : Nat → FieldType} {v : Int64} (hC : CallFix p m c cc nL s args tblG own) (hK : va_K D vwCl (tysOf cA) s) (hAd : AdOk ad A) (hW : Wd D cA ad A s M H locs) (cf : CF ci C T N ty) (hj : j < N) (hlink : Cond.fieldLink own index (T j).1 (T j).2.1 (T j).2.2.1 ∈ tblG) (hft : ft ci j = 2) (hfin : (T j).2.2.2 = false) (hty : ty j = .long) (hg : pL M k ci j v = some M') (hdg : decode cc pc = .ok (.putfield index, 3))
    (kk : ∀ (H1 : Heap) (locs1 : List Loc), Wd D cA ad A s M' H1 locs1 → W p l e R s m args below meth c H1 locs1 cells slots Q (F0 m (pc + 3) ls rest)) : W p l e R s m args below meth c H locs cells slots Q (F0 m pc ls (.long v :: .ref (ad k) :: rest)) := by
  obtain ⟨⟨h1, h2⟩, h3⟩ := so hg
  have he := ws_get (cA := cA) (ad := ad) h1
  rw [cel_o h2 cf.2.2.2.2.2] at he
  have hM : (M.1, M.2.1, M.2.2.1, up2 M.2.2.2 k j v) = M' := Option.some.inj h3
  refine va_put hC.1 hC.2.1 hC.2.2.2.2 cf.2.1 ty cf.2.2.1 cf.2.2.2.1 hC.2.2.2.1 hK hW.1 (ws_D hAd) hW.2 k he cf.1 j hj (hC.2.2.2.2 _ hlink) (fun _ h => h) hfin (ty := .long) (by rw [cf.2.2.1 j hj, hty]) rfl rfl (by simp [cf.2.2.2.2.1]; exact hj) hdg (fun H1 locs1 hP1 _ hS1 => kk H1 locs1 ⟨?_, hS1⟩)
  rw [ws_set (M' := M') (by rw [← hM]) ?_ ?_] at hP1
  · exact hP1
  · rw [cel_o h2 cf.2.2.2.2.2, fv_set (M := M) (v := .long v) cf.2.2.2.2.1 hj]
    · rw [hft, ← hM]; simp [fvl, up2_s]
    · intro i hi; rw [← hM]; simp [fvl, up2_n hi]
  · rw [← hM]; exact cel_up (fun _ _ => rfl) (fun _ _ => rfl) (fun j hj => up2_o hj)
theorem r_pR {C O : String} {T : u_T} {N ci j index k : Nat} {ty : Nat → FieldType} {v : Nat} (hC : CallFix p m c cc nL s args tblG own) (hK : va_K D vwCl (tysOf cA) s) (hAd : AdOk ad A) (hW : Wd D cA ad A s M H locs) (cf : CF ci C T N ty) (hj : j < N) (hlink : Cond.fieldLink own index (T j).1 (T j).2.1 (T j).2.2.1 ∈ tblG) (hft : ft ci j = 1) (hfin : (T j).2.2.2 = false) (hty : ty j = .object O) (hg : pR M k ci j v = some M') (hdg : decode cc pc = .ok (.putfield index, 3))
    (kk : ∀ (H1 : Heap) (locs1 : List Loc), Wd D cA ad A s M' H1 locs1 → W p l e R s m args below meth c H1 locs1 cells slots Q (F0 m (pc + 3) ls rest)) : W p l e R s m args below meth c H locs cells slots Q (F0 m pc ls (.ref (ad v) :: .ref (ad k) :: rest)) := by
  obtain ⟨⟨h1, h2⟩, h3⟩ := so hg
  have he := ws_get (cA := cA) (ad := ad) h1
  rw [cel_o h2 cf.2.2.2.2.2] at he
  have hM : (M.1, M.2.1, up2 M.2.2.1 k j (some v), M.2.2.2) = M' := Option.some.inj h3
  refine va_put hC.1 hC.2.1 hC.2.2.2.2 cf.2.1 ty cf.2.2.1 cf.2.2.2.1 hC.2.2.2.1 hK hW.1 (ws_D hAd) hW.2 k he cf.1 j hj (hC.2.2.2.2 _ hlink) (fun _ h => h) hfin (ty := .object O) (by rw [cf.2.2.1 j hj, hty]) rfl rfl (by simp [cf.2.2.2.2.1]; exact hj) hdg (fun H1 locs1 hP1 _ hS1 => kk H1 locs1 ⟨?_, hS1⟩)
  rw [ws_set (M' := M') (by rw [← hM]) ?_ ?_] at hP1
  · exact hP1
  · rw [cel_o h2 cf.2.2.2.2.2, fv_set (M := M) (v := .ref (ad v)) cf.2.2.2.2.1 hj]
    · rw [hft, ← hM]; simp [fvl, up2_s, va_rf]
    · intro i hi; rw [← hM]; simp [fvl, up2_n hi]
  · rw [← hM]; exact cel_up (fun _ _ => rfl) (fun j hj => up2_o hj) (fun _ _ => rfl)
theorem r_aI {k : Nat} {i v : Int32} (hC : CallFix p m c cc nL s args tblG own) (hK : va_K D vwCl (tysOf cA) s) (hW : Wd D cA ad A s M H locs) (hg : aI 20 M k i = some v) (hdg : decode cc pc = .ok (.iaload, 1))
    (kk : W p l e R s m args below meth c H locs cells slots Q (F0 m (pc + 1) ls (.int v :: rest))) : W p l e R s m args below meth c H locs cells slots Q (F0 m pc ls (.int i :: .ref (ad k) :: rest)) := by
  obtain ⟨⟨h1, h2, h3⟩, h4⟩ := so hg
  have he := ws_get (cA := cA) (ad := ad) h1
  rw [cel_i h2 (by decide) (by decide)] at he
  refine va_iald hC.1 hC.2.1 hK hW.1 k 0 he rfl h3 hdg ?_
  rw [Option.some.inj h4]
  exact kk
theorem r_aC {k : Nat} {i v : Int32} (hC : CallFix p m c cc nL s args tblG own) (hK : va_K D vwCl (tysOf cA) s) (hW : Wd D cA ad A s M H locs) (hg : aI 21 M k i = some v) (hdg : decode cc pc = .ok (.caload, 1))
    (kk : W p l e R s m args below meth c H locs cells slots Q (F0 m (pc + 1) ls (.int v :: rest))) : W p l e R s m args below meth c H locs cells slots Q (F0 m pc ls (.int i :: .ref (ad k) :: rest)) := by
  obtain ⟨⟨h1, h2, h3⟩, h4⟩ := so hg
  have he := ws_get (cA := cA) (ad := ad) h1
  rw [cel_i h2 (by decide) (by decide)] at he
  refine va_cald hC.1 hC.2.1 hK hW.1 k 1 he rfl h3 hdg ?_
  rw [Option.some.inj h4]
  exact kk
theorem r_aZ {k : Nat} {i v : Int32} (hC : CallFix p m c cc nL s args tblG own) (hK : va_K D vwCl (tysOf cA) s) (hW : Wd D cA ad A s M H locs) (hg : aI 22 M k i = some v) (hdg : decode cc pc = .ok (.baload, 1))
    (kk : W p l e R s m args below meth c H locs cells slots Q (F0 m (pc + 1) ls (.int v :: rest))) : W p l e R s m args below meth c H locs cells slots Q (F0 m pc ls (.int i :: .ref (ad k) :: rest)) := by
  obtain ⟨⟨h1, h2, h3⟩, h4⟩ := so hg
  have he := ws_get (cA := cA) (ad := ad) h1
  rw [cel_i h2 (by decide) (by decide)] at he
  refine va_zald hC.1 hC.2.1 hK hW.1 k 2 he rfl h3 hdg ?_
  rw [Option.some.inj h4]
  exact kk
theorem sA_ws {t k : Nat} {i v : Int32} (hg : sA t M k i v = some M') (h1 : ¬ t < 20) (h2 : t < 23) {H1 : Heap} (hP1 : va_P D vwCl ((wsM cA ad M).set k (ad k, .inl (cA (t - 20), (lay k).2, .inl (upd (M.2.1 k) i.toNatClampNeg v)))) H1) : va_P D vwCl (wsM cA ad M') H1 := by
  obtain ⟨⟨g1, g2, g3⟩, g4⟩ := so hg
  have hM : (M.1, up2 M.2.1 k i.toNatClampNeg v, M.2.2.1, M.2.2.2) = M' := Option.some.inj g4
  rw [ws_set (M' := M') (by rw [← hM]) ?_ ?_] at hP1
  · exact hP1
  · rw [cel_i g2 h1 h2, ← hM]; simp only [up2_row]
  · rw [← hM]; exact cel_up (fun j hj => up2_o hj) (fun _ _ => rfl) (fun _ _ => rfl)
theorem r_sI {k : Nat} {i v : Int32} (hC : CallFix p m c cc nL s args tblG own) (hK : va_K D vwCl (tysOf cA) s) (hAd : AdOk ad A) (hW : Wd D cA ad A s M H locs) (hg : sI M k i v = some M') (hdg : decode cc pc = .ok (.iastore, 1))
    (kk : ∀ (H1 : Heap) (locs1 : List Loc), Wd D cA ad A s M' H1 locs1 → W p l e R s m args below meth c H1 locs1 cells slots Q (F0 m (pc + 1) ls rest)) : W p l e R s m args below meth c H locs cells slots Q (F0 m pc ls (.int v :: .int i :: .ref (ad k) :: rest)) := by
  obtain ⟨⟨h1, h2, h3⟩, h4⟩ := so hg
  have he := ws_get (cA := cA) (ad := ad) h1
  rw [cel_i h2 (by decide) (by decide)] at he
  exact va_iast hC.1 hC.2.1 hK hW.1 (ws_D hAd) hW.2 k 0 he rfl h3 hdg (fun H1 locs1 hP1 _ hS1 => kk H1 locs1 ⟨sA_ws hg (by decide) (by decide) hP1, hS1⟩)
theorem r_sC {k : Nat} {i v : Int32} (hC : CallFix p m c cc nL s args tblG own) (hK : va_K D vwCl (tysOf cA) s) (hAd : AdOk ad A) (hW : Wd D cA ad A s M H locs) (hg : sC M k i v = some M') (hdg : decode cc pc = .ok (.castore, 1))
    (kk : ∀ (H1 : Heap) (locs1 : List Loc), Wd D cA ad A s M' H1 locs1 → W p l e R s m args below meth c H1 locs1 cells slots Q (F0 m (pc + 1) ls rest)) : W p l e R s m args below meth c H locs cells slots Q (F0 m pc ls (.int v :: .int i :: .ref (ad k) :: rest)) := by
  obtain ⟨⟨h1, h2, h3⟩, h4⟩ := so hg
  have he := ws_get (cA := cA) (ad := ad) h1
  rw [cel_i h2 (by decide) (by decide)] at he
  exact va_cast hC.1 hC.2.1 hK hW.1 (ws_D hAd) hW.2 k 1 he rfl h3 hdg (fun H1 locs1 hP1 _ hS1 => kk H1 locs1 ⟨sA_ws hg (by decide) (by decide) hP1, hS1⟩)
theorem r_sZ {k : Nat} {i v : Int32} (hC : CallFix p m c cc nL s args tblG own) (hK : va_K D vwCl (tysOf cA) s) (hAd : AdOk ad A) (hW : Wd D cA ad A s M H locs) (hg : sZ M k i v = some M') (hdg : decode cc pc = .ok (.bastore, 1))
    (kk : ∀ (H1 : Heap) (locs1 : List Loc), Wd D cA ad A s M' H1 locs1 → W p l e R s m args below meth c H1 locs1 cells slots Q (F0 m (pc + 1) ls rest)) : W p l e R s m args below meth c H locs cells slots Q (F0 m pc ls (.int v :: .int i :: .ref (ad k) :: rest)) := by
  obtain ⟨⟨h1, h2, h3⟩, h4⟩ := so hg
  have he := ws_get (cA := cA) (ad := ad) h1
  rw [cel_i h2 (by decide) (by decide)] at he
  exact va_zast hC.1 hC.2.1 hK hW.1 (ws_D hAd) hW.2 k 2 he rfl h3 hdg (fun H1 locs1 hP1 _ hS1 => kk H1 locs1 ⟨sA_ws hg (by decide) (by decide) hP1, hS1⟩)
theorem r_aR {t k v : Nat} {i : Int32} (hC : CallFix p m c cc nL s args tblG own) (hK : va_K D vwCl (tysOf cA) s) (hW : Wd D cA ad A s M H locs) (ht : t = 23 ∨ t = 24) (hg : aR t M k i = some v) (hdg : decode cc pc = .ok (.aaload, 1))
    (kk : W p l e R s m args below meth c H locs cells slots Q (F0 m (pc + 1) ls (.ref (ad v) :: rest))) : W p l e R s m args below meth c H locs cells slots Q (F0 m pc ls (.int i :: .ref (ad k) :: rest)) := by
  obtain ⟨⟨h1, h2, h3⟩, h4⟩ := so hg
  have he := ws_get (cA := cA) (ad := ad) h1
  rcases ht with rfl | rfl
  · rw [cel_r h2 (by decide)] at he
    refine va_aldq (C := "TrayTurns$Now") hC.1 hC.2.1 hK hW.1 k 3 he rfl h3 hdg ?_
    rw [h4]
    exact kk
  · rw [cel_r h2 (by decide)] at he
    refine va_aldq (C := "TrayTurns$GuestKind") hC.1 hC.2.1 hK hW.1 k 4 he rfl h3 hdg ?_
    rw [h4]
    exact kk
theorem r_sR {k r : Nat} {i : Int32} (hC : CallFix p m c cc nL s args tblG own) (hK : va_K D vwCl (tysOf cA) s) (hAd : AdOk ad A) (hW : Wd D cA ad A s M H locs) (hg : sR 23 7 M k i r = some M') (hdg : decode cc pc = .ok (.aastore, 1))
    (kk : ∀ (H1 : Heap) (locs1 : List Loc), Wd D cA ad A s M' H1 locs1 → W p l e R s m args below meth c H1 locs1 cells slots Q (F0 m (pc + 1) ls rest)) : W p l e R s m args below meth c H locs cells slots Q (F0 m pc ls (.ref (ad r) :: .int i :: .ref (ad k) :: rest)) := by
  obtain ⟨⟨h1, h2, h5, h6, h3⟩, h4⟩ := so hg
  have he := ws_get (cA := cA) (ad := ad) h1
  have hr := ws_get (cA := cA) (ad := ad) h5
  rw [cel_r h2 (by decide)] at he
  rw [cel_o h6 (by decide)] at hr
  have hM : (M.1, M.2.1, up2 M.2.2.1 k i.toNatClampNeg (some r), M.2.2.2) = M' := Option.some.inj h4
  refine va_astq (r := (RX7, TX7, 5)) hC.1 hC.2.1 hK hW.1 (ws_D hAd) hW.2 k 3 r 7 he rfl hr rfl h3 hdg (fun H1 locs1 hP1 _ hS1 => kk H1 locs1 ⟨?_, hS1⟩)
  rw [ws_set (M' := M') (by rw [← hM]) ?_ ?_] at hP1
  · exact hP1
  · rw [cel_r h2 (by decide), ← hM]
    congr 7
    funext q
    by_cases hq : q = i.toNatClampNeg
    · subst hq; simp [va_up, up2]
    · simp [va_up, up2, hq]
  · rw [← hM]; exact cel_up (fun _ _ => rfl) (fun j hj => up2_o hj) (fun _ _ => rfl)
theorem r_aL {k : Nat} {v : Int32} (hC : CallFix p m c cc nL s args tblG own) (hK : va_K D vwCl (tysOf cA) s) (hW : Wd D cA ad A s M H locs) (hg : aL 20 M k = some v) (hdg : decode cc pc = .ok (.arraylength, 1))
    (kk : W p l e R s m args below meth c H locs cells slots Q (F0 m (pc + 1) ls (.int v :: rest))) : W p l e R s m args below meth c H locs cells slots Q (F0 m pc ls (.ref (ad k) :: rest)) := by
  obtain ⟨⟨h1, h2⟩, h4⟩ := so hg
  have he := ws_get (cA := cA) (ad := ad) h1
  rw [cel_i h2 (by decide) (by decide)] at he
  exact va_alen hC.1 hC.2.1 hK hW.1 k 0 he rfl (Option.some.inj h4) hdg kk
theorem r_cp {k1 k2 index d : Nat} {sp dp n : Int32} (hC : CallFix p m c cc nL s args tblG own) (hK : va_K D vwCl (tysOf cA) s) (hAd : AdOk ad A) (hW : Wd D cA ad A s M H locs) (hlink : Cond.methodLink own index arraycopyName ∈ tblG) (hl : ls.size = nL) (hg : cpI M k1 sp k2 dp n = some M') (hdg : decode cc pc = .ok (.invokestatic index, 3))
    (kk : ∀ (H1 : Heap) (locs1 : List Loc), Wd D cA ad A s M' H1 locs1 → W p l e (rmD (d + 1)) s m args below meth c H1 locs1 cells slots Q (F0 m (pc + 3) ls [])) : W p l e (rmD (d + 1)) s m args below meth c H locs cells slots Q (F0 m pc ls (.int n :: .int dp :: .ref (ad k2) :: .int sp :: .ref (ad k1) :: [])) := by
  obtain ⟨⟨h1, h2, h3, h4, h5, h6, h7, h8, h9⟩, h10⟩ := so hg
  have he1 := ws_get (cA := cA) (ad := ad) h1
  have he2 := ws_get (cA := cA) (ad := ad) h3
  rw [cel_i h2 (by decide) (by decide)] at he1
  rw [cel_i h4 (by decide) (by decide)] at he2
  have hM := Option.some.inj h10
  refine va_copyi hC.1 hC.2.1 (by rw [hC.2.2.1, hl]) hC.2.2.2.1 (hC.2.2.2.2 _ hlink) (hC.2.2.2.2 _ w_nat_copy) (hC.2.2.2.2 _ w_st_copy) (hC.2.2.2.2 _ w_in_sys) hK hW.1 (ws_D hAd) hW.2 k1 k2 0 0 he1 he2 rfl rfl rfl h5 h6 h7 h8 h9 (fun _ _ => rfl) (Nat.le_add_left 1 d) ?_ hdg (fun H1 locs1 hP1 _ hS1 => kk H1 locs1 ⟨?_, hS1⟩)
  · have h20 : nativeFrameWords "java/lang/System" "arraycopy" 5 + 11 ≤ 32 := by decide
    show _ ≤ 32 * (d + 1)
    simp only [List.map_nil, List.sum_nil]
    omega
  · rw [ws_set (M' := M') (by rw [← hM]) ?_ ?_] at hP1
    · exact hP1
    · rw [cel_i h4 (by decide) (by decide), ← hM]; simp only [upR_s]
    · rw [← hM]; exact cel_up (fun j hj => upR_o hj) (fun _ _ => rfl) (fun _ _ => rfl)
theorem r_min {index d : Nat} {x y : Int32} (hC : CallFix p m c cc nL s args tblG own) (hlink : Cond.methodLink own index Lib.Math.min.name ∈ tblG) (hl : ls.size = nL) (hr : (rest.map fun v => v.category).sum ≤ 8) (hc : cells = 0) (hs : slots = 0) (hdg : decode cc pc = .ok (.invokestatic index, 3))
    (kk : W p l e (rmD (d + 1)) s m args below meth c H locs cells slots Q (F0 m (pc + 3) ls (.int (if y < x then y else x) :: rest))) : W p l e (rmD (d + 1)) s m args below meth c H locs cells slots Q (F0 m pc ls (.int y :: .int x :: rest)) :=
  va_mmin hC.1 hC.2.1 (by rw [hC.2.2.1, hl]) hC.2.2.2.1 (hC.2.2.2.2 _ hlink) (hC.2.2.2.2 _ w_st_min) (hC.2.2.2.2 _ w_in_math) (hC.2.2.2.2 _ w_cd_min) (Nat.le_add_left 1 d) (by show _ ≤ 32 * (d + 1); omega) (by rw [hc]; exact Nat.zero_le _) (by rw [hs]; exact Nat.zero_le _) hdg kk
theorem r_max {index d : Nat} {x y : Int32} (hC : CallFix p m c cc nL s args tblG own) (hlink : Cond.methodLink own index Lib.Math.max.name ∈ tblG) (hl : ls.size = nL) (hr : (rest.map fun v => v.category).sum ≤ 8) (hc : cells = 0) (hs : slots = 0) (hdg : decode cc pc = .ok (.invokestatic index, 3))
    (kk : W p l e (rmD (d + 1)) s m args below meth c H locs cells slots Q (F0 m (pc + 3) ls (.int (if x < y then y else x) :: rest))) : W p l e (rmD (d + 1)) s m args below meth c H locs cells slots Q (F0 m pc ls (.int y :: .int x :: rest)) :=
  va_mmax hC.1 hC.2.1 (by rw [hC.2.2.1, hl]) hC.2.2.2.1 (hC.2.2.2.2 _ hlink) (hC.2.2.2.2 _ w_st_max) (hC.2.2.2.2 _ w_in_math) (hC.2.2.2.2 _ w_cd_max) (Nat.le_add_left 1 d) (by show _ ≤ 32 * (d + 1); omega) (by rw [hc]; exact Nat.zero_le _) (by rw [hs]; exact Nat.zero_le _) hdg kk
theorem r_iret {v : Int32} {q : Int32 × Mem} (hC : CallFix p m c cc nL s args tblG own) (hr : meth.sig.returnType = some .int) (hlocks : meth.locks = false) (hW : Wd D cA ad A s M H locs) (hf : some (v, M) = some q) (hdg : decode cc pc = .ok (.ireturn, 1)) : W p l e R s m args below meth c H locs cells slots (MQ below (QI D cA ad A q.1 q.2) args s cells slots A) (F0 m pc ls [.int v]) := by
  cases hf
  exact W.iret hC.1 hC.2.1 hr (fun t ht hWm => ⟨⟨v, (), rfl, rfl, by show va_P D vwCl (wsM cA ad _) t.heap; rw [ht]; exact hW.1⟩, hW.2.F ht⟩) hW.2.2.2 hdg hlocks
theorem r_iretP {v q : Int32} (hC : CallFix p m c cc nL s args tblG own) (hr : meth.sig.returnType = some .int) (hlocks : meth.locks = false) (hW : Wd D cA ad A s M H locs) (hf : some v = some q) (hdg : decode cc pc = .ok (.ireturn, 1)) : W p l e R s m args below meth c H locs cells slots (MQ below (QI D cA ad A q M) args s cells slots A) (F0 m pc ls [.int v]) := by
  cases hf
  exact W.iret hC.1 hC.2.1 hr (fun t ht hWm => ⟨⟨v, (), rfl, rfl, by show va_P D vwCl (wsM cA ad _) t.heap; rw [ht]; exact hW.1⟩, hW.2.F ht⟩) hW.2.2.2 hdg hlocks
theorem zr_n {v r : Int32} (h : zr v = some r) : r = v ∧ narrow .boolean (.int v) = .int v := by
  obtain ⟨h1, h2⟩ := so h
  refine ⟨(Option.some.inj h2).symm, ?_⟩
  rcases h1 with rfl | rfl <;> decide
theorem r_zret {v : Int32} {q : Int32 × Mem} (hC : CallFix p m c cc nL s args tblG own) (hr : meth.sig.returnType = some .boolean) (hlocks : meth.locks = false) (hW : Wd D cA ad A s M H locs) (hf : (zr v).bind (fun r => some (r, M)) = some q) (hdg : decode cc pc = .ok (.ireturn, 1)) : W p l e R s m args below meth c H locs cells slots (MQ below (QI D cA ad A q.1 q.2) args s cells slots A) (F0 m pc ls [.int v]) := by
  obtain ⟨r, h1, h2⟩ := ob hf
  obtain ⟨rfl, h3⟩ := zr_n h1
  cases h2
  exact W.zret hC.1 hC.2.1 hr h3 (fun t ht hWm => ⟨⟨_, (), rfl, rfl, by show va_P D vwCl (wsM cA ad _) t.heap; rw [ht]; exact hW.1⟩, hW.2.F ht⟩) hW.2.2.2 hdg hlocks
theorem r_zretP {v q : Int32} (hC : CallFix p m c cc nL s args tblG own) (hr : meth.sig.returnType = some .boolean) (hlocks : meth.locks = false) (hW : Wd D cA ad A s M H locs) (hf : zr v = some q) (hdg : decode cc pc = .ok (.ireturn, 1)) : W p l e R s m args below meth c H locs cells slots (MQ below (QI D cA ad A q M) args s cells slots A) (F0 m pc ls [.int v]) := by
  obtain ⟨rfl, h3⟩ := zr_n hf
  exact W.zret hC.1 hC.2.1 hr h3 (fun t ht hWm => ⟨⟨_, (), rfl, rfl, by show va_P D vwCl (wsM cA ad _) t.heap; rw [ht]; exact hW.1⟩, hW.2.F ht⟩) hW.2.2.2 hdg hlocks
theorem r_vret {q : Mem} (hC : CallFix p m c cc nL s args tblG own) (hr : meth.sig.returnType = none) (hlocks : meth.locks = false) (hW : Wd D cA ad A s M H locs) (hf : some M = some q) (hdg : decode cc pc = .ok (.return_, 1)) : W p l e R s m args below meth c H locs cells slots (MQ below (QV D cA ad A q) args s cells slots A) (F0 m pc ls []) := by
  cases hf
  exact W.vret hC.1 hC.2.1 hr (fun t ht hWm => ⟨⟨(), rfl, trivial, by show va_P D vwCl (wsM cA ad _) t.heap; rw [ht]; exact hW.1⟩, hW.2.F ht⟩) hW.2.2.2 hdg hlocks
theorem r_lretP {v q : Int64} (hC : CallFix p m c cc nL s args tblG own) (hr : meth.sig.returnType = some .long) (hlocks : meth.locks = false) (hW : Wd D cA ad A s M H locs) (hf : some v = some q) (hdg : decode cc pc = .ok (.lreturn, 1)) : W p l e R s m args below meth c H locs cells slots (MQ below (QL D cA ad A q M) args s cells slots A) (F0 m pc ls [.long v]) := by
  cases hf
  exact W.lret hC.1 hC.2.1 hr (fun t ht hWm => ⟨⟨v, (), rfl, rfl, by show va_P D vwCl (wsM cA ad _) t.heap; rw [ht]; exact hW.1⟩, hW.2.F ht⟩) hW.2.2.2 hdg hlocks
theorem r_lret {v : Int64} {q : Int64 × Mem} (hC : CallFix p m c cc nL s args tblG own) (hr : meth.sig.returnType = some .long) (hlocks : meth.locks = false) (hW : Wd D cA ad A s M H locs) (hf : some (v, M) = some q) (hdg : decode cc pc = .ok (.lreturn, 1)) : W p l e R s m args below meth c H locs cells slots (MQ below (QL D cA ad A q.1 q.2) args s cells slots A) (F0 m pc ls [.long v]) := by
  cases hf
  exact W.lret hC.1 hC.2.1 hr (fun t ht hWm => ⟨⟨v, (), rfl, rfl, by show va_P D vwCl (wsM cA ad _) t.heap; rw [ht]; exact hW.1⟩, hW.2.F ht⟩) hW.2.2.2 hdg hlocks
theorem r_aret {v : Nat} {C : String} {q : Nat × Mem} (hC : CallFix p m c cc nL s args tblG own) (hr : meth.sig.returnType = some (.object C)) (hlocks : meth.locks = false) (hW : Wd D cA ad A s M H locs) (hf : some (v, M) = some q) (hdg : decode cc pc = .ok (.areturn, 1)) : W p l e R s m args below meth c H locs cells slots (MQ below (QR D cA ad A q.1 q.2) args s cells slots A) (F0 m pc ls [.ref (ad v)]) := by
  cases hf
  exact W.aret hC.1 hC.2.1 hr (Or.inl ⟨_, rfl⟩) (Or.inr ⟨_, rfl⟩) (fun t ht hWm => ⟨⟨(), _, rfl, trivial, rfl, by show va_P D vwCl (wsM cA ad _) t.heap; rw [ht]; exact hW.1⟩, hW.2.F ht⟩) hW.2.2.2 hdg hlocks
/-- the callee's start out of the caller's world -/
theorem pre_s {av : List Value} (hK : va_K D vwCl (tysOf cA) s) (hW : Wd D cA ad A s M H locs) : PreS s H (PcW D cA ad av M) av :=
  ⟨fun a U g mk q => ⟨q.1, q.2.1, va_K.moved (u := U) (U := U.calling g mk a) (Vm.Alike.refl U.vm) q.2.2⟩, fun U hU hWm => ⟨rfl, by rw [hU]; exact hW.1, va_K.moved hWm.alike hK⟩⟩
theorem pre_v {k ci : Nat} {C : String} {T : u_T} {N : Nat} {ty : Nat → FieldType} {As : List Value} (cf : CF ci C T N ty) (h1 : k < M.1) (h2 : (lay k).1 = ci) (hK : va_K D vwCl (tysOf cA) s) (hW : Wd D cA ad A s M H locs) : PreV s H C (ad k) (PcW D cA ad (.ref (ad k) :: As) M) As := by
  refine ⟨(pre_s hK hW).1, ?_, (pre_s hK hW).2⟩
  have he := ws_get (cA := cA) (ad := ad) h1
  rw [cel_o h2 cf.2.2.2.2.2] at he
  exact va_recv hK hW.1 cf.1 he
theorem cv_s {α : Type} {k ci : Nat} {o : Option α} {r : α} (h : cv M k ci o = some r) : (k < M.1 ∧ (lay k).1 = ci) ∧ o = some r := so h
end RW
section RX
variable {p : Program} {l : Launch} {e : Env} {R : Room} {s : State} {m : MethodId} {args : Array Value} {below : List Frame} {meth : Method} {c : Code} {H : Heap} {locs : List Loc} {cells slots : Nat} {Q : State → Prop}
variable {cc : ByteArray} {pc nL : Nat} {ls : Array Slot} {rest : List Value} {D : va_G} {cA : Nat → ClassId} {ad : Nat → Nat} {A : Nat → Prop} {own : String} {M M' : Mem}
theorem r_div {x y v : Int32} (hC : CallFix p m c cc nL s args tblG own) (hg : dvI x y = some v) (hdg : decode cc pc = .ok (.idiv, 1)) (kk : W p l e R s m args below meth c H locs cells slots Q (F0 m (pc + 1) ls (.int v :: rest))) : W p l e R s m args below meth c H locs cells slots Q (F0 m pc ls (.int y :: .int x :: rest)) := by
  unfold dvI at hg
  by_cases h : y = 0
  · rw [if_pos h] at hg; cases hg
  · rw [if_neg h] at hg; cases hg; exact lv_idiv hC.1 hC.2.1 hdg h kk
theorem r_rem {x y v : Int32} (hC : CallFix p m c cc nL s args tblG own) (hg : rmI x y = some v) (hdg : decode cc pc = .ok (.irem, 1)) (kk : W p l e R s m args below meth c H locs cells slots Q (F0 m (pc + 1) ls (.int v :: rest))) : W p l e R s m args below meth c H locs cells slots Q (F0 m pc ls (.int y :: .int x :: rest)) := by
  unfold rmI at hg
  by_cases h : y = 0
  · rw [if_pos h] at hg; cases hg
  · rw [if_neg h] at hg; cases hg; exact lv_irem hC.1 hC.2.1 hdg h kk
/-- a walk from the entry gives a contract: the method's own name has no row among the natives -/
theorem met_ofF {y : MethodName} {ws ws' : List Cond} {rm : Room} {Pc : Array Value → State → Prop} {Qc : Array Value → State → Outcome → State → Prop} {mc ms : Nat} {free : Addr → Prop} {cd : ByteArray} {maxL : Nat} {ret : Option FieldType} (hy : plainFor y = true) (hw : ws = Cond.code y cd maxL ret :: ws')
    (body : ∀ p e s m args below meth c s₁, BodyLoose p l y (headSpec ws rm) cd maxL ret e s m args below meth c s₁ → c.maxLocals = maxL → Pc args s → W p l e (headSpec ws rm).room s m args below meth c s.heap [] 0 0 (MQ below Qc args s mc ms free) (entryFrame m args maxL)) : Met l y ws rm Pc Qc mc ms free := by
  refine MetFree.of_bodySF (code := cd) (maxLocals := maxL) (ret := ret) hy (fun args s m h hn => ?_) (fun p e s m args below meth c s₁ B hml hP _ => ?_)
  · obtain ⟨meth, c, h1, h2, h3, h4, h5, h6, -, -⟩ := Cond.code_spec hn (atoms_spec (ws := ws) h _ (by rw [hw]; exact List.mem_cons_self))
    exact ⟨meth, c, h1, h2, h3, h4, h5, h6⟩
  · have hh0 : s₁.heap = s.heap := by rw [B.state]; rfl
    obtain ⟨t, a1, o, b1, b2, b3⟩ := body p e s m args below meth c s₁ B hml hP s₁ hh0 (Stand.of_body B)
    exact ⟨t, o, a1, b1, b2, ⟨b3.1, b3.2⟩⟩
/-- a contract out of a walk from the entry -/
theorem mk_met {y : MethodName} {bytes : ByteArray} {maxL d : Nat} {ret : Option FieldType} {av : List Value} {Qc : Array Value → State → Outcome → State → Prop} (hp : plainFor y = true) (ho : y.cls = own) (hlen : (lg_sl av).length ≤ maxL)
    (body : ∀ (p : Program) (e : Env) (s : State) (m : MethodId) (args : Array Value) (below : List Frame) (meth : Method) (c : Code), CallFix p m c bytes maxL s args tblG own → meth.sig.returnType = ret → meth.locks = false → va_K D vwCl (tysOf cA) s → ∀ (H : Heap) (locs : List Loc) (ls : Array Slot), Wd D cA ad A s M H locs → lv_has ls maxL (lv_args 0 av) → W p l e (rmD d) s m args below meth c H locs 0 0 (MQ below Qc args s 0 0 A) (F0 m 0 ls [])) :
    Met l y (wd y bytes maxL ret) (rmD d) (PcW D cA ad av M) Qc 0 0 A := by
  refine met_ofF (cd := bytes) (maxL := maxL) (ret := ret) hp rfl ?_
  intro p e s m args below meth c s₁ B hml hv
  obtain ⟨rfl, hP, hK⟩ := hv
  rw [lg_entry_eq]
  exact body p e s m av.toArray below meth c ⟨B.exec, B.bytes, hml, by rw [← ho]; exact findClass_of_methodNamed B.named, tb (atoms_spec (ws := wd y bytes maxL ret) B.pre)⟩ B.returns B.notSynchronized hK s.heap [] _ ⟨hP, va_S.rf⟩ (lv_entry av hlen)
end RX

