/-! constructors: rows that also say the heap's size, so that cell number k lies at base + k -/
def AdB (ad : Nat → Nat) (base : Nat) : Prop := ∀ k, ad k = base + k
/-- the world of a constructor -/
def Wz (D : va_G) (cA : Nat → ClassId) (ad : Nat → Nat) (A : Nat → Prop) (base : Nat) (s : State) (M : Mem) (H : Heap) (locs : List Loc) : Prop := Wd D cA ad A s M H locs ∧ H.size = base + M.1
/-- what constructors ask of the tables beside the good words: nest mates, arrays of references, casts -/
def nestW : List Cond := [.methodLinkNest RX11 9 yX9_init RX11, .methodLinkNest RX9 17 yX8_init RX11, .methodLinkNest RX8 27 yX7_init RX11, .methodLinkNest RX11 18 yX5_init RX11, .methodLinkNest RX11 25 yX0_init RX11, .methodLinkNest RX11 38 yX8_init RX11, .methodLinkNest RX11 45 yX7_init RX11, .methodLinkNest RX11 77 yX6_init RX11, .methodLinkNest RX11 80 yX10_init RX11, .methodLinkNest RX10 1 yX6_init RX11, .methodLinkNest RX11 83 yX1_init RX11, .methodLinkNest RX1 1 yX6_init RX11, .methodLinkNest RX11 86 yX2_init RX11, .methodLinkNest RX2 1 yX10_init RX11, .methodLinkNest RX11 89 yX4_init RX11, .methodLinkNest RX4 1 yX1_init RX11, .methodLinkNest RX11 92 yX3_init RX11, .methodLinkNest RX3 1 yX6_init RX11]
def NL (own : String) (idx : Nat) (y : MethodName) (U : State) : Prop := va_Nw (.methodLinkNest own idx y RX11) U
def NX (U : State) : Prop := (NL RX11 9 yX9_init U ∧ NL RX9 17 yX8_init U ∧ NL RX8 27 yX7_init U ∧ NL RX11 18 yX5_init U ∧ NL RX11 25 yX0_init U ∧ NL RX11 38 yX8_init U ∧ NL RX11 45 yX7_init U ∧ NL RX11 77 yX6_init U ∧ NL RX11 80 yX10_init U ∧ NL RX10 1 yX6_init U ∧ NL RX11 83 yX1_init U ∧ NL RX1 1 yX6_init U ∧ NL RX11 86 yX2_init U ∧ NL RX2 1 yX10_init U ∧ NL RX11 89 yX4_init U ∧ NL RX4 1 yX1_init U ∧ NL RX11 92 yX3_init U ∧ NL RX3 1 yX6_init U) ∧ (va_AO RX7 U ∧ va_AO RX6 U) ∧ (va_Nw (.castable RX10 RX6) U ∧ va_Nw (.castable RX1 RX6) U ∧ va_Nw (.castable RX2 RX6) U ∧ va_Nw (.castable RX4 RX6) U ∧ va_Nw (.castable RX3 RX6) U)
theorem NX.warm {s U : State} (hW : s.WarmedH U.vm) (h : NX s) : NX U := by
  obtain ⟨⟨a1, a2, a3, a4, a5, a6, a7, a8, a9, a10, a11, a12, a13, a14, a15, a16, a17, a18⟩, ⟨b1, b2⟩, c1, c2, c3, c4, c5⟩ := h
  exact ⟨⟨va_Nw.warmM hW a1, va_Nw.warmM hW a2, va_Nw.warmM hW a3, va_Nw.warmM hW a4, va_Nw.warmM hW a5, va_Nw.warmM hW a6, va_Nw.warmM hW a7, va_Nw.warmM hW a8, va_Nw.warmM hW a9, va_Nw.warmM hW a10, va_Nw.warmM hW a11, va_Nw.warmM hW a12, va_Nw.warmM hW a13, va_Nw.warmM hW a14, va_Nw.warmM hW a15, va_Nw.warmM hW a16, va_Nw.warmM hW a17, va_Nw.warmM hW a18⟩, ⟨va_AO.moved hW.alike b1, va_AO.moved hW.alike b2⟩, va_Nw.warmC hW c1, va_Nw.warmC hW c2, va_Nw.warmC hW c3, va_Nw.warmC hW c4, va_Nw.warmC hW c5⟩
theorem NX.same {u U : State} (hv : u.vm = U.vm) (h : NX u) : NX U := by
  obtain ⟨⟨a1, a2, a3, a4, a5, a6, a7, a8, a9, a10, a11, a12, a13, a14, a15, a16, a17, a18⟩, ⟨b1, b2⟩, c1, c2, c3, c4, c5⟩ := h
  have hA : u.vm.Alike U.vm := by rw [hv]; exact Vm.Alike.refl _
  exact ⟨⟨va_Nw.same rfl hv a1, va_Nw.same rfl hv a2, va_Nw.same rfl hv a3, va_Nw.same rfl hv a4, va_Nw.same rfl hv a5, va_Nw.same rfl hv a6, va_Nw.same rfl hv a7, va_Nw.same rfl hv a8, va_Nw.same rfl hv a9, va_Nw.same rfl hv a10, va_Nw.same rfl hv a11, va_Nw.same rfl hv a12, va_Nw.same rfl hv a13, va_Nw.same rfl hv a14, va_Nw.same rfl hv a15, va_Nw.same rfl hv a16, va_Nw.same rfl hv a17, va_Nw.same rfl hv a18⟩, ⟨va_AO.moved hA b1, va_AO.moved hA b2⟩, va_Nw.same rfl hv c1, va_Nw.same rfl hv c2, va_Nw.same rfl hv c3, va_Nw.same rfl hv c4, va_Nw.same rfl hv c5⟩
def rmZ (d mc ms : Nat) : Room := { frames := d, cells := mc, slots := ms, locals := 32 * d }
def PcZ (D : va_G) (cA : Nat → ClassId) (ad : Nat → Nat) (base : Nat) (av : List Value) (M : Mem) : Array Value → State → Prop := va_Pc av (fun U => va_P D vwCl (wsM cA ad M) U.heap ∧ va_K D vwCl (tysOf cA) U ∧ U.heap.size = base + M.1 ∧ NX U)
def QZ (D : va_G) (cA : Nat → ClassId) (ad : Nat → Nat) (A : Nat → Prop) (base : Nat) (M : Mem) : Array Value → State → Outcome → State → Prop := va_Qv (fun (_ : Unit) => True) (fun _ t => va_P D vwCl (wsM cA ad M) t.heap ∧ t.heap.size = base + M.1) A
section ZW
variable {p : Program} {l : Launch} {e : Env} {R : Room} {s : State} {m : MethodId} {args : Array Value} {below : List Frame} {meth : Method} {c : Code} {H : Heap} {locs : List Loc} {cells slots : Nat} {Q : State → Prop}
variable {cc : ByteArray} {pc nL : Nat} {ls : Array Slot} {rest st : List Value} {D : va_G} {cA : Nat → ClassId} {ad : Nat → Nat} {A : Nat → Prop} {base : Nat} {own : String} {M M' : Mem}
variable {C : String} {T : u_T} {N ci j index k : Nat} {ty : Nat → FieldType}
theorem z_putN {ty0 : FieldType} {v : Value} (hC : CallFix p m c cc nL s args tblG own) (hK : va_K D vwCl (tysOf cA) s) (hAd : AdOk ad A) (hW : Wz D cA ad A base s M H locs) (cf : CF ci C T N ty) (h1 : k < M.1) (h2 : (lay k).1 = ci) (hj : j < N) (hlink : Cond.fieldLink own index (T j).1 (T j).2.1 (T j).2.2.1 ∈ tblG) (hfin : (T j).2.2.2 = false) (hty : ty j = ty0) (hn : narrow ty0 v = v) (hfit : fits ty0 v = true) (hdg : decode cc pc = .ok (.putfield index, 3))
    (kk : ∀ (H1 : Heap) (locs1 : List Loc), va_P D vwCl ((wsM cA ad M).set k (ad k, .inr (ci, ((List.range (nf ci)).map (fun j => fvl ad M (ft ci j) k j)).set j v))) H1 → va_S A s.heap H1 locs1 → H1.size = H.size → W p l e R s m args below meth c H1 locs1 cells slots Q (F0 m (pc + 3) ls rest)) : W p l e R s m args below meth c H locs cells slots Q (F0 m pc ls (v :: .ref (ad k) :: rest)) := by
  have he := ws_get (cA := cA) (ad := ad) h1
  rw [cel_o h2 cf.2.2.2.2.2] at he
  have hin := cf.2.1
  have hts := hC.2.2.2.2
  have hap := va_apart (own := own) hts hin ty cf.2.2.1 cf.2.2.2.1 hK cf.1
  obtain ⟨r, h1', cell, q1, q2, q3, q4⟩ := hW.1.1 k _ he
  have hr : r = (C, T, N) := Option.some.inj (h1'.symm.trans cf.1)
  subst hr
  obtain ⟨hS, hfc, kC, hkC, hkind⟩ := hK.1 ci _ cf.1
  obtain ⟨cf', kf, fi, f, hi, hsl⟩ := hS j hj
  have hlay := hts _ (hin _ (u_in_lay hj))
  unfold u_lay at hlay
  rw [if_neg (by rw [hfin]; decide)] at hlay
  have hst := (u_facts hfc hkC (u_lays hts hin hj) hi).1
  have h6 := u_store hfc hkC hkind hlay hi (show parseFieldDescriptor _ = some ty0 by rw [cf.2.2.1 j hj, hty]) hn hfit
  refine W.putK hC.1 hC.2.1 (f := f) ⟨hC.2.2.2.1, hts _ hlink, ⟨_, _, _, hi⟩, hst⟩ (by rw [q2]; exact h6) q1 q3 (by rw [hsl]; exact k2_hasslot (q4 j hj)) rfl rfl hdg fun H' e1 e2 e3 => ?_
  rw [hsl] at e1 ⊢
  exact kk H' _ (hW.1.1.set (ws_D hAd) he ⟨_, cf.1, t_OB.to (V := updV (vp_V _) j v) ⟨_, e1, q2, q3, t_set q4 hap hj v⟩ (fun i _ => vp_updV_set (by simp [cf.2.2.2.2.1]; exact hj) v i)⟩ e3) (hW.1.2.put e2 e3 (hAd.2 k)) e2
theorem z_putF {ty0 : FieldType} {v : Value} (hC : CallFix p m c cc nL s args tblG own) (hK : va_K D vwCl (tysOf cA) s) (hAd : AdOk ad A) (hW : Wz D cA ad A base s M H locs) (hmn : meth.name = "<init>") (cf : CF ci C T N ty) (h1 : k < M.1) (h2 : (lay k).1 = ci) (hj : j < N) (hlink : Cond.fieldLink own index (T j).1 (T j).2.1 (T j).2.2.1 ∈ tblG) (hfin : (T j).2.2.2 = true) (hdecl : (T j).1 = own) (hty : ty j = ty0) (hn : narrow ty0 v = v) (hfit : fits ty0 v = true) (hdg : decode cc pc = .ok (.putfield index, 3))
    (kk : ∀ (H1 : Heap) (locs1 : List Loc), va_P D vwCl ((wsM cA ad M).set k (ad k, .inr (ci, ((List.range (nf ci)).map (fun j => fvl ad M (ft ci j) k j)).set j v))) H1 → va_S A s.heap H1 locs1 → H1.size = H.size → W p l e R s m args below meth c H1 locs1 cells slots Q (F0 m (pc + 3) ls rest)) : W p l e R s m args below meth c H locs cells slots Q (F0 m pc ls (v :: .ref (ad k) :: rest)) := by
  have he := ws_get (cA := cA) (ad := ad) h1
  rw [cel_o h2 cf.2.2.2.2.2] at he
  have hin := cf.2.1
  have hts := hC.2.2.2.2
  have hap := va_apart (own := own) hts hin ty cf.2.2.1 cf.2.2.2.1 hK cf.1
  obtain ⟨r, h1', cell, q1, q2, q3, q4⟩ := hW.1.1 k _ he
  have hr : r = (C, T, N) := Option.some.inj (h1'.symm.trans cf.1)
  subst hr
  obtain ⟨hS, hfc, kC, hkC, hkind⟩ := hK.1 ci _ cf.1
  obtain ⟨cf', kf, fi, f, hi, hsl⟩ := hS j hj
  have hlay := hts _ (hin _ (u_in_lay hj))
  unfold u_lay at hlay
  rw [if_pos hfin] at hlay
  have hst := (u_facts hfc hkC (u_lays hts hin hj) hi).1
  have hcf : m.cls = cf' := by
    obtain ⟨_, _, c', _, _, _, -, -, hf', -, -, -, hown2, -⟩ := Cond.laysFinal_spec hlay
    have e1 : c' = cf' := by have := hi.symm.trans hf'; simp at this; exact this.1.symm
    rw [hdecl] at hown2
    rw [← e1]; exact Option.some.inj (hC.2.2.2.1.symm.trans hown2)
  have h6 := u_fits hfc hkC hkind (Or.inr hlay) hi (show parseFieldDescriptor _ = some ty0 by rw [cf.2.2.1 j hj, hty]) hn hfit
  refine W.putFinK hC.1 hC.2.1 hC.2.2.2.1 (hts _ hlink) hi hst hcf hmn (by rw [q2]; exact h6) q1 q3 (by rw [hsl]; exact k2_hasslot (q4 j hj)) rfl rfl hdg fun H' e1 e2 e3 => ?_
  rw [hsl] at e1 ⊢
  exact kk H' _ (hW.1.1.set (ws_D hAd) he ⟨_, cf.1, t_OB.to (V := updV (vp_V _) j v) ⟨_, e1, q2, q3, t_set q4 hap hj v⟩ (fun i _ => vp_updV_set (by simp [cf.2.2.2.2.1]; exact hj) v i)⟩ e3) (hW.1.2.put e2 e3 (hAd.2 k)) e2
theorem pI_ws {v : Int32} (cf : CF ci C T N ty) (hj : j < N) (hft : ft ci j = 0) (hg : pI M k ci j v = some M') {H1 : Heap} (hP1 : va_P D vwCl ((wsM cA ad M).set k (ad k, .inr (ci, ((List.range (nf ci)).map (fun j => fvl ad M (ft ci j) k j)).set j (.int v)))) H1) : va_P D vwCl (wsM cA ad M') H1 := by
  obtain ⟨⟨h1, h2⟩, h3⟩ := so hg
  have hM : (M.1, up2 M.2.1 k j v, M.2.2.1, M.2.2.2) = M' := Option.some.inj h3
  rw [ws_set (M' := M') (by rw [← hM]) ?_ ?_] at hP1
  · exact hP1
  · rw [cel_o h2 cf.2.2.2.2.2, fv_set (M := M) (v := .int v) cf.2.2.2.2.1 hj]
    · rw [hft, ← hM]; simp [fvl, up2_s]
    · intro i hi; rw [← hM]; simp [fvl, up2_n hi]
  · rw [← hM]; exact cel_up (fun j hj => up2_o hj) (fun _ _ => rfl) (fun _ _ => rfl)
theorem pR_ws {v : Nat} (cf : CF ci C T N ty) (hj : j < N) (hft : ft ci j = 1) (hg : pR M k ci j v = some M') {H1 : Heap} (hP1 : va_P D vwCl ((wsM cA ad M).set k (ad k, .inr (ci, ((List.range (nf ci)).map (fun j => fvl ad M (ft ci j) k j)).set j (.ref (ad v))))) H1) : va_P D vwCl (wsM cA ad M') H1 := by
  obtain ⟨⟨h1, h2⟩, h3⟩ := so hg
  have hM : (M.1, M.2.1, up2 M.2.2.1 k j (some v), M.2.2.2) = M' := Option.some.inj h3
  rw [ws_set (M' := M') (by rw [← hM]) ?_ ?_] at hP1
  · exact hP1
  · rw [cel_o h2 cf.2.2.2.2.2, fv_set (M := M) (v := .ref (ad v)) cf.2.2.2.2.1 hj]
    · rw [hft, ← hM]; simp [fvl, up2_s, va_rf]
    · intro i hi; rw [← hM]; simp [fvl, up2_n hi]
  · rw [← hM]; exact cel_up (fun _ _ => rfl) (fun j hj => up2_o hj) (fun _ _ => rfl)
theorem z_pI {v : Int32} (hC : CallFix p m c cc nL s args tblG own) (hK : va_K D vwCl (tysOf cA) s) (hAd : AdOk ad A) (hW : Wz D cA ad A base s M H locs) (cf : CF ci C T N ty) (hj : j < N) (hlink : Cond.fieldLink own index (T j).1 (T j).2.1 (T j).2.2.1 ∈ tblG) (hft : ft ci j = 0) (hfin : (T j).2.2.2 = false) (hty : ty j = .int) (hg : pI M k ci j v = some M') (hdg : decode cc pc = .ok (.putfield index, 3))
    (kk : ∀ (H1 : Heap) (locs1 : List Loc), Wz D cA ad A base s M' H1 locs1 → W p l e R s m args below meth c H1 locs1 cells slots Q (F0 m (pc + 3) ls rest)) : W p l e R s m args below meth c H locs cells slots Q (F0 m pc ls (.int v :: .ref (ad k) :: rest)) := by
  obtain ⟨⟨h1, h2⟩, h3⟩ := so hg
  exact z_putN hC hK hAd hW cf h1 h2 hj hlink hfin hty rfl rfl hdg (fun H1 locs1 hP1 hS1 hz => kk H1 locs1 ⟨⟨pI_ws cf hj hft hg hP1, hS1⟩, by rw [hz, hW.2, ← Option.some.inj h3]⟩)
theorem z_pR {v : Nat} {O : String} (hC : CallFix p m c cc nL s args tblG own) (hK : va_K D vwCl (tysOf cA) s) (hAd : AdOk ad A) (hW : Wz D cA ad A base s M H locs) (cf : CF ci C T N ty) (hj : j < N) (hlink : Cond.fieldLink own index (T j).1 (T j).2.1 (T j).2.2.1 ∈ tblG) (hft : ft ci j = 1) (hfin : (T j).2.2.2 = false) (hty : ty j = .object O) (hg : pR M k ci j v = some M') (hdg : decode cc pc = .ok (.putfield index, 3))
    (kk : ∀ (H1 : Heap) (locs1 : List Loc), Wz D cA ad A base s M' H1 locs1 → W p l e R s m args below meth c H1 locs1 cells slots Q (F0 m (pc + 3) ls rest)) : W p l e R s m args below meth c H locs cells slots Q (F0 m pc ls (.ref (ad v) :: .ref (ad k) :: rest)) := by
  obtain ⟨⟨h1, h2⟩, h3⟩ := so hg
  exact z_putN hC hK hAd hW cf h1 h2 hj hlink hfin hty rfl rfl hdg (fun H1 locs1 hP1 hS1 hz => kk H1 locs1 ⟨⟨pR_ws cf hj hft hg hP1, hS1⟩, by rw [hz, hW.2, ← Option.some.inj h3]⟩)
theorem z_pF {v : Nat} {ty0 : FieldType} (hC : CallFix p m c cc nL s args tblG own) (hK : va_K D vwCl (tysOf cA) s) (hAd : AdOk ad A) (hW : Wz D cA ad A base s M H locs) (hmn : meth.name = "<init>") (cf : CF ci C T N ty) (hj : j < N) (hlink : Cond.fieldLink own index (T j).1 (T j).2.1 (T j).2.2.1 ∈ tblG) (hft : ft ci j = 1) (hfin : (T j).2.2.2 = true) (hdecl : (T j).1 = own) (hty : ty j = ty0) (hrt : narrow ty0 (.ref (ad v)) = .ref (ad v)) (hft2 : fits ty0 (.ref (ad v)) = true) (hg : pR M k ci j v = some M') (hdg : decode cc pc = .ok (.putfield index, 3))
    (kk : ∀ (H1 : Heap) (locs1 : List Loc), Wz D cA ad A base s M' H1 locs1 → W p l e R s m args below meth c H1 locs1 cells slots Q (F0 m (pc + 3) ls rest)) : W p l e R s m args below meth c H locs cells slots Q (F0 m pc ls (.ref (ad v) :: .ref (ad k) :: rest)) := by
  obtain ⟨⟨h1, h2⟩, h3⟩ := so hg
  exact z_putF hC hK hAd hW hmn cf h1 h2 hj hlink hfin hdecl hty hrt hft2 hdg (fun H1 locs1 hP1 hS1 hz => kk H1 locs1 ⟨⟨pR_ws cf hj hft hg hP1, hS1⟩, by rw [hz, hW.2, ← Option.some.inj h3]⟩)
/-- a new cell behind the others -/
theorem nC_ws {H1 : Heap} (hB : AdB ad base) (hW : Wz D cA ad A base s M H locs) (z1 : H1.size = ad M.1 + 1) (o1 : ∀ q, q < ad M.1 → H1[q]? = H[q]?) (hnew : va_at D vwCl (ad M.1, cel cA ad (nCell M) M.1) H1) : Wz D cA ad A base s (nCell M) H1 locs := by
  have hz : H.size = ad M.1 := by rw [hW.2, hB]
  refine ⟨⟨fun k q hq => ?_, ?_, fun q h1 h2 => ?_, hW.1.2.2.2⟩, ?_⟩
  · obtain ⟨hk, rfl⟩ := ws_inv hq
    by_cases h : k = M.1
    · subst h; exact hnew
    · have hk' : k < M.1 := by have : k < M.1 + 1 := hk; omega
      have h0 := hW.1.1 k _ (ws_get hk')
      have hc : cel cA ad (nCell M) k = cel cA ad M k := cel_up (k := M.1) (fun j hj => upR_o hj) (fun j hj => upR_o hj) (fun j hj => upR_o hj) k h
      rw [hc]
      exact h0.kept (o1 _ (by show ad k < ad M.1; rw [hB, hB]; omega))
  · have := hW.1.2.1; omega
  · have h3 := hW.1.2.1
    rw [o1 q (by omega)]; exact hW.1.2.2.1 q h1 h2
  · rw [z1, hB]; show base + M.1 + 1 = base + (M.1 + 1); omega
theorem z_nO (hC : CallFix p m c cc nL s args tblG own) (hK : va_K D vwCl (tysOf cA) s) (hB : AdB ad base) (hW : Wz D cA ad A base s M H locs) (cf : CF ci C T N ty) (hcl : Cond.classLink own index C ∈ tblG) (hins : Cond.instantiable C N ∈ tblG) (hini : Cond.initialized C ∈ tblG) (hdf : ∀ j, j < N → defaultValue (ty j) = if ft ci j = 0 then .int 0 else if ft ci j = 1 then .null else .long 0) {q : Nat × Mem} (hg : nO M ci = some q) (hcells : cells + 1 ≤ R.cells) (hslots : slots + N ≤ R.slots) (hdg : decode cc pc = .ok (.new index, 3))
    (kk : ∀ (H1 : Heap), Wz D cA ad A base s q.2 H1 locs → W p l e R s m args below meth c H1 locs (cells + 1) (slots + N) Q (F0 m (pc + 3) ls (.ref (ad q.1) :: rest))) : W p l e R s m args below meth c H locs cells slots Q (F0 m pc ls rest) := by
  obtain ⟨h2, h3⟩ := so hg
  cases h3
  have hKn := hK.1 ci _ cf.1
  refine W.newcK hC.1 hC.2.1 hC.2.2.2.1 (hC.2.2.2.2 _ hcl) (hC.2.2.2.2 _ hins) (hC.2.2.2.2 _ hini) rfl hdg hcells hslots hKn.2.1 (h := ad M.1) (by rw [hW.2, hB]) fun H1 kC hkC e1 z1 o1 => ?_
  refine kk H1 (nC_ws hB hW z1 o1 ?_)
  rw [cel_o h2 cf.2.2.2.2.2]
  refine ⟨_, cf.1, (u_born ty hC.2.2.2.2 cf.2.1 hKn hkC e1 cf.2.2.1).to (fun j hj => ?_)⟩
  have hg2 := fv_get (ad := ad) (M := nCell M) (k := M.1) cf.2.2.2.2.1 hj
  rw [hdf j hj]
  unfold vp_V
  rw [List.getD_eq_getElem?_getD, hg2]
  simp only [Option.getD_some, fvl, nCell, upR_s, Option.map_none, va_rf]
theorem z_nA {t : Nat} {atype : ArrayType} {n : Int32} {N' : Nat} {ty0 : FieldType} (hC : CallFix p m c cc nL s args tblG own) (hK : va_K D vwCl (tysOf cA) s) (hB : AdB ad base) (hW : Wz D cA ad A base s M H locs) (harr : Cond.arrayClass (newarray.typeOf atype) ∈ tblG) (hty : newarray.typeOf atype = ty0) (ht : (tysOf cA)[t - 20]? = some (cA (t - 20), ty0)) (ht1 : ¬ t < 20) (ht2 : t < 23) (hcb : componentBytes ty0 ≤ 4) (hdv : defaultValue ty0 = .int 0) (hRA : va_RA s (cA (t - 20)) ty0 → s.vm.findClass ("[" ++ ty0.toString) = some (cA (t - 20))) (hN' : n.toNatClampNeg = N') {q : Nat × Mem} (hg : nA M t n = some q) (hcells : cells + 1 ≤ R.cells) (hslots : slots + N' ≤ R.slots) (hdg : decode cc pc = .ok (.newarray atype, 2))
    (kk : ∀ (H1 : Heap), Wz D cA ad A base s q.2 H1 locs → W p l e R s m args below meth c H1 locs (cells + 1) (slots + N') Q (F0 m (pc + 2) ls (.ref (ad q.1) :: rest))) : W p l e R s m args below meth c H locs cells slots Q (F0 m pc ls (.int n :: rest)) := by
  obtain ⟨⟨h2, h3, h4, h5⟩, h6⟩ := so hg
  cases h6
  subst hty
  refine va_newaK hC.1 hC.2.1 (hC.2.2.2.2 _ harr) rfl hdg rfl h3 hN' ?_ hcells hslots (h := ad M.1) (by rw [hW.2, hB]) fun H1 cA' e1 z1 o1 hAr hNm => ?_
  · have : N' ≤ 1000 := by omega
    have := Nat.mul_le_mul this hcb
    omega
  · have hca : cA' = cA (t - 20) := Option.some.inj (hNm.symm.trans (hRA (hK.2 (t - 20) _ ht).2))
    subst hca
    refine kk H1 (nC_ws hB hW z1 o1 ?_)
    rw [cel_i h2 ht1 ht2]
    show H1[ad M.1]? = some (vp_cell _ _)
    rw [e1, vp_cell_i, ← h4, hN', hdv]
    simp only [nCell, upR_s]
theorem z_nQ {t : Nat} {E : String} {n : Int32} {N' : Nat} (hC : CallFix p m c cc nL s args tblG own) (hK : va_K D vwCl (tysOf cA) s) (hB : AdB ad base) (hW : Wz D cA ad A base s M H locs) (hcl : Cond.classLink own index E ∈ tblG) (hover : va_AO E s) (ht : (tysOf cA)[t - 20]? = some (cA (t - 20), .object E)) (ht2 : ¬ t < 23) (hN' : n.toNatClampNeg = N') {q : Nat × Mem} (hg : nA M t n = some q) (hcells : cells + 1 ≤ R.cells) (hslots : slots + N' ≤ R.slots) (hdg : decode cc pc = .ok (.anewarray index, 3))
    (kk : ∀ (H1 : Heap), Wz D cA ad A base s q.2 H1 locs → W p l e R s m args below meth c H1 locs (cells + 1) (slots + N') Q (F0 m (pc + 3) ls (.ref (ad q.1) :: rest))) : W p l e R s m args below meth c H locs cells slots Q (F0 m pc ls (.int n :: rest)) := by
  obtain ⟨⟨h2, h3, h4, h5⟩, h6⟩ := so hg
  cases h6
  subst hN'
  refine W.anew hC.1 hC.2.1 hC.2.2.2.1 (hC.2.2.2.2 _ hcl) (va_AO.use hover) rfl hdg rfl h3 (by omega) hcells hslots fun cA' kA comp f1 f2 f3 f4 => ?_
  obtain ⟨kA', comp', k1, k2, k3, k4⟩ := (hK.2 (t - 20) _ ht).2
  have hz : H.size = ad M.1 := by rw [hW.2, hB]
  have hca : cA' = cA (t - 20) := Option.some.inj (f1.symm.trans k4)
  subst hca
  generalize hH1 : H.push ({ cls := cA (t - 20), slots := Array.replicate n.toNatClampNeg .null, vm := .none } : Cell) = H1
  have z1 : H1.size = H.size + 1 := by rw [← hH1, Array.size_push]
  have e1 : H1[H.size]? = some (arrV (cA (t - 20)) n.toNatClampNeg (fun _ => .null)) := by rw [← hH1, Array.getElem?_push_size, ← arrV_new]
  have o1 : ∀ q : Nat, q < H.size → H1[q]? = H[q]? := fun q hq => by rw [← hH1, Array.getElem?_push, if_neg (Nat.ne_of_lt hq)]
  rw [hz] at z1 e1 o1
  have hk := kk H1 (nC_ws hB hW z1 o1 (by
    rw [cel_r h2 ht2]
    show H1[ad M.1]? = some (vp_cell _ _)
    rw [e1, vp_cell_q, ← h4]
    simp only [nCell, upR_s, Option.map_none, va_rf]))
  rw [hz]
  exact hk
theorem sR_ws {t : Nat} {r : Nat} {i : Int32} (hg : sR t ci M k i r = some M') (h2 : ¬ t < 23) {H1 : Heap} (hP1 : va_P D vwCl ((wsM cA ad M).set k (ad k, .inl (cA (t - 20), (lay k).2, .inr (.inr (.inr (.inr (va_up (fun i => (M.2.2.1 k i).map ad) i.toNatClampNeg (some (ad r))))))))) H1) : va_P D vwCl (wsM cA ad M') H1 := by
  obtain ⟨⟨g1, g2, g3, g4, g5⟩, g6⟩ := so hg
  have hM : (M.1, M.2.1, up2 M.2.2.1 k i.toNatClampNeg (some r), M.2.2.2) = M' := Option.some.inj g6
  rw [ws_set (M' := M') (by rw [← hM]) ?_ ?_] at hP1
  · exact hP1
  · rw [cel_r g2 h2, ← hM]
    congr 7
    funext q
    by_cases hq : q = i.toNatClampNeg
    · subst hq; simp [va_up, up2]
    · simp [va_up, up2, hq]
  · rw [← hM]; exact cel_up (fun _ _ => rfl) (fun j hj => up2_o hj) (fun _ _ => rfl)
/-- storing an object into an array of its class or of a class above -/
theorem z_sR {t r : Nat} {E : String} {i : Int32} (hC : CallFix p m c cc nL s args tblG own) (hK : va_K D vwCl (tysOf cA) s) (hAd : AdOk ad A) (hW : Wz D cA ad A base s M H locs) (cf : CF ci C T N ty) (ht : (tysOf cA)[t - 20]? = some (cA (t - 20), .object E)) (ht2 : ¬ t < 23) (hca : C = E ∨ va_Nw (.castable C E) s) (hg : sR t ci M k i r = some M') (hdg : decode cc pc = .ok (.aastore, 1))
    (kk : ∀ (H1 : Heap) (locs1 : List Loc), Wz D cA ad A base s M' H1 locs1 → W p l e R s m args below meth c H1 locs1 cells slots Q (F0 m (pc + 1) ls rest)) : W p l e R s m args below meth c H locs cells slots Q (F0 m pc ls (.ref (ad r) :: .int i :: .ref (ad k) :: rest)) := by
  obtain ⟨⟨g1, g2, g3, g4, g5⟩, g6⟩ := so hg
  have he := ws_get (cA := cA) (ad := ad) g1
  have hv := ws_get (cA := cA) (ad := ad) g3
  rw [cel_r g2 ht2] at he
  rw [cel_o g4 cf.2.2.2.2.2] at hv
  have hlt : i.toNatClampNeg < (lay k).2 := Nat.not_le.mp fun q => g5 (Or.inr q)
  have h0 : ¬ i < 0 := fun q => g5 (Or.inl q)
  obtain ⟨r', hr', cellV, y1, y2, y3, -⟩ := hW.1.1 r _ hv
  have hcls := (hK.1 ci _ cf.1).2
  obtain ⟨kA, comp, k1, k2, k3, -⟩ := (hK.2 (t - 20) _ ht).2
  obtain ⟨kE, hkE, -⟩ := Vm.findClass_spec k3
  obtain ⟨kC, hkC, -⟩ := id hcls.2
  have has : s.vm.assignable (D.1 ci) comp = true := by
    rcases hca with hca | hca
    · subst hca
      have hcomp : comp = D.1 ci := Option.some.inj (k3.symm.trans hcls.1)
      subst hcomp
      exact va_assign hcls
    · obtain ⟨c0, t1, f1, f2, f3⟩ := Cond.castable_spec (va_Nw.use (A := args) rfl hca)
      cases hcls.1.symm.trans f1
      cases k3.symm.trans f2
      exact f3
  refine W.aast hC.1 hC.2.1 (hW.1.1 k _ he) (fun q h => by cases h) (fun h => by cases h) k1 k2 rfl hkE ⟨h0, by show _ < (arrV _ _ _).slots.size; rw [arrV_size]; exact hlt⟩ y1 (fun q h => by rw [y3] at h; cases h) (by rw [y2]; exact hkC) (by rw [y2]; exact has) rfl rfl hdg fun H1 e z oq => ?_
  refine kk H1 _ ⟨⟨sR_ws hg ht2 (hW.1.1.set (ws_D hAd) he ?_ oq), hW.1.2.put z oq (hAd.2 k)⟩, by rw [z, hW.2, ← Option.some.inj g6]⟩
  show H1[ad k]? = some (vp_cell _ _)
  rw [e]
  rw [vp_cell_q, vp_cell_q, arrV_store]
  congr 2
  funext q
  by_cases hq : q = i.toNatClampNeg
  · subst hq
    simp [updV, va_up, va_rf]
  · simp [updV, va_up, hq]
end ZW
section ZC
variable {p : Program} {l : Launch} {e : Env} {R : Room} {s : State} {m : MethodId} {args : Array Value} {below : List Frame} {meth : Method} {c : Code} {H : Heap} {locs : List Loc} {cells slots : Nat} {Q : State → Prop}
variable {cc : ByteArray} {pc nL : Nat} {ls : Array Slot} {rest st : List Value} {D : va_G} {cA : Nat → ClassId} {ad : Nat → Nat} {A : Nat → Prop} {base : Nat} {own : String} {M M' : Mem}
variable {y : MethodName} {bytes : ByteArray} {maxL d index k mc ms : Nat}
theorem pre_z {av : List Value} (hK : va_K D vwCl (tysOf cA) s) (hN : NX s) (hW : Wz D cA ad A base s M H locs) : PreS s H (PcZ D cA ad base av M) av :=
  ⟨fun a U g mk q => ⟨q.1, q.2.1, va_K.moved (u := U) (U := U.calling g mk a) (Vm.Alike.refl U.vm) q.2.2.1, q.2.2.2.1, NX.same (u := U) (U := U.calling g mk a) rfl q.2.2.2.2⟩, fun U hU hWm => ⟨rfl, by rw [hU]; exact hW.1.1, va_K.moved hWm.alike hK, by rw [hU]; exact hW.2, hN.warm hWm⟩⟩
/-- a nest mate's constructor -/
theorem z_ci (hC : CallFix p m c cc nL s args tblG own) (hK : va_K D vwCl (tysOf cA) s) (hN : NX s) (hW : Wz D cA ad A base s M H locs) (hM : Met l y (wd y bytes maxL none) (rmZ d mc ms) (PcZ D cA ad base [.ref (ad k)] M) (QZ D cA ad A base M') mc ms A) (hy : MY y bytes maxL none 0) (hyn : y.name = "<init>") (hi : Cond.instanceMethod y ∈ tblG) (hl : NL own index y s) (hR : (rmZ d mc ms).frames + 1 ≤ R.frames ∧ 8 + (maxL + 11) + (rmZ d mc ms).locals ≤ R.locals) (hsize : ls.size = nL) (hst : st = .ref (ad k) :: rest) (hroom : (rest.map fun v => v.category).sum ≤ 8) (hc : cells + mc ≤ R.cells ∧ slots + ms ≤ R.slots) (hdg : decode cc pc = .ok (.invokespecial index, 3))
    (kk : ∀ (H1 : Heap) (locs1 : List Loc), Wz D cA ad A base s M' H1 locs1 → W p l e R s m args below meth c H1 locs1 (cells + mc) (slots + ms) Q (F0 m (pc + 3) ls rest)) : W p l e R s m args below meth c H locs cells slots Q (F0 m pc ls st) :=
  va_callv (va_runIN (As := []) hC hM ⟨va_cnB 0 hC.2.2.2.2 (gd hy.1) rfl rfl rfl hl (hC.2.2.2.2 _ hy.2.1) hy.2.2 hR, hyn, hC.2.2.2.2 _ hi⟩ (pre_z hK hN hW) rfl rfl hsize hst (lv_room hroom) hdg hc) hW.1.2 (fun _ _ h => h) (fun _ h => h) (fun u t H1 locs1 ht hvm hw hB hz hk hS => kk H1 locs1 ⟨⟨by rw [← ht]; exact hB.1, hS⟩, by rw [← ht]; exact hB.2⟩)
/-- a constructor that anyone may call -/
theorem z_cp (hC : CallFix p m c cc nL s args tblG own) (hK : va_K D vwCl (tysOf cA) s) (hN : NX s) (hW : Wz D cA ad A base s M H locs) (hM : Met l y (wd y bytes maxL none) (rmZ d mc ms) (PcZ D cA ad base [.ref (ad k)] M) (QZ D cA ad A base M') mc ms A) (hy : MY y bytes maxL none 0) (hyn : y.name = "<init>") (hi : Cond.instanceMethod y ∈ tblG) (hl : Cond.methodLink own index y ∈ tblG) (hR : (rmZ d mc ms).frames + 1 ≤ R.frames ∧ 8 + (maxL + 11) + (rmZ d mc ms).locals ≤ R.locals) (hsize : ls.size = nL) (hst : st = .ref (ad k) :: rest) (hroom : (rest.map fun v => v.category).sum ≤ 8) (hc : cells + mc ≤ R.cells ∧ slots + ms ≤ R.slots) (hdg : decode cc pc = .ok (.invokespecial index, 3))
    (kk : ∀ (H1 : Heap) (locs1 : List Loc), Wz D cA ad A base s M' H1 locs1 → W p l e R s m args below meth c H1 locs1 (cells + mc) (slots + ms) Q (F0 m (pc + 3) ls rest)) : W p l e R s m args below meth c H locs cells slots Q (F0 m pc ls st) :=
  va_callv (va_runI (As := []) hC hM ⟨callB_of 0 hC.2.2.2.2 (gd hy.1) rfl rfl rfl (hC.2.2.2.2 _ hy.2.1) (hC.2.2.2.2 _ hl) hy.2.2 hR, hyn, hC.2.2.2.2 _ hi⟩ (pre_z hK hN hW) rfl rfl hsize hst (lv_room hroom) hdg hc) hW.1.2 (fun _ _ h => h) (fun _ h => h) (fun u t H1 locs1 ht hvm hw hB hz hk hS => kk H1 locs1 ⟨⟨by rw [← ht]; exact hB.1, hS⟩, by rw [← ht]; exact hB.2⟩)
/-- the same, where the size behind it isn't told -/
theorem z_cq (hC : CallFix p m c cc nL s args tblG own) (hK : va_K D vwCl (tysOf cA) s) (hN : NX s) (hW : Wz D cA ad A base s M H locs) (hM : Met l y (wd y bytes maxL none) (rmZ d mc ms) (PcZ D cA ad base [.ref (ad k)] M) (QV D cA ad A M') mc ms A) (hy : MY y bytes maxL none 0) (hyn : y.name = "<init>") (hi : Cond.instanceMethod y ∈ tblG) (hl : Cond.methodLink own index y ∈ tblG) (hR : (rmZ d mc ms).frames + 1 ≤ R.frames ∧ 8 + (maxL + 11) + (rmZ d mc ms).locals ≤ R.locals) (hsize : ls.size = nL) (hst : st = .ref (ad k) :: rest) (hroom : (rest.map fun v => v.category).sum ≤ 8) (hc : cells + mc ≤ R.cells ∧ slots + ms ≤ R.slots) (hdg : decode cc pc = .ok (.invokespecial index, 3))
    (kk : ∀ (H1 : Heap) (locs1 : List Loc), Wd D cA ad A s M' H1 locs1 → W p l e R s m args below meth c H1 locs1 (cells + mc) (slots + ms) Q (F0 m (pc + 3) ls rest)) : W p l e R s m args below meth c H locs cells slots Q (F0 m pc ls st) :=
  va_callv (va_runI (As := []) hC hM ⟨callB_of 0 hC.2.2.2.2 (gd hy.1) rfl rfl rfl (hC.2.2.2.2 _ hy.2.1) (hC.2.2.2.2 _ hl) hy.2.2 hR, hyn, hC.2.2.2.2 _ hi⟩ (pre_z hK hN hW) rfl rfl hsize hst (lv_room hroom) hdg hc) hW.1.2 (fun _ _ h => h) (fun _ h => h) (fun u t H1 locs1 ht hvm hw hB hz hk hS => kk H1 locs1 ⟨by rw [← ht]; exact hB, hS⟩)
theorem z_vret {q : Mem} (hC : CallFix p m c cc nL s args tblG own) (hr : meth.sig.returnType = none) (hlocks : meth.locks = false) (hW : Wz D cA ad A base s M H locs) (hf : some M = some q) (hdg : decode cc pc = .ok (.return_, 1)) : W p l e R s m args below meth c H locs cells slots (MQ below (QZ D cA ad A base q) args s cells slots A) (F0 m pc ls []) := by
  cases hf
  exact W.vret hC.1 hC.2.1 hr (fun t ht hWm => ⟨⟨(), rfl, trivial, by show va_P D vwCl (wsM cA ad _) t.heap ∧ t.heap.size = _; rw [ht]; exact ⟨hW.1.1, hW.2⟩⟩, hW.1.2.F ht⟩) hW.1.2.2.2 hdg hlocks
theorem mk_metZ {ret : Option FieldType} {av : List Value} {Qc : Array Value → State → Outcome → State → Prop} (hp : plainFor y = true) (hyn : y.name = "<init>") (ho : y.cls = own) (hlen : (lg_sl av).length ≤ maxL)
    (body : ∀ (p : Program) (e : Env) (s : State) (m : MethodId) (args : Array Value) (below : List Frame) (meth : Method) (c : Code), CallFix p m c bytes maxL s args tblG own → meth.sig.returnType = ret → meth.locks = false → meth.name = "<init>" → va_K D vwCl (tysOf cA) s → NX s → ∀ (H : Heap) (locs : List Loc) (ls : Array Slot), Wz D cA ad A base s M H locs → lv_has ls maxL (lv_args 0 av) → W p l e (rmZ d mc ms) s m args below meth c H locs 0 0 (MQ below Qc args s mc ms A) (F0 m 0 ls [])) :
    Met l y (wd y bytes maxL ret) (rmZ d mc ms) (PcZ D cA ad base av M) Qc mc ms A := by
  refine met_ofF (cd := bytes) (maxL := maxL) (ret := ret) hp rfl ?_
  intro p e s m args below meth c s₁ B hml hv
  obtain ⟨rfl, hP, hK, hz, hN⟩ := hv
  rw [lg_entry_eq]
  exact body p e s m av.toArray below meth c ⟨B.exec, B.bytes, hml, by rw [← ho]; exact findClass_of_methodNamed B.named, tb (atoms_spec (ws := wd y bytes maxL ret) B.pre)⟩ B.returns B.notSynchronized (by rw [← hyn]; exact (name_of_methodNamed B.named B.method).1) hK hN s.heap [] _ ⟨⟨hP, va_S.rf⟩, hz⟩ (lv_entry av hlen)
end ZC

