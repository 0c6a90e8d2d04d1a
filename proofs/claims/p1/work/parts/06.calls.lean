/-! Calls that return. -/
theorem xao_moved {u U : State} {A A' : Array Value} (hvm : u.vm.Alike U.vm) (h : (Cond.arrayOver (.array .int)).before A u = true) : (Cond.arrayOver (.array .int)).before A' U = true := by
  have h' := h
  simp only [Cond.before, Cond.holds, Cond.value, beq_iff_eq] at h'
  cases hc : u.vm.findClass (FieldType.array .int).toString with
  | none => simp [hc] at h'
  | some comp =>
    simp only [hc, Option.bind_some, Option.bind_eq_some_iff, Option.map_eq_some_iff] at h'
    obtain ⟨c, hi, k, hk, hb⟩ := h'
    obtain ⟨k', hk', he⟩ := hvm.2.2 _ _ hk
    have hi2 : (U.vm.classes.findIdx? fun (x : Class) => match x.kind with | .array component _ => component == comp | _ => false) = some c := by
      have e1 := va_idx_bare U.vm comp
      have e2 := va_idx_bare u.vm comp
      first | rw [hvm.bare_eq] at e1 | rw [← hvm.bare_eq] at e1
      exact (e1.symm.trans e2).trans hi
    have hkind : k'.kind = k.kind := by rw [he]
    have f1 : U.vm.findClass (FieldType.array .int).toString = some comp := by rw [hvm.findClass]; exact hc
    unfold Cond.before Cond.holds
    simp only [Cond.value]
    rw [f1, Option.bind_some]
    refine (congrArg (fun o : Option Nat => (o.bind (fun c => (U.vm.classes[c]?).map fun (k : Class) => match k.kind with | .array _ ty => decide (ty = FieldType.array .int) && decide (U.vm.findClass ("[" ++ (FieldType.array .int).toString) = some c) | _ => false) == some true)) hi2).trans ?_
    rw [Option.bind_some, hk', Option.map_some, hkind]
    have hfc : U.vm.findClass ("[" ++ (FieldType.array .int).toString) = u.vm.findClass ("[" ++ (FieldType.array .int).toString) := hvm.findClass _ _
    rw [hfc]
    have hb2 : (match k.kind with | .array _ ty => decide (ty = FieldType.array .int) && decide (u.vm.findClass ("[" ++ (FieldType.array .int).toString) = some c) | _ => false) = true := hb
    rw [hb2]
    rfl
/-- what the walks take of a state's tables and of the heap that was there at the law's entry -/
def xEs (D : va_G) (cl : List vw_C) (ca : Nat → ClassId) (b Ls : Nat) (xs : Nat → Int32) (H0 : Heap) (Ex : State → Prop) (U : State) : Prop :=
  va_K D cl [(ca 0, .int), (ca 1, .boolean), (ca 2, .long), (ca 3, .array .int)] U ∧ va_X b Ls xs U H0 ∧ (Cond.arrayOver (.array .int)).before #[] U = true ∧ Ex U
def xmv (H0 : Heap) (Ex : State → Prop) : Prop := ∀ s U : State, s.WarmedH U.vm → (∀ q, q < H0.size → s.heap[q]? = H0[q]?) → (∀ q, q < H0.size → U.heap[q]? = H0[q]?) → Ex s → Ex U
def xrm (d zm um : Nat) (h : xH) : Room := { frames := d, cells := zm - h.1, slots := um - h.2.1, locals := 36 * d }
def xcw (md : xMd) : Cond := if md.2.2.2.2.2 = [] then .code md.1 md.2.1 md.2.2.1 md.2.2.2.1 else .codeWith md.1 md.2.1 md.2.2.1 md.2.2.2.1 md.2.2.2.2.2
def xMh (md : xMd) (meth : Method) (c : Code) : Prop := meth.sig.returnType = md.2.2.2.1 ∧ meth.locks = false ∧ c.exceptionTable.toList.map (fun h => (h.startPc, h.endPc, h.handlerPc, h.catchType)) = md.2.2.2.2.2
/-- a method's contract: from the heap h it ends with r, at h' -/
def xC (l : Launch) (D : va_G) (cl : List vw_C) (ca : Nat → ClassId) (b Ls : Nat) (xs : Nat → Int32) (H0 : Heap) (zm um : Nat) (xn : xX) (Ex : State → Prop) (Ts : List Cond) (d : Nat) (y : MethodName) (av : List Value) (h : xH) (r : xR) (w' : Bool) (h' : xH) : Prop :=
  MetFree l y (headSpec Ts (xrm d zm um h)) (fun args s => args = (av.map (xcv b H0.size)).toArray ∧ xrp D cl ca b H0 h s.heap ∧ h.1 ≤ zm ∧ h.2.1 ≤ um ∧ xEs D cl ca b Ls xs H0 Ex s) (fun _ _ _ _ _ => True) (fun _ s o t => xE D cl ca b H0 zm um xn h r w' h' s o t)
theorem xla_map (b base : Nat) : ∀ (vs : List Value) (i : Nat), lv_args i (vs.map (xcv b base)) = xml b base (lv_args i vs)
  | [], _ => rfl
  | v :: vs, i => by
    show (i, xcv b base v) :: lv_args _ (vs.map (xcv b base)) = (i, xcv b base v) :: xml b base (lv_args _ vs)
    rw [xcv_cat, xla_map b base vs]
theorem xsl_len : ∀ (vs : List Value), (lg_sl vs).length = xcs vs
  | [] => rfl
  | v :: vs => by
    have ih := xsl_len vs
    unfold lg_sl at ih ⊢
    rw [List.flatMap_cons, List.length_append, ih]
    unfold xcs
    rw [List.map_cons, List.sum_cons]
    congr 1
    rcases lv_cat v with h | h <;> simp [h]
section XC
variable {l : Launch} {D : va_G} {cl : List vw_C} {ca : Nat → ClassId} {b Ls : Nat} {xs : Nat → Int32} {H0 : Heap} {zm um : Nat} {xn : xX} {Ex : State → Prop} {Ts : List Cond}
theorem xcw_spec {md : xMd} {A : Array Value} {s : State} {m : MethodId} (hn : s.methodNamed? md.1 = some m) (h : (xcw md).before A s = true) : ∃ meth c, s.vm.method? m = some meth ∧ meth.code = some c ∧ c.code = md.2.1 ∧ c.maxLocals = md.2.2.1 ∧ xMh md meth c ∧ parseMethodDescriptor md.1.desc = some meth.sig := by
  unfold xcw at h
  by_cases hd : md.2.2.2.2.2 = []
  · rw [if_pos hd] at h
    obtain ⟨meth, c, h1, h2, h3, h4, h5, h6, h7, h8⟩ := Cond.code_spec hn h
    refine ⟨meth, c, h1, h2, h3, h4, ⟨h5, h6, ?_⟩, h8⟩
    rw [hd]
    have : c.exceptionTable = #[] := by simpa using h7
    rw [this]
    rfl
  · rw [if_neg hd] at h
    obtain ⟨m', meth, c, h0, h1, h2, h3, h4, h5, h6, h7, h8⟩ := Cond.codeWith_spec h
    cases hn.symm.trans h0
    exact ⟨meth, c, h1, h2, h3, h4, ⟨h6, h7, h5⟩, h8⟩
theorem xC_of {md : xMd} {d : Nat} {av : List Value} {h : xH} {r : xR} {w' : Bool} {h' : xH} (hpl : plainFor md.1 = true) (hcode : xcw md ∈ Ts) (hini : md.2.2.2.2.1 = true → md.1.name = "<init>") (hfit : xcs av ≤ md.2.2.1)
    (body : ∀ (p : Program) (e : Env) (s : State) (m : MethodId) (args : Array Value) (below : List Frame) (meth : Method) (c : Code), xEn p s m args meth c md.2.1 md.1.cls md.2.2.2.2.1 md.2.2.1 D cl ca Ts b Ls xs H0 → Ex s → xrp D cl ca b H0 h s.heap → xMh md meth c → h.1 ≤ zm → h.2.1 ≤ um →
      xW p l e (xrm d zm um h) s m args below meth c D cl ca b H0 md.2.2.1 zm um h (xQ below D cl ca b H0 zm um xn h r w' h' s) 0 (lv_args 0 av) [] false h)
    (hbl : b < H0.size) : xC l D cl ca b Ls xs H0 zm um xn Ex Ts d md.1 av h r w' h' := by
  refine MetFree.of_bodySF (code := md.2.1) (maxLocals := md.2.2.1) (ret := md.2.2.2.1) hpl ?_ ?_
  · intro args s m h hn
    obtain ⟨meth, c, h1, h2, h3, h4, h5, -⟩ := xcw_spec hn (atoms_spec (ws := Ts) h _ hcode)
    exact ⟨meth, c, h1, h2, h3, h4, h5.1, h5.2.1⟩
  · intro p e s m args below meth c s₁ B hml hP _
    obtain ⟨rfl, hR, hz, hu, hK, hX, hao, hEx⟩ := hP
    have hh0 : s₁.heap = s.heap := by rw [B.state]; rfl
    have hts := atoms_spec (ws := Ts) B.pre
    have X0 := Stand.of_body B
    obtain ⟨meth', c', h1, h2, -, -, h5, -⟩ := xcw_spec B.named (hts _ hcode)
    cases B.method.symm.trans h1
    cases X0.code.symm.trans h2
    have hl := lv_entry (av.map (xcv b H0.size)) (n := md.2.2.1) (by rw [xsl_len]; unfold xcs; rw [xcs_map]; exact hfit)
    rw [xla_map] at hl
    have K := body p e s m _ below meth c ⟨B.exec, B.bytes, findClass_of_methodNamed B.named, hts, hK, hX, hbl, hml, fun q => (name_of_methodNamed B.named B.method).1.trans (hini q), hao⟩ hEx hR h5 hz hu _ s.heap [] 0 0 ⟨hl, hR, (fun q hq => by cases hq), by omega, by omega, hz, hu, fun _ => ⟨rfl, rfl⟩⟩
    obtain ⟨t, a1, o, b1, b2, b3⟩ := K s₁ hh0 X0
    refine ⟨t, o, ?_, b1, b2, b3⟩
    rw [lg_entry_eq]
    exact a1
end XC
