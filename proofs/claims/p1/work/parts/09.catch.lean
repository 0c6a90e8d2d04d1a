/-! What the exceptions need of a state; a method that throws; a call whose exception is caught. -/
def xdecl : List MethodName := [Bundle.initS "java/lang/RuntimeException", Bundle.initS "java/lang/Exception", Bundle.initS "java/lang/Throwable"]
def xcast : List (String × String) := [("java/lang/IllegalArgumentException", "java/lang/IllegalArgumentException"), ("java/lang/IllegalStateException", "java/lang/IllegalStateException"), ("java/util/NoSuchElementException", "java/util/NoSuchElementException")]
def xnot : List (String × String) := [("java/lang/IllegalStateException", "java/lang/IllegalArgumentException")]
def xstat : List (String × String) := [("UNASSIGNED_STACK", "[Ljava/lang/StackTraceElement;"), ("SUPPRESSED_SENTINEL", "Ljava/util/List;")]
def xEx (strs : List (Nat × String)) (H0 : Heap) (U : State) : Prop :=
  (∀ x ∈ xdecl, va_Nw (.declares x) U) ∧ (∀ q ∈ xcast, va_Nw (.castable q.1 q.2) U) ∧ (∀ q ∈ xnot, (Cond.not (.castable q.1 q.2)).before #[] U = true) ∧
  (∀ q ∈ xstat, (Cond.laysStatic "java/lang/Throwable" q.1 q.2).before #[] (U.withHeap H0) = true ∧ (Cond.isRef (.static "java/lang/Throwable" q.1 q.2)).before #[] (U.withHeap H0) = true) ∧
  ∀ q ∈ strs, ∃ a, vk_R "TableMaker" q.1 q.2 a U
theorem xnc_moved {C T : String} {s U : State} {A A' : Array Value} (hvm : s.vm.Alike U.vm) (h : (Cond.not (.castable C T)).before A s = true) : (Cond.not (.castable C T)).before A' U = true := by
  simp only [Cond.before, Cond.holds, Cond.value, hvm.findClass, hvm.assignable] at h ⊢
  exact h
theorem xst_moved {w : Cond} {s U : State} {H0 : Heap} (hs : w.steady = true) (hvm : s.vm.Alike U.vm) (he : w.before #[] ((s.withHeap H0).setVm U.vm) = w.before #[] (U.withHeap H0)) (h : w.before #[] (s.withHeap H0) = true) : w.before #[] (U.withHeap H0) = true := by
  rw [← he]
  have hv : (s.withHeap H0).vm.Alike U.vm := hvm
  have e := Cond.value_setVm₂ (args := #[]) (o := none) hv hv w [] hs
  simp only [Cond.before, Cond.holds] at h ⊢
  rw [e]
  exact h
theorem xEx_mv (strs : List (Nat × String)) (H0 : Heap) : xmv H0 (xEx strs H0) := by
  intro s U hW _ _ h
  obtain ⟨h1, h2, h3, h4, h5⟩ := h
  refine ⟨fun x hx => va_Nw.warmD hW (h1 x hx), fun q hq => va_Nw.warmC hW (h2 q hq), fun q hq => xnc_moved hW.alike (h3 q hq), fun q hq => ⟨?_, ?_⟩, fun q hq => ?_⟩
  · exact xst_moved (by rfl) hW.alike rfl (h4 q hq).1
  · exact xst_moved (by rfl) hW.alike rfl (h4 q hq).2
  · obtain ⟨a, ha⟩ := h5 q hq
    exact ⟨a, ha.warm hW⟩
theorem xls_heap {C n d : String} {U : State} {H0 : Heap} {A A' : Array Value} (h : (Cond.laysStatic C n d).before A (U.withHeap H0) = true) (hU : ∀ q, q < H0.size → U.heap[q]? = H0[q]?) : (Cond.laysStatic C n d).before A' U = true := by
  have e1 : (U.withHeap H0).fieldFound? C n d = U.fieldFound? C n d := rfl
  have e2 : (U.withHeap H0).vm = U.vm := rfl
  have e3 : (U.withHeap H0).heap = H0 := rfl
  simp only [Cond.before, Cond.holds, Cond.value, e1, e2, e3, beq_iff_eq] at h ⊢
  cases hc : U.vm.findClass C with
  | none => simp [hc] at h
  | some c =>
    cases hf : U.fieldFound? C n d with
    | none => simp [hc, hf] at h
    | some x =>
      obtain ⟨c', k, i, f⟩ := x
      simp only [hc, hf, Option.map_eq_some_iff, Option.bind_eq_some_iff] at h ⊢
      obtain ⟨cell, ⟨a, ha, hcell⟩, hb⟩ := h
      exact ⟨cell, ⟨a, ha, by rw [hU a (Array.getElem?_eq_some_iff.mp hcell).1]; exact hcell⟩, hb⟩
theorem xsr_heap {C n d : String} {U : State} {H0 : Heap} {A A' : Array Value} (h : (Cond.isRef (.static C n d)).before A (U.withHeap H0) = true) (hU : ∀ q, q < H0.size → U.heap[q]? = H0[q]?) : (Cond.isRef (.static C n d)).before A' U = true := by
  have key : ∀ v, (Term.static C n d).eval A (U.withHeap H0) none [] (U.withHeap H0) = some v → (Term.static C n d).eval A' U none [] U = some v := fun v hv => by
    have e1 : (U.withHeap H0).fieldNamed? C n d true = U.fieldNamed? C n d true := rfl
    have e3 : (U.withHeap H0).heap = H0 := rfl
    simp only [Term.eval, e1, e3, Option.bind_eq_bind, Option.bind_eq_some_iff] at hv ⊢
    obtain ⟨x, hx, a, ha, cell, hcell, hr⟩ := hv
    exact ⟨x, hx, a, ha, cell, by rw [hU a (Array.getElem?_eq_some_iff.mp hcell).1]; exact hcell, hr⟩
  cases hv : (Term.static C n d).eval A (U.withHeap H0) none [] (U.withHeap H0) with
  | none => simp [Cond.before, Cond.holds, Cond.value, hv] at h
  | some v =>
    have h2 := key v hv
    simp only [Cond.before, Cond.holds, Cond.value, hv] at h
    simp only [Cond.before, Cond.holds, Cond.value, h2]
    exact h
/-- the words that an exception's constructors need: in the tables, or among those that are carried -/
def xsp : Cond → Bool
  | .declares x => decide (x ∈ xdecl)
  | .castable a b => decide ((a, b) ∈ xcast)
  | .laysStatic o n d => decide (o = "java/lang/Throwable") && decide ((n, d) ∈ xstat)
  | .isRef (.static o n d) => decide (o = "java/lang/Throwable") && decide ((n, d) ∈ xstat)
  | _ => false
theorem xsp_ok {strs : List (Nat × String)} {H0 : Heap} {s : State} {A : Array Value} (hE : xEx strs H0 s) (hU : ∀ q, q < H0.size → s.heap[q]? = H0[q]?) {w : Cond} (h : xsp w = true) : w.before A s = true := by
  unfold xsp at h
  split at h
  · exact va_Nw.use rfl (hE.1 _ (of_decide_eq_true h))
  · exact va_Nw.use rfl (hE.2.1 _ (of_decide_eq_true h))
  · simp only [Bool.and_eq_true, decide_eq_true_eq] at h
    obtain ⟨rfl, h⟩ := h
    exact xls_heap (hE.2.2.2.1 _ h).1 hU
  · simp only [Bool.and_eq_true, decide_eq_true_eq] at h
    obtain ⟨rfl, h⟩ := h
    exact xsr_heap (hE.2.2.2.1 _ h).2 hU
  · cases h
section XV
variable {p : Program} {l : Launch} {e : Env} {R : Room} {s : State} {m : MethodId} {args : Array Value} {below : List Frame} {meth : Method} {c : Code}
variable {D : va_G} {cl : List vw_C} {ca : Nat → ClassId} {b Ls : Nat} {xs : Nat → Int32} {H0 : Heap} {zm um : Nat} {xn : xX} {Ts : List Cond} {hs h h2 : xH} {w w2 : Bool}
variable {cc : ByteArray} {own : String} {ini : Bool} {nL pc idx k : Nat} {L : xL} {st : List Value} {Q : State → Prop} {strs : List (Nat × String)}
theorem xu_throw (E : xEn p s m args meth c cc own ini nL D cl ca Ts b Ls xs H0) (hE : xEx strs H0 s) (hH : ∀ q, q < H0.size → s.heap[q]? = H0[q]?) (hsz0 : s.heap.size + 1 = H0.size + hs.1) (hfl : l.flags = pinnedFlags ++ [noTraceFlag]) (hex : c.exceptionTable.toList = []) (hlocks : meth.locks = false) (hRc : R.cells + hs.1 = zm) (hRs : R.slots + hs.2.1 = um) (hf : 6 ≤ R.frames) (hlo : 200 ≤ R.locals) (hown0 : own = "TableMaker")
    {x ic si ix : Nat} {tx : String} {rx : ByteArray} {names : List String} (hnl : names.length = 2) (d0 : decode cc pc = .ok (.new idx, 3)) (d3 : decode cc (pc + 3) = .ok (.dup, 1)) (d4 : decode cc (pc + 3 + 1) = .ok (.ldc si, 2)) (d6 : decode cc (pc + 3 + 1 + 2) = .ok (.invokespecial ic, 3)) (d9 : decode cc (pc + 3 + 1 + 2 + 3) = .ok (.athrow, 1))
    (x0 : decode rx 0 = .ok (.aload_n 0, 1)) (x1 : decode rx 1 = .ok (.aload_n 1, 1)) (x2 : decode rx 2 = .ok (.invokespecial ix, 3)) (x5 : decode rx 5 = .ok (.return_, 1)) (hcl : Bundle.fit (xn x) = true) (hnames : ∀ n ∈ names, Bundle.fit n = true)
    (hlk : Cond.classLink own idx (xn x) ∈ Ts) (hins : Cond.instantiable (xn x) 6 ∈ Ts) (hini : Cond.initialized (xn x) ∈ Ts) (hstr : (si, tx) ∈ strs) (hat : ∀ a ∈ Bundle.ownAtomsX own ic (xn x) ix rx names, a ∈ Ts ∨ xsp a = true) (z1 : h.1 + 1 ≤ zm) (z2 : h.2.1 + 6 ≤ um) :
    xW p l e R s m args below meth c D cl ca b H0 nL zm um hs (xQ below D cl ca b H0 zm um xn hs (.inr (x, h.1)) true (h.1 + 1, h.2.1 + 6, xup h.2.2 h.1 none) s) pc L [] false h := by
  intro ls H locs cells slots I
  obtain ⟨i1, i2, i3, i4, i5, i6, i7, i8⟩ := I
  obtain ⟨hx, hb, hown, hts, hK, hX, hbl, hml, hnm0, hao⟩ := E
  obtain ⟨rfl, rfl⟩ := i8 rfl
  obtain ⟨cX, kX, hfc, hkX, -⟩ := Cond.instantiable_spec (hts _ hins)
  obtain ⟨q, hq⟩ := hE.2.2.2.2 _ hstr
  have hz0 : cells = 0 := by omega
  have hs0 : slots = 0 := by omega
  refine W.newcK hx hb hown (hts _ hlk) (hts _ hins) (hts _ hini) rfl d0 (by omega) (by omega) hfc rfl fun H1 kC hkC e1 e2 e3 => ?_
  show W p l e R s m args below meth c H1 [] (cells + 1) (slots + 6) _ (F0 m (pc + 3) ls [.ref H.size])
  refine lv_dup hx hb d3 rfl ?_
  refine va_ldcS hx hb hown (by rw [hown0]; exact hq) d4 ?_
  intro T hT X
  have hsz : s.heap.size ≤ H.size := by
    have := i2.2.1
    omega
  obtain ⟨U, u1, u2, u3, u4, u5, u6, u7, ce, u8, u9, u10⟩ := xthrow X hx (Launch.traces_off hfl X.admits) x0 x1 x2 x5 hown hcl hnames (fun a ha => (hat a ha).elim (hts a) (xsp_ok hE hH)) (fun x hx => by cases hx) hfc hkC (by rw [hT]; exact e1) hsz (msg := .ref q) rfl (g := F0 m (pc + 3 + 1 + 2) ls [.ref q, .ref H.size, .ref H.size]) rfl (by rw [hml]; exact i1.1) rfl rfl (rest := []) rfl (by rw [hb]; exact d6) (by rw [hb]; exact d9) (by rw [hex]; intro y hy; cases hy) (by omega) (by show 2 * 0 + 1 + _ ≤ _; omega) hlocks
  have ead : xad b H0.size h.1 = H.size := Value.ref.inj (xrp_ad i2)
  refine ⟨U, u1, .threw H.size, u2, u3, ⟨by rw [ead], ce, cX, by rw [ead]; exact u8, hfc, u9, u10⟩, xrp_opq i2 ?_ ?_ 6, ?_, ?_, z1, z2, [], u4, ?_, (fun q hq => by cases hq), (fun q => by cases q)⟩
  · rw [u6, hT, e2]
  · intro a ha
    rw [u7 a (Nat.ne_of_lt ha), hT]
    exact e3 a ha
  · show h.1 ≤ h.1 + 1
    omega
  · show h.2.1 ≤ h.2.1 + 6
    omega
  · have g1 : (h.1 + 1) - h.1 = cells + 1 := by omega
    have g2 : (h.2.1 + 6) - h.2.1 = slots + 6 := by omega
    show s.sameButNew _ [] ((h.1 + 1) - h.1) ((h.2.1 + 6) - h.2.1)
    rw [g1, g2]
    exact u5
end XV
