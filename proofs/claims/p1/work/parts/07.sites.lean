/-! Call sites, where the callee returns. -/
section XB
variable {p : Program} {l : Launch} {e : Env} {R : Room} {s : State} {m : MethodId} {args : Array Value} {below : List Frame} {meth : Method} {c : Code}
variable {D : va_G} {cl : List vw_C} {ca : Nat → ClassId} {b Ls : Nat} {xs : Nat → Int32} {H0 : Heap} {zm um : Nat} {xn : xX} {Ex : State → Prop} {Ts : List Cond} {hs h h2 : xH} {w w2 : Bool} {av : List Value} {v : Option Value} {md2 : xMd} {d2 : Nat}
def xPre (D : va_G) (cl : List vw_C) (ca : Nat → ClassId) (b Ls : Nat) (xs : Nat → Int32) (H0 : Heap) (Ex : State → Prop) (hs h : xH) (av : List Value) : Pt → Array Value → Prop := fun A a =>
  a = (av.map (xcv b H0.size)).toArray ∧ xrp D cl ca b H0 h A.U.heap ∧ xEs D cl ca b Ls xs H0 Ex A.U ∧ A.cells + hs.1 = h.1 ∧ A.slots + hs.2.1 = h.2.1
def xPost (D : va_G) (cl : List vw_C) (ca : Nat → ClassId) (b : Nat) (H0 : Heap) (zm um : Nat) (hs h : xH) (w2 : Bool) (h2 : xH) (A B : Pt) : Prop :=
  xrp D cl ca b H0 h2 B.U.heap ∧ (∃ L', B.locs = A.locs ++ L' ∧ (∀ q ∈ L', H0.size ≤ q.base) ∧ (w2 = false → h2 = h ∧ L' = [])) ∧ B.cells + hs.1 = h2.1 ∧ B.slots + hs.2.1 = h2.2.1 ∧ h2.1 ≤ zm ∧ h2.2.1 ≤ um
theorem xEs.at {U : State} (hmv : xmv H0 Ex) (h : xEs D cl ca b Ls xs H0 Ex s) (hW : s.WarmedH U.vm) (h0 : ∀ q, q < H0.size → s.heap[q]? = H0[q]?) (hU : ∀ q, q < H0.size → U.heap[q]? = H0[q]?) : xEs D cl ca b Ls xs H0 Ex U :=
  ⟨va_K.moved hW.alike h.1, va_X.moved hW.alike h.2.1, xao_moved hW.alike h.2.2.1, hmv s U hW h0 hU h.2.2.2⟩
theorem xback (hmv : xmv H0 Ex) (hts : ∀ w ∈ Ts, w.before args s = true) (hgood : ∀ w ∈ Ts, goodWord w = true) (hcode : xcw md2 ∈ Ts) (hini : Cond.initialized md2.1.cls ∈ Ts) (hf : d2 + 1 ≤ R.frames) (hlo : 8 + (md2.2.2.1 + 11) + 36 * d2 ≤ R.locals) (hRc : R.cells + hs.1 = zm) (hRs : R.slots + hs.2.1 = um) (hz : h.1 ≤ zm) (hu : h.2.1 ≤ um)
    (hC : xC l D cl ca b Ls xs H0 zm um xn Ex Ts d2 md2.1 av h (.inl v) w2 h2) :
    Back l R p e below s args md2.1 3 8 (xPre D cl ca b Ls xs H0 Ex hs h av) (fun A _ vo B => vo = v.map (xcv b H0.size) ∧ xPost D cl ca b H0 zm um hs h w2 h2 A B) := by
  have hat : ∀ (a : Array Value) (U : State), s.WarmedH U.vm → ∀ w ∈ Ts, w.before a U = true := fun a U hW w hw => word_at hW (good_of_word (hgood w hw)) (hts w hw)
  have hroom : ∀ A : Pt, A.cells + hs.1 = h.1 → A.slots + hs.2.1 = h.2.1 → A.cells + (headSpec Ts (xrm d2 zm um h)).room.cells ≤ R.cells ∧ A.slots + (headSpec Ts (xrm d2 zm um h)).room.slots ≤ R.slots := fun A e1 e2 => by
    show A.cells + (zm - h.1) ≤ R.cells ∧ A.slots + (um - h.2.1) ≤ R.slots
    omega
  have hP : ∀ m meth c (A : Pt) a (g : JFrame) mk, Stand p l e R s m args below meth c A.U A.locs A.cells A.slots → xPre D cl ca b Ls xs H0 Ex hs h av A a → (fun (args : Array Value) (s : State) => args = (av.map (xcv b H0.size)).toArray ∧ xrp D cl ca b H0 h s.heap ∧ h.1 ≤ zm ∧ h.2.1 ≤ um ∧ xEs D cl ca b Ls xs H0 Ex s) a (A.U.calling g mk a) := fun m meth c A a g mk X q =>
    ⟨q.1, q.2.1, hz, hu, xEs.at (s := A.U) (U := A.U.calling g mk a) hmv q.2.2.1 (State.WarmedH.refl A.U) q.2.1.2.2.1 q.2.1.2.2.1⟩
  have hQ : ∀ a first o t, (fun (_ : Array Value) (s : State) (o : Outcome) (t : State) => xE D cl ca b H0 zm um xn h (.inl v) w2 h2 s o t) a first o t → ∃ L k n, FrameEnd first o t L k n ∧ (k = h2.1 - h.1 ∧ n = h2.2.1 - h.2.1 ∧ (∀ q ∈ L, H0.size ≤ q.base) ∧ (w2 = false → h2 = h ∧ L = [])) := fun a first o t q => by
    obtain ⟨ho, -, -, -, -, -, L, hW, hsame, hL, hw⟩ := q
    exact ⟨L, _, _, ⟨⟨_, ho⟩, hW, hsame⟩, rfl, rfl, hL, hw⟩
  have hpost : ∀ (A : Pt) (a : Array Value) (g : JFrame) (mk : MethodId) (vo : Option Value) (t : State) (L : List Loc) (k n : Nat), xPre D cl ca b Ls xs H0 Ex hs h av A a → xE D cl ca b H0 zm um xn h (.inl v) w2 h2 (A.U.calling g mk a) (.returned vo) t → (k = h2.1 - h.1 ∧ n = h2.2.1 - h.2.1 ∧ (∀ q ∈ L, H0.size ≤ q.base) ∧ (w2 = false → h2 = h ∧ L = [])) →
      vo = v.map (xcv b H0.size) ∧ xPost D cl ca b H0 zm um hs h w2 h2 A ⟨(({ A.U with heap := t.heap, slotsUsed := t.slotsUsed } : State).setVm t.vm), A.locs ++ L, A.cells + k, A.slots + n⟩ := fun A a g mk vo t L k n hp q ⟨e1, e2, hL, hw⟩ => by
    obtain ⟨ho, hr, g1, g2, g3, g4, -⟩ := q
    obtain ⟨-, -, -, c1, c2⟩ := hp
    refine ⟨Outcome.returned.inj ho, hr, ⟨L, rfl, hL, hw⟩, ?_, ?_, g3, g4⟩
    · show A.cells + k + hs.1 = h2.1
      omega
    · show A.slots + n + hs.2.1 = h2.2.1
      omega
  by_cases hd : md2.2.2.2.2.2 = []
  · refine Back.of_free (S := headSpec Ts (xrm d2 zm um h)) (bytes := md2.2.1) (maxL := md2.2.2.1) (ret := md2.2.2.2.1) (E := fun _ _ _ _ L k n => k = h2.1 - h.1 ∧ n = h2.2.1 - h.2.1 ∧ (∀ q ∈ L, H0.size ≤ q.base) ∧ (w2 = false → h2 = h ∧ L = [])) hC hf hlo ?_ hP (fun _ _ _ _ _ _ _ _ _ => trivial) hQ (fun m meth c A a g mk vo t L k n X hp q _ hE => hpost A a g mk vo t L k n hp q hE)
    intro m meth c A a X q
    have hc := hat a A.U X.warmed _ hcode
    unfold xcw at hc
    rw [if_pos hd] at hc
    obtain ⟨r1, r2⟩ := hroom A q.2.2.2.1 q.2.2.2.2
    exact ⟨atoms_intro (hat a A.U X.warmed), hc, hat a A.U X.warmed _ hini, r1, r2⟩
  · refine Back.of_freeWith (handlers := md2.2.2.2.2.2) (S := headSpec Ts (xrm d2 zm um h)) (bytes := md2.2.1) (maxL := md2.2.2.1) (ret := md2.2.2.2.1) (E := fun _ _ _ _ L k n => k = h2.1 - h.1 ∧ n = h2.2.1 - h.2.1 ∧ (∀ q ∈ L, H0.size ≤ q.base) ∧ (w2 = false → h2 = h ∧ L = [])) hC hf hlo ?_ hP (fun _ _ _ _ _ _ _ _ _ => trivial) hQ (fun m meth c A a g mk vo t L k n X hp q _ hE => hpost A a g mk vo t L k n hp q hE)
    intro m meth c A a X q
    have hc := hat a A.U X.warmed _ hcode
    unfold xcw at hc
    rw [if_neg hd] at hc
    obtain ⟨r1, r2⟩ := hroom A q.2.2.2.1 q.2.2.2.2
    exact ⟨atoms_intro (hat a A.U X.warmed), hc, hat a A.U X.warmed _ hini, r1, r2⟩
variable {cc : ByteArray} {own : String} {ini : Bool} {nL pc idx k : Nat} {L : xL} {st : List Value} {Q : State → Prop}
/-- a call's stack, split -/
theorem xsplit (b base : Nat) {v0 : Value} {as : List Value} (hk : (st.take k).reverse = v0 :: as) : st.map (xcv b base) = (as.map (xcv b base)).reverse ++ xcv b base v0 :: (st.drop k).map (xcv b base) := by
  have h1 : st.take k = as.reverse ++ [v0] := by
    have := congrArg List.reverse hk
    simpa using this
  conv => lhs; rw [← List.take_append_drop k st, h1]
  simp
theorem xafter {ls : Array Slot} {H : Heap} {locs : List Loc} {cells slots : Nat} {A : Pt} {B : Pt} (I : xInv D cl ca b H0 nL zm um hs L w h ls H locs cells slots) (hA : A.locs = locs) (hq : xPost D cl ca b H0 zm um hs h w2 h2 A B) : xInv D cl ca b H0 nL zm um hs L (w || w2) h2 ls B.U.heap B.locs B.cells B.slots := by
  obtain ⟨i1, i2, i3, i4, i5, i6, i7, i8⟩ := I
  obtain ⟨r, ⟨L', e1, e2, e3⟩, c1, c2, z1, z2⟩ := hq
  refine ⟨i1, r, fun q hq => ?_, c1, c2, z1, z2, fun hw => ?_⟩
  · rw [e1, hA] at hq
    rcases List.mem_append.mp hq with h9 | h9
    · exact i3 q h9
    · exact e2 q h9
  · rw [Bool.or_eq_false_iff] at hw
    obtain ⟨j1, j2⟩ := i8 hw.1
    obtain ⟨j3, j4⟩ := e3 hw.2
    exact ⟨j3.trans j1, by rw [e1, hA, j2, j4]; rfl⟩
theorem xtl (b base : Nat) (v : Option Value) (r : List Value) : (v.map (xcv b base)).toList ++ r.map (xcv b base) = (v.toList ++ r).map (xcv b base) := by
  cases v <;> rfl
/-- invokevirtual -/
theorem xu_callV (E : xEn p s m args meth c cc own ini nL D cl ca Ts b Ls xs H0) (hEx : Ex s) (hH : ∀ q, q < H0.size → s.heap[q]? = H0[q]?) (hmv : xmv H0 Ex) (hgood : ∀ w ∈ Ts, goodWord w = true) (hpl : md2.2.2.2.2.2 = []) (hcode : xcw md2 ∈ Ts) (hini : Cond.initialized md2.1.cls ∈ Ts) (hf : d2 + 1 ≤ R.frames) (hlo : 8 + (md2.2.2.1 + 11) + 36 * d2 ≤ R.locals) (hRc : R.cells + hs.1 = zm) (hRs : R.slots + hs.2.1 = um)
    {C : String} {T : u_T} {N ci j : Nat} {fs : List Value} {as : List Value} (hd : decode cc pc = .ok (.invokevirtual idx, 3)) (hl : Cond.methodLink own idx md2.1 ∈ Ts) (hin : Cond.instanceMethod md2.1 ∈ Ts) (hse : Cond.selects C md2.1 md2.1 ∈ Ts) (hy : md2.1.cls ≠ "java/lang/invoke/MethodHandle" ∧ md2.1.cls ≠ "java/lang/invoke/VarHandle") (hn : (parseMethodDescriptor md2.1.desc).map (fun d => d.parameters.length) = some as.length)
    (hk : (st.take k).reverse = .ref (j + 1) :: as) (hcell : h.2.2 (j + 1) = some (.inl (ci, fs))) (hcl : cl[ci]? = some (C, T, N)) (hcs : xcs (st.drop k) ≤ 8)
    (hC : xC l D cl ca b Ls xs H0 zm um xn Ex Ts d2 md2.1 (st.take k).reverse h (.inl v) w2 h2)
    (K : xW p l e R s m args below meth c D cl ca b H0 nL zm um hs Q (pc + 3) L (v.toList ++ st.drop k) (w || w2) h2) : xW p l e R s m args below meth c D cl ca b H0 nL zm um hs Q pc L st w h := by
  intro ls H locs cells slots I T9 hT X
  have I0 := I
  obtain ⟨i1, i2, i3, i4, i5, i6, i7, i8⟩ := I
  obtain ⟨hx, hb, hown, hts, hK, hX, hbl, hml, hnm0, hao⟩ := E
  have hes : xEs D cl ca b Ls xs H0 Ex s := ⟨hK, hX, hao, hEx⟩
  obtain ⟨cellB, g1, g2, g3⟩ := va_recv (q0 := 0) (a := H0.size + j) (fs := fs.map (xcv b H0.size)) hK (xr_one (i2.2.2.2 j _ hcell).2) hcl rfl
  have hc := hts _ hcode
  unfold xcw at hc
  rw [if_pos hpl] at hc
  have hbk := xback (R := R) (s := s) (args := args) (p := p) (e := e) (below := below) (hs := hs) hmv hts hgood hcode hini hf hlo hRc hRs i6 i7 hC
  obtain ⟨v', vm₁, B, hW1, X', ⟨hv, hpost⟩, hsteps⟩ := callV X hx hown (hts _ hl) (hts _ hin) (hts _ hse) hc hy hbk (b := H0.size + j) (cellB := cellB) (by rw [hT]; exact g1) g2 g3 (g := F0 m pc ls (st.map (xcv b H0.size))) rfl (by rw [hml]; exact i1.1) (argsL := as.map (xcv b H0.size)) (rest := (st.drop k).map (xcv b H0.size))
    (fun sig hsig => by rw [hsig] at hn; rw [List.length_map]; exact (Option.some.inj hn).symm) (xsplit b H0.size hk) (by rw [xcs_map]; show 2 * 0 + _ ≤ 8; omega) (by rw [hb]; exact hd)
    (fun vm₁ hW => ⟨by rw [hk]; rfl, by show xrp D cl ca b H0 h T9.heap; rw [hT]; exact i2, xEs.at (U := T9.setVm vm₁) hmv hes hW hH (by show ∀ q, q < H0.size → T9.heap[q]? = H0[q]?; rw [hT]; exact i2.2.2.1), i4, i5⟩)
  obtain ⟨t, a1, b1⟩ := K ls B.U.heap B.locs B.cells B.slots (xafter I0 rfl hpost) B.U rfl X'
  refine ⟨t, hsteps t ?_, b1⟩
  rw [hv, xtl]
  exact a1
/-- invokespecial of a constructor -/
theorem xu_callI (E : xEn p s m args meth c cc own ini nL D cl ca Ts b Ls xs H0) (hEx : Ex s) (hH : ∀ q, q < H0.size → s.heap[q]? = H0[q]?) (hmv : xmv H0 Ex) (hgood : ∀ w ∈ Ts, goodWord w = true) (hpl : md2.2.2.2.2.2 = []) (hrt : md2.2.2.2.1 = none) (hcode : xcw md2 ∈ Ts) (hini : Cond.initialized md2.1.cls ∈ Ts) (hf : d2 + 1 ≤ R.frames) (hlo : 8 + (md2.2.2.1 + 11) + 36 * d2 ≤ R.locals) (hRc : R.cells + hs.1 = zm) (hRs : R.slots + hs.2.1 = um)
    {j : Nat} {as : List Value} (hd : decode cc pc = .ok (.invokespecial idx, 3)) (hl : Cond.methodLink own idx md2.1 ∈ Ts) (hin : Cond.instanceMethod md2.1 ∈ Ts) (hy1 : md2.1.name = "<init>") (hy : md2.1.cls ≠ "java/lang/invoke/MethodHandle" ∧ md2.1.cls ≠ "java/lang/invoke/VarHandle") (hn : (parseMethodDescriptor md2.1.desc).map (fun d => d.parameters.length) = some as.length)
    (hk : (st.take k).reverse = .ref (j + 1) :: as) (hcs : xcs (st.drop k) ≤ 8)
    (hC : xC l D cl ca b Ls xs H0 zm um xn Ex Ts d2 md2.1 (st.take k).reverse h (.inl v) w2 h2)
    (K : xW p l e R s m args below meth c D cl ca b H0 nL zm um hs Q (pc + 3) L (v.toList ++ st.drop k) (w || w2) h2) : xW p l e R s m args below meth c D cl ca b H0 nL zm um hs Q pc L st w h := by
  intro ls H locs cells slots I T9 hT X
  have I0 := I
  obtain ⟨i1, i2, i3, i4, i5, i6, i7, i8⟩ := I
  obtain ⟨hx, hb, hown, hts, hK, hX, hbl, hml, hnm0, hao⟩ := E
  have hes : xEs D cl ca b Ls xs H0 Ex s := ⟨hK, hX, hao, hEx⟩
  have hc := hts _ hcode
  unfold xcw at hc
  rw [if_pos hpl, hrt] at hc
  have hbk := xback (R := R) (s := s) (args := args) (p := p) (e := e) (below := below) (hs := hs) hmv hts hgood hcode hini hf hlo hRc hRs i6 i7 hC
  obtain ⟨v', vm₁, B, hW1, X', ⟨hv, hpost⟩, hsteps⟩ := callI X hx hown hy1 (hts _ hl) (hts _ hin) hc hy hbk (g := F0 m pc ls (st.map (xcv b H0.size))) rfl (by rw [hml]; exact i1.1) (a := H0.size + j) (argsL := as.map (xcv b H0.size)) (rest := (st.drop k).map (xcv b H0.size))
    (fun sig hsig => by rw [hsig] at hn; rw [List.length_map]; exact (Option.some.inj hn).symm) (xsplit b H0.size hk) (by rw [xcs_map]; show 2 * 0 + _ ≤ 8; omega) (by rw [hb]; exact hd)
    (fun vm₁ hW => ⟨by rw [hk]; rfl, by show xrp D cl ca b H0 h T9.heap; rw [hT]; exact i2, xEs.at (U := T9.setVm vm₁) hmv hes hW hH (by show ∀ q, q < H0.size → T9.heap[q]? = H0[q]?; rw [hT]; exact i2.2.2.1), i4, i5⟩)
  obtain ⟨t, a1, b1⟩ := K ls B.U.heap B.locs B.cells B.slots (xafter I0 rfl hpost) B.U rfl X'
  refine ⟨t, hsteps t ?_, b1⟩
  rw [hv, xtl]
  exact a1
/-- invokestatic -/
theorem xu_callS (E : xEn p s m args meth c cc own ini nL D cl ca Ts b Ls xs H0) (hEx : Ex s) (hH : ∀ q, q < H0.size → s.heap[q]? = H0[q]?) (hmv : xmv H0 Ex) (hgood : ∀ w ∈ Ts, goodWord w = true) (hcode : xcw md2 ∈ Ts) (hini : Cond.initialized md2.1.cls ∈ Ts) (hf : d2 + 1 ≤ R.frames) (hlo : 8 + (md2.2.2.1 + 11) + 36 * d2 ≤ R.locals) (hRc : R.cells + hs.1 = zm) (hRs : R.slots + hs.2.1 = um)
    (hd : decode cc pc = .ok (.invokestatic idx, 3)) (hl : Cond.methodLink own idx md2.1 ∈ Ts) (hst : Cond.static md2.1 ∈ Ts) (hy : md2.1.cls ≠ "java/lang/invoke/MethodHandle" ∧ md2.1.cls ≠ "java/lang/invoke/VarHandle") (hn : (parseMethodDescriptor md2.1.desc).map (fun d => d.parameters.length) = some k)
    (hk : k ≤ st.length) (hcs : xcs (st.drop k) ≤ 8)
    (hC : xC l D cl ca b Ls xs H0 zm um xn Ex Ts d2 md2.1 (st.take k).reverse h (.inl v) w2 h2)
    (K : xW p l e R s m args below meth c D cl ca b H0 nL zm um hs Q (pc + 3) L (v.toList ++ st.drop k) (w || w2) h2) : xW p l e R s m args below meth c D cl ca b H0 nL zm um hs Q pc L st w h := by
  intro ls H locs cells slots I T9 hT X
  have I0 := I
  obtain ⟨i1, i2, i3, i4, i5, i6, i7, i8⟩ := I
  obtain ⟨hx, hb, hown, hts, hK, hX, hbl, hml, hnm0, hao⟩ := E
  have hes : xEs D cl ca b Ls xs H0 Ex s := ⟨hK, hX, hao, hEx⟩
  have hbk := xback (R := R) (s := s) (args := args) (p := p) (e := e) (below := below) (hs := hs) hmv hts hgood hcode hini hf hlo hRc hRs i6 i7 hC
  obtain ⟨mk, hnamed⟩ : ∃ mk, s.methodNamed? md2.1 = some mk := by
    have hs1 := hts _ hst
    cases hq : s.methodNamed? md2.1 with
    | some mk => exact ⟨mk, rfl⟩
    | none => simp [Cond.before, Cond.holds, Cond.value, hq] at hs1
  obtain ⟨methM, cM, hmethM, -, -, -, -, hsigM⟩ := xcw_spec hnamed (hts _ hcode)
  have hstatic : methM.isStatic = true := Cond.static_spec hnamed hmethM (hts _ hst)
  obtain ⟨kP, hkP, -⟩ := className_of_methodNamed hnamed
  have hinitP : kP.init = .initialized := Cond.initialized_spec (findClass_of_methodNamed hnamed) hkP (hts _ hini)
  have hlen : ((st.take k).reverse.map (xcv b H0.size)).length = methM.sig.parameters.length := by
    rw [hsigM] at hn
    have := Option.some.inj hn
    simp [this, hk]
  have hstk : st.map (xcv b H0.size) = ((st.take k).reverse.map (xcv b H0.size)).reverse ++ (st.drop k).map (xcv b H0.size) := by
    conv => lhs; rw [← List.take_append_drop k st]
    simp
  obtain ⟨vm₁, X₁, hstep₁⟩ := X.invokestatic hx hown (hts _ hl) hnamed hmethM hstatic hkP hinitP hy (g := F0 m pc ls (st.map (xcv b H0.size))) rfl (argsL := (st.take k).reverse.map (xcv b H0.size)) (rest := (st.drop k).map (xcv b H0.size)) hlen hstk (by rw [hb]; exact hd)
  obtain ⟨v', B, X', ⟨hv, hpost⟩, hsteps⟩ := hbk m meth c ⟨T9.setVm vm₁, locs, cells, slots⟩ { F0 m pc ls (st.map (xcv b H0.size)) with stack := (st.drop k).map (xcv b H0.size) } (.invokestatic idx) mk ((st.take k).reverse.map (xcv b H0.size)).toArray X₁ rfl (by rw [hml]; exact i1.1) (by rw [hb]; exact hd) (by rw [xcs_map]; show 2 * 0 + _ ≤ 8; omega) (X₁.named hnamed)
    ⟨rfl, by show xrp D cl ca b H0 h T9.heap; rw [hT]; exact i2, xEs.at (U := T9.setVm vm₁) hmv hes X₁.warmed hH (by show ∀ q, q < H0.size → T9.heap[q]? = H0[q]?; rw [hT]; exact i2.2.2.1), i4, i5⟩
  obtain ⟨t, a1, b1⟩ := K ls B.U.heap B.locs B.cells B.slots (xafter I0 rfl hpost) B.U rfl X'
  refine ⟨t, hstep₁ _ fun acts => ?_, b1⟩
  rw [doInvoke_state]
  refine hsteps.trans ?_
  rw [hv]
  show Steps p.tables e below (B.U.setTop (F0 m (pc + 3) ls ((v.map (xcv b H0.size)).toList ++ (st.drop k).map (xcv b H0.size)))) t
  rw [xtl]
  exact a1
end XB
