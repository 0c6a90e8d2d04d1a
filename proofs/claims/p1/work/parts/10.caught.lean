/-! A call whose exception is caught by the caller. -/
section XB2
variable {p : Program} {l : Launch} {e : Env} {R : Room} {s : State} {m : MethodId} {args : Array Value} {below : List Frame} {meth : Method} {c : Code}
variable {D : va_G} {cl : List vw_C} {ca : Nat → ClassId} {b Ls : Nat} {xs : Nat → Int32} {H0 : Heap} {zm um : Nat} {xn : xX} {Ex : State → Prop} {Ts : List Cond} {hs h h2 : xH} {w w2 : Bool} {av : List Value} {md2 : xMd} {d2 x i : Nat}
theorem xbackT (hmv : xmv H0 Ex) (hts : ∀ w ∈ Ts, w.before args s = true) (hgood : ∀ w ∈ Ts, goodWord w = true) (hpl : md2.2.2.2.2.2 = []) (hcode : xcw md2 ∈ Ts) (hini : Cond.initialized md2.1.cls ∈ Ts) (hf : d2 + 1 ≤ R.frames) (hlo : 8 + (md2.2.2.1 + 11) + 36 * d2 ≤ R.locals) (hRc : R.cells + hs.1 = zm) (hRs : R.slots + hs.2.1 = um) (hz : h.1 ≤ zm) (hu : h.2.1 ≤ um)
    (hC : xC l D cl ca b Ls xs H0 zm um xn Ex Ts d2 md2.1 av h (.inr (x, i)) w2 h2) :
    BackT l R p e below s args md2.1 3 8 (xPre D cl ca b Ls xs H0 Ex hs h av) (fun A _ vo B => vo = xad b H0.size i ∧ (∃ ce cX, B.U.heap[xad b H0.size i]? = some ce ∧ A.U.vm.findClass (xn x) = some cX ∧ ce.cls = cX ∧ ce.vm = .none) ∧ xPost D cl ca b H0 zm um hs h w2 h2 A B) := by
  have hat : ∀ (a : Array Value) (U : State), s.WarmedH U.vm → ∀ w ∈ Ts, w.before a U = true := fun a U hW w hw => word_at hW (good_of_word (hgood w hw)) (hts w hw)
  have hroom : ∀ A : Pt, A.cells + hs.1 = h.1 → A.slots + hs.2.1 = h.2.1 → A.cells + (headSpec Ts (xrm d2 zm um h)).room.cells ≤ R.cells ∧ A.slots + (headSpec Ts (xrm d2 zm um h)).room.slots ≤ R.slots := fun A e1 e2 => by
    show A.cells + (zm - h.1) ≤ R.cells ∧ A.slots + (um - h.2.1) ≤ R.slots
    omega
  refine BackT.of_free (S := headSpec Ts (xrm d2 zm um h)) (bytes := md2.2.1) (maxL := md2.2.2.1) (ret := md2.2.2.2.1) (E := fun _ _ _ _ L k n => k = h2.1 - h.1 ∧ n = h2.2.1 - h.2.1 ∧ (∀ q ∈ L, H0.size ≤ q.base) ∧ (w2 = false → h2 = h ∧ L = [])) hC hf hlo ?_ ?_ (fun _ _ _ _ _ _ _ _ _ => trivial) ?_ ?_
  · intro m meth c A a X q
    have hc := hat a A.U X.warmed _ hcode
    unfold xcw at hc
    rw [if_pos hpl] at hc
    obtain ⟨r1, r2⟩ := hroom A q.2.2.2.1 q.2.2.2.2
    exact ⟨atoms_intro (hat a A.U X.warmed), hc, hat a A.U X.warmed _ hini, r1, r2⟩
  · intro m meth c A a g mk X q
    exact ⟨q.1, q.2.1, hz, hu, xEs.at (s := A.U) (U := A.U.calling g mk a) hmv q.2.2.1 (State.WarmedH.refl A.U) q.2.1.2.2.1 q.2.1.2.2.1⟩
  · intro a first o t q
    obtain ⟨⟨ho, -⟩, -, -, -, -, -, L, hW, hsame, hL, hw⟩ := q
    exact ⟨L, _, _, ⟨⟨_, ho⟩, hW, hsame⟩, rfl, rfl, hL, hw⟩
  · intro m meth c A a g mk vo t L k n X hp q _ hE
    obtain ⟨⟨ho, ce, cX, o1, o2, o3, o4⟩, hr, g1, g2, g3, g4, -⟩ := q
    obtain ⟨-, -, -, c1, c2⟩ := hp
    obtain ⟨e1, e2, hL, hw⟩ := hE
    refine ⟨Outcome.threw.inj ho, ⟨ce, cX, o1, o2, o3, o4⟩, hr, ⟨L, rfl, hL, hw⟩, ?_, ?_, g3, g4⟩
    · show A.cells + k + hs.1 = h2.1
      omega
    · show A.slots + n + hs.2.1 = h2.2.1
      omega
variable {cc : ByteArray} {own : String} {ini : Bool} {nL pc idx k : Nat} {L : xL} {st : List Value} {Q : State → Prop} {strs : List (Nat × String)}
theorem xu_catch (E : xEn p s m args meth c cc own ini nL D cl ca Ts b Ls xs H0) (hE : xEx strs H0 s) (hH : ∀ q, q < H0.size → s.heap[q]? = H0[q]?) (hgood : ∀ w ∈ Ts, goodWord w = true) (hpl : md2.2.2.2.2.2 = []) (hcode : xcw md2 ∈ Ts) (hini : Cond.initialized md2.1.cls ∈ Ts) (hf : d2 + 1 ≤ R.frames) (hlo : 8 + (md2.2.2.1 + 11) + 36 * d2 ≤ R.locals) (hRc : R.cells + hs.1 = zm) (hRs : R.slots + hs.2.1 = um)
    {C : String} {T : u_T} {N ci j : Nat} {fs : List Value} {as : List Value} (hd : decode cc pc = .ok (.invokevirtual idx, 3)) (hl : Cond.methodLink own idx md2.1 ∈ Ts) (hin : Cond.instanceMethod md2.1 ∈ Ts) (hse : Cond.selects C md2.1 md2.1 ∈ Ts) (hy : md2.1.cls ≠ "java/lang/invoke/MethodHandle" ∧ md2.1.cls ≠ "java/lang/invoke/VarHandle") (hn : (parseMethodDescriptor md2.1.desc).map (fun d => d.parameters.length) = some as.length)
    (hk : (st.take k).reverse = .ref (j + 1) :: as) (hcell : h.2.2 (j + 1) = some (.inl (ci, fs))) (hcl : cl[ci]? = some (C, T, N)) (hcs : xcs (st.drop k) ≤ 8)
    (hC : xC l D cl ca b Ls xs H0 zm um xn (xEx strs H0) Ts d2 md2.1 (st.take k).reverse h (.inr (x, i)) w2 h2)
    {pre rest : List ExceptionTableEntry} {en : ExceptionTableEntry} (hsplit : c.exceptionTable.toList = pre ++ en :: rest) (hcov : covers en pc = true) (h0 : en.catchType ≠ 0) (hlk : Cond.classLink own en.catchType (xn x) ∈ Ts) (hcast : (xn x, xn x) ∈ xcast) (hpass : ∀ y ∈ pre, y.catchType ≠ 0 ∧ ∃ nm, Cond.classLink own y.catchType nm ∈ Ts ∧ (xn x, nm) ∈ xnot)
    (K : xW p l e R s m args below meth c D cl ca b H0 nL zm um hs Q en.handlerPc L [.ref i] true h2) : xW p l e R s m args below meth c D cl ca b H0 nL zm um hs Q pc L st w h := by
  intro ls H locs cells slots I T9 hT X
  have I0 := I
  obtain ⟨i1, i2, i3, i4, i5, i6, i7, i8⟩ := I
  obtain ⟨hx, hb, hown, hts, hK, hX, hbl, hml, hnm0, hao⟩ := E
  have hmv := xEx_mv strs H0
  have hes : xEs D cl ca b Ls xs H0 (xEx strs H0) s := ⟨hK, hX, hao, hE⟩
  obtain ⟨cellB, g1, g2, g3⟩ := va_recv (q0 := 0) (a := H0.size + j) (fs := fs.map (xcv b H0.size)) hK (xr_one (i2.2.2.2 j _ hcell).2) hcl rfl
  have hc := hts _ hcode
  unfold xcw at hc
  rw [if_pos hpl] at hc
  have hbk := xbackT (R := R) (s := s) (args := args) (p := p) (e := e) (below := below) (hs := hs) hmv hts hgood hpl hcode hini hf hlo hRc hRs i6 i7 hC
  obtain ⟨mk, methM, hnamed, hmethM, hstM, habM⟩ := Cond.instanceMethod_spec (hts _ hin)
  obtain ⟨methM', cM, hmethM', -, -, -, -, -, -, hsigM⟩ := Cond.code_spec hnamed hc
  cases hmethM.symm.trans hmethM'
  obtain ⟨c2, r2, m2, q1, q2, q3, q4, kP, hkP, hkPi⟩ := Cond.selects_spec (hts _ hse)
  cases g3.symm.trans q1
  cases (State.methodFound?_of_named hnamed hy).symm.trans q2
  cases hnamed.symm.trans q3
  have hselP : selectMethod e.platform s.vm cellB.cls mk = .method mk := by rw [Launch.admits_selectMethod X.admits]; exact q4
  obtain ⟨vm₁, X₁, hstep₁⟩ := X.invokevirtual hx hown (hts _ hl) hnamed hmethM hstM hkP hkPi hy (a := H0.size + j) (cell := cellB) (by rw [hT]; exact g1)
    (fun z h => by rw [h] at g2; cases g2) hselP hmethM habM hkP hkPi (g := F0 m pc ls (st.map (xcv b H0.size))) rfl (argsL := as.map (xcv b H0.size)) (rest := (st.drop k).map (xcv b H0.size)) (by rw [hsigM] at hn; rw [List.length_map]; exact (Option.some.inj hn).symm) (xsplit b H0.size hk) (by rw [hb]; exact hd)
  obtain ⟨v', B, X', ⟨hv, ⟨ce, cX, o1, o2, o3, o4⟩, hpost⟩, hsteps⟩ := hbk m meth c ⟨T9.setVm vm₁, locs, cells, slots⟩ { F0 m pc ls (st.map (xcv b H0.size)) with stack := (st.drop k).map (xcv b H0.size) } (.invokevirtual idx) mk (Value.ref (H0.size + j) :: as.map (xcv b H0.size)).toArray X₁ rfl (by rw [hml]; exact i1.1) (by rw [hb]; exact hd) (by rw [xcs_map]; show 2 * 0 + _ ≤ 8; omega) (X₁.named hnamed)
    ⟨by rw [hk]; rfl, by show xrp D cl ca b H0 h T9.heap; rw [hT]; exact i2, xEs.at (U := T9.setVm vm₁) hmv hes X₁.warmed hH (by show ∀ q, q < H0.size → T9.heap[q]? = H0[q]?; rw [hT]; exact i2.2.2.1), i4, i5⟩
  have hfX : s.vm.findClass (xn x) = some cX := by
    have := o2
    rw [show (T9.setVm vm₁).vm.findClass (xn x) = s.vm.findClass (xn x) from X₁.warmed.alike.findClass _ _] at this
    exact this
  obtain ⟨c3, c4, w1, w2', w3⟩ := Cond.castable_spec (va_Nw.use (A := args) rfl (hE.2.1 _ hcast))
  cases hfX.symm.trans w1
  cases hfX.symm.trans w2'
  have hcome : Steps p.tables e below (T9.setTop (F0 m pc ls (st.map (xcv b H0.size)))) ((B.U.setTop { F0 m pc ls (st.map (xcv b H0.size)) with stack := (st.drop k).map (xcv b H0.size) }).pushFrame (.throwing v')) := hstep₁ _ (fun acts => by rw [doInvoke_state]; exact hsteps)
  have hplat : e.platform.magicAccessors = ({} : Platform).magicAccessors := by rw [X.admits.platform]
  obtain ⟨hend, hk0⟩ := X'.catches_of_link hown h0 (hts _ hlk) hfX w3
  subst hv
  subst o3
  obtain ⟨vm', XV, st9⟩ := X'.thenCaughtThrough (xad b H0.size i) rfl hcome o1 (by rw [o4]; rfl) hk0 pre en rest hsplit (fun y hy9 => by
    obtain ⟨y0, nm, y1, y2⟩ := hpass y hy9
    exact RowPassed.of_words hplat hown y0 (hts _ y1) hfX (xnc_moved (Vm.Alike.refl s.vm) (hE.2.2.1 _ y2))) hcov hend
  have I2 := xafter I0 rfl hpost
  obtain ⟨t, a1, b1⟩ := K ls B.U.heap B.locs B.cells B.slots ⟨I2.1, I2.2.1, I2.2.2.1, I2.2.2.2.1, I2.2.2.2.2.1, I2.2.2.2.2.2.1, I2.2.2.2.2.2.2.1, fun q => by cases q⟩ (B.U.setVm vm') rfl XV
  exact ⟨t, st9.trans a1, b1⟩
end XB2
