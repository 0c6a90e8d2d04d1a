/-! A run of the abstract machine is a walk of the machine. -/
def xtb : List (Nat × Nat × Nat × Nat) → List ExceptionTableEntry
  | [] => []
  | (a, b, c, d) :: r => { startPc := a, endPc := b, handlerPc := c, catchType := d } :: xtb r
theorem xtb_eq : ∀ t : List ExceptionTableEntry, xtb (t.map fun h => (h.startPc, h.endPc, h.handlerPc, h.catchType)) = t
  | [] => rfl
  | h :: t => by
    show _ :: xtb _ = _
    rw [xtb_eq t]
def xHd (Ts : List Cond) (xn : xX) (md : xMd) (pc x q : Nat) : Prop :=
  ∃ pre en rest, xtb md.2.2.2.2.2 = pre ++ en :: rest ∧ covers en pc = true ∧ en.catchType ≠ 0 ∧ en.handlerPc = q ∧ Cond.classLink md.1.cls en.catchType (xn x) ∈ Ts ∧ (xn x, xn x) ∈ xcast ∧ ∀ y ∈ pre, y.catchType ≠ 0 ∧ ∃ nm, Cond.classLink md.1.cls y.catchType nm ∈ Ts ∧ (xn x, nm) ∈ xnot
def xCk (M : Nat → Option xMd) (cl : List vw_C) (Ts : List Cond) (xn : xX) (md : xMd) (pc j2 k rc : Nat) (hd : List (Nat × Nat)) : Prop :=
  ∃ md2, M j2 = some md2 ∧ Cond.initialized md2.1.cls ∈ Ts ∧ md2.2.2.1 ≤ 17 ∧ (md2.1.cls ≠ "java/lang/invoke/MethodHandle" ∧ md2.1.cls ≠ "java/lang/invoke/VarHandle") ∧
    ((rc = 0 ∧ hd = [] ∧ ∃ idx, decode md.2.1 pc = .ok (.invokestatic idx, 3) ∧ Cond.methodLink md.1.cls idx md2.1 ∈ Ts ∧ Cond.static md2.1 ∈ Ts ∧ (parseMethodDescriptor md2.1.desc).map (fun d => d.parameters.length) = some k) ∨
     (rc = 1 ∧ hd = [] ∧ md2.2.2.2.2.2 = [] ∧ md2.2.2.2.1 = none ∧ md2.1.name = "<init>" ∧ ∃ idx k1, k = k1 + 1 ∧ decode md.2.1 pc = .ok (.invokespecial idx, 3) ∧ Cond.methodLink md.1.cls idx md2.1 ∈ Ts ∧ Cond.instanceMethod md2.1 ∈ Ts ∧ (parseMethodDescriptor md2.1.desc).map (fun d => d.parameters.length) = some k1) ∨
     (∃ ci C T N idx k1, rc = ci + 2 ∧ k = k1 + 1 ∧ cl[ci]? = some (C, T, N) ∧ md2.2.2.2.2.2 = [] ∧ decode md.2.1 pc = .ok (.invokevirtual idx, 3) ∧ Cond.methodLink md.1.cls idx md2.1 ∈ Ts ∧ Cond.instanceMethod md2.1 ∈ Ts ∧ Cond.selects C md2.1 md2.1 ∈ Ts ∧ (parseMethodDescriptor md2.1.desc).map (fun d => d.parameters.length) = some k1 ∧ ∀ x q, hd.lookup x = some q → xHd Ts xn md pc x q))
def xTk (Ts : List Cond) (xn : xX) (strs : List (Nat × String)) (md : xMd) (pc x : Nat) : Prop :=
  ∃ (idx ic si ix : Nat) (tx : String) (rx : ByteArray) (names : List String), names.length = 2 ∧ md.2.2.2.2.2 = [] ∧ md.1.cls = "TableMaker" ∧ decode md.2.1 pc = .ok (.new idx, 3) ∧ decode md.2.1 (pc + 3) = .ok (.dup, 1) ∧ decode md.2.1 (pc + 3 + 1) = .ok (.ldc si, 2) ∧ decode md.2.1 (pc + 3 + 1 + 2) = .ok (.invokespecial ic, 3) ∧ decode md.2.1 (pc + 3 + 1 + 2 + 3) = .ok (.athrow, 1) ∧
    decode rx 0 = .ok (.aload_n 0, 1) ∧ decode rx 1 = .ok (.aload_n 1, 1) ∧ decode rx 2 = .ok (.invokespecial ix, 3) ∧ decode rx 5 = .ok (.return_, 1) ∧ Bundle.fit (xn x) = true ∧ (∀ n ∈ names, Bundle.fit n = true) ∧
    Cond.classLink md.1.cls idx (xn x) ∈ Ts ∧ Cond.instantiable (xn x) 6 ∈ Ts ∧ Cond.initialized (xn x) ∈ Ts ∧ (si, tx) ∈ strs ∧ ∀ a ∈ Bundle.ownAtomsX md.1.cls ic (xn x) ix rx names, a ∈ Ts ∨ xsp a = true
def xIt (M : Nat → Option xMd) (cl : List vw_C) (Ts : List Cond) (Ls : Nat) (xs : Nat → Int32) (zm um : Nat) (xn : xX) (strs : List (Nat × String)) (md : xMd) (pc : Nat) : xK → Prop
  | .inl F => xOK md.2.1 md.1.cls md.2.2.2.2.1 md.2.2.1 cl Ts Ls xs zm um pc F
  | .inr (.inl (j2, k, rc, hd)) => xCk M cl Ts xn md pc j2 k rc hd
  | .inr (.inr 0) => md.2.2.2.1 = none ∧ decode md.2.1 pc = .ok (.return_, 1)
  | .inr (.inr 1) => md.2.2.2.1 = some .int ∧ decode md.2.1 pc = .ok (.ireturn, 1)
  | .inr (.inr 2) => md.2.2.2.1 = some .boolean ∧ decode md.2.1 pc = .ok (.ireturn, 1)
  | .inr (.inr (x + 3)) => xTk Ts xn strs md pc x
/-- the program: each method, each item of its code -/
def xPg (P : Nat → Nat → Option xK) (M : Nat → Option xMd) (cl : List vw_C) (Ts : List Cond) (Ls : Nat) (xs : Nat → Int32) (zm um : Nat) (xn : xX) (strs : List (Nat × String)) : Prop :=
  ∀ j md, M j = some md → plainFor md.1 = true ∧ xcw md ∈ Ts ∧ (md.2.2.2.2.1 = true → md.1.name = "<init>") ∧ ∀ pc it, P j pc = some it → xIt M cl Ts Ls xs zm um xn strs md pc it
theorem xcs_rev (st : List Value) : xcs st.reverse = xcs st := by
  unfold xcs
  rw [List.map_reverse, List.sum_reverse]
theorem xrcv_1 {h : xH} {vs : List Value} (hr : xrcv h 1 vs = true) : ∃ j as, vs = .ref (j + 1) :: as := by
  unfold xrcv at hr
  split at hr
  · exact ⟨_, _, rfl⟩
  · cases hr
theorem xrcv_2 {h : xH} {ci : Nat} {vs : List Value} (hr : xrcv h (ci + 2) vs = true) : ∃ j as fs, vs = .ref (j + 1) :: as ∧ h.2.2 (j + 1) = some (.inl (ci, fs)) := by
  unfold xrcv at hr
  split at hr
  · rename_i j r
    refine ⟨j, r, ?_⟩
    simp only [Bool.or_eq_true, beq_iff_eq] at hr
    rcases hr with (h9 | h9) | h9
    · omega
    · omega
    · split at h9
      · rename_i c2 fs hc
        have : c2 = ci := by have := beq_iff_eq.mp h9; omega
        subst this
        exact ⟨fs, rfl, hc⟩
      · cases h9
  · have := beq_iff_eq.mp hr
    omega
section XZ
variable {P : Nat → Nat → Option xK} {M : Nat → Option xMd} {l : Launch} {D : va_G} {cl : List vw_C} {ca : Nat → ClassId} {b Ls : Nat} {xs : Nat → Int32} {H0 : Heap} {zm um : Nat} {xn : xX} {Ts : List Cond} {strs : List (Nat × String)}
set_option maxHeartbeats 4000000 in
theorem xrun_ok (hP : xPg P M cl Ts Ls xs zm um xn strs) (hgood : ∀ w ∈ Ts, goodWord w = true) (hfl : l.flags = pinnedFlags ++ [noTraceFlag]) (hbl : b < H0.size) :
    ∀ (n d j pc : Nat) (L : xL) (st : List Value) (w : Bool) (h : xH) (r : xR) (w' : Bool) (h' : xH) (md : xMd), M j = some md → 1 ≤ d → xrun P M zm um n d j pc L st w h = some (r, w', h') →
      ∀ (p : Program) (e : Env) (R : Room) (s : State) (m : MethodId) (args : Array Value) (below : List Frame) (meth : Method) (c : Code) (hs : xH), xEn p s m args meth c md.2.1 md.1.cls md.2.2.2.2.1 md.2.2.1 D cl ca Ts b Ls xs H0 → xEx strs H0 s → xrp D cl ca b H0 hs s.heap → xMh md meth c → R.cells + hs.1 = zm → R.slots + hs.2.1 = um → R.frames = d → R.locals = 36 * d →
        xW p l e R s m args below meth c D cl ca b H0 md.2.2.1 zm um hs (xQ below D cl ca b H0 zm um xn hs r w' h' s) pc L st w h
  | 0, _, _, _, _, _, _, _, _, _, _, _, _, _, h => by cases h
  | n + 1, d, j, pc, L, st, w, h, r, w', h', md, hM, hd, hrun => by
    intro p e R s m args below meth c hs E hE hR hMh hRc hRs hRf hRl
    obtain ⟨hpl, hcw, hini, hit⟩ := hP j md hM
    unfold xrun at hrun
    split at hrun
    · cases hrun
    · rename_i F hF
      split at hrun
      · cases hrun
      · rename_i pc' L' st' w1 h1 hst
        have K := xrun_ok hP hgood hfl hbl n d j pc' L' st' w1 h1 r w' h' md hM hd hrun p e R s m args below meth c hs E hE hR hMh hRc hRs hRf hRl
        exact hit pc _ hF p l e R s m args below meth c D ca b H0 hs _ E hRc hRs (by omega) (by omega) L st w h pc' L' st' w1 h1 hst K
    · rename_i j2 k rc hd9 hF
      split at hrun
      · rename_i d2 md2 hM2
        split at hrun
        · rename_i hcond
          obtain ⟨k1, k2, k3, k4⟩ := hcond
          obtain ⟨md2', hM2', ci1, ci2, ci3, hck⟩ := hit pc _ hF
          cases hM2.symm.trans hM2'
          obtain ⟨hpl2, hcw2, hini2, -⟩ := hP j2 md2 hM2
          have hcall : ∀ r2 w2 h2, xrun P M zm um n (d2 + 1) j2 0 (lv_args 0 (st.take k).reverse) [] false h = some (r2, w2, h2) → xC l D cl ca b Ls xs H0 zm um xn (xEx strs H0) Ts (d2 + 1) md2.1 (st.take k).reverse h r2 w2 h2 := fun r2 w2 h2 hr2 =>
            xC_of hpl2 hcw2 hini2 (by rw [xcs_rev]; exact k3) (fun p e s m args below meth c E2 hE2 hR2 hMh2 hz hu => xrun_ok hP hgood hfl hbl n (d2 + 1) j2 0 _ [] false h r2 w2 h2 md2 hM2 (by omega) hr2 p e (xrm (d2 + 1) zm um h) s m args below meth c h E2 hE2 hR2 hMh2 (by show zm - h.1 + h.1 = zm; omega) (by show um - h.2.1 + h.2.1 = um; omega) rfl rfl) hbl
          split at hrun
          · cases hrun
          · rename_i v w2 h2 hr2
            have K := xrun_ok hP hgood hfl hbl n (d2 + 2) j (pc + 3) L (v.toList ++ st.drop k) (w || w2) h2 r w' h' md hM hd hrun p e R s m args below meth c hs E hE hR hMh hRc hRs hRf hRl
            have hC := hcall _ _ _ hr2
            rcases hck with ⟨rfl, rfl, idx, t1, t2, t3, t4⟩ | ⟨rfl, rfl, t1, t2, t3, idx, kk, rfl, t4, t5, t6, t7⟩ | ⟨ci, C, T, N, idx, kk, rfl, rfl, t1, t2, t3, t4, t5, t6, t7, t8⟩
            · exact xu_callS E hE hR.2.2.1 (xEx_mv strs H0) hgood hcw2 ci1 (by omega) (by omega) hRc hRs t1 t2 t3 ci3 t4 k1 k2 hC K
            · obtain ⟨j9, as, hk9⟩ := xrcv_1 k4
              have hl9 : as.length = kk := by
                have := congrArg List.length hk9
                simp at this
                omega
              exact xu_callI E hE hR.2.2.1 (xEx_mv strs H0) hgood t1 t2 hcw2 ci1 (by omega) (by omega) hRc hRs t4 t5 t6 t3 ci3 (by rw [hl9]; exact t7) hk9 k2 hC K
            · obtain ⟨j9, as, fs, hk9, hc9⟩ := xrcv_2 k4
              have hl9 : as.length = kk := by
                have := congrArg List.length hk9
                simp at this
                omega
              exact xu_callV E hE hR.2.2.1 (xEx_mv strs H0) hgood t2 hcw2 ci1 (by omega) (by omega) hRc hRs t3 t4 t5 t6 ci3 (by rw [hl9]; exact t7) hk9 hc9 t1 k2 hC K
          · rename_i x i w2 h2 hr2
            split at hrun
            · rename_i q hq
              have K := xrun_ok hP hgood hfl hbl n (d2 + 2) j q L [.ref i] true h2 r w' h' md hM hd hrun p e R s m args below meth c hs E hE hR hMh hRc hRs hRf hRl
              have hC := hcall _ _ _ hr2
              rcases hck with ⟨rfl, rfl, idx, t1, t2, t3, t4⟩ | ⟨rfl, rfl, t1, t2, t3, idx, kk, rfl, t4, t5, t6, t7⟩ | ⟨ci, C, T, N, idx, kk, rfl, rfl, t1, t2, t3, t4, t5, t6, t7, t8⟩
              · cases hq
              · cases hq
              · obtain ⟨j9, as, fs, hk9, hc9⟩ := xrcv_2 k4
                have hl9 : as.length = kk := by
                  have := congrArg List.length hk9
                  simp at this
                  omega
                obtain ⟨pre, en, rest, y1, y2, y3, y4, y5, y6, y7⟩ := t8 x q hq
                subst y4
                exact xu_catch E hE hR.2.2.1 hgood t2 hcw2 ci1 (by omega) (by omega) hRc hRs t3 t4 t5 t6 ci3 (by rw [hl9]; exact t7) hk9 hc9 t1 k2 hC (by rw [← y1, ← hMh.2.2, xtb_eq]) y2 y3 y5 y6 y7 K
            · cases hrun
        · cases hrun
      · cases hrun
    · rename_i hF
      obtain ⟨t1, t2⟩ := hit pc _ hF
      split at hrun
      · cases hrun
        exact xu_ret E.1 E.2.1 (hMh.1.trans t1) hMh.2.1 t2
      · cases hrun
    · rename_i hF
      obtain ⟨t1, t2⟩ := hit pc _ hF
      split at hrun
      · cases hrun
        exact xu_iret E.1 E.2.1 (hMh.1.trans t1) rfl hMh.2.1 t2
      · cases hrun
    · rename_i hF
      obtain ⟨t1, t2⟩ := hit pc _ hF
      split at hrun
      · split at hrun
        · rename_i x hx
          cases hrun
          exact xu_iret E.1 E.2.1 (hMh.1.trans t1) (by rcases hx with rfl | rfl <;> decide) hMh.2.1 t2
        · cases hrun
      · cases hrun
    · rename_i x hF
      split at hrun
      · rename_i hcond
        obtain ⟨rfl, rfl, z1, z2, z3⟩ := hcond
        cases hrun
        obtain ⟨idx, ic, si, ix, tx, rx, names, a1, a2, a3, a4, a5, a6, a7, a8, a9, a10, a11, a12, a13, a14, a15, a16, a17, a18, a19⟩ := hit pc _ hF
        have hex : c.exceptionTable.toList = [] := by
          have := hMh.2.2
          rw [a2] at this
          exact List.map_eq_nil_iff.mp this
        exact xu_throw E hE hR.2.2.1 hR.2.1 hfl hex hMh.2.1 hRc hRs (by omega) (by omega) a3 a1 a4 a5 a6 a7 a8 a9 a10 a11 a12 a13 a14 a15 a16 a17 a18 a19 z1 z2
      · cases hrun
end XZ
