/-! Runs of the abstract machine, and the judgements of a method's walk that they give. -/
abbrev xR : Type := Option Value ⊕ (Nat × Nat)
abbrev xK : Type := xS ⊕ ((Nat × Nat × Nat × List (Nat × Nat)) ⊕ Nat)
/-- a method: its name, its bytes, its locals, what it returns, 'it is a constructor', its handlers -/
abbrev xMd : Type := MethodName × ByteArray × Nat × Option FieldType × Bool × List (Nat × Nat × Nat × Nat)
/-- the receiver: none asked (0), any cell (1), an object of class rc - 2 -/
def xrcv (h : xH) (rc : Nat) : List Value → Bool
  | .ref (j + 1) :: _ => rc == 0 || rc == 1 || (match h.2.2 (j + 1) with
    | some (.inl (c2, _)) => c2 + 2 == rc
    | _ => false)
  | _ => rc == 0
def xrun (P : Nat → Nat → Option xK) (M : Nat → Option xMd) (zm um : Nat) : Nat → Nat → Nat → Nat → xL → List Value → Bool → xH → Option (xR × Bool × xH)
  | 0, _, _, _, _, _, _, _ => none
  | n + 1, d, j, pc, L, st, w, h =>
    match P j pc with
    | none => none
    | some (.inl F) => (match F L st w h with
      | none => none
      | some (pc', L', st', w', h') => xrun P M zm um n d j pc' L' st' w' h')
    | some (.inr (.inl (j2, k, rc, hd))) => (match d, M j2 with
      | d2 + 2, some md2 => if k ≤ st.length ∧ xcs (st.drop k) ≤ 8 ∧ xcs (st.take k) ≤ md2.2.2.1 ∧ xrcv h rc (st.take k).reverse = true then
          (match xrun P M zm um n (d2 + 1) j2 0 (lv_args 0 (st.take k).reverse) [] false h with
          | none => none
          | some (.inl v, w2, h2) => xrun P M zm um n (d2 + 2) j (pc + 3) L (v.toList ++ st.drop k) (w || w2) h2
          | some (.inr (x, i), w2, h2) => (match hd.lookup x with
            | some q => xrun P M zm um n (d2 + 2) j q L [.ref i] true h2
            | none => none))
        else none
      | _, _ => none)
    | some (.inr (.inr 0)) => (match st with
      | [] => some (.inl none, w, h)
      | _ => none)
    | some (.inr (.inr 1)) => (match st with
      | [.int x] => some (.inl (some (.int x)), w, h)
      | _ => none)
    | some (.inr (.inr 2)) => (match st with
      | [.int x] => if x = 0 ∨ x = 1 then some (.inl (some (.int x)), w, h) else none
      | _ => none)
    | some (.inr (.inr (x + 3))) => if w = false ∧ st = [] ∧ h.1 + 1 ≤ zm ∧ h.2.1 + 6 ≤ um ∧ 6 ≤ d then some (.inr (x, h.1), true, (h.1 + 1, h.2.1 + 6, xup h.2.2 h.1 none)) else none
/-- the exceptions' names -/
abbrev xX : Type := Nat → String
/-- how a method ends, over the state at its entry -/
def xE (D : va_G) (cl : List vw_C) (ca : Nat → ClassId) (b : Nat) (H0 : Heap) (zm um : Nat) (xn : xX) (hs : xH) (r : xR) (w' : Bool) (h' : xH) (s : State) (o : Outcome) (t : State) : Prop :=
  (match r with
    | .inl v => o = .returned (v.map (xcv b H0.size))
    | .inr (x, i) => o = .threw (xad b H0.size i) ∧ ∃ ce cX, t.heap[xad b H0.size i]? = some ce ∧ s.vm.findClass (xn x) = some cX ∧ ce.cls = cX ∧ ce.vm = .none) ∧
  xrp D cl ca b H0 h' t.heap ∧ hs.1 ≤ h'.1 ∧ hs.2.1 ≤ h'.2.1 ∧ h'.1 ≤ zm ∧ h'.2.1 ≤ um ∧
  ∃ L, s.WarmedH t.vm ∧ s.sameButNew ({ t with vm := s.vm } : State) L (h'.1 - hs.1) (h'.2.1 - hs.2.1) ∧ (∀ q ∈ L, H0.size ≤ q.base) ∧ (w' = false → h' = hs ∧ L = [])
def xQ (below : List Frame) (D : va_G) (cl : List vw_C) (ca : Nat → ClassId) (b : Nat) (H0 : Heap) (zm um : Nat) (xn : xX) (hs : xH) (r : xR) (w' : Bool) (h' : xH) (s : State) : State → Prop := fun t =>
  ∃ o, t.status = .running ∧ Ended t below o ∧ xE D cl ca b H0 zm um xn hs r w' h' s o t
section XU
variable {p : Program} {l : Launch} {e : Env} {R : Room} {s : State} {m : MethodId} {args : Array Value} {below : List Frame} {meth : Method} {c : Code}
variable {cc : ByteArray} {D : va_G} {cl : List vw_C} {ca : Nat → ClassId} {b : Nat} {H0 : Heap} {nL zm um pc : Nat} {xn : xX} {hs h : xH} {w : Bool} {L : xL}
theorem xu_ret (hx : p.tables.exec = Jvm.exec) (hb : c.code = cc) (hr : meth.sig.returnType = none) (hlocks : meth.locks = false) (hd : decode cc pc = .ok (.return_, 1)) :
    xW p l e R s m args below meth c D cl ca b H0 nL zm um hs (xQ below D cl ca b H0 zm um xn hs (.inl none) w h s) pc L [] w h := by
  intro ls H locs cells slots I T hT X
  obtain ⟨i1, i2, i3, i4, i5, i6, i7, i8⟩ := I
  obtain ⟨fs, hret, hrun, hended, hW, hframe⟩ := X.leave (v := none) (hlocks := hlocks) (fun _ => rfl)
  have hmeth' : T.vm.method? m = some meth := X.method'
  have e1 : h.1 - hs.1 = cells := by omega
  have e2 : h.2.1 - hs.2.1 = slots := by omega
  refine ⟨T.setFrames fs, ?_, .returned none, hrun, hended, rfl, ?_, by omega, by omega, i6, i7, locs, hW, by rw [e1, e2]; exact hframe, i3, i8⟩
  · jvm_step X.here [X.here.top, hx, hb, hd, hmeth', hr, narrow]
    (try refine ⟨rfl, ?_⟩); (try refine ⟨rfl, ?_⟩)
    first | (intro acts; rw [hret _ acts rfl rfl rfl]) | rw [hret _ _ rfl rfl rfl]
    exact Steps.refl _
  · show xrp D cl ca b H0 h T.heap
    rw [hT]
    exact i2
theorem xu_iret {x : Int32} {ty : FieldType} (hx : p.tables.exec = Jvm.exec) (hb : c.code = cc) (hr : meth.sig.returnType = some ty) (hn : narrow ty (.int x) = .int x) (hlocks : meth.locks = false) (hd : decode cc pc = .ok (.ireturn, 1)) :
    xW p l e R s m args below meth c D cl ca b H0 nL zm um hs (xQ below D cl ca b H0 zm um xn hs (.inl (some (.int x))) w h s) pc L [.int x] w h := by
  intro ls H locs cells slots I T hT X
  obtain ⟨i1, i2, i3, i4, i5, i6, i7, i8⟩ := I
  obtain ⟨fs, hret, hrun, hended, hW, hframe⟩ := X.leave (v := some (.int x)) (hlocks := hlocks) (fun h => by rw [hr] at h; cases h)
  have hmeth' : T.vm.method? m = some meth := X.method'
  have e1 : h.1 - hs.1 = cells := by omega
  have e2 : h.2.1 - hs.2.1 = slots := by omega
  refine ⟨T.setFrames fs, ?_, .returned (some (.int x)), hrun, hended, rfl, ?_, by omega, by omega, i6, i7, locs, hW, by rw [e1, e2]; exact hframe, i3, i8⟩
  · show Steps p.tables e below (T.setTop (F0 m pc ls [.int x])) _
    jvm_step X.here [X.here.top, hx, hb, hd, hmeth', hr, hn]
    (try refine ⟨rfl, ?_⟩); (try refine ⟨rfl, ?_⟩)
    first | (intro acts; rw [hret _ acts rfl rfl rfl]) | rw [hret _ _ rfl rfl rfl]
    exact Steps.refl _
  · show xrp D cl ca b H0 h T.heap
    rw [hT]
    exact i2
end XU
