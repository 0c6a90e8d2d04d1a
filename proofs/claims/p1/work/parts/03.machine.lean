/-! An abstract machine over numbered cells: cell 0 is the law's script, cell j + 1 lies at the j-th address behind the heap that was there at the law's entry. Each instruction is a function on (locals, stack, 'something was written', heap), with a theorem that says what it is worth over the machine. -/
abbrev xB : Type := (Nat × List Value) ⊕ ((Nat × Nat × (Nat → Int32)) ⊕ ((Nat × (Nat → Int64)) ⊕ (Nat × Nat)))
abbrev xH : Type := Nat × Nat × (Nat → Option xB)
abbrev xL : Type := List (Nat × Value)
abbrev xS : Type := xL → List Value → Bool → xH → Option (Nat × xL × List Value × Bool × xH)
def xad (b base : Nat) : Nat → Nat
  | 0 => b
  | j + 1 => base + j
def xcv (b base : Nat) : Value → Value
  | .ref i => .ref (xad b base i)
  | v => v
def xce (b base : Nat) (ca : Nat → ClassId) : xB → va_E
  | .inl (ci, fs) => .inr (ci, fs.map (xcv b base))
  | .inr (.inl (k, n, f)) => .inl (ca k, n, .inl f)
  | .inr (.inr (.inl (n, f))) => .inl (ca 2, n, .inr (.inl f))
  | .inr (.inr (.inr (n, q))) => .inl (ca 3, n, .inr (.inr (.inr (.inr (fun i => if i < n then some (xad b base (q + i)) else none)))))
def xup (f : Nat → Option xB) (i : Nat) (x : Option xB) : Nat → Option xB := fun j => if j = i then x else f j
def xml (b base : Nat) (L : xL) : List (Nat × Value) := L.map (fun q => (q.1, xcv b base q.2))
def xlk : xL → Nat → Option Value
  | [], _ => none
  | q :: r, i => if q.1 = i then some q.2 else xlk r i
def xst (L : xL) (i : Nat) (v : Value) : xL := (i, v) :: L.filter (fun q => !(q.1 == i) && !(q.1 + 1 == i && q.2.category == 2))
theorem xcv_cat (b base : Nat) (v : Value) : (xcv b base v).category = v.category := by cases v <;> rfl
theorem xlk_mem : ∀ (L : xL) {i : Nat} {v : Value}, xlk L i = some v → (i, v) ∈ L
  | [], _, _, h => by cases h
  | q :: r, i, v, h => by
    unfold xlk at h
    by_cases hq : q.1 = i
    · rw [if_pos hq] at h
      cases h
      subst hq
      exact List.mem_cons_self
    · rw [if_neg hq] at h
      exact List.mem_cons_of_mem _ (xlk_mem r h)
theorem xlk_at {b base : Nat} {ls : Array Slot} {nL : Nat} {L : xL} {i : Nat} {v : Value} (h : lv_has ls nL (xml b base L)) (hv : xlk L i = some v) : ls[i]? = some (.val (xcv b base v)) :=
  h.2.2 (i, xcv b base v) (List.mem_map.mpr ⟨(i, v), xlk_mem L hv, rfl⟩)
theorem xst_map {b base : Nat} (L : xL) (i : Nat) (v : Value) : (i, xcv b base v) :: (xml b base L).filter (fun q => !(q.1 == i) && !(q.1 + 1 == i && q.2.category == 2)) = xml b base (xst L i v) := by
  unfold xst xml
  rw [List.map_cons, List.filter_map]
  congr 2
  apply List.filter_congr
  intro q _
  simp only [Function.comp, xcv_cat]
/-- the heap holds the numbered cells; what was there at the law's entry is as it was -/
def xrp (D : va_G) (cl : List vw_C) (ca : Nat → ClassId) (b : Nat) (H0 : Heap) (h : xH) (H : Heap) : Prop :=
  1 ≤ h.1 ∧ H.size + 1 = H0.size + h.1 ∧ (∀ q, q < H0.size → H[q]? = H0[q]?) ∧ ∀ i x, h.2.2 (i + 1) = some x → i + 1 < h.1 ∧ va_at D cl (H0.size + i, xce b H0.size ca x) H
section XP
variable {D : va_G} {cl : List vw_C} {ca : Nat → ClassId} {b : Nat} {H0 H H1 : Heap} {h : xH}
theorem xrp_set (hr : xrp D cl ca b H0 h H) {i : Nat} {x0 x : xB} (h0 : h.2.2 (i + 1) = some x0) (hat : va_at D cl (H0.size + i, xce b H0.size ca x) H1) (hz : H1.size = H.size) (ho : ∀ q, q ≠ H0.size + i → H1[q]? = H[q]?) : xrp D cl ca b H0 (h.1, h.2.1, xup h.2.2 (i + 1) (some x)) H1 := by
  obtain ⟨r1, r2, r3, r4⟩ := hr
  refine ⟨r1, by rw [hz]; exact r2, fun q hq => by rw [ho q (by omega)]; exact r3 q hq, fun j y hj => ?_⟩
  by_cases e : j = i
  · subst e
    have hy : y = x := by
      have : xup h.2.2 (j + 1) (some x) (j + 1) = some x := by simp [xup]
      exact Option.some.inj (hj.symm.trans this)
    subst hy
    exact ⟨(r4 j x0 h0).1, hat⟩
  · have hj' : h.2.2 (j + 1) = some y := by
      have : xup h.2.2 (i + 1) (some x) (j + 1) = h.2.2 (j + 1) := by simp [xup, e]
      exact this.symm.trans hj
    obtain ⟨q1, q2⟩ := r4 j y hj'
    exact ⟨q1, q2.kept (ho _ (by show H0.size + j ≠ H0.size + i; omega))⟩
theorem xrp_old (hr : xrp D cl ca b H0 h H) (ho : ∀ q, q < H.size → H1[q]? = H[q]?) {i : Nat} {x : xB} (hi : h.2.2 (i + 1) = some x) : va_at D cl (H0.size + i, xce b H0.size ca x) H1 := by
  obtain ⟨r1, r2, r3, r4⟩ := hr
  obtain ⟨q1, q2⟩ := r4 i x hi
  exact q2.kept (ho _ (by show H0.size + i < H.size; omega))
theorem xrp_new (hr : xrp D cl ca b H0 h H) {x : xB} (hat : va_at D cl (H.size, xce b H0.size ca x) H1) (hz : H1.size = H.size + 1) (ho : ∀ q, q < H.size → H1[q]? = H[q]?) (n : Nat) : xrp D cl ca b H0 (h.1 + 1, h.2.1 + n, xup h.2.2 h.1 (some x)) H1 := by
  have hr' := hr
  obtain ⟨r1, r2, r3, r4⟩ := hr
  refine ⟨by show 1 ≤ h.1 + 1; omega, by show H1.size + 1 = H0.size + (h.1 + 1); omega, fun q hq => by rw [ho q (by omega)]; exact r3 q hq, fun j y hj => ?_⟩
  show j + 1 < h.1 + 1 ∧ _
  by_cases e : j + 1 = h.1
  · have hy : y = x := by
      have : xup h.2.2 h.1 (some x) (j + 1) = some x := by simp [xup, e]
      exact Option.some.inj (hj.symm.trans this)
    subst hy
    have ea : H0.size + j = H.size := by omega
    rw [ea]
    exact ⟨by omega, hat⟩
  · have hj' : h.2.2 (j + 1) = some y := by
      have : xup h.2.2 h.1 (some x) (j + 1) = h.2.2 (j + 1) := by simp [xup, e]
      exact this.symm.trans hj
    exact ⟨by have := (r4 j y hj').1; omega, xrp_old hr' ho hj'⟩
/-- a cell more of which nothing is said -/
theorem xrp_opq (hr : xrp D cl ca b H0 h H) (hz : H1.size = H.size + 1) (ho : ∀ q, q < H.size → H1[q]? = H[q]?) (n : Nat) : xrp D cl ca b H0 (h.1 + 1, h.2.1 + n, xup h.2.2 h.1 none) H1 := by
  have hr' := hr
  obtain ⟨r1, r2, r3, r4⟩ := hr
  refine ⟨by show 1 ≤ h.1 + 1; omega, by show H1.size + 1 = H0.size + (h.1 + 1); omega, fun q hq => by rw [ho q (by omega)]; exact r3 q hq, fun j y hj => ?_⟩
  show j + 1 < h.1 + 1 ∧ _
  by_cases e : j + 1 = h.1
  · have : xup h.2.2 h.1 none (j + 1) = none := by simp [xup, e]
    cases (this.symm.trans hj)
  · have hj' : h.2.2 (j + 1) = some y := by
      have : xup h.2.2 h.1 none (j + 1) = h.2.2 (j + 1) := by simp [xup, e]
      exact this.symm.trans hj
    exact ⟨by have := (r4 j y hj').1; omega, xrp_old hr' ho hj'⟩
end XP
/-- what holds at a method's entry -/
def xEn (p : Program) (s : State) (m : MethodId) (args : Array Value) (meth : Method) (c : Code) (cc : ByteArray) (own : String) (ini : Bool) (nL : Nat) (D : va_G) (cl : List vw_C) (ca : Nat → ClassId) (Ts : List Cond) (b Ls : Nat) (xs : Nat → Int32) (H0 : Heap) : Prop :=
  p.tables.exec = Jvm.exec ∧ c.code = cc ∧ s.vm.findClass own = some m.cls ∧ (∀ w ∈ Ts, w.before args s = true) ∧ va_K D cl [(ca 0, .int), (ca 1, .boolean), (ca 2, .long), (ca 3, .array .int)] s ∧ va_X b Ls xs s H0 ∧ b < H0.size ∧ c.maxLocals = nL ∧ (ini = true → meth.name = "<init>") ∧ (Cond.arrayOver (.array .int)).before args s = true
/-- what holds at each point of a method's walk -/
def xInv (D : va_G) (cl : List vw_C) (ca : Nat → ClassId) (b : Nat) (H0 : Heap) (nL zm um : Nat) (hs : xH) (L : xL) (w : Bool) (h : xH) (ls : Array Slot) (H : Heap) (locs : List Loc) (cells slots : Nat) : Prop :=
  lv_has ls nL (xml b H0.size L) ∧ xrp D cl ca b H0 h H ∧ (∀ q ∈ locs, H0.size ≤ q.base) ∧ cells + hs.1 = h.1 ∧ slots + hs.2.1 = h.2.1 ∧ h.1 ≤ zm ∧ h.2.1 ≤ um ∧ (w = false → h = hs ∧ locs = [])
def xW (p : Program) (l : Launch) (e : Env) (R : Room) (s : State) (m : MethodId) (args : Array Value) (below : List Frame) (meth : Method) (c : Code) (D : va_G) (cl : List vw_C) (ca : Nat → ClassId) (b : Nat) (H0 : Heap) (nL zm um : Nat) (hs : xH) (Q : State → Prop) (pc : Nat) (L : xL) (st : List Value) (w : Bool) (h : xH) : Prop :=
  ∀ (ls : Array Slot) (H : Heap) (locs : List Loc) (cells slots : Nat), xInv D cl ca b H0 nL zm um hs L w h ls H locs cells slots →
    W p l e R s m args below meth c H locs cells slots Q (F0 m pc ls (st.map (xcv b H0.size)))
/-- an instruction at pc is worth its function -/
def xOK (cc : ByteArray) (own : String) (ini : Bool) (nL : Nat) (cl : List vw_C) (Ts : List Cond) (Ls : Nat) (xs : Nat → Int32) (zm um pc : Nat) (F : xS) : Prop :=
  ∀ (p : Program) (l : Launch) (e : Env) (R : Room) (s : State) (m : MethodId) (args : Array Value) (below : List Frame) (meth : Method) (c : Code) (D : va_G) (ca : Nat → ClassId) (b : Nat) (H0 : Heap) (hs : xH) (Q : State → Prop),
    xEn p s m args meth c cc own ini nL D cl ca Ts b Ls xs H0 → R.cells + hs.1 = zm → R.slots + hs.2.1 = um → 1 ≤ R.frames → 36 ≤ R.locals →
    ∀ L st w h pc' L' st' w' h', F L st w h = some (pc', L', st', w', h') → xW p l e R s m args below meth c D cl ca b H0 nL zm um hs Q pc' L' st' w' h' → xW p l e R s m args below meth c D cl ca b H0 nL zm um hs Q pc L st w h
section XO
variable {cc : ByteArray} {own : String} {ini : Bool} {nL : Nat} {cl : List vw_C} {Ts : List Cond} {Ls : Nat} {xs : Nat → Int32} {zm um pc : Nat}

def xs_c (v : Int32) (nx : Nat) : xS := fun L st w h => some (nx, L, .int v :: st, w, h)
theorem xs_iconst_ok {n : Int} {v : Int32} (hd : decode cc pc = .ok (.iconst n, 1)) (hv : Int32.ofInt n = v) : xOK cc own ini nL cl Ts Ls xs zm um pc (xs_c v (pc + 1)) := by
  intro p l e R s m args below meth c D ca b H0 hs Q E hRc hRs hRf hRl L st w h pc' L' st' w' h' hF K ls H locs cells slots I
  cases hF
  exact lv_iconst E.1 E.2.1 hd hv (K ls H locs cells slots I)
theorem xs_bipush_ok {n : Int} {v : Int32} (hd : decode cc pc = .ok (.bipush n, 2)) (hv : (Int8.ofInt n).toInt32 = v) : xOK cc own ini nL cl Ts Ls xs zm um pc (xs_c v (pc + 2)) := by
  intro p l e R s m args below meth c D ca b H0 hs Q E hRc hRs hRf hRl L st w h pc' L' st' w' h' hF K ls H locs cells slots I
  cases hF
  exact lv_bipush E.1 E.2.1 hd hv (K ls H locs cells slots I)
theorem xs_sipush_ok {n : Int} {v : Int32} (hd : decode cc pc = .ok (.sipush n, 3)) (hv : (Int16.ofInt n).toInt32 = v) : xOK cc own ini nL cl Ts Ls xs zm um pc (xs_c v (pc + 3)) := by
  intro p l e R s m args below meth c D ca b H0 hs Q E hRc hRs hRf hRl L st w h pc' L' st' w' h' hF K ls H locs cells slots I
  cases hF
  exact lv_sipush E.1 E.2.1 hd hv (K ls H locs cells slots I)
def xs_cl (v : Int64) (nx : Nat) : xS := fun L st w h => some (nx, L, .long v :: st, w, h)
theorem xs_lconst_ok {n : Fin 2} {v : Int64} (hd : decode cc pc = .ok (.lconst n, 1)) (hv : Int64.ofNat (n : Nat) = v) : xOK cc own ini nL cl Ts Ls xs zm um pc (xs_cl v (pc + 1)) := by
  intro p l e R s m args below meth c D ca b H0 hs Q E hRc hRs hRf hRl L st w h pc' L' st' w' h' hF K ls H locs cells slots I
  cases hF
  exact lv_lconst E.1 E.2.1 hd hv (K ls H locs cells slots I)
def xs_il (i nx : Nat) : xS := fun L st w h => match xlk L i with
  | some (.int x) => some (nx, L, .int x :: st, w, h)
  | _ => none
def xs_al (i nx : Nat) : xS := fun L st w h => match xlk L i with
  | some (.ref x) => some (nx, L, .ref x :: st, w, h)
  | _ => none
theorem xs_iload_n_ok {k : Fin 4} {i : Nat} (hd : decode cc pc = .ok (.iload_n k, 1)) (hk : (k : Nat) = i) : xOK cc own ini nL cl Ts Ls xs zm um pc (xs_il i (pc + 1)) := by
  intro p l e R s m args below meth c D ca b H0 hs Q E hRc hRs hRf hRl L st w h pc' L' st' w' h' hF K ls H locs cells slots I
  unfold xs_il at hF
  split at hF
  · rename_i x hx
    cases hF
    exact lv_iload_n E.1 E.2.1 hd hk (xlk_at I.1 hx) (K ls H locs cells slots I)
  · cases hF
theorem xs_iload_ok {i : Nat} (hd : decode cc pc = .ok (.iload i, 2)) : xOK cc own ini nL cl Ts Ls xs zm um pc (xs_il i (pc + 2)) := by
  intro p l e R s m args below meth c D ca b H0 hs Q E hRc hRs hRf hRl L st w h pc' L' st' w' h' hF K ls H locs cells slots I
  unfold xs_il at hF
  split at hF
  · rename_i x hx
    cases hF
    exact lv_iload E.1 E.2.1 hd (xlk_at I.1 hx) (K ls H locs cells slots I)
  · cases hF
theorem xs_aload_n_ok {k : Fin 4} {i : Nat} (hd : decode cc pc = .ok (.aload_n k, 1)) (hk : (k : Nat) = i) : xOK cc own ini nL cl Ts Ls xs zm um pc (xs_al i (pc + 1)) := by
  intro p l e R s m args below meth c D ca b H0 hs Q E hRc hRs hRf hRl L st w h pc' L' st' w' h' hF K ls H locs cells slots I
  unfold xs_al at hF
  split at hF
  · rename_i x hx
    cases hF
    exact lv_aload_n E.1 E.2.1 hd hk (xlk_at I.1 hx) (K ls H locs cells slots I)
  · cases hF
theorem xs_aload_ok {i : Nat} (hd : decode cc pc = .ok (.aload i, 2)) : xOK cc own ini nL cl Ts Ls xs zm um pc (xs_al i (pc + 2)) := by
  intro p l e R s m args below meth c D ca b H0 hs Q E hRc hRs hRf hRl L st w h pc' L' st' w' h' hF K ls H locs cells slots I
  unfold xs_al at hF
  split at hF
  · rename_i x hx
    cases hF
    exact lv_aload E.1 E.2.1 hd (xlk_at I.1 hx) (K ls H locs cells slots I)
  · cases hF
def xs_is (nL i nx : Nat) : xS := fun L st w h => match st with
  | .int x :: r => if i < nL then some (nx, xst L i (.int x), r, w, h) else none
  | _ => none
theorem xs_istore_n_ok {k : Fin 4} {i : Nat} (hd : decode cc pc = .ok (.istore_n k, 1)) (hk : (k : Nat) = i) : xOK cc own ini nL cl Ts Ls xs zm um pc (xs_is nL i (pc + 1)) := by
  intro p l e R s m args below meth c D ca b H0 hs Q E hRc hRs hRf hRl L st w h pc' L' st' w' h' hF K ls H locs cells slots I
  unfold xs_is at hF
  split at hF
  · split at hF
    · rename_i x r hi
      cases hF
      exact lv_istore_n E.1 E.2.1 hd hk I.1 hi (xst_map L i (.int x)) (fun ls' hl' => K ls' H locs cells slots ⟨hl', I.2⟩)
    · cases hF
  · cases hF
theorem xs_istore_ok {i : Nat} (hd : decode cc pc = .ok (.istore i, 2)) : xOK cc own ini nL cl Ts Ls xs zm um pc (xs_is nL i (pc + 2)) := by
  intro p l e R s m args below meth c D ca b H0 hs Q E hRc hRs hRf hRl L st w h pc' L' st' w' h' hF K ls H locs cells slots I
  unfold xs_is at hF
  split at hF
  · split at hF
    · rename_i x r hi
      cases hF
      exact lv_istore E.1 E.2.1 hd I.1 hi (xst_map L i (.int x)) (fun ls' hl' => K ls' H locs cells slots ⟨hl', I.2⟩)
    · cases hF
  · cases hF
def xs_as (nL i nx : Nat) : xS := fun L st w h => match st with
  | .ref x :: r => if i < nL then some (nx, xst L i (.ref x), r, w, h) else none
  | _ => none
theorem xs_astore_n_ok {k : Fin 4} {i : Nat} (hd : decode cc pc = .ok (.astore_n k, 1)) (hk : (k : Nat) = i) : xOK cc own ini nL cl Ts Ls xs zm um pc (xs_as nL i (pc + 1)) := by
  intro p l e R s m args below meth c D ca b H0 hs Q E hRc hRs hRf hRl L st w h pc' L' st' w' h' hF K ls H locs cells slots I
  unfold xs_as at hF
  split at hF
  · split at hF
    · rename_i x r hi
      cases hF
      exact lv_astore_n E.1 E.2.1 hd hk I.1 hi (xst_map L i (.ref x)) (fun ls' hl' => K ls' H locs cells slots ⟨hl', I.2⟩)
    · cases hF
  · cases hF
theorem xs_astore_ok {i : Nat} (hd : decode cc pc = .ok (.astore i, 2)) : xOK cc own ini nL cl Ts Ls xs zm um pc (xs_as nL i (pc + 2)) := by
  intro p l e R s m args below meth c D ca b H0 hs Q E hRc hRs hRf hRl L st w h pc' L' st' w' h' hF K ls H locs cells slots I
  unfold xs_as at hF
  split at hF
  · split at hF
    · rename_i x r hi
      cases hF
      exact lv_astore E.1 E.2.1 hd I.1 hi (xst_map L i (.ref x)) (fun ls' hl' => K ls' H locs cells slots ⟨hl', I.2⟩)
    · cases hF
  · cases hF
def xs_inc (nL i : Nat) (d : Int32) (nx : Nat) : xS := fun L st w h => match xlk L i with
  | some (.int x) => if i < nL then some (nx, xst L i (.int (x + d)), st, w, h) else none
  | _ => none
theorem xlk_ix {b base : Nat} {L : xL} {i : Nat} {v : Value} (h : xlk L i = some v) : ∃ k : Nat, (xml b base L)[k]? = some (i, xcv b base v) :=
  List.getElem?_of_mem (List.mem_map.mpr ⟨(i, v), xlk_mem L h, rfl⟩)
theorem xs_iinc_ok {i : Nat} {n : Int} {d : Int32} (hd : decode cc pc = .ok (.iinc i n, 3)) (hn : Int32.ofInt n = d) : xOK cc own ini nL cl Ts Ls xs zm um pc (xs_inc nL i d (pc + 3)) := by
  intro p l e R s m args below meth c D ca b H0 hs Q E hRc hRs hRf hRl L st w h pc' L' st' w' h' hF K ls H locs cells slots I
  unfold xs_inc at hF
  split at hF
  · split at hF
    · rename_i x hx hi
      cases hF
      obtain ⟨k, hk⟩ := xlk_ix (b := b) (base := H0.size) hx
      exact lv_iinc E.1 E.2.1 hd I.1 hk (by rw [hn]) hi (xst_map L i (.int (x + d))) (fun ls' hl' => K ls' H locs cells slots ⟨hl', I.2⟩)
    · cases hF
  · cases hF
def xs_iadd (nx : Nat) : xS := fun L st w h => match st with
  | .int y :: .int x :: r => some (nx, L, .int (x + y) :: r, w, h)
  | _ => none
theorem xs_iadd_ok (hd : decode cc pc = .ok (.iadd, 1)) : xOK cc own ini nL cl Ts Ls xs zm um pc (xs_iadd (pc + 1)) := by
  intro p l e R s m args below meth c D ca b H0 hs Q E hRc hRs hRf hRl L st w h pc' L' st' w' h' hF K ls H locs cells slots I
  unfold xs_iadd at hF
  split at hF
  · cases hF
    exact lv_iadd E.1 E.2.1 hd (K ls H locs cells slots I)
  · cases hF
def xs_isub (nx : Nat) : xS := fun L st w h => match st with
  | .int y :: .int x :: r => some (nx, L, .int (x - y) :: r, w, h)
  | _ => none
theorem xs_isub_ok (hd : decode cc pc = .ok (.isub, 1)) : xOK cc own ini nL cl Ts Ls xs zm um pc (xs_isub (pc + 1)) := by
  intro p l e R s m args below meth c D ca b H0 hs Q E hRc hRs hRf hRl L st w h pc' L' st' w' h' hF K ls H locs cells slots I
  unfold xs_isub at hF
  split at hF
  · cases hF
    exact lv_isub E.1 E.2.1 hd (K ls H locs cells slots I)
  · cases hF
def xs_imul (nx : Nat) : xS := fun L st w h => match st with
  | .int y :: .int x :: r => some (nx, L, .int (x * y) :: r, w, h)
  | _ => none
theorem xs_imul_ok (hd : decode cc pc = .ok (.imul, 1)) : xOK cc own ini nL cl Ts Ls xs zm um pc (xs_imul (pc + 1)) := by
  intro p l e R s m args below meth c D ca b H0 hs Q E hRc hRs hRf hRl L st w h pc' L' st' w' h' hF K ls H locs cells slots I
  unfold xs_imul at hF
  split at hF
  · cases hF
    exact lv_imul E.1 E.2.1 hd (K ls H locs cells slots I)
  · cases hF
def xs_iand (nx : Nat) : xS := fun L st w h => match st with
  | .int y :: .int x :: r => some (nx, L, .int (x &&& y) :: r, w, h)
  | _ => none
theorem xs_iand_ok (hd : decode cc pc = .ok (.iand, 1)) : xOK cc own ini nL cl Ts Ls xs zm um pc (xs_iand (pc + 1)) := by
  intro p l e R s m args below meth c D ca b H0 hs Q E hRc hRs hRf hRl L st w h pc' L' st' w' h' hF K ls H locs cells slots I
  unfold xs_iand at hF
  split at hF
  · cases hF
    exact lv_iand E.1 E.2.1 hd (K ls H locs cells slots I)
  · cases hF
def xs_ior (nx : Nat) : xS := fun L st w h => match st with
  | .int y :: .int x :: r => some (nx, L, .int (x ||| y) :: r, w, h)
  | _ => none
theorem xs_ior_ok (hd : decode cc pc = .ok (.ior, 1)) : xOK cc own ini nL cl Ts Ls xs zm um pc (xs_ior (pc + 1)) := by
  intro p l e R s m args below meth c D ca b H0 hs Q E hRc hRs hRf hRl L st w h pc' L' st' w' h' hF K ls H locs cells slots I
  unfold xs_ior at hF
  split at hF
  · cases hF
    exact lv_ior E.1 E.2.1 hd (K ls H locs cells slots I)
  · cases hF
def xs_i2l (nx : Nat) : xS := fun L st w h => match st with
  | .int x :: r => some (nx, L, .long x.toInt64 :: r, w, h)
  | _ => none
theorem xs_i2l_ok (hd : decode cc pc = .ok (.i2l, 1)) : xOK cc own ini nL cl Ts Ls xs zm um pc (xs_i2l (pc + 1)) := by
  intro p l e R s m args below meth c D ca b H0 hs Q E hRc hRs hRf hRl L st w h pc' L' st' w' h' hF K ls H locs cells slots I
  unfold xs_i2l at hF
  split at hF
  · cases hF
    exact lv_i2l E.1 E.2.1 hd rfl (K ls H locs cells slots I)
  · cases hF
def xs_lcmp (nx : Nat) : xS := fun L st w h => match st with
  | .long y :: .long x :: r => some (nx, L, .int (lg_cmp x y) :: r, w, h)
  | _ => none
theorem xs_lcmp_ok (hd : decode cc pc = .ok (.lcmp, 1)) : xOK cc own ini nL cl Ts Ls xs zm um pc (xs_lcmp (pc + 1)) := by
  intro p l e R s m args below meth c D ca b H0 hs Q E hRc hRs hRf hRl L st w h pc' L' st' w' h' hF K ls H locs cells slots I
  unfold xs_lcmp at hF
  split at hF
  · cases hF
    exact W.lcmp E.1 E.2.1 hd (K ls H locs cells slots I)
  · cases hF
def xs_dup (nx : Nat) : xS := fun L st w h => match st with
  | v :: r => if v.category = 1 then some (nx, L, v :: v :: r, w, h) else none
  | _ => none
theorem xs_dup_ok (hd : decode cc pc = .ok (.dup, 1)) : xOK cc own ini nL cl Ts Ls xs zm um pc (xs_dup (pc + 1)) := by
  intro p l e R s m args below meth c D ca b H0 hs Q E hRc hRs hRf hRl L st w h pc' L' st' w' h' hF K ls H locs cells slots I
  unfold xs_dup at hF
  split at hF
  · split at hF
    · rename_i v r hc
      cases hF
      exact lv_dup E.1 E.2.1 hd ((xcv_cat b H0.size v).trans hc) (K ls H locs cells slots I)
    · cases hF
  · cases hF
def xs_pop (nx : Nat) : xS := fun L st w h => match st with
  | v :: r => if v.category = 1 then some (nx, L, r, w, h) else none
  | _ => none
theorem xs_pop_ok (hd : decode cc pc = .ok (.pop, 1)) : xOK cc own ini nL cl Ts Ls xs zm um pc (xs_pop (pc + 1)) := by
  intro p l e R s m args below meth c D ca b H0 hs Q E hRc hRs hRf hRl L st w h pc' L' st' w' h' hF K ls H locs cells slots I
  unfold xs_pop at hF
  split at hF
  · split at hF
    · rename_i v r hc
      cases hF
      exact lv_pop E.1 E.2.1 hd ((xcv_cat b H0.size v).trans hc) (K ls H locs cells slots I)
    · cases hF
  · cases hF
def xs_goto (t : Nat) : xS := fun L st w h => some (t, L, st, w, h)
theorem xs_goto_ok {off : Int} {t : Nat} (hd : decode cc pc = .ok (.goto off, 3)) (ht : (pc : Int) + off = (t : Int)) : xOK cc own ini nL cl Ts Ls xs zm um pc (xs_goto t) := by
  intro p l e R s m args below meth c D ca b H0 hs Q E hRc hRs hRf hRl L st w h pc' L' st' w' h' hF K ls H locs cells slots I
  cases hF
  exact lv_goto E.1 E.2.1 hd ht (K ls H locs cells slots I)
def xs_if_eq (t nx : Nat) : xS := fun L st w h => match st with
  | .int x :: r => some (if x = 0 then t else nx, L, r, w, h)
  | _ => none
theorem xs_if_eq_ok {off : Int} {t : Nat} (hd : decode cc pc = .ok (.ifCond .eq off, 3)) (ht : (pc : Int) + off = (t : Int)) : xOK cc own ini nL cl Ts Ls xs zm um pc (xs_if_eq t (pc + 3)) := by
  intro p l e R s m args below meth c D ca b H0 hs Q E hRc hRs hRf hRl L st w h pc' L' st' w' h' hF K ls H locs cells slots I
  unfold xs_if_eq at hF
  split at hF
  · rename_i x r
    cases hF
    by_cases hc : x = 0
    · rw [if_pos hc] at K
      exact lv_if_eq E.1 E.2.1 hd ht (fun _ => K ls H locs cells slots I) (fun q => absurd hc (by simp_all))
    · rw [if_neg hc] at K
      exact lv_if_eq E.1 E.2.1 hd ht (fun q => absurd q (by simp_all)) (fun _ => K ls H locs cells slots I)
  · cases hF
def xs_if_ne (t nx : Nat) : xS := fun L st w h => match st with
  | .int x :: r => some (if ¬ x = 0 then t else nx, L, r, w, h)
  | _ => none
theorem xs_if_ne_ok {off : Int} {t : Nat} (hd : decode cc pc = .ok (.ifCond .ne off, 3)) (ht : (pc : Int) + off = (t : Int)) : xOK cc own ini nL cl Ts Ls xs zm um pc (xs_if_ne t (pc + 3)) := by
  intro p l e R s m args below meth c D ca b H0 hs Q E hRc hRs hRf hRl L st w h pc' L' st' w' h' hF K ls H locs cells slots I
  unfold xs_if_ne at hF
  split at hF
  · rename_i x r
    cases hF
    by_cases hc : ¬ x = 0
    · rw [if_pos hc] at K
      exact lv_if_ne E.1 E.2.1 hd ht (fun _ => K ls H locs cells slots I) (fun q => absurd hc (by simp_all))
    · rw [if_neg hc] at K
      exact lv_if_ne E.1 E.2.1 hd ht (fun q => absurd q (by simp_all)) (fun _ => K ls H locs cells slots I)
  · cases hF
def xs_if_lt (t nx : Nat) : xS := fun L st w h => match st with
  | .int x :: r => some (if x < 0 then t else nx, L, r, w, h)
  | _ => none
theorem xs_if_lt_ok {off : Int} {t : Nat} (hd : decode cc pc = .ok (.ifCond .lt off, 3)) (ht : (pc : Int) + off = (t : Int)) : xOK cc own ini nL cl Ts Ls xs zm um pc (xs_if_lt t (pc + 3)) := by
  intro p l e R s m args below meth c D ca b H0 hs Q E hRc hRs hRf hRl L st w h pc' L' st' w' h' hF K ls H locs cells slots I
  unfold xs_if_lt at hF
  split at hF
  · rename_i x r
    cases hF
    by_cases hc : x < 0
    · rw [if_pos hc] at K
      exact lv_if_lt E.1 E.2.1 hd ht (fun _ => K ls H locs cells slots I) (fun q => absurd hc (by simp_all))
    · rw [if_neg hc] at K
      exact lv_if_lt E.1 E.2.1 hd ht (fun q => absurd q (by simp_all)) (fun _ => K ls H locs cells slots I)
  · cases hF
def xs_if_ge (t nx : Nat) : xS := fun L st w h => match st with
  | .int x :: r => some (if 0 ≤ x then t else nx, L, r, w, h)
  | _ => none
theorem xs_if_ge_ok {off : Int} {t : Nat} (hd : decode cc pc = .ok (.ifCond .ge off, 3)) (ht : (pc : Int) + off = (t : Int)) : xOK cc own ini nL cl Ts Ls xs zm um pc (xs_if_ge t (pc + 3)) := by
  intro p l e R s m args below meth c D ca b H0 hs Q E hRc hRs hRf hRl L st w h pc' L' st' w' h' hF K ls H locs cells slots I
  unfold xs_if_ge at hF
  split at hF
  · rename_i x r
    cases hF
    by_cases hc : 0 ≤ x
    · rw [if_pos hc] at K
      exact lv_if_ge E.1 E.2.1 hd ht (fun _ => K ls H locs cells slots I) (fun q => absurd hc (by simp_all))
    · rw [if_neg hc] at K
      exact lv_if_ge E.1 E.2.1 hd ht (fun q => absurd q (by simp_all)) (fun _ => K ls H locs cells slots I)
  · cases hF
def xs_if_gt (t nx : Nat) : xS := fun L st w h => match st with
  | .int x :: r => some (if 0 < x then t else nx, L, r, w, h)
  | _ => none
theorem xs_if_gt_ok {off : Int} {t : Nat} (hd : decode cc pc = .ok (.ifCond .gt off, 3)) (ht : (pc : Int) + off = (t : Int)) : xOK cc own ini nL cl Ts Ls xs zm um pc (xs_if_gt t (pc + 3)) := by
  intro p l e R s m args below meth c D ca b H0 hs Q E hRc hRs hRf hRl L st w h pc' L' st' w' h' hF K ls H locs cells slots I
  unfold xs_if_gt at hF
  split at hF
  · rename_i x r
    cases hF
    by_cases hc : 0 < x
    · rw [if_pos hc] at K
      exact lv_if_gt E.1 E.2.1 hd ht (fun _ => K ls H locs cells slots I) (fun q => absurd hc (by simp_all))
    · rw [if_neg hc] at K
      exact lv_if_gt E.1 E.2.1 hd ht (fun q => absurd q (by simp_all)) (fun _ => K ls H locs cells slots I)
  · cases hF
def xs_if_le (t nx : Nat) : xS := fun L st w h => match st with
  | .int x :: r => some (if x ≤ 0 then t else nx, L, r, w, h)
  | _ => none
theorem xs_if_le_ok {off : Int} {t : Nat} (hd : decode cc pc = .ok (.ifCond .le off, 3)) (ht : (pc : Int) + off = (t : Int)) : xOK cc own ini nL cl Ts Ls xs zm um pc (xs_if_le t (pc + 3)) := by
  intro p l e R s m args below meth c D ca b H0 hs Q E hRc hRs hRf hRl L st w h pc' L' st' w' h' hF K ls H locs cells slots I
  unfold xs_if_le at hF
  split at hF
  · rename_i x r
    cases hF
    by_cases hc : x ≤ 0
    · rw [if_pos hc] at K
      exact lv_if_le E.1 E.2.1 hd ht (fun _ => K ls H locs cells slots I) (fun q => absurd hc (by simp_all))
    · rw [if_neg hc] at K
      exact lv_if_le E.1 E.2.1 hd ht (fun q => absurd q (by simp_all)) (fun _ => K ls H locs cells slots I)
  · cases hF
def xs_ic_eq (t nx : Nat) : xS := fun L st w h => match st with
  | .int y :: .int x :: r => some (if x = y then t else nx, L, r, w, h)
  | _ => none
theorem xs_ic_eq_ok {off : Int} {t : Nat} (hd : decode cc pc = .ok (.if_icmp .eq off, 3)) (ht : (pc : Int) + off = (t : Int)) : xOK cc own ini nL cl Ts Ls xs zm um pc (xs_ic_eq t (pc + 3)) := by
  intro p l e R s m args below meth c D ca b H0 hs Q E hRc hRs hRf hRl L st w h pc' L' st' w' h' hF K ls H locs cells slots I
  unfold xs_ic_eq at hF
  split at hF
  · rename_i y x r
    cases hF
    by_cases hc : x = y
    · rw [if_pos hc] at K
      exact lv_icmp_eq E.1 E.2.1 hd ht (fun _ => K ls H locs cells slots I) (fun q => absurd hc (by simp_all))
    · rw [if_neg hc] at K
      exact lv_icmp_eq E.1 E.2.1 hd ht (fun q => absurd q (by simp_all)) (fun _ => K ls H locs cells slots I)
  · cases hF
def xs_ic_ne (t nx : Nat) : xS := fun L st w h => match st with
  | .int y :: .int x :: r => some (if ¬ x = y then t else nx, L, r, w, h)
  | _ => none
theorem xs_ic_ne_ok {off : Int} {t : Nat} (hd : decode cc pc = .ok (.if_icmp .ne off, 3)) (ht : (pc : Int) + off = (t : Int)) : xOK cc own ini nL cl Ts Ls xs zm um pc (xs_ic_ne t (pc + 3)) := by
  intro p l e R s m args below meth c D ca b H0 hs Q E hRc hRs hRf hRl L st w h pc' L' st' w' h' hF K ls H locs cells slots I
  unfold xs_ic_ne at hF
  split at hF
  · rename_i y x r
    cases hF
    by_cases hc : ¬ x = y
    · rw [if_pos hc] at K
      exact lv_icmp_ne E.1 E.2.1 hd ht (fun _ => K ls H locs cells slots I) (fun q => absurd hc (by simp_all))
    · rw [if_neg hc] at K
      exact lv_icmp_ne E.1 E.2.1 hd ht (fun q => absurd q (by simp_all)) (fun _ => K ls H locs cells slots I)
  · cases hF
def xs_ic_lt (t nx : Nat) : xS := fun L st w h => match st with
  | .int y :: .int x :: r => some (if x < y then t else nx, L, r, w, h)
  | _ => none
theorem xs_ic_lt_ok {off : Int} {t : Nat} (hd : decode cc pc = .ok (.if_icmp .lt off, 3)) (ht : (pc : Int) + off = (t : Int)) : xOK cc own ini nL cl Ts Ls xs zm um pc (xs_ic_lt t (pc + 3)) := by
  intro p l e R s m args below meth c D ca b H0 hs Q E hRc hRs hRf hRl L st w h pc' L' st' w' h' hF K ls H locs cells slots I
  unfold xs_ic_lt at hF
  split at hF
  · rename_i y x r
    cases hF
    by_cases hc : x < y
    · rw [if_pos hc] at K
      exact lv_icmp_lt E.1 E.2.1 hd ht (fun _ => K ls H locs cells slots I) (fun q => absurd hc (by simp_all))
    · rw [if_neg hc] at K
      exact lv_icmp_lt E.1 E.2.1 hd ht (fun q => absurd q (by simp_all)) (fun _ => K ls H locs cells slots I)
  · cases hF
def xs_ic_ge (t nx : Nat) : xS := fun L st w h => match st with
  | .int y :: .int x :: r => some (if y ≤ x then t else nx, L, r, w, h)
  | _ => none
theorem xs_ic_ge_ok {off : Int} {t : Nat} (hd : decode cc pc = .ok (.if_icmp .ge off, 3)) (ht : (pc : Int) + off = (t : Int)) : xOK cc own ini nL cl Ts Ls xs zm um pc (xs_ic_ge t (pc + 3)) := by
  intro p l e R s m args below meth c D ca b H0 hs Q E hRc hRs hRf hRl L st w h pc' L' st' w' h' hF K ls H locs cells slots I
  unfold xs_ic_ge at hF
  split at hF
  · rename_i y x r
    cases hF
    by_cases hc : y ≤ x
    · rw [if_pos hc] at K
      exact lv_icmp_ge E.1 E.2.1 hd ht (fun _ => K ls H locs cells slots I) (fun q => absurd hc (by simp_all))
    · rw [if_neg hc] at K
      exact lv_icmp_ge E.1 E.2.1 hd ht (fun q => absurd q (by simp_all)) (fun _ => K ls H locs cells slots I)
  · cases hF
def xs_ic_gt (t nx : Nat) : xS := fun L st w h => match st with
  | .int y :: .int x :: r => some (if y < x then t else nx, L, r, w, h)
  | _ => none
theorem xs_ic_gt_ok {off : Int} {t : Nat} (hd : decode cc pc = .ok (.if_icmp .gt off, 3)) (ht : (pc : Int) + off = (t : Int)) : xOK cc own ini nL cl Ts Ls xs zm um pc (xs_ic_gt t (pc + 3)) := by
  intro p l e R s m args below meth c D ca b H0 hs Q E hRc hRs hRf hRl L st w h pc' L' st' w' h' hF K ls H locs cells slots I
  unfold xs_ic_gt at hF
  split at hF
  · rename_i y x r
    cases hF
    by_cases hc : y < x
    · rw [if_pos hc] at K
      exact lv_icmp_gt E.1 E.2.1 hd ht (fun _ => K ls H locs cells slots I) (fun q => absurd hc (by simp_all))
    · rw [if_neg hc] at K
      exact lv_icmp_gt E.1 E.2.1 hd ht (fun q => absurd q (by simp_all)) (fun _ => K ls H locs cells slots I)
  · cases hF
def xs_ic_le (t nx : Nat) : xS := fun L st w h => match st with
  | .int y :: .int x :: r => some (if x ≤ y then t else nx, L, r, w, h)
  | _ => none
theorem xs_ic_le_ok {off : Int} {t : Nat} (hd : decode cc pc = .ok (.if_icmp .le off, 3)) (ht : (pc : Int) + off = (t : Int)) : xOK cc own ini nL cl Ts Ls xs zm um pc (xs_ic_le t (pc + 3)) := by
  intro p l e R s m args below meth c D ca b H0 hs Q E hRc hRs hRf hRl L st w h pc' L' st' w' h' hF K ls H locs cells slots I
  unfold xs_ic_le at hF
  split at hF
  · rename_i y x r
    cases hF
    by_cases hc : x ≤ y
    · rw [if_pos hc] at K
      exact lv_icmp_le E.1 E.2.1 hd ht (fun _ => K ls H locs cells slots I) (fun q => absurd hc (by simp_all))
    · rw [if_neg hc] at K
      exact lv_icmp_le E.1 E.2.1 hd ht (fun q => absurd q (by simp_all)) (fun _ => K ls H locs cells slots I)
  · cases hF
end XO