/-! The abstract machine's instructions on cells. -/
def xfit : Nat → Value → Bool
  | 0, .int _ => true
  | 1, .int x => x == 0 || x == 1
  | 2, .ref _ => true
  | _, _ => false
def xty (kind : Nat) (ty : FieldType) : Prop := match kind with
  | 0 => ty = .int
  | 1 => ty = .boolean
  | _ => (∃ n, ty = .object n) ∨ ∃ t, ty = .array t
theorem xfit_ok {b base kind : Nat} {v : Value} {ty : FieldType} (h : xfit kind v = true) (ht : xty kind ty) : narrow ty (xcv b base v) = xcv b base v ∧ fits ty (xcv b base v) = true := by
  unfold xfit at h
  split at h
  · cases ht
    exact ⟨rfl, rfl⟩
  · cases ht
    simp only [Bool.or_eq_true, beq_iff_eq] at h
    rcases h with rfl | rfl
    · exact ⟨(by decide : narrow .boolean (.int 0) = .int 0), (by decide : fits .boolean (.int 0) = true)⟩
    · exact ⟨(by decide : narrow .boolean (.int 1) = .int 1), (by decide : fits .boolean (.int 1) = true)⟩
  · rcases ht with ⟨n, rfl⟩ | ⟨t, rfl⟩ <;> exact ⟨rfl, rfl⟩
  · cases h
abbrev xin (i : Int32) (n : Nat) : Prop := ¬ i < 0 ∧ i.toNatClampNeg < n
theorem xin_vp {i : Int32} {n : Nat} (h : xin i n) : vp_in i n := fun q => q.elim h.1 (fun z => by have := h.2; omega)
def xcs (st : List Value) : Nat := (st.map fun v => v.category).sum
theorem xcs_map (b base : Nat) (st : List Value) : ((st.map (xcv b base)).map fun v => v.category).sum = xcs st := by
  unfold xcs
  rw [List.map_map]
  congr 1
  apply List.map_congr_left
  intro v _
  exact xcv_cat b base v
def xgr (f : Nat → Option xB) (z N K : Nat) : Nat → Option xB := fun j => if j = z then some (.inr (.inr (.inr (N, z + 1)))) else if z < j ∧ j ≤ z + N then some (.inr (.inl (0, K, fun _ => 0))) else f j
section XQ
variable {D : va_G} {cl : List vw_C} {ca : Nat → ClassId} {b : Nat} {H0 H H1 : Heap} {h : xH}
theorem xrp_ad (hr : xrp D cl ca b H0 h H) : xcv b H0.size (.ref h.1) = .ref H.size := by
  obtain ⟨r1, r2, -, -⟩ := hr
  obtain ⟨i, hi⟩ : ∃ i, h.1 = i + 1 := ⟨h.1 - 1, by omega⟩
  have e9 : H0.size + i = H.size := by omega
  rw [hi, ← e9]
  rfl
theorem xrp_grid (hr : xrp D cl ca b H0 h H) {N K : Nat} (h1 : va_at D cl (H.size, .inl (ca 3, N, .inr (.inr (.inr (.inr (fun i => if i < N then some (H.size + 1 + i) else none)))))) H1) (h2 : ∀ j, j < N → va_at D cl (H.size + 1 + j, .inl (ca 0, K, .inl (fun _ => 0))) H1) (hz : H1.size = H.size + 1 + N) (ho : ∀ q, q < H.size → H1[q]? = H[q]?) (n : Nat) : xrp D cl ca b H0 (h.1 + 1 + N, n, xgr h.2.2 h.1 N K) H1 := by
  have hr' := hr
  obtain ⟨r1, r2, r3, r4⟩ := hr
  refine ⟨by show 1 ≤ h.1 + 1 + N; omega, by show H1.size + 1 = H0.size + (h.1 + 1 + N); omega, fun q hq => by rw [ho q (by omega)]; exact r3 q hq, fun j y hj => ?_⟩
  show j + 1 < h.1 + 1 + N ∧ _
  have hj : xgr h.2.2 h.1 N K (j + 1) = some y := hj
  unfold xgr at hj
  by_cases e : j + 1 = h.1
  · rw [if_pos e] at hj
    cases hj
    have ea : H0.size + j = H.size := by omega
    rw [ea]
    refine ⟨by omega, ?_⟩
    have ef : (fun i => if i < N then some (xad b H0.size (h.1 + 1 + i)) else none) = (fun i => if i < N then some (H.size + 1 + i) else none) := by
      funext i
      congr 2
      rw [show h.1 + 1 + i = (h.1 + i) + 1 by omega]
      show H0.size + (h.1 + i) = _
      omega
    show va_at D cl (H.size, .inl (ca 3, N, .inr (.inr (.inr (.inr (fun i => if i < N then some (xad b H0.size (h.1 + 1 + i)) else none)))))) H1
    rw [ef]
    exact h1
  · rw [if_neg e] at hj
    by_cases e2 : h.1 < j + 1 ∧ j + 1 ≤ h.1 + N
    · rw [if_pos e2] at hj
      cases hj
      refine ⟨by omega, ?_⟩
      have ea : H0.size + j = H.size + 1 + (j - h.1) := by omega
      rw [ea]
      exact h2 (j - h.1) (by omega)
    · rw [if_neg e2] at hj
      exact ⟨by have := (r4 j y hj).1; omega, xrp_old hr' ho hj⟩
end XQ
section XO
variable {cc : ByteArray} {own : String} {ini : Bool} {nL : Nat} {cl : List vw_C} {Ts : List Cond} {Ls : Nat} {xs : Nat → Int32} {zm um pc : Nat}

def xs_gf (ci k nx : Nat) : xS := fun L st w h => match st with
  | .ref (j + 1) :: r => (match h.2.2 (j + 1) with
    | some (.inl (c2, fs)) => (match fs[k]? with
      | some v => if c2 = ci then some (nx, L, v :: r, w, h) else none
      | none => none)
    | _ => none)
  | _ => none
theorem xs_gf_ok {C : String} {T : u_T} {N ci k idx : Nat} (hd : decode cc pc = .ok (.getfield idx, 3)) (hc : cl[ci]? = some (C, T, N)) (hin : ∀ w ∈ u_ws C T N, w ∈ Ts) (hk : k < N) (hl : Cond.fieldLink own idx (T k).1 (T k).2.1 (T k).2.2.1 ∈ Ts) : xOK cc own ini nL cl Ts Ls xs zm um pc (xs_gf ci k (pc + 3)) := by
  intro p l e R s m args below meth c D ca b H0 hs Q E hRc hRs hRf hRl L st w h pc' L' st' w' h' hF K ls H locs cells slots I
  obtain ⟨hx, hb, hown, hts, hK, hX, hbl, hml, hnm0, hao⟩ := E
  obtain ⟨i1, i2, i3, i4, i5, i6, i7, i8⟩ := I
  unfold xs_gf at hF
  split at hF
  · split at hF
    · split at hF
      · split at hF
        · rename_i j r _ c2 fs hcell _ v hv hci
          subst hci
          cases hF
          exact xr_get hx hb hts hin hown hK (i2.2.2.2 j _ hcell).2 hc k hk (hts _ hl) (v := xcv b H0.size v) (by rw [List.getElem?_map, hv]; rfl) hd (K ls H locs cells slots ⟨i1, i2, i3, i4, i5, i6, i7, i8⟩)
        · cases hF
      · cases hF
    · cases hF
  · cases hF
def xs_pf (ci k kind nx : Nat) : xS := fun L st w h => match st with
  | v :: .ref (j + 1) :: r => (match h.2.2 (j + 1) with
    | some (.inl (c2, fs)) => if c2 = ci ∧ k < fs.length ∧ xfit kind v = true then some (nx, L, r, true, (h.1, h.2.1, xup h.2.2 (j + 1) (some (.inl (c2, fs.set k v))))) else none
    | _ => none)
  | _ => none
theorem xs_pf_ok {C : String} {T : u_T} {N ci k idx kind : Nat} {ty0 : Nat → FieldType} (hd : decode cc pc = .ok (.putfield idx, 3)) (hc : cl[ci]? = some (C, T, N)) (hin : ∀ w ∈ u_ws C T N, w ∈ Ts) (hty : ∀ k, k < N → parseFieldDescriptor (T k).2.2.1 = some (ty0 k)) (hnm : ∀ a, a < N → ∀ b, b < N → a ≠ b → (T a).2.1 ≠ (T b).2.1) (hk : k < N) (hl : Cond.fieldLink own idx (T k).1 (T k).2.1 (T k).2.2.1 ∈ Ts)
    (hfin : (T k).2.2.2 = false ∨ ((T k).2.2.2 = true ∧ ini = true ∧ (T k).1 = own)) (hkd : xty kind (ty0 k)) : xOK cc own ini nL cl Ts Ls xs zm um pc (xs_pf ci k kind (pc + 3)) := by
  intro p l e R s m args below meth c D ca b H0 hs Q E hRc hRs hRf hRl L st w h pc' L' st' w' h' hF K ls H locs cells slots I
  obtain ⟨hx, hb, hown, hts, hK, hX, hbl, hml, hnm0, hao⟩ := E
  obtain ⟨i1, i2, i3, i4, i5, i6, i7, i8⟩ := I
  unfold xs_pf at hF
  split at hF
  · split at hF
    · split at hF
      · rename_i v j r _ c2 fs hcell hcond
        obtain ⟨hci, hlen, hfit⟩ := hcond
        subst hci
        cases hF
        obtain ⟨f1, f2⟩ := xfit_ok (b := b) (base := H0.size) hfit hkd
        refine xr_put hx hb hts hin ty0 hty hnm hown hK (i2.2.2.2 j _ hcell).2 hc k hk (hts _ hl) (hfin.imp id (fun q => ⟨q.1, hnm0 q.2.1, q.2.2⟩)) (v := xcv b H0.size v) f1 f2 (by rw [List.length_map]; exact hlen) hd (fun H1 locs1 hat hz ho hlc => K ls H1 locs1 cells slots ⟨i1, xrp_set i2 hcell ?_ hz ho, fun q hq => ?_, i4, i5, i6, i7, fun q => by cases q⟩)
        · show va_at D cl (H0.size + j, .inr (c2, (fs.set k v).map (xcv b H0.size))) H1
          rw [List.map_set]
          exact hat
        · rcases hlc q hq with h9 | h9
          · exact i3 q h9
          · rw [h9]; exact Nat.le_add_right _ _
      · cases hF
    · cases hF
  · cases hF
def xs_nw (zm um ci N : Nat) (fs : List Value) (nx : Nat) : xS := fun L st w h => if h.1 + 1 ≤ zm ∧ h.2.1 + N ≤ um then some (nx, L, .ref h.1 :: st, true, (h.1 + 1, h.2.1 + N, xup h.2.2 h.1 (some (.inl (ci, fs))))) else none
theorem xs_nw_ok {C : String} {T : u_T} {N ci idx : Nat} {ty0 : Nat → FieldType} {fs : List Value} (hd : decode cc pc = .ok (.new idx, 3)) (hc : cl[ci]? = some (C, T, N)) (hin : ∀ w ∈ u_ws C T N, w ∈ Ts) (hty : ∀ k, k < N → parseFieldDescriptor (T k).2.2.1 = some (ty0 k)) (hcl : Cond.classLink own idx C ∈ Ts) (hinst : Cond.instantiable C N ∈ Ts) (hini : Cond.initialized C ∈ Ts) (hfs : ∀ b base j, j < N → defaultValue (ty0 j) = vp_V (fs.map (xcv b base)) j) : xOK cc own ini nL cl Ts Ls xs zm um pc (xs_nw zm um ci N fs (pc + 3)) := by
  intro p l e R s m args below meth c D ca b H0 hs Q E hRc hRs hRf hRl L st w h pc' L' st' w' h' hF K ls H locs cells slots I
  obtain ⟨hx, hb, hown, hts, hK, hX, hbl, hml, hnm0, hao⟩ := E
  obtain ⟨i1, i2, i3, i4, i5, i6, i7, i8⟩ := I
  unfold xs_nw at hF
  split at hF
  · rename_i hcond
    obtain ⟨z1, z2⟩ := hcond
    cases hF
    refine xr_new hx hb hts hin ty0 hty hown (hts _ hcl) (hts _ hinst) (hts _ hini) hK hc (fs := fs.map (xcv b H0.size)) (hfs b H0.size) (by omega) (by omega) hd (fun H1 hat hz ho => ?_)
    have K1 := K ls H1 locs (cells + 1) (slots + N) ⟨i1, xrp_new i2 (x := .inl (ci, fs)) hat hz ho N, i3, by show cells + 1 + hs.1 = h.1 + 1; omega, by show slots + N + hs.2.1 = h.2.1 + N; omega, z1, z2, fun q => by cases q⟩
    rw [List.map_cons, xrp_ad i2] at K1
    exact K1
  · cases hF
def xs_nai (zm um nx : Nat) : xS := fun L st w h => match st with
  | .int n :: r => if ¬ n < 0 ∧ n.toNatClampNeg ≤ 1000000 ∧ h.1 + 1 ≤ zm ∧ h.2.1 + n.toNatClampNeg ≤ um then some (nx, L, .ref h.1 :: r, true, (h.1 + 1, h.2.1 + n.toNatClampNeg, xup h.2.2 h.1 (some (.inr (.inl (0, n.toNatClampNeg, fun _ => 0)))))) else none
  | _ => none
theorem xs_nai_ok (hd : decode cc pc = .ok (.newarray .int, 2)) (hac : Cond.arrayClass .int ∈ Ts) : xOK cc own ini nL cl Ts Ls xs zm um pc (xs_nai zm um (pc + 2)) := by
  intro p l e R s m args below meth c D ca b H0 hs Q E hRc hRs hRf hRl L st w h pc' L' st' w' h' hF K ls H locs cells slots I
  obtain ⟨hx, hb, hown, hts, hK, hX, hbl, hml, hnm0, hao⟩ := E
  obtain ⟨i1, i2, i3, i4, i5, i6, i7, i8⟩ := I
  unfold xs_nai at hF
  split at hF
  · split at hF
    · rename_i n r hcond
      obtain ⟨z0, z3, z1, z2⟩ := hcond
      cases hF
      refine xr_newa (atype := .int) hx hb (hts _ hac) hK 0 rfl (hK.2 0 _ rfl).2 (N' := n.toNatClampNeg) (a0 := (n.toNatClampNeg, .inl (fun _ => 0))) (by rw [vp_cell_i]; rfl) z0 rfl ?_ (by omega) (by omega) hd (fun H1 hat hz ho => ?_)
      · show n.toNatClampNeg * 4 ≤ 536870912
        omega
      · have K1 := K ls H1 locs (cells + 1) (slots + n.toNatClampNeg) ⟨i1, xrp_new i2 (x := .inr (.inl (0, n.toNatClampNeg, fun _ => 0))) hat hz ho n.toNatClampNeg, i3, by show cells + 1 + hs.1 = h.1 + 1; omega, by show slots + n.toNatClampNeg + hs.2.1 = h.2.1 + n.toNatClampNeg; omega, z1, z2, fun q => by cases q⟩
        rw [List.map_cons, xrp_ad i2] at K1
        exact K1
    · cases hF
  · cases hF
def xs_naz (zm um nx : Nat) : xS := fun L st w h => match st with
  | .int n :: r => if ¬ n < 0 ∧ n.toNatClampNeg ≤ 1000000 ∧ h.1 + 1 ≤ zm ∧ h.2.1 + n.toNatClampNeg ≤ um then some (nx, L, .ref h.1 :: r, true, (h.1 + 1, h.2.1 + n.toNatClampNeg, xup h.2.2 h.1 (some (.inr (.inl (1, n.toNatClampNeg, fun _ => 0)))))) else none
  | _ => none
theorem xs_naz_ok (hd : decode cc pc = .ok (.newarray .boolean, 2)) (hac : Cond.arrayClass .boolean ∈ Ts) : xOK cc own ini nL cl Ts Ls xs zm um pc (xs_naz zm um (pc + 2)) := by
  intro p l e R s m args below meth c D ca b H0 hs Q E hRc hRs hRf hRl L st w h pc' L' st' w' h' hF K ls H locs cells slots I
  obtain ⟨hx, hb, hown, hts, hK, hX, hbl, hml, hnm0, hao⟩ := E
  obtain ⟨i1, i2, i3, i4, i5, i6, i7, i8⟩ := I
  unfold xs_naz at hF
  split at hF
  · split at hF
    · rename_i n r hcond
      obtain ⟨z0, z3, z1, z2⟩ := hcond
      cases hF
      refine xr_newa (atype := .boolean) hx hb (hts _ hac) hK 1 rfl (hK.2 1 _ rfl).2 (N' := n.toNatClampNeg) (a0 := (n.toNatClampNeg, .inl (fun _ => 0))) (by rw [vp_cell_i]; rfl) z0 rfl ?_ (by omega) (by omega) hd (fun H1 hat hz ho => ?_)
      · show n.toNatClampNeg * 1 ≤ 536870912
        omega
      · have K1 := K ls H1 locs (cells + 1) (slots + n.toNatClampNeg) ⟨i1, xrp_new i2 (x := .inr (.inl (1, n.toNatClampNeg, fun _ => 0))) hat hz ho n.toNatClampNeg, i3, by show cells + 1 + hs.1 = h.1 + 1; omega, by show slots + n.toNatClampNeg + hs.2.1 = h.2.1 + n.toNatClampNeg; omega, z1, z2, fun q => by cases q⟩
        rw [List.map_cons, xrp_ad i2] at K1
        exact K1
    · cases hF
  · cases hF
def xs_naj (zm um nx : Nat) : xS := fun L st w h => match st with
  | .int n :: r => if ¬ n < 0 ∧ n.toNatClampNeg ≤ 1000000 ∧ h.1 + 1 ≤ zm ∧ h.2.1 + n.toNatClampNeg ≤ um then some (nx, L, .ref h.1 :: r, true, (h.1 + 1, h.2.1 + n.toNatClampNeg, xup h.2.2 h.1 (some (.inr (.inr (.inl (n.toNatClampNeg, fun _ => 0))))))) else none
  | _ => none
theorem xs_naj_ok (hd : decode cc pc = .ok (.newarray .long, 2)) (hac : Cond.arrayClass .long ∈ Ts) : xOK cc own ini nL cl Ts Ls xs zm um pc (xs_naj zm um (pc + 2)) := by
  intro p l e R s m args below meth c D ca b H0 hs Q E hRc hRs hRf hRl L st w h pc' L' st' w' h' hF K ls H locs cells slots I
  obtain ⟨hx, hb, hown, hts, hK, hX, hbl, hml, hnm0, hao⟩ := E
  obtain ⟨i1, i2, i3, i4, i5, i6, i7, i8⟩ := I
  unfold xs_naj at hF
  split at hF
  · split at hF
    · rename_i n r hcond
      obtain ⟨z0, z3, z1, z2⟩ := hcond
      cases hF
      refine xr_newa (atype := .long) hx hb (hts _ hac) hK 2 rfl (hK.2 2 _ rfl).2 (N' := n.toNatClampNeg) (a0 := (n.toNatClampNeg, .inr (.inl (fun _ => 0)))) (by rw [vp_cell_l]; rfl) z0 rfl ?_ (by omega) (by omega) hd (fun H1 hat hz ho => ?_)
      · show n.toNatClampNeg * 8 ≤ 536870912
        omega
      · have K1 := K ls H1 locs (cells + 1) (slots + n.toNatClampNeg) ⟨i1, xrp_new i2 (x := .inr (.inr (.inl (n.toNatClampNeg, fun _ => 0)))) hat hz ho n.toNatClampNeg, i3, by show cells + 1 + hs.1 = h.1 + 1; omega, by show slots + n.toNatClampNeg + hs.2.1 = h.2.1 + n.toNatClampNeg; omega, z1, z2, fun q => by cases q⟩
        rw [List.map_cons, xrp_ad i2] at K1
        exact K1
    · cases hF
  · cases hF
def xs_mn (zm um nx : Nat) : xS := fun L st w h => match st with
  | .int k :: .int n :: r => if ¬ n < 0 ∧ ¬ k < 0 ∧ n.toNatClampNeg ≤ 1000 ∧ k.toNatClampNeg ≤ 1000 ∧ h.1 + 1 + n.toNatClampNeg ≤ zm ∧ h.2.1 + n.toNatClampNeg + n.toNatClampNeg * k.toNatClampNeg ≤ um then some (nx, L, .ref h.1 :: r, true, (h.1 + 1 + n.toNatClampNeg, h.2.1 + n.toNatClampNeg + n.toNatClampNeg * k.toNatClampNeg, xgr h.2.2 h.1 n.toNatClampNeg k.toNatClampNeg)) else none
  | _ => none
theorem xs_mn_ok {idx : Nat} (hd : decode cc pc = .ok (.multianewarray idx 2, 4)) (hcl : Cond.classLink own idx ("[" ++ (FieldType.array .int).toString) ∈ Ts) (hac : Cond.arrayClass .int ∈ Ts) : xOK cc own ini nL cl Ts Ls xs zm um pc (xs_mn zm um (pc + 4)) := by
  intro p l e R s m args below meth c D ca b H0 hs Q E hRc hRs hRf hRl L st w h pc' L' st' w' h' hF K ls H locs cells slots I
  obtain ⟨hx, hb, hown, hts, hK, hX, hbl, hml, hnm0, hao⟩ := E
  obtain ⟨i1, i2, i3, i4, i5, i6, i7, i8⟩ := I
  unfold xs_mn at hF
  split at hF
  · split at hF
    · rename_i k n r hcond
      obtain ⟨z0, z4, z3, z5, z1, z2⟩ := hcond
      cases hF
      refine xr_mna (D := D) (cl := cl) hx hb hown (hts _ hcl) hao (hts _ hac) (cI := ca 0) (cA := ca 3) (hK.2 0 _ rfl).2 (hK.2 3 _ rfl).2 (N' := n.toNatClampNeg) (K' := k.toNatClampNeg) z0 z4 rfl rfl (by omega) (by omega) (by omega) (by omega) hd (fun H1 h1 h2 hz ho => ?_)
      have K1 := K ls H1 locs (cells + 1 + n.toNatClampNeg) (slots + n.toNatClampNeg + n.toNatClampNeg * k.toNatClampNeg) ⟨i1, xrp_grid i2 h1 h2 hz ho _, i3, by show cells + 1 + n.toNatClampNeg + hs.1 = h.1 + 1 + n.toNatClampNeg; omega, by show slots + n.toNatClampNeg + n.toNatClampNeg * k.toNatClampNeg + hs.2.1 = h.2.1 + n.toNatClampNeg + n.toNatClampNeg * k.toNatClampNeg; omega, z1, z2, fun q => by cases q⟩
      rw [List.map_cons, xrp_ad i2] at K1
      exact K1
    · cases hF
  · cases hF
def xs_ia (Ls : Nat) (xs : Nat → Int32) (nx : Nat) : xS := fun L st w h => match st with
  | .int i :: .ref 0 :: r => if xin i Ls then some (nx, L, .int (xs i.toNatClampNeg) :: r, w, h) else none
  | .int i :: .ref (j + 1) :: r => (match h.2.2 (j + 1) with
    | some (.inr (.inl (kd, n, f))) => if kd = 0 ∧ xin i n then some (nx, L, .int (f i.toNatClampNeg) :: r, w, h) else none
    | _ => none)
  | _ => none
theorem xs_ia_ok (hd : decode cc pc = .ok (.iaload, 1)) : xOK cc own ini nL cl Ts Ls xs zm um pc (xs_ia Ls xs (pc + 1)) := by
  intro p l e R s m args below meth c D ca b H0 hs Q E hRc hRs hRf hRl L st w h pc' L' st' w' h' hF K ls H locs cells slots I
  obtain ⟨hx, hb, hown, hts, hK, hX, hbl, hml, hnm0, hao⟩ := E
  obtain ⟨i1, i2, i3, i4, i5, i6, i7, i8⟩ := I
  unfold xs_ia at hF
  split at hF
  · split at hF
    · rename_i i r hcond
      cases hF
      obtain ⟨scr, s1, s2, s3, s4, s5⟩ := hX
      exact W.iald (v := .int (xs i.toNatClampNeg)) hx hb ((i2.2.2.1 b hbl).trans s1) s2 s3 (by rw [s4]; exact xin_vp hcond) (s5 _ hcond.2) rfl rfl hd (K ls H locs cells slots ⟨i1, i2, i3, i4, i5, i6, i7, i8⟩)
    · cases hF
  · split at hF
    · split at hF
      · rename_i i j r _ kd n f hcell hcond
        obtain ⟨hkd, hin⟩ := hcond
        subst hkd
        cases hF
        exact xr_iald hx hb hK 0 (i2.2.2.2 j _ hcell).2 rfl (xin_vp hin) hd (K ls H locs cells slots ⟨i1, i2, i3, i4, i5, i6, i7, i8⟩)
      · cases hF
    · cases hF
  · cases hF
def xs_za (nx : Nat) : xS := fun L st w h => match st with
  | .int i :: .ref (j + 1) :: r => (match h.2.2 (j + 1) with
    | some (.inr (.inl (kd, n, f))) => if kd = 1 ∧ xin i n then some (nx, L, .int (f i.toNatClampNeg) :: r, w, h) else none
    | _ => none)
  | _ => none
theorem xs_za_ok (hd : decode cc pc = .ok (.baload, 1)) : xOK cc own ini nL cl Ts Ls xs zm um pc (xs_za (pc + 1)) := by
  intro p l e R s m args below meth c D ca b H0 hs Q E hRc hRs hRf hRl L st w h pc' L' st' w' h' hF K ls H locs cells slots I
  obtain ⟨hx, hb, hown, hts, hK, hX, hbl, hml, hnm0, hao⟩ := E
  obtain ⟨i1, i2, i3, i4, i5, i6, i7, i8⟩ := I
  unfold xs_za at hF
  split at hF
  · split at hF
    · split at hF
      · rename_i i j r _ kd n f hcell hcond
        obtain ⟨hkd, hin⟩ := hcond
        subst hkd
        cases hF
        exact xr_zald hx hb hK 1 (i2.2.2.2 j _ hcell).2 rfl (xin_vp hin) hd (K ls H locs cells slots ⟨i1, i2, i3, i4, i5, i6, i7, i8⟩)
      · cases hF
    · cases hF
  · cases hF
def xs_la (nx : Nat) : xS := fun L st w h => match st with
  | .int i :: .ref (j + 1) :: r => (match h.2.2 (j + 1) with
    | some (.inr (.inr (.inl (n, f)))) => if xin i n then some (nx, L, .long (f i.toNatClampNeg) :: r, w, h) else none
    | _ => none)
  | _ => none
theorem xs_la_ok (hd : decode cc pc = .ok (.laload, 1)) : xOK cc own ini nL cl Ts Ls xs zm um pc (xs_la (pc + 1)) := by
  intro p l e R s m args below meth c D ca b H0 hs Q E hRc hRs hRf hRl L st w h pc' L' st' w' h' hF K ls H locs cells slots I
  obtain ⟨hx, hb, hown, hts, hK, hX, hbl, hml, hnm0, hao⟩ := E
  obtain ⟨i1, i2, i3, i4, i5, i6, i7, i8⟩ := I
  unfold xs_la at hF
  split at hF
  · split at hF
    · split at hF
      · rename_i i j r _ n f hcell hin
        cases hF
        exact xr_lald hx hb hK 2 (i2.2.2.2 j _ hcell).2 rfl (xin_vp hin) hd (K ls H locs cells slots ⟨i1, i2, i3, i4, i5, i6, i7, i8⟩)
      · cases hF
    · cases hF
  · cases hF
def xs_len (Ls nx : Nat) : xS := fun L st w h => match st with
  | .ref 0 :: r => some (nx, L, .int (nI Ls) :: r, w, h)
  | .ref (j + 1) :: r => (match h.2.2 (j + 1) with
    | some (.inr (.inl (kd, n, _))) => if kd = 0 then some (nx, L, .int (nI n) :: r, w, h) else none
    | _ => none)
  | _ => none
theorem xs_len_ok (hd : decode cc pc = .ok (.arraylength, 1)) : xOK cc own ini nL cl Ts Ls xs zm um pc (xs_len Ls (pc + 1)) := by
  intro p l e R s m args below meth c D ca b H0 hs Q E hRc hRs hRf hRl L st w h pc' L' st' w' h' hF K ls H locs cells slots I
  obtain ⟨hx, hb, hown, hts, hK, hX, hbl, hml, hnm0, hao⟩ := E
  obtain ⟨i1, i2, i3, i4, i5, i6, i7, i8⟩ := I
  unfold xs_len at hF
  split at hF
  · cases hF
    obtain ⟨scr, s1, s2, s3, s4, s5⟩ := hX
    exact W.alen (n := nI Ls) hx hb ((i2.2.2.1 b hbl).trans s1) s2 (by rw [s4]; rfl) rfl rfl hd (K ls H locs cells slots ⟨i1, i2, i3, i4, i5, i6, i7, i8⟩)
  · split at hF
    · split at hF
      · rename_i j r _ kd n f hcell hkd
        subst hkd
        cases hF
        exact xr_alen hx hb hK 0 (i2.2.2.2 j _ hcell).2 rfl hd (K ls H locs cells slots ⟨i1, i2, i3, i4, i5, i6, i7, i8⟩)
      · cases hF
    · cases hF
  · cases hF
def xs_ias (nx : Nat) : xS := fun L st w h => match st with
  | .int x :: .int i :: .ref (j + 1) :: r => (match h.2.2 (j + 1) with
    | some (.inr (.inl (kd, n, f))) => if kd = 0 ∧ xin i n then some (nx, L, r, true, (h.1, h.2.1, xup h.2.2 (j + 1) (some (.inr (.inl (kd, n, upd f i.toNatClampNeg x)))))) else none
    | _ => none)
  | _ => none
theorem xs_ias_ok (hd : decode cc pc = .ok (.iastore, 1)) : xOK cc own ini nL cl Ts Ls xs zm um pc (xs_ias (pc + 1)) := by
  intro p l e R s m args below meth c D ca b H0 hs Q E hRc hRs hRf hRl L st w h pc' L' st' w' h' hF K ls H locs cells slots I
  obtain ⟨hx, hb, hown, hts, hK, hX, hbl, hml, hnm0, hao⟩ := E
  obtain ⟨i1, i2, i3, i4, i5, i6, i7, i8⟩ := I
  unfold xs_ias at hF
  split at hF
  · split at hF
    · split at hF
      · rename_i x i j r _ kd n f hcell hcond
        obtain ⟨hkd, hin⟩ := hcond
        subst hkd
        cases hF
        refine xr_iast hx hb hK 0 (i2.2.2.2 j _ hcell).2 rfl (xin_vp hin) hd (fun H1 locs1 hat hz ho hlc => K ls H1 locs1 cells slots ⟨i1, xrp_set i2 hcell hat hz ho, fun q hq => ?_, i4, i5, i6, i7, fun q => by cases q⟩)
        rcases hlc q hq with h9 | h9
        · exact i3 q h9
        · rw [h9]; exact Nat.le_add_right _ _
      · cases hF
    · cases hF
  · cases hF
def xs_zas (nx : Nat) : xS := fun L st w h => match st with
  | .int x :: .int i :: .ref (j + 1) :: r => (match h.2.2 (j + 1) with
    | some (.inr (.inl (kd, n, f))) => if kd = 1 ∧ xin i n ∧ (x = 0 ∨ x = 1) then some (nx, L, r, true, (h.1, h.2.1, xup h.2.2 (j + 1) (some (.inr (.inl (kd, n, upd f i.toNatClampNeg x)))))) else none
    | _ => none)
  | _ => none
theorem xs_zas_ok (hd : decode cc pc = .ok (.bastore, 1)) : xOK cc own ini nL cl Ts Ls xs zm um pc (xs_zas (pc + 1)) := by
  intro p l e R s m args below meth c D ca b H0 hs Q E hRc hRs hRf hRl L st w h pc' L' st' w' h' hF K ls H locs cells slots I
  obtain ⟨hx, hb, hown, hts, hK, hX, hbl, hml, hnm0, hao⟩ := E
  obtain ⟨i1, i2, i3, i4, i5, i6, i7, i8⟩ := I
  unfold xs_zas at hF
  split at hF
  · split at hF
    · split at hF
      · rename_i x i j r _ kd n f hcell hcond
        obtain ⟨hkd, hin, hx1⟩ := hcond
        subst hkd
        cases hF
        refine xr_zast hx hb hK 1 (i2.2.2.2 j _ hcell).2 rfl (by rcases hx1 with rfl | rfl <;> decide) (xin_vp hin) hd (fun H1 locs1 hat hz ho hlc => K ls H1 locs1 cells slots ⟨i1, xrp_set i2 hcell hat hz ho, fun q hq => ?_, i4, i5, i6, i7, fun q => by cases q⟩)
        rcases hlc q hq with h9 | h9
        · exact i3 q h9
        · rw [h9]; exact Nat.le_add_right _ _
      · cases hF
    · cases hF
  · cases hF
def xs_las (nx : Nat) : xS := fun L st w h => match st with
  | .long x :: .int i :: .ref (j + 1) :: r => (match h.2.2 (j + 1) with
    | some (.inr (.inr (.inl (n, f)))) => if xin i n then some (nx, L, r, true, (h.1, h.2.1, xup h.2.2 (j + 1) (some (.inr (.inr (.inl (n, vp_updL f i.toNatClampNeg x))))))) else none
    | _ => none)
  | _ => none
theorem xs_las_ok (hd : decode cc pc = .ok (.lastore, 1)) : xOK cc own ini nL cl Ts Ls xs zm um pc (xs_las (pc + 1)) := by
  intro p l e R s m args below meth c D ca b H0 hs Q E hRc hRs hRf hRl L st w h pc' L' st' w' h' hF K ls H locs cells slots I
  obtain ⟨hx, hb, hown, hts, hK, hX, hbl, hml, hnm0, hao⟩ := E
  obtain ⟨i1, i2, i3, i4, i5, i6, i7, i8⟩ := I
  unfold xs_las at hF
  split at hF
  · split at hF
    · split at hF
      · rename_i x i j r _ n f hcell hin
        cases hF
        refine xr_last hx hb hK 2 (i2.2.2.2 j _ hcell).2 rfl (xin_vp hin) hd (fun H1 locs1 hat hz ho hlc => K ls H1 locs1 cells slots ⟨i1, xrp_set i2 hcell hat hz ho, fun q hq => ?_, i4, i5, i6, i7, fun q => by cases q⟩)
        rcases hlc q hq with h9 | h9
        · exact i3 q h9
        · rw [h9]; exact Nat.le_add_right _ _
      · cases hF
    · cases hF
  · cases hF
def xs_oi (nx : Nat) : xS := fun L st w h => match st with
  | .ref _ :: r => if xcs r ≤ 8 then some (nx, L, r, w, h) else none
  | _ => none
theorem xs_oi_ok {idx : Nat} (hd : decode cc pc = .ok (.invokespecial idx, 3)) (h1 : Cond.methodLink own idx objectInit ∈ Ts) (h2 : Cond.instanceMethod objectInit ∈ Ts) (h3 : Cond.code objectInit ⟨#[0xb1]⟩ 1 none ∈ Ts) : xOK cc own ini nL cl Ts Ls xs zm um pc (xs_oi (pc + 3)) := by
  intro p l e R s m args below meth c D ca b H0 hs Q E hRc hRs hRf hRl L st w h pc' L' st' w' h' hF K ls H locs cells slots I
  obtain ⟨hx, hb, hown, hts, hK, hX, hbl, hml, hnm0, hao⟩ := E
  obtain ⟨i1, i2, i3, i4, i5, i6, i7, i8⟩ := I
  unfold xs_oi at hF
  split at hF
  · split at hF
    · rename_i j r hcs
      cases hF
      refine W.objInit hx hb hown (hts _ h1) (hts _ h2) (hts _ h3) rfl (by rw [hml]; exact i1.1) rfl hd hRf ?_ (K ls H locs cells slots ⟨i1, i2, i3, i4, i5, i6, i7, i8⟩)
      rw [xcs_map]
      show 2 * 0 + xcs _ + 12 ≤ R.locals
      omega
    · cases hF
  · cases hF
def xs_ts (ts : List Nat) (df : Nat) : xS := fun L st w h => match st with
  | .int x :: r => if ¬ x < 0 then some (ts.getD x.toNatClampNeg df, L, r, w, h) else none
  | _ => none
theorem xs_ts_ok {dflt hi : Int} {offs : Array Int} {len df : Nat} {ts : List Nat} (hd : decode cc pc = .ok (.tableswitch dflt 0 hi offs, len)) (h1 : hi + 1 = (ts.length : Int)) (h2 : (pc : Int) + dflt = (df : Int)) (h3 : ∀ i, i < ts.length → ∃ off, offs[i]? = some off ∧ (pc : Int) + off = (ts.getD i df : Int)) : xOK cc own ini nL cl Ts Ls xs zm um pc (xs_ts ts df) := by
  intro p l e R s m args below meth c D ca b H0 hs Q E hRc hRs hRf hRl L st w h pc' L' st' w' h' hF K ls H locs cells slots I
  obtain ⟨hx, hb, hown, hts, hK, hX, hbl, hml, hnm0, hao⟩ := E
  obtain ⟨i1, i2, i3, i4, i5, i6, i7, i8⟩ := I
  unfold xs_ts at hF
  split at hF
  · split at hF
    · rename_i x r hx0
      cases hF
      obtain ⟨j, hj, rfl⟩ := nI_of hx0
      rw [nI_clamp hj] at K
      by_cases hlt : j < ts.length
      · obtain ⟨off, ho, ht⟩ := h3 j hlt
        refine lv_tableIn hx hb hd (by rw [nI_toInt hj]; omega) (by rw [nI_toInt hj]; omega) (off := off) ?_ ht (K ls H locs cells slots ⟨i1, i2, i3, i4, i5, i6, i7, i8⟩)
        rw [nI_toInt hj, show ((j : Int) - 0).toNat = j by omega]
        exact ho
      · have e : ts.getD j df = df := by
          simp [List.getD, List.getElem?_eq_none (Nat.not_lt.mp hlt)]
        rw [e] at K
        exact lv_tableOut hx hb hd (Or.inr (by rw [nI_toInt hj]; omega)) h2 (K ls H locs cells slots ⟨i1, i2, i3, i4, i5, i6, i7, i8⟩)
    · cases hF
  · cases hF
end XO
