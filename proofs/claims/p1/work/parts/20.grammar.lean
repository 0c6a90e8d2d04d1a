/-! The constructors, run. -/
theorem xup_same (f : Nat → Option xB) (i : Nat) (a b : Option xB) : xup (xup f i a) i b = xup f i b := by
  funext q
  unfold xup
  by_cases h : q = i <;> simp [h]
theorem xup_sort (f : Nat → Option xB) {i j : Nat} (a b : Option xB) (h : j < i) : xup (xup f i a) j b = xup (xup f j b) i a := by
  funext q
  unfold xup
  by_cases h1 : q = j <;> by_cases h2 : q = i
  · omega
  · simp [h1, h2]
    intro h3
    omega
  · simp [h1, h2]
    intro h3
    omega
  · simp [h1, h2]
section EV2
variable {Ls : Nat} {xs : Nat → Int32} {d j pc : Nat} {L : xL} {st : List Value} {w : Bool} {Φ : xR → Bool → xH → Prop} {z u m nx : Nat} {f : Nat → Option xB}
theorem e_pf {ci k kind : Nat} {fs fs' : List Value} {v : Value} (hP : xP Ls xs j pc = some (.inl (xs_pf ci k kind nx))) (hm : 0 < m) (hc : f m = some (.inl (ci, fs))) (hk : k < fs.length) (hv : xfit kind v = true) (hs : fs.set k v = fs') (kk : evp Ls xs d j nx L st true (z, u, xup f m (some (.inl (ci, fs')))) Φ) : evp Ls xs d j pc L (v :: .ref m :: st) w (z, u, f) Φ := by
  obtain ⟨i, rfl⟩ : ∃ i, m = i + 1 := ⟨m - 1, by omega⟩
  subst hs
  refine e_s hP ?_ kk
  show (match f (i + 1) with | some (.inl (c2, fs)) => _ | _ => _) = _
  rw [hc]
  exact if_pos ⟨rfl, hk, hv⟩
theorem e_gf {ci k : Nat} {fs : List Value} {v : Value} (hP : xP Ls xs j pc = some (.inl (xs_gf ci k nx))) (hm : 0 < m) (hc : f m = some (.inl (ci, fs))) (hv : fs[k]? = some v) (kk : evp Ls xs d j nx L (v :: st) w (z, u, f) Φ) : evp Ls xs d j pc L (.ref m :: st) w (z, u, f) Φ := by
  obtain ⟨i, rfl⟩ : ∃ i, m = i + 1 := ⟨m - 1, by omega⟩
  refine e_s hP ?_ kk
  unfold xs_gf
  simp only [hc, hv, if_true]
theorem e_ias {n : Nat} {g : Nat → Int32} {i x : Int32} (hP : xP Ls xs j pc = some (.inl (xs_ias nx))) (hm : 0 < m) (hc : f m = some (.inr (.inl (0, n, g)))) (hi : xin i n) (kk : evp Ls xs d j nx L st true (z, u, xup f m (some (.inr (.inl (0, n, upd g i.toNatClampNeg x))))) Φ) : evp Ls xs d j pc L (.int x :: .int i :: .ref m :: st) w (z, u, f) Φ := by
  obtain ⟨q, rfl⟩ : ∃ q, m = q + 1 := ⟨m - 1, by omega⟩
  refine e_s hP ?_ kk
  unfold xs_ias
  simp only [hc]
  exact if_pos ⟨trivial, hi⟩
theorem e_zas {n : Nat} {g : Nat → Int32} {i x : Int32} (hP : xP Ls xs j pc = some (.inl (xs_zas nx))) (hm : 0 < m) (hc : f m = some (.inr (.inl (1, n, g)))) (hi : xin i n) (hx : x = 0 ∨ x = 1) (kk : evp Ls xs d j nx L st true (z, u, xup f m (some (.inr (.inl (1, n, upd g i.toNatClampNeg x))))) Φ) : evp Ls xs d j pc L (.int x :: .int i :: .ref m :: st) w (z, u, f) Φ := by
  obtain ⟨q, rfl⟩ : ∃ q, m = q + 1 := ⟨m - 1, by omega⟩
  refine e_s hP ?_ kk
  unfold xs_zas
  simp only [hc]
  exact if_pos ⟨trivial, hi, hx⟩
theorem e_las {n : Nat} {g : Nat → Int64} {i : Int32} {x : Int64} (hP : xP Ls xs j pc = some (.inl (xs_las nx))) (hm : 0 < m) (hc : f m = some (.inr (.inr (.inl (n, g))))) (hi : xin i n) (kk : evp Ls xs d j nx L st true (z, u, xup f m (some (.inr (.inr (.inl (n, vp_updL g i.toNatClampNeg x)))))) Φ) : evp Ls xs d j pc L (.long x :: .int i :: .ref m :: st) w (z, u, f) Φ := by
  obtain ⟨q, rfl⟩ : ∃ q, m = q + 1 := ⟨m - 1, by omega⟩
  refine e_s hP ?_ kk
  unfold xs_las
  simp only [hc]
  exact if_pos hi
theorem e_ia {n : Nat} {g : Nat → Int32} {i : Int32} (hP : xP Ls xs j pc = some (.inl (xs_ia Ls xs nx))) (hm : 0 < m) (hc : f m = some (.inr (.inl (0, n, g)))) (hi : xin i n) (kk : evp Ls xs d j nx L (.int (g i.toNatClampNeg) :: st) w (z, u, f) Φ) : evp Ls xs d j pc L (.int i :: .ref m :: st) w (z, u, f) Φ := by
  obtain ⟨q, rfl⟩ : ∃ q, m = q + 1 := ⟨m - 1, by omega⟩
  refine e_s hP ?_ kk
  unfold xs_ia
  simp only [hc]
  exact if_pos ⟨trivial, hi⟩
theorem e_za {n : Nat} {g : Nat → Int32} {i : Int32} (hP : xP Ls xs j pc = some (.inl (xs_za nx))) (hm : 0 < m) (hc : f m = some (.inr (.inl (1, n, g)))) (hi : xin i n) (kk : evp Ls xs d j nx L (.int (g i.toNatClampNeg) :: st) w (z, u, f) Φ) : evp Ls xs d j pc L (.int i :: .ref m :: st) w (z, u, f) Φ := by
  obtain ⟨q, rfl⟩ : ∃ q, m = q + 1 := ⟨m - 1, by omega⟩
  refine e_s hP ?_ kk
  unfold xs_za
  simp only [hc]
  exact if_pos ⟨trivial, hi⟩
end EV2
