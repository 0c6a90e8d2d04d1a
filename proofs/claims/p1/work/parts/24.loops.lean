/-! Loops over a fresh state. -/
theorem xlk_s (L : xL) (i : Nat) (v : Value) : xlk (xst L i v) i = some v := by
  unfold xst xlk
  exact if_pos rfl
theorem xlk_f (p : Nat × Value → Bool) : ∀ (L : xL) {q : Nat} {x : Value}, xlk L q = some x → (∀ y, p (q, y) = true ∨ y ≠ x) → (∀ y, xlk L q = some y → p (q, y) = true) → xlk (L.filter p) q = some x
  | [], _, _, h, _, _ => by cases h
  | e :: r, q, x, h, h2, h3 => by
    unfold xlk at h
    split at h
    · rename_i he
      have h4 : p e = true := by
        have := h3 e.2 (by unfold xlk; rw [if_pos he])
        rw [← he] at this
        exact this
      rw [List.filter_cons_of_pos h4]
      unfold xlk
      rw [if_pos he]
      exact h
    · rename_i he
      have h3' : ∀ y, xlk r q = some y → p (q, y) = true := fun y hy => h3 y (by unfold xlk; rw [if_neg he]; exact hy)
      have hr := xlk_f p r h h2 h3'
      by_cases h4 : p e = true
      · rw [List.filter_cons_of_pos h4]
        unfold xlk
        rw [if_neg he]
        exact hr
      · rw [List.filter_cons_of_neg h4]
        exact hr
theorem xlk_o {L : xL} {i q : Nat} {v x : Value} (hq : q ≠ i) (hx : x.category = 1) (h : xlk L q = some x) : xlk (xst L i v) q = some x := by
  unfold xst
  unfold xlk
  rw [if_neg (fun e => hq e.symm)]
  have key : ∀ y : Value, y = x → (!(q == i) && !(q + 1 == i && y.category == 2)) = true := by
    intro y hy
    subst hy
    rw [hx]
    have h1 : (q == i) = false := by simpa using hq
    rw [h1]
    simp
  refine xlk_f _ L h (fun y => ?_) (fun y hy => ?_)
  · by_cases e : y = x
    · exact Or.inl (key y e)
    · exact Or.inr e
  · rw [h] at hy
    exact key y (Option.some.inj hy).symm
theorem xup_id {f : Nat → Option xB} {m : Nat} {x : Option xB} (h : f m = x) : xup f m x = f := by
  funext q
  show (if q = m then x else f q) = f q
  by_cases e : q = m
  · rw [if_pos e, e, h]
  · rw [if_neg e]
theorem upd_0 (k : Nat) : upd (fun _ => 0) k 0 = fun _ => 0 := by
  funext q
  by_cases e : q = k
  · rw [e]
    exact pk_us
  · exact pk_un e
theorem xin_nI {k n : Nat} (h : k < n) (hn : n ≤ 100000) : xin (nI k) n := ⟨nI_pos (by omega), by rw [nI_clamp (by omega)]; exact h⟩
theorem nI_mul (a b : Nat) : nI a * nI b = nI (a * b) := (Int32.ofNat_mul a b).symm
theorem ix2 (x s : Nat) : (13 : Int32) * nI x + nI s = nI (13 * x + s) := by
  rw [← nI_add, ← nI_mul]
  rfl
theorem ix3 (x t s : Nat) : (13 : Int32) * nI x + nI t + nI s = nI (13 * x + t + s) := by
  rw [ix2, nI_add]
section LP
variable {Ls : Nat} {xs : Nat → Int32} {d j pc : Nat} {L : xL} {st : List Value} {w : Bool} {h : xH} {Φ : xR → Bool → xH → Prop} {z u m nx : Nat} {f : Nat → Option xB}
theorem e_il {i : Nat} {x : Int32} (hP : xP Ls xs j pc = some (.inl (xs_il i nx))) (hl : xlk L i = some (.int x)) (kk : evp Ls xs d j nx L (.int x :: st) w h Φ) : evp Ls xs d j pc L st w h Φ := e_s hP (by unfold xs_il; simp only [hl]) kk
theorem e_al {i x : Nat} (hP : xP Ls xs j pc = some (.inl (xs_al i nx))) (hl : xlk L i = some (.ref x)) (kk : evp Ls xs d j nx L (.ref x :: st) w h Φ) : evp Ls xs d j pc L st w h Φ := e_s hP (by unfold xs_al; simp only [hl]) kk
theorem e_ist {i nL : Nat} {x : Int32} (hP : xP Ls xs j pc = some (.inl (xs_is nL i nx))) (hi : i < nL) (kk : ∀ L', xlk L' i = some (.int x) → (∀ q v, q ≠ i → v.category = 1 → xlk L q = some v → xlk L' q = some v) → evp Ls xs d j nx L' st w h Φ) : evp Ls xs d j pc L (.int x :: st) w h Φ := e_s hP (by unfold xs_is; simp only [hi, if_true]) (kk (xst L i (.int x)) (xlk_s L i _) (fun _ _ hq hv hl => xlk_o hq hv hl))
theorem e_inc {i nL : Nat} {x dd : Int32} (hP : xP Ls xs j pc = some (.inl (xs_inc nL i dd nx))) (hl : xlk L i = some (.int x)) (hi : i < nL) (kk : ∀ L', xlk L' i = some (.int (x + dd)) → (∀ q v, q ≠ i → v.category = 1 → xlk L q = some v → xlk L' q = some v) → evp Ls xs d j nx L' st w h Φ) : evp Ls xs d j pc L st w h Φ := e_s hP (by unfold xs_inc; simp only [hl, hi, if_true]) (kk (xst L i (.int (x + dd))) (xlk_s L i _) (fun _ _ hq hv hl => xlk_o hq hv hl))
theorem e_ias0 {n : Nat} {i : Int32} (hP : xP Ls xs j pc = some (.inl (xs_ias nx))) (hm : 0 < m) (hc : f m = some (.inr (.inl (0, n, fun _ => 0)))) (hi : xin i n) (kk : evp Ls xs d j nx L st true (z, u, f) Φ) : evp Ls xs d j pc L (.int 0 :: .int i :: .ref m :: st) w (z, u, f) Φ :=
  e_ias hP hm hc hi (by rw [upd_0, xup_id hc]; exact kk)
theorem e_zas0 {n : Nat} {i : Int32} (hP : xP Ls xs j pc = some (.inl (xs_zas nx))) (hm : 0 < m) (hc : f m = some (.inr (.inl (1, n, fun _ => 0)))) (hi : xin i n) (kk : evp Ls xs d j nx L st true (z, u, f) Φ) : evp Ls xs d j pc L (.int 0 :: .int i :: .ref m :: st) w (z, u, f) Φ :=
  e_zas hP hm hc hi (Or.inl rfl) (by rw [upd_0, xup_id hc]; exact kk)
theorem e_ia0 {n : Nat} {i : Int32} (hP : xP Ls xs j pc = some (.inl (xs_ia Ls xs nx))) (hm : 0 < m) (hc : f m = some (.inr (.inl (0, n, fun _ => 0)))) (hi : xin i n) (kk : evp Ls xs d j nx L (.int 0 :: st) w (z, u, f) Φ) : evp Ls xs d j pc L (.int i :: .ref m :: st) w (z, u, f) Φ := e_ia hP hm hc hi kk
theorem e_za0 {n : Nat} {i : Int32} (hP : xP Ls xs j pc = some (.inl (xs_za nx))) (hm : 0 < m) (hc : f m = some (.inr (.inl (1, n, fun _ => 0)))) (hi : xin i n) (kk : evp Ls xs d j nx L (.int 0 :: st) w (z, u, f) Φ) : evp Ls xs d j pc L (.int i :: .ref m :: st) w (z, u, f) Φ := e_za hP hm hc hi kk
theorem e_len {n : Nat} {g : Nat → Int32} (hP : xP Ls xs j pc = some (.inl (xs_len Ls nx))) (hm : 0 < m) (hc : f m = some (.inr (.inl (0, n, g)))) (kk : evp Ls xs d j nx L (.int (nI n) :: st) w (z, u, f) Φ) : evp Ls xs d j pc L (.ref m :: st) w (z, u, f) Φ := by
  obtain ⟨q, rfl⟩ : ∃ q, m = q + 1 := ⟨m - 1, by omega⟩
  refine e_s hP ?_ kk
  unfold xs_len
  simp only [hc, if_true]
end LP
section LPS
variable {Ls : Nat} {xs : Nat → Int32} {d : Nat} {Φ : xR → Bool → xH → Prop} {z u : Nat} {f : Nat → Option xB} {a c N : Nat} {fs : List Value}
theorem fill_5 (hN : N ≤ 100000) (g7 : f 7 = some (.inr (.inl (0, N, fun _ => 0)))) (K : ∀ w, Φ (.inl none) w (z, u, f)) : ∀ (n k : Nat) (w : Bool) (L : xL), k + n = N → xlk L 0 = some (.ref 7) → xlk L 1 = some (.int 0) → xlk L 2 = some (.int (nI k)) → xlk L 3 = some (.int (nI N)) → evp Ls xs d 97 5 L [] w (z, u, f) Φ
  | 0, k, w, L, hk, l0, l1, l2, l3 => by
    refine e_il rfl l2 ?_
    refine e_il rfl l3 ?_
    refine e_bt rfl rfl (nI_le (by omega) (by omega)) ?_
    refine e_r0 rfl ?_
    exact K w
  | n + 1, k, w, L, hk, l0, l1, l2, l3 => by
    refine e_il rfl l2 ?_
    refine e_il rfl l3 ?_
    refine e_bf rfl rfl (nI_ge (by omega) (by omega)) ?_
    refine e_al rfl l0 ?_
    refine e_il rfl l2 ?_
    refine e_il rfl l1 ?_
    refine e_ias0 rfl (by decide) g7 (xin_nI (by omega) hN) ?_
    refine e_inc rfl l2 (by decide) (fun L l2 kp => ?_)
    have l0 := kp 0 _ (by decide) rfl l0
    have l1 := kp 1 _ (by decide) rfl l1
    have l3 := kp 3 _ (by decide) rfl l3
    refine e_s rfl rfl ?_
    exact fill_5 hN g7 K n (k + 1) _ _ (by omega) l0 l1 (by rw [nI_succ]; exact l2) l3
theorem m_fill (hN : N ≤ 100000) (g7 : f 7 = some (.inr (.inl (0, N, fun _ => 0)))) (K : ∀ w, Φ (.inl none) w (z, u, f)) : evp Ls xs d 97 0 [(0, .ref 7), (1, .int 0)] [] false (z, u, f) Φ := by
  have l0 : xlk [(0, .ref 7), (1, .int 0)] 0 = some (.ref 7) := rfl
  have l1 : xlk [(0, .ref 7), (1, .int 0)] 1 = some (.int 0) := rfl
  refine e_s rfl rfl ?_
  refine e_ist rfl (by decide) (fun L l2 kp => ?_)
  have l0 := kp 0 _ (by decide) rfl l0
  have l1 := kp 1 _ (by decide) rfl l1
  refine e_al rfl l0 ?_
  refine e_len rfl (by decide) g7 ?_
  refine e_ist rfl (by decide) (fun L l3 kp => ?_)
  have l0 := kp 0 _ (by decide) rfl l0
  have l1 := kp 1 _ (by decide) rfl l1
  have l2 := kp 2 _ (by decide) rfl l2
  exact fill_5 hN g7 K N 0 _ _ (by omega) l0 l1 l2 l3
theorem an_31 (ha : 1 ≤ a ∧ a ≤ 7) (hc : 1 ≤ c ∧ c ≤ 6) (g2 : f 2 = some (.inl (1, [.int (nI a), .int (nI c), .ref 3, .ref 4, .ref 5, .int 0, .ref 6, .ref 7]))) (g6 : f 6 = some (.inr (.inl (1, c, fun _ => 0)))) (K : ∀ w, Φ (.inl none) w (z, u, f)) (w : Bool) (L : xL) (l0 : xlk L 0 = some (.ref 2)) : evp Ls xs (d + 2) 49 31 L [] w (z, u, f) Φ := by
  have t0 : (0 : Int32).toInt = 0 := rfl
  have t1 : ((0 : Int32) + 1).toInt = 1 := rfl
  have tc : (nI c).toInt = (c : Int) := nI_toInt (by omega)
  have tp : (1 : Int) ≤ (nI c * nI a).toInt := by
    have h1 : c * a ≤ 6 * 7 := Nat.mul_le_mul hc.2 ha.2
    have h2 : 1 * 1 ≤ c * a := Nat.mul_le_mul hc.1 ha.1
    rw [nI_mul, nI_toInt (by omega)]
    omega
  refine e_s rfl rfl ?_
  refine e_ist rfl (by decide) (fun L l1 kp => ?_)
  have l0 := kp 0 _ (by decide) rfl l0
  refine e_s rfl rfl ?_
  refine e_ist rfl (by decide) (fun L l2 kp => ?_)
  have l0 := kp 0 _ (by decide) rfl l0
  have l1 := kp 1 _ (by decide) rfl l1
  refine e_il rfl l2 ?_
  refine e_al rfl l0 ?_
  refine e_gf rfl (by decide) g2 rfl ?_
  refine e_bf rfl rfl (by simp only [Int32.lt_iff_toInt_lt, Int32.le_iff_toInt_le]; omega) ?_
  refine e_il rfl l1 ?_
  refine e_bf rfl rfl (by decide) ?_
  refine e_al rfl l0 ?_
  refine e_c rfl rfl ⟨Nat.le_of_ble_eq_true rfl, Nat.le_of_ble_eq_true rfl, Nat.le_of_ble_eq_true rfl, xrcv_of (by decide) (g2)⟩ ?_
  refine e_s rfl rfl ?_
  refine e_s rfl rfl ?_
  refine e_s rfl rfl ?_
  refine e_s rfl rfl ?_
  refine e_s rfl rfl ?_
  refine e_s rfl rfl ?_
  refine e_gf rfl (by decide) g2 rfl ?_
  refine e_bt rfl rfl (by decide) ?_
  refine e_s rfl rfl ?_
  refine e_r2 rfl (by decide) ?_
  refine e_ist rfl (by decide) (fun L l1 kp => ?_)
  have l0 := kp 0 _ (by decide) rfl l0
  have l2 := kp 2 _ (by decide) rfl l2
  refine e_inc rfl l2 (by decide) (fun L l2 kp => ?_)
  have l0 := kp 0 _ (by decide) rfl l0
  have l1 := kp 1 _ (by decide) rfl l1
  refine e_s rfl rfl ?_
  refine e_il rfl l2 ?_
  refine e_al rfl l0 ?_
  refine e_gf rfl (by decide) g2 rfl ?_
  refine e_bf rfl rfl (by simp only [Int32.lt_iff_toInt_lt, Int32.le_iff_toInt_le]; omega) ?_
  refine e_il rfl l1 ?_
  refine e_bt rfl rfl (by decide) ?_
  refine e_s rfl rfl ?_
  refine e_ist rfl (by decide) (fun L l1 kp => ?_)
  have l0 := kp 0 _ (by decide) rfl l0
  have l2 := kp 2 _ (by decide) rfl l2
  refine e_s rfl rfl ?_
  refine e_ist rfl (by decide) (fun L l2 kp => ?_)
  have l0 := kp 0 _ (by decide) rfl l0
  have l1 := kp 1 _ (by decide) rfl l1
  refine e_il rfl l2 ?_
  refine e_al rfl l0 ?_
  refine e_gf rfl (by decide) g2 rfl ?_
  refine e_al rfl l0 ?_
  refine e_gf rfl (by decide) g2 rfl ?_
  refine e_s rfl rfl ?_
  refine e_bf rfl rfl (by simp only [Int32.lt_iff_toInt_lt, Int32.le_iff_toInt_le]; omega) ?_
  refine e_il rfl l1 ?_
  refine e_bf rfl rfl (by decide) ?_
  refine e_al rfl l0 ?_
  refine e_c rfl rfl ⟨Nat.le_of_ble_eq_true rfl, Nat.le_of_ble_eq_true rfl, Nat.le_of_ble_eq_true rfl, xrcv_of (by decide) (g2)⟩ ?_
  refine e_s rfl rfl ?_
  refine e_s rfl rfl ?_
  refine e_s rfl rfl ?_
  refine e_s rfl rfl ?_
  refine e_s rfl rfl ?_
  refine e_s rfl rfl ?_
  refine e_gf rfl (by decide) g2 rfl ?_
  refine e_bt rfl rfl (by decide) ?_
  refine e_s rfl rfl ?_
  refine e_r2 rfl (by decide) ?_
  refine e_ist rfl (by decide) (fun L l1 kp => ?_)
  have l0 := kp 0 _ (by decide) rfl l0
  have l2 := kp 2 _ (by decide) rfl l2
  refine e_inc rfl l2 (by decide) (fun L l2 kp => ?_)
  have l0 := kp 0 _ (by decide) rfl l0
  have l1 := kp 1 _ (by decide) rfl l1
  refine e_s rfl rfl ?_
  refine e_il rfl l2 ?_
  refine e_al rfl l0 ?_
  refine e_gf rfl (by decide) g2 rfl ?_
  refine e_al rfl l0 ?_
  refine e_gf rfl (by decide) g2 rfl ?_
  refine e_s rfl rfl ?_
  refine e_bf rfl rfl (by simp only [Int32.lt_iff_toInt_lt, Int32.le_iff_toInt_le]; omega) ?_
  refine e_il rfl l1 ?_
  refine e_bt rfl rfl (by decide) ?_
  refine e_r0 rfl ?_
  exact K _
theorem an_10 (ha : 1 ≤ a ∧ a ≤ 7) (hc : 1 ≤ c ∧ c ≤ 6) (g2 : f 2 = some (.inl (1, [.int (nI a), .int (nI c), .ref 3, .ref 4, .ref 5, .int 0, .ref 6, .ref 7]))) (g6 : f 6 = some (.inr (.inl (1, c, fun _ => 0)))) (K : ∀ w, Φ (.inl none) w (z, u, f)) : ∀ (n k : Nat) (w : Bool) (L : xL), k + n = c → xlk L 0 = some (.ref 2) → xlk L 1 = some (.int (nI k)) → evp Ls xs (d + 2) 49 10 L [] w (z, u, f) Φ
  | 0, k, w, L, hk, l0, l1 => by
    refine e_il rfl l1 ?_
    refine e_al rfl l0 ?_
    refine e_gf rfl (by decide) g2 rfl ?_
    refine e_bt rfl rfl (nI_le (by omega) (by omega)) ?_
    exact an_31 ha hc g2 g6 K _ _ l0
  | n + 1, k, w, L, hk, l0, l1 => by
    refine e_il rfl l1 ?_
    refine e_al rfl l0 ?_
    refine e_gf rfl (by decide) g2 rfl ?_
    refine e_bf rfl rfl (nI_ge (by omega) (by omega)) ?_
    refine e_al rfl l0 ?_
    refine e_gf rfl (by decide) g2 rfl ?_
    refine e_il rfl l1 ?_
    refine e_s rfl rfl ?_
    refine e_zas0 rfl (by decide) g6 (xin_nI (by omega) (by omega)) ?_
    refine e_inc rfl l1 (by decide) (fun L l1 kp => ?_)
    have l0 := kp 0 _ (by decide) rfl l0
    refine e_s rfl rfl ?_
    exact an_10 ha hc g2 g6 K n (k + 1) _ _ (by omega) l0 (by rw [nI_succ]; exact l1)
theorem m_analyse (ha : 1 ≤ a ∧ a ≤ 7) (hc : 1 ≤ c ∧ c ≤ 6) (g2 : f 2 = some (.inl (1, [.int (nI a), .int (nI c), .ref 3, .ref 4, .ref 5, .int 0, .ref 6, .ref 7]))) (g6 : f 6 = some (.inr (.inl (1, c, fun _ => 0)))) (g7 : f 7 = some (.inr (.inl (0, c, fun _ => 0)))) (K : ∀ w, Φ (.inl none) w (z, u, f)) : evp Ls xs (d + 2) 49 0 [(0, .ref 2)] [] false (z, u, f) Φ := by
  have l0 : xlk [(0, .ref 2)] 0 = some (.ref 2) := rfl
  refine e_al rfl l0 ?_
  refine e_gf rfl (by decide) g2 rfl ?_
  refine e_s rfl rfl ?_
  refine e_c rfl rfl ⟨Nat.le_of_ble_eq_true rfl, Nat.le_of_ble_eq_true rfl, Nat.le_of_ble_eq_true rfl, rfl⟩ ?_
  refine m_fill (by omega) g7 (fun w => ?_)
  refine e_s rfl rfl ?_
  refine e_ist rfl (by decide) (fun L l1 kp => ?_)
  have l0 := kp 0 _ (by decide) rfl l0
  exact an_10 ha hc g2 g6 K c 0 _ _ (by omega) l0 l1
theorem w_207 (ha : 1 ≤ a ∧ a ≤ 7) (hc : 1 ≤ c ∧ c ≤ 6) (g205 : f 205 = some (.inl (6, fs))) (F1 : fs[1]? = some (.int (nI a))) (F2 : fs[2]? = some (.int (nI c))) (F9 : fs[9]? = some (.ref 210)) (g210 : f 210 = some (.inr (.inl (1, 78, fun _ => 0)))) {x y : Nat} (hx : x < c) (hy : y < c) (K : ∀ w L, xlk L 0 = some (.ref 205) → xlk L 1 = some (.int (nI y)) → xlk L 2 = some (.int (nI x)) → evp Ls xs d 78 301 L [] w (z, u, f) Φ) : ∀ (n k : Nat) (w : Bool) (L : xL), k + n = a + c → xlk L 0 = some (.ref 205) → xlk L 1 = some (.int (nI y)) → xlk L 2 = some (.int (nI x)) → xlk L 3 = some (.int (nI k)) → evp Ls xs d 78 207 L [] w (z, u, f) Φ
  | 0, k, w, L, hk, l0, l1, l2, l3 => by
    refine e_il rfl l3 ?_
    refine e_al rfl l0 ?_
    refine e_gf rfl (by decide) g205 F1 ?_
    refine e_al rfl l0 ?_
    refine e_gf rfl (by decide) g205 F2 ?_
    refine e_s rfl rfl ?_
    refine e_bt rfl rfl (by rw [nI_add]; exact nI_le (by omega) (by omega)) ?_
    exact K _ _ l0 l1 l2
  | n + 1, k, w, L, hk, l0, l1, l2, l3 => by
    refine e_il rfl l3 ?_
    refine e_al rfl l0 ?_
    refine e_gf rfl (by decide) g205 F1 ?_
    refine e_al rfl l0 ?_
    refine e_gf rfl (by decide) g205 F2 ?_
    refine e_s rfl rfl ?_
    refine e_bf rfl rfl (by rw [nI_add]; exact nI_ge (by omega) (by omega)) ?_
    refine e_al rfl l0 ?_
    refine e_gf rfl (by decide) g205 F9 ?_
    refine e_s rfl rfl ?_
    refine e_il rfl l2 ?_
    refine e_s rfl rfl ?_
    refine e_al rfl l0 ?_
    refine e_gf rfl (by decide) g205 F1 ?_
    refine e_s rfl rfl ?_
    refine e_il rfl l1 ?_
    refine e_s rfl rfl ?_
    refine e_za0 rfl (by decide) g210 (by rw [ix3]; exact xin_nI (by omega) (by omega)) ?_
    refine e_bt rfl rfl (by decide) ?_
    refine e_s rfl rfl ?_
    refine e_ist rfl (by decide) (fun L l4 kp => ?_)
    have l0 := kp 0 _ (by decide) rfl l0
    have l1 := kp 1 _ (by decide) rfl l1
    have l2 := kp 2 _ (by decide) rfl l2
    have l3 := kp 3 _ (by decide) rfl l3
    refine e_al rfl l0 ?_
    refine e_gf rfl (by decide) g205 F9 ?_
    refine e_s rfl rfl ?_
    refine e_il rfl l2 ?_
    refine e_s rfl rfl ?_
    refine e_il rfl l3 ?_
    refine e_s rfl rfl ?_
    refine e_al rfl l0 ?_
    refine e_gf rfl (by decide) g205 F9 ?_
    refine e_s rfl rfl ?_
    refine e_il rfl l2 ?_
    refine e_s rfl rfl ?_
    refine e_il rfl l3 ?_
    refine e_s rfl rfl ?_
    refine e_za0 rfl (by decide) g210 (by rw [ix2]; exact xin_nI (by omega) (by omega)) ?_
    refine e_bf rfl rfl (by decide) ?_
    refine e_il rfl l4 ?_
    refine e_bt rfl rfl (by decide) ?_
    refine e_s rfl rfl ?_
    refine e_zas0 rfl (by decide) g210 (by rw [ix2]; exact xin_nI (by omega) (by omega)) ?_
    refine e_inc rfl l3 (by decide) (fun L l3 kp => ?_)
    have l0 := kp 0 _ (by decide) rfl l0
    have l1 := kp 1 _ (by decide) rfl l1
    have l2 := kp 2 _ (by decide) rfl l2
    have l4 := kp 4 _ (by decide) rfl l4
    refine e_s rfl rfl ?_
    exact w_207 ha hc g205 F1 F2 F9 g210 hx hy K n (k + 1) _ _ (by omega) l0 l1 l2 (by rw [nI_succ]; exact l3)
theorem w_197 (ha : 1 ≤ a ∧ a ≤ 7) (hc : 1 ≤ c ∧ c ≤ 6) (g205 : f 205 = some (.inl (6, fs))) (F1 : fs[1]? = some (.int (nI a))) (F2 : fs[2]? = some (.int (nI c))) (F9 : fs[9]? = some (.ref 210)) (g210 : f 210 = some (.inr (.inl (1, 78, fun _ => 0)))) {y : Nat} (hy : y < c) (K : ∀ w L, xlk L 0 = some (.ref 205) → xlk L 1 = some (.int (nI y)) → evp Ls xs d 78 307 L [] w (z, u, f) Φ) : ∀ (n k : Nat) (w : Bool) (L : xL), k + n = c → xlk L 0 = some (.ref 205) → xlk L 1 = some (.int (nI y)) → xlk L 2 = some (.int (nI k)) → evp Ls xs d 78 197 L [] w (z, u, f) Φ
  | 0, k, w, L, hk, l0, l1, l2 => by
    refine e_il rfl l2 ?_
    refine e_al rfl l0 ?_
    refine e_gf rfl (by decide) g205 F2 ?_
    refine e_bt rfl rfl (nI_le (by omega) (by omega)) ?_
    exact K _ _ l0 l1
  | n + 1, k, w, L, hk, l0, l1, l2 => by
    refine e_il rfl l2 ?_
    refine e_al rfl l0 ?_
    refine e_gf rfl (by decide) g205 F2 ?_
    refine e_bf rfl rfl (nI_ge (by omega) (by omega)) ?_
    refine e_s rfl rfl ?_
    refine e_ist rfl (by decide) (fun L l3 kp => ?_)
    have l0 := kp 0 _ (by decide) rfl l0
    have l1 := kp 1 _ (by decide) rfl l1
    have l2 := kp 2 _ (by decide) rfl l2
    refine w_207 ha hc g205 F1 F2 F9 g210 (x := k) (by omega) hy (fun w L l0 l1 l2 => ?_) (a + c) 0 _ _ (by omega) l0 l1 l2 l3
    refine e_inc rfl l2 (by decide) (fun L l2 kp => ?_)
    have l0 := kp 0 _ (by decide) rfl l0
    have l1 := kp 1 _ (by decide) rfl l1
    refine e_s rfl rfl ?_
    exact w_197 ha hc g205 F1 F2 F9 g210 hy K n (k + 1) _ _ (by omega) l0 l1 (by rw [nI_succ]; exact l2)
theorem w_187 (ha : 1 ≤ a ∧ a ≤ 7) (hc : 1 ≤ c ∧ c ≤ 6) (g205 : f 205 = some (.inl (6, fs))) (F1 : fs[1]? = some (.int (nI a))) (F2 : fs[2]? = some (.int (nI c))) (F9 : fs[9]? = some (.ref 210)) (g210 : f 210 = some (.inr (.inl (1, 78, fun _ => 0)))) (K : ∀ w, Φ (.inl none) w (z, u, f)) : ∀ (n k : Nat) (w : Bool) (L : xL), k + n = c → xlk L 0 = some (.ref 205) → xlk L 1 = some (.int (nI k)) → evp Ls xs d 78 187 L [] w (z, u, f) Φ
  | 0, k, w, L, hk, l0, l1 => by
    refine e_il rfl l1 ?_
    refine e_al rfl l0 ?_
    refine e_gf rfl (by decide) g205 F2 ?_
    refine e_bt rfl rfl (nI_le (by omega) (by omega)) ?_
    refine e_r0 rfl ?_
    exact K _
  | n + 1, k, w, L, hk, l0, l1 => by
    refine e_il rfl l1 ?_
    refine e_al rfl l0 ?_
    refine e_gf rfl (by decide) g205 F2 ?_
    refine e_bf rfl rfl (nI_ge (by omega) (by omega)) ?_
    refine e_s rfl rfl ?_
    refine e_ist rfl (by decide) (fun L l2 kp => ?_)
    have l0 := kp 0 _ (by decide) rfl l0
    have l1 := kp 1 _ (by decide) rfl l1
    refine w_197 ha hc g205 F1 F2 F9 g210 (y := k) (by omega) (fun w L l0 l1 => ?_) c 0 _ _ (by omega) l0 l1 l2
    refine e_inc rfl l1 (by decide) (fun L l1 kp => ?_)
    have l0 := kp 0 _ (by decide) rfl l0
    refine e_s rfl rfl ?_
    exact w_187 ha hc g205 F1 F2 F9 g210 K n (k + 1) _ _ (by omega) l0 (by rw [nI_succ]; exact l1)
theorem fo_4 (ha : 1 ≤ a ∧ a ≤ 7) (hc : 1 ≤ c ∧ c ≤ 6) (g205 : f 205 = some (.inl (6, fs))) (F1 : fs[1]? = some (.int (nI a))) (F2 : fs[2]? = some (.int (nI c))) (F9 : fs[9]? = some (.ref 210)) (g210 : f 210 = some (.inr (.inl (1, 78, fun _ => 0)))) {x : Nat} {X : Int32} (hX : X = nI x) (hx : x < c) (K : ∀ w, Φ (.inl (some (.int 0))) w (z, u, f)) : ∀ (n k : Nat) (w : Bool) (L : xL), k + n = a → xlk L 0 = some (.ref 205) → xlk L 1 = some (.int X) → xlk L 2 = some (.int 0) → xlk L 3 = some (.int (nI k)) → evp Ls xs d 79 4 L [] w (z, u, f) Φ
  | 0, k, w, L, hk, l0, l1, l2, l3 => by
    refine e_il rfl l3 ?_
    refine e_al rfl l0 ?_
    refine e_gf rfl (by decide) g205 F1 ?_
    refine e_bt rfl rfl (nI_le (by omega) (by omega)) ?_
    refine e_il rfl l2 ?_
    refine e_r1 rfl ?_
    exact K _
  | n + 1, k, w, L, hk, l0, l1, l2, l3 => by
    refine e_il rfl l3 ?_
    refine e_al rfl l0 ?_
    refine e_gf rfl (by decide) g205 F1 ?_
    refine e_bf rfl rfl (nI_ge (by omega) (by omega)) ?_
    refine e_al rfl l0 ?_
    refine e_gf rfl (by decide) g205 F9 ?_
    refine e_s rfl rfl ?_
    refine e_il rfl l1 ?_
    refine e_s rfl rfl ?_
    refine e_il rfl l3 ?_
    refine e_s rfl rfl ?_
    refine e_za0 rfl (by decide) g210 (by rw [hX, ix2]; exact xin_nI (by omega) (by omega)) ?_
    refine e_bt rfl rfl (by decide) ?_
    refine e_il rfl l2 ?_
    refine e_ist rfl (by decide) (fun L l2 kp => ?_)
    have l0 := kp 0 _ (by decide) rfl l0
    have l1 := kp 1 _ (by decide) rfl l1
    have l3 := kp 3 _ (by decide) rfl l3
    refine e_inc rfl l3 (by decide) (fun L l3 kp => ?_)
    have l0 := kp 0 _ (by decide) rfl l0
    have l1 := kp 1 _ (by decide) rfl l1
    have l2 := kp 2 _ (by decide) rfl l2
    refine e_s rfl rfl ?_
    exact fo_4 ha hc g205 F1 F2 F9 g210 hX hx K n (k + 1) _ _ (by omega) l0 l1 l2 (by rw [nI_succ]; exact l3)
theorem m_firstOf (ha : 1 ≤ a ∧ a ≤ 7) (hc : 1 ≤ c ∧ c ≤ 6) (g205 : f 205 = some (.inl (6, fs))) (F1 : fs[1]? = some (.int (nI a))) (F2 : fs[2]? = some (.int (nI c))) (F9 : fs[9]? = some (.ref 210)) (g210 : f 210 = some (.inr (.inl (1, 78, fun _ => 0)))) {x : Nat} {X : Int32} (hX : X = nI x) (hx : x < c) (K : ∀ w, Φ (.inl (some (.int 0))) w (z, u, f)) : evp Ls xs d 79 0 [(0, .ref 205), (1, .int X)] [] false (z, u, f) Φ := by
  have l0 : xlk [(0, .ref 205), (1, .int X)] 0 = some (.ref 205) := rfl
  have l1 : xlk [(0, .ref 205), (1, .int X)] 1 = some (.int X) := rfl
  refine e_s rfl rfl ?_
  refine e_ist rfl (by decide) (fun L l2 kp => ?_)
  have l0 := kp 0 _ (by decide) rfl l0
  have l1 := kp 1 _ (by decide) rfl l1
  refine e_s rfl rfl ?_
  refine e_ist rfl (by decide) (fun L l3 kp => ?_)
  have l0 := kp 0 _ (by decide) rfl l0
  have l1 := kp 1 _ (by decide) rfl l1
  have l2 := kp 2 _ (by decide) rfl l2
  exact fo_4 ha hc g205 F1 F2 F9 g210 hX hx K a 0 _ _ (by omega) l0 l1 l2 l3
end LPS
