/-! new TableMaker(t, n), new TableMakerModel(t, n), run. -/
/-- what TableMaker(t, n) leaves, for a terminals and c nonterminals -/
def xFr (a c : Nat) (f : Nat → Option xB) : Prop := f 1 = some (.inl (0, [.ref 2, .ref 8, .ref 139, .ref 201, .int 0])) ∧ f 2 = some (.inl (1, [.int (nI a), .int (nI c), .ref 3, .ref 4, .ref 5, .int 0, .ref 6, .ref 7])) ∧ f 3 = some (.inr (.inl (0, 14, fun _ => 0))) ∧ f 4 = some (.inr (.inl (0, 15, fun _ => 0))) ∧ f 6 = some (.inr (.inl (1, c, fun _ => 0))) ∧ f 7 = some (.inr (.inl (0, c, fun _ => 0))) ∧ f 139 = some (.inl (4, [.ref 2, .ref 8, .ref 140, .int (-1), .int (-1)])) ∧ f 201 = some (.inl (5, [.ref 2, .ref 8, .ref 139, .ref 202, .ref 203, .ref 204, .int 0, .int 0, .int 0]))
/-- the model's object -/
def xMO (a c : Nat) : List Value := [.int 0, .int (nI a), .int (nI c), .int 0, .int 0, .ref 206, .ref 207, .ref 208, .ref 209, .ref 210, .int 0, .ref 211, .ref 212, .ref 213, .ref 214, .int 0, .int 0, .ref 215, .ref 216, .int (-1), .int (-1), .int 0, .ref 217, .int 0, .int 0, .ref 218, .int 0, .ref 219, .int 0]
/-- what TableMakerModel(t, n) leaves -/
def xFm (a c : Nat) (f : Nat → Option xB) : Prop := f 205 = some (.inl (6, xMO a c)) ∧ f 206 = some (.inr (.inl (0, 14, fun _ => 0))) ∧ f 207 = some (.inr (.inl (0, 14, fun _ => 0))) ∧ f 209 = some (.inr (.inl (1, 6, fun _ => 0))) ∧ f 210 = some (.inr (.inl (1, 78, fun _ => 0)))
/-- the number that stands for x, if 1 .. b are allowed and e is the other one -/
def xnb (b e : Nat) (x : Int32) (a : Nat) : Prop := (x < 1 ∧ a = e) ∨ (¬ x < 1 ∧ nI b < x ∧ a = e) ∨ (¬ x < 1 ∧ ¬ nI b < x ∧ x = nI a ∧ 1 ≤ a ∧ a ≤ b)
theorem xnb_ex (b e : Nat) (hb : b < 100) (x : Int32) : ∃ a, xnb b e x a := by
  by_cases h1 : x < 1
  · exact ⟨e, Or.inl ⟨h1, rfl⟩⟩
  · by_cases h2 : nI b < x
    · exact ⟨e, Or.inr (Or.inl ⟨h1, h2, rfl⟩)⟩
    · have h0 : ¬ x < 0 := fun h => h1 (Int32.lt_trans h (by decide))
      obtain ⟨a, ha, rfl⟩ := nI_of h0
      refine ⟨a, Or.inr (Or.inr ⟨h1, h2, rfl, ?_, ?_⟩)⟩
      · rcases Nat.lt_or_ge a 1 with h | h
        · exfalso
          apply h1
          rw [show a = 0 by omega]
          decide
        · exact h
      · rcases Nat.lt_or_ge b a with h | h
        · exact absurd (nI_lt h (by omega)) h2
        · exact h
theorem xnb_in {b e a : Nat} {x : Int32} (he : 1 ≤ e ∧ e ≤ b) (h : xnb b e x a) : 1 ≤ a ∧ a ≤ b := by
  rcases h with ⟨-, rfl⟩ | ⟨-, -, rfl⟩ | ⟨-, -, -, h1, h2⟩
  · exact he
  · exact he
  · exact ⟨h1, h2⟩
section MK2
variable {Ls : Nat} {xs : Nat → Int32} {t n : Int32} {a c z u d m : Nat} {f : Nat → Option xB} {Φ : xR → Bool → xH → Prop} {fs : List Value} {w : Bool} {v : Value} {h : xH}
theorem xlo1 {g : Nat → Option xB} {q : Nat} {x : Option xB} (h : 1 < q) : xup g 1 x q = g q := by
  show (if q = 1 then x else g q) = _
  rw [if_neg (by omega)]
theorem c_T39 (ha : 1 ≤ a ∧ a ≤ 7) (hc : 1 ≤ c ∧ c ≤ 6) (hu : u ≤ 100) (k : ∀ u' f', u' ≤ 9000 → xFr a c f' → Φ (.inl none) true (205, u', f')) :
    evp Ls xs (d + 4) 15 39 (xst (xst [(0, .ref 1), (1, .int t), (2, .int n)] 3 (.int (nI a))) 4 (.int (nI c))) [] w (2, u, xup f 1 (some (.inl (0, [.null, .null, .null, .null, .int 0])))) Φ := by
  refine e_s rfl rfl ?_
  refine e_nw rfl (by omega) (by omega) (fun u1 hu1 => ?_)
  refine e_s rfl rfl ?_
  refine e_s rfl rfl ?_
  refine e_s rfl rfl ?_
  refine e_c rfl rfl ⟨Nat.le_of_ble_eq_true rfl, Nat.le_of_ble_eq_true rfl, Nat.le_of_ble_eq_true rfl, rfl⟩ ?_
  refine c_Grammar (N := c) (nI_pos (by omega)) (nI_clamp (by omega)) (by omega) (by omega) (fun u2 f2 hu2 hl2 g2 g3 g4 g6 g7 => ?_)
  refine e_pf rfl (by decide) ((hl2 1 (by decide)).trans rfl) (by simp) rfl rfl ?_
  refine e_s rfl rfl ?_
  refine e_nw rfl (by omega) (by omega) (fun u3 hu3 => ?_)
  refine e_s rfl rfl ?_
  refine e_s rfl rfl ?_
  refine e_gf rfl (by decide) rfl rfl ?_
  refine e_c rfl rfl ⟨Nat.le_of_ble_eq_true rfl, Nat.le_of_ble_eq_true rfl, Nat.le_of_ble_eq_true rfl, rfl⟩ ?_
  refine c_States (t := nI a) (n := nI c) (K := a + c) g2 rfl rfl (by rw [nI_add]; exact nI_pos (by omega)) (by rw [nI_add]; exact nI_clamp (by omega)) (by omega) (by omega) (fun u4 f4 hu4 hl4 => ?_)
  refine e_pf rfl (by decide) ((hl4 1 (by decide)).trans rfl) (by simp) rfl rfl ?_
  refine e_s rfl rfl ?_
  refine e_nw rfl (by omega) (by omega) (fun u5 hu5 => ?_)
  refine e_s rfl rfl ?_
  refine e_s rfl rfl ?_
  refine e_gf rfl (by decide) rfl rfl ?_
  refine e_s rfl rfl ?_
  refine e_gf rfl (by decide) rfl rfl ?_
  refine e_c rfl rfl ⟨Nat.le_of_ble_eq_true rfl, Nat.le_of_ble_eq_true rfl, Nat.le_of_ble_eq_true rfl, rfl⟩ ?_
  refine c_Actions (t := nI a) (K := a + 1) ((hl4 2 (by decide)).trans g2) rfl (by rw [nI_1]; exact nI_pos (by omega)) (by rw [nI_1]; exact nI_clamp (by omega)) (by omega) (by omega) (fun u6 f6 hu6 hl6 g139 => ?_)
  refine e_pf rfl (by decide) ((hl6 1 (by decide)).trans rfl) (by simp) rfl rfl ?_
  refine e_s rfl rfl ?_
  refine e_nw rfl (by omega) (by omega) (fun u7 hu7 => ?_)
  refine e_s rfl rfl ?_
  refine e_s rfl rfl ?_
  refine e_gf rfl (by decide) rfl rfl ?_
  refine e_s rfl rfl ?_
  refine e_gf rfl (by decide) rfl rfl ?_
  refine e_s rfl rfl ?_
  refine e_gf rfl (by decide) rfl rfl ?_
  refine e_c rfl rfl ⟨Nat.le_of_ble_eq_true rfl, Nat.le_of_ble_eq_true rfl, Nat.le_of_ble_eq_true rfl, rfl⟩ ?_
  refine c_Driver (by omega) (fun u8 f8 hu8 hl8 g201 => ?_)
  refine e_pf rfl (by decide) ((hl8 1 (by decide)).trans rfl) (by simp) rfl rfl ?_
  refine e_s rfl rfl ?_
  refine e_s rfl rfl ?_
  refine e_pf rfl (by decide) rfl (by simp) rfl rfl ?_
  have low : ∀ q, 1 < q → q < 8 → f8 q = f2 q := fun q h1 h2 => (hl8 q (by omega)).trans ((xlo1 h1).trans ((hl6 q (by omega)).trans ((xlo1 h1).trans ((hl4 q h2).trans (xlo1 h1)))))
  exact e_r0 rfl (k u8 _ (by omega) ⟨rfl, (low 2 (by decide) (by decide)).trans g2, (low 3 (by decide) (by decide)).trans g3, (low 4 (by decide) (by decide)).trans g4, (low 6 (by decide) (by decide)).trans g6, (low 7 (by decide) (by decide)).trans g7, (hl8 139 (by decide)).trans g139, g201⟩)
theorem c_T20 (ha : 1 ≤ a ∧ a ≤ 7) (hc : xnb 6 2 n c) (hu : u ≤ 100) (k : ∀ u' f', u' ≤ 9000 → xFr a c f' → Φ (.inl none) true (205, u', f')) :
    evp Ls xs (d + 4) 15 20 [(0, .ref 1), (1, .int t), (2, .int n)] [.int (nI a)] w (2, u, xup f 1 (some (.inl (0, [.null, .null, .null, .null, .int 0])))) Φ := by
  have hci := xnb_in (by decide) hc
  refine e_s rfl rfl ?_
  refine e_s rfl rfl ?_
  refine e_s rfl rfl ?_
  refine e_s rfl rfl ?_
  rcases hc with ⟨h1, rfl⟩ | ⟨h1, h2, rfl⟩ | ⟨h1, h2, rfl, -, -⟩
  · rw [if_pos h1]
    refine e_s rfl rfl ?_
    refine e_s rfl rfl ?_
    exact c_T39 ha hci hu k
  · rw [if_neg h1]
    refine e_s rfl rfl ?_
    refine e_s rfl rfl ?_
    refine e_s rfl rfl ?_
    rw [if_pos (show (6 : Int32) < n from h2)]
    refine e_s rfl rfl ?_
    refine e_s rfl rfl ?_
    exact c_T39 ha hci hu k
  · rw [if_neg h1]
    refine e_s rfl rfl ?_
    refine e_s rfl rfl ?_
    refine e_s rfl rfl ?_
    rw [if_neg (show ¬ (6 : Int32) < nI c from h2)]
    refine e_s rfl rfl ?_
    refine e_s rfl rfl ?_
    refine e_s rfl rfl ?_
    exact c_T39 ha hci hu k
theorem c_T (ha : xnb 7 3 t a) (hc : xnb 6 2 n c) (hu : u ≤ 100) (k : ∀ u' f', u' ≤ 9000 → xFr a c f' → Φ (.inl none) true (205, u', f')) :
    evp Ls xs (d + 4) 15 0 [(0, .ref 1), (1, .int t), (2, .int n)] [] w (2, u, xup f 1 (some (.inl (0, [.null, .null, .null, .null, .int 0])))) Φ := by
  have hai := xnb_in (by decide) ha
  refine e_s rfl rfl ?_
  refine e_s rfl rfl ?_
  refine e_s rfl rfl ?_
  refine e_s rfl rfl ?_
  refine e_s rfl rfl ?_
  rcases ha with ⟨h1, rfl⟩ | ⟨h1, h2, rfl⟩ | ⟨h1, h2, rfl, -, -⟩
  · rw [if_pos h1]
    refine e_s rfl rfl ?_
    exact c_T20 hai hc hu k
  · rw [if_neg h1]
    refine e_s rfl rfl ?_
    refine e_s rfl rfl ?_
    refine e_s rfl rfl ?_
    rw [if_pos (show (7 : Int32) < t from h2)]
    refine e_s rfl rfl ?_
    exact c_T20 hai hc hu k
  · rw [if_neg h1]
    refine e_s rfl rfl ?_
    refine e_s rfl rfl ?_
    refine e_s rfl rfl ?_
    rw [if_neg (show ¬ (7 : Int32) < nI a from h2)]
    refine e_s rfl rfl ?_
    refine e_s rfl rfl ?_
    exact c_T20 hai hc hu k
theorem c_M168 {m9 : Int32} (hM : f 205 = some (.inl (6, fs))) (hl : 2 < fs.length) (k : Φ (.inl none) true (z, u, xup f 205 (some (.inl (6, fs.set 2 (.int n)))))) :
    evp Ls xs d 66 168 [(0, .ref 205), (1, .int t), (2, .int m9)] [.int n, .ref 205] w (z, u, f) Φ := by
  refine e_pf rfl (by decide) hM hl rfl rfl ?_
  exact e_r0 rfl k
theorem c_M151 (hM : f 205 = some (.inl (6, fs))) (hl : 2 < fs.length) (hc : xnb 6 2 n c) (k : Φ (.inl none) true (z, u, xup f 205 (some (.inl (6, fs.set 2 (.int (nI c))))))) :
    evp Ls xs d 66 151 [(0, .ref 205), (1, .int t), (2, .int n)] [] w (z, u, f) Φ := by
  refine e_s rfl rfl ?_
  refine e_s rfl rfl ?_
  refine e_s rfl rfl ?_
  refine e_s rfl rfl ?_
  rcases hc with ⟨h1, rfl⟩ | ⟨h1, h2, rfl⟩ | ⟨h1, h2, rfl, -, -⟩
  · rw [if_pos h1]
    refine e_s rfl rfl ?_
    refine e_s rfl rfl ?_
    exact c_M168 hM hl k
  · rw [if_neg h1]
    refine e_s rfl rfl ?_
    refine e_s rfl rfl ?_
    refine e_s rfl rfl ?_
    rw [if_neg (show ¬ n ≤ (6 : Int32) from fun h => absurd h2 (Int32.not_lt.mpr h))]
    refine e_s rfl rfl ?_
    refine e_s rfl rfl ?_
    exact c_M168 hM hl k
  · rw [if_neg h1]
    refine e_s rfl rfl ?_
    refine e_s rfl rfl ?_
    refine e_s rfl rfl ?_
    rw [if_pos (show nI c ≤ (6 : Int32) from Int32.not_lt.mp h2)]
    refine e_s rfl rfl ?_
    exact c_M168 hM hl k
theorem c_M148 (hM : f 205 = some (.inl (6, fs))) (hl : 2 < fs.length) (hc : xnb 6 2 n c) (k : Φ (.inl none) true (z, u, xup (xup f 205 (some (.inl (6, fs.set 1 v)))) 205 (some (.inl (6, (fs.set 1 v).set 2 (.int (nI c))))))) (hv : xfit 0 v = true) :
    evp Ls xs d 66 148 [(0, .ref 205), (1, .int t), (2, .int n)] [v, .ref 205] w (z, u, f) Φ := by
  refine e_pf rfl (by decide) hM (by omega) hv rfl ?_
  exact c_M151 rfl (by simpa using hl) hc k
theorem c_M (ha : xnb 7 3 t a) (hc : xnb 6 2 n c) (hu : u ≤ 9100) (k : ∀ u' f', u' ≤ 12000 → xlo f' f 205 → xFm a c f' → Φ (.inl none) true (220, u', f')) :
    evp Ls xs d 66 0 [(0, .ref 205), (1, .int t), (2, .int n)] [] w (206, u, xup f 205 (some (.inl (6, [.int 0, .int 0, .int 0, .int 0, .int 0, .null, .null, .null, .null, .null, .int 0, .null, .null, .null, .null, .int 0, .int 0, .null, .null, .int 0, .int 0, .int 0, .null, .int 0, .int 0, .null, .int 0, .null, .int 0])))) Φ := by
  refine e_s rfl rfl ?_
  refine e_s rfl rfl ?_
  refine e_s rfl rfl ?_
  refine e_s rfl rfl ?_
  refine e_nai (N := 14) (B := 14) rfl (by decide) (by decide) (by omega) (by omega) (by omega) (by omega) (fun u1 hu1 => ?_)
  refine e_pf rfl (by decide) rfl (by simp) rfl rfl ?_
  refine e_s rfl rfl ?_
  refine e_s rfl rfl ?_
  refine e_nai (N := 14) (B := 14) rfl (by decide) (by decide) (by omega) (by omega) (by omega) (by omega) (fun u2 hu2 => ?_)
  refine e_pf rfl (by decide) rfl (by simp) rfl rfl ?_
  refine e_s rfl rfl ?_
  refine e_s rfl rfl ?_
  refine e_nai (N := 40) (B := 40) rfl (by decide) (by decide) (by omega) (by omega) (by omega) (by omega) (fun u3 hu3 => ?_)
  refine e_pf rfl (by decide) rfl (by simp) rfl rfl ?_
  refine e_s rfl rfl ?_
  refine e_s rfl rfl ?_
  refine e_naz (N := 6) (B := 6) rfl (by decide) (by decide) (by omega) (by omega) (by omega) (by omega) (fun u4 hu4 => ?_)
  refine e_pf rfl (by decide) rfl (by simp) rfl rfl ?_
  refine e_s rfl rfl ?_
  refine e_s rfl rfl ?_
  refine e_naz (N := 78) (B := 78) rfl (by decide) (by decide) (by omega) (by omega) (by omega) (by omega) (fun u5 hu5 => ?_)
  refine e_pf rfl (by decide) rfl (by simp) rfl rfl ?_
  refine e_s rfl rfl ?_
  refine e_s rfl rfl ?_
  refine e_nai (N := 56) (B := 56) rfl (by decide) (by decide) (by omega) (by omega) (by omega) (by omega) (fun u6 hu6 => ?_)
  refine e_pf rfl (by decide) rfl (by simp) rfl rfl ?_
  refine e_s rfl rfl ?_
  refine e_s rfl rfl ?_
  refine e_nai (N := 56) (B := 56) rfl (by decide) (by decide) (by omega) (by omega) (by omega) (by omega) (fun u7 hu7 => ?_)
  refine e_pf rfl (by decide) rfl (by simp) rfl rfl ?_
  refine e_s rfl rfl ?_
  refine e_s rfl rfl ?_
  refine e_nai (N := 56) (B := 56) rfl (by decide) (by decide) (by omega) (by omega) (by omega) (by omega) (fun u8 hu8 => ?_)
  refine e_pf rfl (by decide) rfl (by simp) rfl rfl ?_
  refine e_s rfl rfl ?_
  refine e_s rfl rfl ?_
  refine e_nai (N := 14) (B := 14) rfl (by decide) (by decide) (by omega) (by omega) (by omega) (by omega) (fun u9 hu9 => ?_)
  refine e_pf rfl (by decide) rfl (by simp) rfl rfl ?_
  refine e_s rfl rfl ?_
  refine e_s rfl rfl ?_
  refine e_naj (N := 427) (B := 427) rfl (by decide) (by decide) (by omega) (by omega) (by omega) (by omega) (fun u10 hu10 => ?_)
  refine e_pf rfl (by decide) rfl (by simp) rfl rfl ?_
  refine e_s rfl rfl ?_
  refine e_s rfl rfl ?_
  refine e_nai (N := 780) (B := 780) rfl (by decide) (by decide) (by omega) (by omega) (by omega) (by omega) (fun u11 hu11 => ?_)
  refine e_pf rfl (by decide) rfl (by simp) rfl rfl ?_
  refine e_s rfl rfl ?_
  refine e_s rfl rfl ?_
  refine e_pf rfl (by decide) rfl (by simp) rfl rfl ?_
  refine e_s rfl rfl ?_
  refine e_s rfl rfl ?_
  refine e_pf rfl (by decide) rfl (by simp) rfl rfl ?_
  refine e_s rfl rfl ?_
  refine e_s rfl rfl ?_
  refine e_nai (N := 448) (B := 448) rfl (by decide) (by decide) (by omega) (by omega) (by omega) (by omega) (fun u12 hu12 => ?_)
  refine e_pf rfl (by decide) rfl (by simp) rfl rfl ?_
  refine e_s rfl rfl ?_
  refine e_s rfl rfl ?_
  refine e_nai (N := 200) (B := 200) rfl (by decide) (by decide) (by omega) (by omega) (by omega) (by omega) (fun u13 hu13 => ?_)
  refine e_pf rfl (by decide) rfl (by simp) rfl rfl ?_
  refine e_s rfl rfl ?_
  refine e_s rfl rfl ?_
  refine e_nai (N := 200) (B := 200) rfl (by decide) (by decide) (by omega) (by omega) (by omega) (by omega) (fun u14 hu14 => ?_)
  refine e_pf rfl (by decide) rfl (by simp) rfl rfl ?_
  refine e_s rfl rfl ?_
  refine e_s rfl rfl ?_
  refine e_s rfl rfl ?_
  refine e_s rfl rfl ?_
  rcases ha with ⟨h1, rfl⟩ | ⟨h1, h2, rfl⟩ | ⟨h1, h2, rfl, -, -⟩
  · rw [if_pos h1]
    refine e_s rfl rfl ?_
    refine e_s rfl rfl ?_
    exact c_M148 rfl (by simp) hc (k u14 _ (by omega) (by repeat (first | exact xlo_rf | refine xlo_gr ?_ (by decide) | refine xlo_up ?_ (by decide))) ⟨rfl, rfl, rfl, rfl, rfl⟩) rfl
  · rw [if_neg h1]
    refine e_s rfl rfl ?_
    refine e_s rfl rfl ?_
    refine e_s rfl rfl ?_
    rw [if_neg (show ¬ t ≤ (7 : Int32) from fun h => absurd h2 (Int32.not_lt.mpr h))]
    refine e_s rfl rfl ?_
    refine e_s rfl rfl ?_
    exact c_M148 rfl (by simp) hc (k u14 _ (by omega) (by repeat (first | exact xlo_rf | refine xlo_gr ?_ (by decide) | refine xlo_up ?_ (by decide))) ⟨rfl, rfl, rfl, rfl, rfl⟩) rfl
  · rw [if_neg h1]
    refine e_s rfl rfl ?_
    refine e_s rfl rfl ?_
    refine e_s rfl rfl ?_
    rw [if_pos (show nI a ≤ (7 : Int32) from Int32.not_lt.mp h2)]
    refine e_s rfl rfl ?_
    exact c_M148 rfl (by simp) hc (k u14 _ (by omega) (by repeat (first | exact xlo_rf | refine xlo_gr ?_ (by decide) | refine xlo_up ?_ (by decide))) ⟨rfl, rfl, rfl, rfl, rfl⟩) rfl
theorem m_cell {kk : Nat} (hk : kk < 1000) (hL : Ls < 1000) (k : ∀ v, v = (if kk < Ls then xs kk else 0) → Φ (.inl (some (.int v))) w h) : evp Ls xs d 1 0 [(0, .ref 0), (1, .int (nI kk))] [] w h Φ := by
  refine e_s rfl rfl ?_
  refine e_s rfl rfl ?_
  refine e_s rfl rfl ?_
  refine e_s rfl rfl ?_
  by_cases hc : kk < Ls
  · rw [if_neg (nI_ge hc (by omega))]
    refine e_s rfl rfl ?_
    refine e_s rfl rfl ?_
    refine e_s rfl (if_pos ⟨nI_pos (by omega), by rw [nI_clamp (by omega)]; exact hc⟩) ?_
    refine e_s rfl rfl ?_
    exact e_r1 rfl (k _ (by rw [if_pos hc, nI_clamp (by omega)]))
  · rw [if_pos (nI_le (Nat.not_lt.mp hc) (by omega))]
    refine e_s rfl rfl ?_
    exact e_r1 rfl (k _ (by rw [if_neg hc]))
end MK2
