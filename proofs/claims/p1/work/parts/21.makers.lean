/-! The other constructors of the class, run. -/
/-- below lo nothing has changed -/
def xlo (g f : Nat → Option xB) (lo : Nat) : Prop := ∀ q, q < lo → g q = f q
theorem xlo_rf {f : Nat → Option xB} {lo : Nat} : xlo f f lo := fun _ _ => rfl
theorem xlo_up {g f : Nat → Option xB} {lo m : Nat} {x : Option xB} (h : xlo g f lo) (hm : lo ≤ m) : xlo (xup g m x) f lo := fun q hq => by
  show (if q = m then x else g q) = _
  rw [if_neg (by omega)]
  exact h q hq
theorem xlo_gr {g f : Nat → Option xB} {lo m N K : Nat} (h : xlo g f lo) (hm : lo ≤ m) : xlo (xgr g m N K) f lo := fun q hq => by
  show (if q = m then _ else if m < q ∧ q ≤ m + N then _ else g q) = _
  rw [if_neg (by omega), if_neg (by omega)]
  exact h q hq
theorem xlo_tr {g f e : Nat → Option xB} {lo lo2 : Nat} (h : xlo g f lo2) (h2 : xlo f e lo) (hl : lo ≤ lo2) : xlo g e lo := fun q hq => (h q (by omega)).trans (h2 q hq)
theorem xrcv_of {z u m ci : Nat} {f : Nat → Option xB} {fs : List Value} {r : List Value} (hm : 0 < m) (hc : f m = some (.inl (ci, fs))) : xrcv (z, u, f) (ci + 2) (.ref m :: r) = true := by
  obtain ⟨i, rfl⟩ : ∃ i, m = i + 1 := ⟨m - 1, by omega⟩
  unfold xrcv
  simp [hc]
section MK
variable {Ls : Nat} {xs : Nat → Int32} {t n : Int32} {z u d m : Nat} {f : Nat → Option xB} {Φ : xR → Bool → xH → Prop} {fs : List Value}
theorem m_countSymbols (hm : 0 < m) (hG : f m = some (.inl (1, fs))) (h0 : fs[0]? = some (.int t)) (h1 : fs[1]? = some (.int n)) (k : Φ (.inl (some (.int (t + n)))) false (z, u, f)) : evp Ls xs d 41 0 [(0, .ref m)] [] false (z, u, f) Φ := by
  refine e_s rfl rfl ?_
  refine e_gf rfl hm hG h0 ?_
  refine e_s rfl rfl ?_
  refine e_gf rfl hm hG h1 ?_
  refine e_s rfl rfl ?_
  exact e_r1 rfl k
theorem m_endSeat (hm : 0 < m) (hG : f m = some (.inl (1, fs))) (h0 : fs[0]? = some (.int t)) (k : Φ (.inl (some (.int t))) false (z, u, f)) : evp Ls xs d 42 0 [(0, .ref m)] [] false (z, u, f) Φ := by
  refine e_s rfl rfl ?_
  refine e_gf rfl hm hG h0 ?_
  exact e_r1 rfl k
theorem c_Grammar {N : Nat} (hn : ¬ n < 0) (hN : n.toNatClampNeg = N) (hN6 : N ≤ 6) (hu : u ≤ 1000) (k : ∀ u' f', u' ≤ u + 100 → xlo f' f 2 → f' 2 = some (.inl (1, [.int t, .int n, .ref 3, .ref 4, .ref 5, .int 0, .ref 6, .ref 7])) → f' 3 = some (.inr (.inl (0, 14, fun _ => 0))) → f' 4 = some (.inr (.inl (0, 15, fun _ => 0))) → f' 6 = some (.inr (.inl (1, N, fun _ => 0))) → f' 7 = some (.inr (.inl (0, N, fun _ => 0))) → Φ (.inl none) true (8, u', f')) :
    evp Ls xs d 37 0 [(0, .ref 2), (1, .int t), (2, .int n)] [] false (3, u, xup f 2 (some (.inl (1, [.int 0, .int 0, .null, .null, .null, .int 0, .null, .null])))) Φ := by
  refine e_s rfl rfl ?_
  refine e_s rfl rfl ?_
  refine e_s rfl rfl ?_
  refine e_s rfl rfl ?_
  refine e_pf rfl (by decide) rfl (by simp) rfl rfl ?_
  refine e_s rfl rfl ?_
  refine e_s rfl rfl ?_
  refine e_pf rfl (by decide) rfl (by simp) rfl rfl ?_
  refine e_s rfl rfl ?_
  refine e_s rfl rfl ?_
  refine e_nai (N := 14) (B := 14) rfl (by decide) (by decide) (by omega) (by omega) (by omega) (by omega) (fun u1 hu1 => ?_)
  refine e_pf rfl (by decide) rfl (by simp) rfl rfl ?_
  refine e_s rfl rfl ?_
  refine e_s rfl rfl ?_
  refine e_nai (N := 15) (B := 15) rfl (by decide) (by decide) (by omega) (by omega) (by omega) (by omega) (fun u2 hu2 => ?_)
  refine e_pf rfl (by decide) rfl (by simp) rfl rfl ?_
  refine e_s rfl rfl ?_
  refine e_s rfl rfl ?_
  refine e_nai (N := 40) (B := 40) rfl (by decide) (by decide) (by omega) (by omega) (by omega) (by omega) (fun u3 hu3 => ?_)
  refine e_pf rfl (by decide) rfl (by simp) rfl rfl ?_
  refine e_s rfl rfl ?_
  refine e_s rfl rfl ?_
  refine e_pf rfl (by decide) rfl (by simp) rfl rfl ?_
  refine e_s rfl rfl ?_
  refine e_s rfl rfl ?_
  refine e_naz (N := N) (B := 6) rfl hn hN (by omega) (by omega) (by omega) (by omega) (fun u4 hu4 => ?_)
  refine e_pf rfl (by decide) rfl (by simp) rfl rfl ?_
  refine e_s rfl rfl ?_
  refine e_s rfl rfl ?_
  refine e_nai (N := N) (B := 6) rfl hn hN (by omega) (by omega) (by omega) (by omega) (fun u5 hu5 => ?_)
  refine e_pf rfl (by decide) rfl (by simp) rfl rfl ?_
  refine e_r0 rfl (k u5 _ (by omega) ?_ rfl rfl rfl rfl rfl)
  repeat (first | exact xlo_rf | refine xlo_gr ?_ (by decide) | refine xlo_up ?_ (by decide))
theorem c_Places (hu : u ≤ 10000) (k : ∀ u' f', u' ≤ u + 300 → xlo f' f 9 → Φ (.inl none) true (16, u', f')) :
    evp Ls xs d 54 0 [(0, .ref 9)] [] false (10, u, xup f 9 (some (.inl (2, [.null, .null, .null, .null, .null, .null, .int 0])))) Φ := by
  refine e_s rfl rfl ?_
  refine e_s rfl rfl ?_
  refine e_s rfl rfl ?_
  refine e_s rfl rfl ?_
  refine e_nai (N := 56) (B := 56) rfl (by decide) (by decide) (by omega) (by omega) (by omega) (by omega) (fun u1 hu1 => ?_)
  refine e_pf rfl (by decide) rfl (by simp) rfl rfl ?_
  refine e_s rfl rfl ?_
  refine e_s rfl rfl ?_
  refine e_nai (N := 56) (B := 56) rfl (by decide) (by decide) (by omega) (by omega) (by omega) (by omega) (fun u2 hu2 => ?_)
  refine e_pf rfl (by decide) rfl (by simp) rfl rfl ?_
  refine e_s rfl rfl ?_
  refine e_s rfl rfl ?_
  refine e_nai (N := 56) (B := 56) rfl (by decide) (by decide) (by omega) (by omega) (by omega) (by omega) (fun u3 hu3 => ?_)
  refine e_pf rfl (by decide) rfl (by simp) rfl rfl ?_
  refine e_s rfl rfl ?_
  refine e_s rfl rfl ?_
  refine e_nai (N := 56) (B := 56) rfl (by decide) (by decide) (by omega) (by omega) (by omega) (by omega) (fun u4 hu4 => ?_)
  refine e_pf rfl (by decide) rfl (by simp) rfl rfl ?_
  refine e_s rfl rfl ?_
  refine e_s rfl rfl ?_
  refine e_naz (N := 56) (B := 56) rfl (by decide) (by decide) (by omega) (by omega) (by omega) (by omega) (fun u5 hu5 => ?_)
  refine e_pf rfl (by decide) rfl (by simp) rfl rfl ?_
  refine e_s rfl rfl ?_
  refine e_s rfl rfl ?_
  refine e_nai (N := 14) (B := 14) rfl (by decide) (by decide) (by omega) (by omega) (by omega) (by omega) (fun u6 hu6 => ?_)
  refine e_pf rfl (by decide) rfl (by simp) rfl rfl ?_
  refine e_s rfl rfl ?_
  refine e_s rfl rfl ?_
  refine e_pf rfl (by decide) rfl (by simp) rfl rfl ?_
  refine e_r0 rfl (k u6 _ (by omega) ?_)
  repeat (first | exact xlo_rf | refine xlo_gr ?_ (by decide) | refine xlo_up ?_ (by decide))
theorem c_States {K : Nat} (hG : f 2 = some (.inl (1, fs))) (h0 : fs[0]? = some (.int t)) (h1 : fs[1]? = some (.int n)) (hk : ¬ t + n < 0) (hK : (t + n).toNatClampNeg = K) (hK2 : K ≤ 13) (hu : u ≤ 2000) (k : ∀ u' f', u' ≤ u + 6000 → xlo f' f 8 → Φ (.inl none) true (139, u', f')) :
    evp Ls xs (d + 2) 55 0 [(0, .ref 8), (1, .ref 2)] [] false (9, u, xup f 8 (some (.inl (3, [.null, .null, .null, .null, .int 0])))) Φ := by
  refine e_s rfl rfl ?_
  refine e_s rfl rfl ?_
  refine e_s rfl rfl ?_
  refine e_s rfl rfl ?_
  refine e_pf rfl (by decide) rfl (by simp) rfl rfl ?_
  refine e_s rfl rfl ?_
  refine e_nw rfl (by omega) (by omega) (fun u1 hu1 => ?_)
  refine e_s rfl rfl ?_
  refine e_c rfl rfl ⟨Nat.le_of_ble_eq_true rfl, Nat.le_of_ble_eq_true rfl, Nat.le_of_ble_eq_true rfl, rfl⟩ ?_
  refine c_Places (by omega) (fun u2 f2 hu2 hl2 => ?_)
  refine e_pf rfl (by decide) ((hl2 8 (by decide)).trans rfl) (by simp) rfl rfl ?_
  refine e_s rfl rfl ?_
  refine e_s rfl rfl ?_
  refine e_s rfl rfl ?_
  refine e_mn (N := 61) (K := 56) (B := 3500) rfl (by decide) (by decide) (by decide) (by decide) (by omega) (by omega) (by omega) (by omega) (by omega) (fun u3 hu3 => ?_)
  refine e_pf rfl (by decide) rfl (by simp) rfl rfl ?_
  refine e_s rfl rfl ?_
  refine e_s rfl rfl ?_
  refine e_s rfl rfl ?_
  have hG2 : f2 2 = some (.inl (1, fs)) := (hl2 2 (by decide)).trans hG
  refine e_c rfl rfl ⟨Nat.le_of_ble_eq_true rfl, Nat.le_of_ble_eq_true rfl, Nat.le_of_ble_eq_true rfl, xrcv_of (by decide) hG2⟩ ?_
  refine m_countSymbols (by decide) hG2 h0 h1 ?_
  refine e_mn (N := 60) (K := K) (B := 900) rfl (by decide) hk (by decide) hK (by omega) (by omega) (by omega) (by omega) (by omega) (fun u4 hu4 => ?_)
  refine e_pf rfl (by decide) rfl (by simp) rfl rfl ?_
  refine e_s rfl rfl ?_
  refine e_s rfl rfl ?_
  refine e_pf rfl (by decide) rfl (by simp) rfl rfl ?_
  refine e_r0 rfl (k u4 _ (by omega) (xlo_tr (f := f2) (lo2 := 8) ?_ (xlo_tr hl2 ?_ (by decide)) (by decide)))
  repeat (first | exact xlo_rf | refine xlo_gr ?_ (by decide) | refine xlo_up ?_ (by decide))
  repeat (first | exact xlo_rf | refine xlo_gr ?_ (by decide) | refine xlo_up ?_ (by decide))
theorem c_Actions {K : Nat} (hG : f 2 = some (.inl (1, fs))) (h0 : fs[0]? = some (.int t)) (hk : ¬ t + 1 < 0) (hK : (t + 1).toNatClampNeg = K) (hK2 : K ≤ 8) (hu : u ≤ 10000) (k : ∀ u' f', u' ≤ u + 600 → xlo f' f 139 → f' 139 = some (.inl (4, [.ref 2, .ref 8, .ref 140, .int (-1), .int (-1)])) → Φ (.inl none) true (201, u', f')) :
    evp Ls xs (d + 2) 56 0 [(0, .ref 139), (1, .ref 2), (2, .ref 8)] [] false (140, u, xup f 139 (some (.inl (4, [.null, .null, .null, .int 0, .int 0])))) Φ := by
  refine e_s rfl rfl ?_
  refine e_s rfl rfl ?_
  refine e_s rfl rfl ?_
  refine e_s rfl rfl ?_
  refine e_pf rfl (by decide) rfl (by simp) rfl rfl ?_
  refine e_s rfl rfl ?_
  refine e_s rfl rfl ?_
  refine e_pf rfl (by decide) rfl (by simp) rfl rfl ?_
  refine e_s rfl rfl ?_
  refine e_s rfl rfl ?_
  refine e_s rfl rfl ?_
  refine e_c rfl rfl ⟨Nat.le_of_ble_eq_true rfl, Nat.le_of_ble_eq_true rfl, Nat.le_of_ble_eq_true rfl, xrcv_of (by decide) hG⟩ ?_
  refine m_endSeat (by decide) hG h0 ?_
  refine e_s rfl rfl ?_
  refine e_s rfl rfl ?_
  refine e_mn (N := 60) (K := K) (B := 600) rfl (by decide) hk (by decide) hK (by omega) (by omega) (by omega) (by omega) (by omega) (fun u1 hu1 => ?_)
  refine e_pf rfl (by decide) rfl (by simp) rfl rfl ?_
  refine e_s rfl rfl ?_
  refine e_s rfl rfl ?_
  refine e_pf rfl (by decide) rfl (by simp) rfl rfl ?_
  refine e_s rfl rfl ?_
  refine e_s rfl rfl ?_
  refine e_pf rfl (by decide) rfl (by simp) rfl rfl ?_
  refine e_r0 rfl (k u1 _ (by omega) ?_ rfl)
  repeat (first | exact xlo_rf | refine xlo_gr ?_ (by decide) | refine xlo_up ?_ (by decide))
theorem c_Driver (hu : u ≤ 20000) (k : ∀ u' f', u' ≤ u + 600 → xlo f' f 201 → f' 201 = some (.inl (5, [.ref 2, .ref 8, .ref 139, .ref 202, .ref 203, .ref 204, .int 0, .int 0, .int 0])) → Φ (.inl none) true (205, u', f')) :
    evp Ls xs d 60 0 [(0, .ref 201), (1, .ref 2), (2, .ref 8), (3, .ref 139)] [] false (202, u, xup f 201 (some (.inl (5, [.null, .null, .null, .null, .null, .null, .int 0, .int 0, .int 0])))) Φ := by
  refine e_s rfl rfl ?_
  refine e_s rfl rfl ?_
  refine e_s rfl rfl ?_
  refine e_s rfl rfl ?_
  refine e_pf rfl (by decide) rfl (by simp) rfl rfl ?_
  refine e_s rfl rfl ?_
  refine e_s rfl rfl ?_
  refine e_pf rfl (by decide) rfl (by simp) rfl rfl ?_
  refine e_s rfl rfl ?_
  refine e_s rfl rfl ?_
  refine e_pf rfl (by decide) rfl (by simp) rfl rfl ?_
  refine e_s rfl rfl ?_
  refine e_s rfl rfl ?_
  refine e_nai (N := 200) (B := 200) rfl (by decide) (by decide) (by omega) (by omega) (by omega) (by omega) (fun u1 hu1 => ?_)
  refine e_pf rfl (by decide) rfl (by simp) rfl rfl ?_
  refine e_s rfl rfl ?_
  refine e_s rfl rfl ?_
  refine e_nai (N := 200) (B := 200) rfl (by decide) (by decide) (by omega) (by omega) (by omega) (by omega) (fun u2 hu2 => ?_)
  refine e_pf rfl (by decide) rfl (by simp) rfl rfl ?_
  refine e_s rfl rfl ?_
  refine e_s rfl rfl ?_
  refine e_nai (N := 200) (B := 200) rfl (by decide) (by decide) (by omega) (by omega) (by omega) (by omega) (fun u3 hu3 => ?_)
  refine e_pf rfl (by decide) rfl (by simp) rfl rfl ?_
  refine e_s rfl rfl ?_
  refine e_s rfl rfl ?_
  refine e_pf rfl (by decide) rfl (by simp) rfl rfl ?_
  refine e_s rfl rfl ?_
  refine e_s rfl rfl ?_
  refine e_pf rfl (by decide) rfl (by simp) rfl rfl ?_
  refine e_s rfl rfl ?_
  refine e_s rfl rfl ?_
  refine e_pf rfl (by decide) rfl (by simp) rfl rfl ?_
  refine e_r0 rfl (k u3 _ (by omega) ?_ rfl)
  repeat (first | exact xlo_rf | refine xlo_gr ?_ (by decide) | refine xlo_up ?_ (by decide))
end MK
