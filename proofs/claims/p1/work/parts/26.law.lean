/-! The law, run. -/
theorem and31 (x : Int32) : ¬ (x &&& 31) < 0 := by
  rw [Int32.lt_iff_toInt_lt]
  have h : (x &&& 31).toBitVec.msb = false := by
    rw [Int32.toBitVec_and, BitVec.msb_and]
    rw [show ((31 : Int32).toBitVec).msb = false from by decide, Bool.and_false]
  have h2 : 0 ≤ (x &&& 31).toBitVec.toInt := by
    rw [BitVec.toInt_eq_msb_cond, h]
    simp
  have t0 : (0 : Int32).toInt = 0 := rfl
  have h3 : 0 ≤ (x &&& 31).toInt := h2
  omega
theorem e_ts {Ls : Nat} {xs : Nat → Int32} {d j pc : Nat} {L : xL} {st : List Value} {w : Bool} {h : xH} {Φ : xR → Bool → xH → Prop} {ts : List Nat} {df : Nat} {x : Int32} (hP : xP Ls xs j pc = some (.inl (xs_ts ts df))) (hx : ¬ x < 0) (k : evp Ls xs d j (ts.getD x.toNatClampNeg df) L st w h Φ) : evp Ls xs d j pc L (.int x :: st) w h Φ :=
  e_s hP (if_pos hx) k
section LAW
variable {xs : Nat → Int32} {a c u : Nat} {f : Nat → Option xB}
theorem law_972 {w : Bool} {h : xH} : evp 6 xs 10 0 972 xLL [] w h xΦ := by
  refine e_s rfl rfl ?_
  refine e_s rfl rfl ?_
  refine e_s rfl rfl ?_
  refine e_s rfl rfl ?_
  refine e_s rfl rfl ?_
  refine e_s rfl rfl ?_
  refine e_s rfl rfl ?_
  refine e_bt rfl rfl (by decide) ?_
  refine e_s rfl rfl ?_
  exact e_r2 rfl (by decide) rfl
theorem law_disp (hI : xI a c f) (ha : 1 ≤ a ∧ a ≤ 7) (hc : 1 ≤ c ∧ c ≤ 6) (hu : u ≤ 20000) : ∀ n : Nat, evp 6 xs 10 0 (List.getD [152, 208, 244, 255, 266, 310, 335, 348, 404, 484, 552, 620, 683, 739, 763, 826, 877, 890, 903, 916] n 972) xLL [] true (221, u, f) xΦ
  | 0 => op_0 hI ha hc hu rfl rfl rfl
  | 1 => op_1 hI ha hc hu rfl rfl rfl
  | 2 => op_2 hI ha hc hu rfl rfl rfl
  | 3 => op_3 hI ha hc hu rfl rfl rfl
  | 4 => op_4 hI ha hc hu rfl rfl rfl
  | 5 => op_5 hI ha hc hu rfl rfl rfl
  | 6 => op_6 hI ha hc hu rfl rfl rfl
  | 7 => op_7 hI ha hc hu rfl rfl rfl
  | 8 => op_8 hI ha hc hu rfl rfl rfl
  | 9 => op_9 hI ha hc hu rfl rfl rfl
  | 10 => op_10 hI ha hc hu rfl rfl rfl
  | 11 => op_11 hI ha hc hu rfl rfl rfl
  | 12 => op_12 hI ha hc hu rfl rfl rfl
  | 13 => op_13 hI ha hc hu rfl rfl rfl
  | 14 => op_14 hI ha hc hu rfl rfl rfl
  | 15 => op_15 hI ha hc hu rfl rfl rfl
  | 16 => op_16 hI ha hc hu rfl rfl rfl
  | 17 => op_17 hI ha hc hu rfl rfl rfl
  | 18 => op_18 hI ha hc hu rfl rfl rfl
  | 19 => op_19 hI ha hc hu rfl rfl rfl
  | _ + 20 => law_972
theorem law_43 {Ls : Nat} (hL : Ls ≤ 6) (hI : xI a c f) (ha : 1 ≤ a ∧ a ≤ 7) (hc : 1 ≤ c ∧ c ≤ 6) (hu : u ≤ 20000) : evp Ls xs 10 0 43 xLL [] true (221, u, f) xΦ := by
  rcases Nat.lt_or_ge Ls 6 with h | h
  · refine e_s rfl rfl ?_
    refine e_s rfl rfl ?_
    refine e_s rfl rfl ?_
    refine e_s rfl rfl ?_
    refine e_s rfl rfl ?_
    refine e_bt rfl rfl (show nI Ls - 4 < 2 from ?_) ?_
    · have q : Ls = 0 ∨ Ls = 1 ∨ Ls = 2 ∨ Ls = 3 ∨ Ls = 4 ∨ Ls = 5 := by omega
      rcases q with rfl | rfl | rfl | rfl | rfl | rfl <;> decide
    · refine e_s rfl rfl ?_
      exact e_r2 rfl (by decide) rfl
  · obtain rfl : Ls = 6 := by omega
    refine e_s rfl rfl ?_
    refine e_s rfl rfl ?_
    refine e_s rfl rfl ?_
    refine e_s rfl rfl ?_
    refine e_s rfl rfl ?_
    refine e_bf rfl rfl (by decide) ?_
    refine e_s rfl rfl ?_
    refine e_s rfl rfl ?_
    refine e_sc (v := xs 2) rfl (by decide) (k := 2) (by decide) rfl ?_
    refine e_s rfl rfl ?_
    refine e_s rfl rfl ?_
    refine e_ts rfl (and31 _) ?_
    exact law_disp hI ha hc hu _
theorem law_0 {Ls : Nat} (hL : Ls ≤ 6) : evp Ls xs 10 0 0 [(0, .ref 0)] [] false (1, 0, fun _ => none) xΦ := by
  obtain ⟨a, ha⟩ := xnb_ex 7 3 (by decide) (if 0 < Ls then xs 0 else 0)
  obtain ⟨c, hc⟩ := xnb_ex 6 2 (by decide) (if 1 < Ls then xs 1 else 0)
  have hai := xnb_in (by decide) ha
  have hci := xnb_in (by decide) hc
  refine e_nw rfl (by omega) (by omega) (fun u1 hu1 => ?_)
  refine e_s rfl rfl ?_
  refine e_s rfl rfl ?_
  refine e_s rfl rfl ?_
  refine e_c rfl rfl ⟨Nat.le_of_ble_eq_true rfl, Nat.le_of_ble_eq_true rfl, Nat.le_of_ble_eq_true rfl, rfl⟩ ?_
  refine m_cell (kk := 0) (by omega) (by omega) (fun v hv => ?_)
  subst hv
  refine e_s rfl rfl ?_
  refine e_s rfl rfl ?_
  refine e_c rfl rfl ⟨Nat.le_of_ble_eq_true rfl, Nat.le_of_ble_eq_true rfl, Nat.le_of_ble_eq_true rfl, rfl⟩ ?_
  refine m_cell (kk := 1) (by omega) (by omega) (fun v hv => ?_)
  subst hv
  refine e_c rfl rfl ⟨Nat.le_of_ble_eq_true rfl, Nat.le_of_ble_eq_true rfl, Nat.le_of_ble_eq_true rfl, rfl⟩ ?_
  refine c_T (a := a) (c := c) ha hc (by omega) (fun u2 f2 hu2 hF => ?_)
  refine e_s rfl rfl ?_
  refine e_nw rfl (by omega) (by omega) (fun u3 hu3 => ?_)
  refine e_s rfl rfl ?_
  refine e_s rfl rfl ?_
  refine e_s rfl rfl ?_
  refine e_c rfl rfl ⟨Nat.le_of_ble_eq_true rfl, Nat.le_of_ble_eq_true rfl, Nat.le_of_ble_eq_true rfl, rfl⟩ ?_
  refine m_cell (kk := 0) (by omega) (by omega) (fun v hv => ?_)
  subst hv
  refine e_s rfl rfl ?_
  refine e_s rfl rfl ?_
  refine e_c rfl rfl ⟨Nat.le_of_ble_eq_true rfl, Nat.le_of_ble_eq_true rfl, Nat.le_of_ble_eq_true rfl, rfl⟩ ?_
  refine m_cell (kk := 1) (by omega) (by omega) (fun v hv => ?_)
  subst hv
  refine e_c rfl rfl ⟨Nat.le_of_ble_eq_true rfl, Nat.le_of_ble_eq_true rfl, Nat.le_of_ble_eq_true rfl, rfl⟩ ?_
  refine c_M (a := a) (c := c) ha hc (by omega) (fun u4 f4 hu4 hl4 hM => ?_)
  refine e_s rfl rfl ?_
  refine e_s rfl rfl ?_
  refine e_naj (N := 1) (B := 1) rfl (by decide) (by decide) (by omega) (by omega) (by omega) (by omega) (fun u5 hu5 => ?_)
  refine e_s rfl rfl ?_
  refine e_s rfl rfl ?_
  refine e_s rfl rfl ?_
  obtain ⟨g1, g2, g3, g4, g6, g7, g139, g201⟩ := hF
  obtain ⟨m205, m206, m207, m209, m210⟩ := hM
  exact law_43 (a := a) (c := c) hL ⟨⟨(hl4 1 (by decide)).trans g1, (hl4 2 (by decide)).trans g2, (hl4 3 (by decide)).trans g3, (hl4 4 (by decide)).trans g4, (hl4 6 (by decide)).trans g6, (hl4 7 (by decide)).trans g7, (hl4 139 (by decide)).trans g139, (hl4 201 (by decide)).trans g201⟩, ⟨m205, m206, m207, m209, m210⟩, rfl⟩ hai hci (by omega)
end LAW
