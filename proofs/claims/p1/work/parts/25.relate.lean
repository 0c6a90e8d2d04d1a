/-! relate, over a fresh model and over one with one production without symbols; the calls with loops. -/
section RL
variable {Ls : Nat} {xs : Nat → Int32} {d : Nat} {Φ : xR → Bool → xH → Prop} {z u : Nat} {f : Nat → Option xB} {a c N k9 : Nat} {fs : List Value} {M x : Int32} {gl : Nat → Int32}
theorem rz_44 (ha : 1 ≤ a ∧ a ≤ 7) (hc : 1 ≤ c ∧ c ≤ 6) (g205 : f 205 = some (.inl (6, fs))) (F1 : fs[1]? = some (.int (nI a))) (F2 : fs[2]? = some (.int (nI c))) (F9 : fs[9]? = some (.ref 210)) (g210 : f 210 = some (.inr (.inl (1, 78, fun _ => 0)))) (F3 : fs[3]? = some (.int M)) (F8 : fs[8]? = some (.ref 209)) (g209 : f 209 = some (.inr (.inl (1, 6, fun _ => 0)))) (hM : M = 0) (K : ∀ w, Φ (.inl none) w (z, u, f)) : ∀ (n k : Nat) (w : Bool) (L : xL), k + n = c → xlk L 0 = some (.ref 205) → xlk L 1 = some (.int (nI k)) → evp Ls xs (d + 4) 78 44 L [] w (z, u, f) Φ
  | 0, k, w, L, hk, l0, l1 => by
    refine e_il rfl l1 ?_
    refine e_al rfl l0 ?_
    refine e_gf rfl (by decide) g205 F2 ?_
    refine e_bt rfl rfl (nI_le (by omega) (by omega)) ?_
    refine e_s rfl rfl ?_
    refine e_ist rfl (by decide) (fun L l1 kp => ?_)
    have l0 := kp 0 _ (by decide) rfl l0
    refine e_il rfl l1 ?_
    refine e_al rfl l0 ?_
    refine e_gf rfl (by decide) g205 F3 ?_
    refine e_bt rfl rfl (by rw [hM]; decide) ?_
    refine e_s rfl rfl ?_
    refine e_ist rfl (by decide) (fun L l1 kp => ?_)
    have l0 := kp 0 _ (by decide) rfl l0
    exact w_187 ha hc g205 F1 F2 F9 g210 K c 0 _ _ (by omega) l0 l1
  | n + 1, k, w, L, hk, l0, l1 => by
    refine e_il rfl l1 ?_
    refine e_al rfl l0 ?_
    refine e_gf rfl (by decide) g205 F2 ?_
    refine e_bf rfl rfl (nI_ge (by omega) (by omega)) ?_
    refine e_s rfl rfl ?_
    refine e_ist rfl (by decide) (fun L l2 kp => ?_)
    have l0 := kp 0 _ (by decide) rfl l0
    have l1 := kp 1 _ (by decide) rfl l1
    refine e_il rfl l2 ?_
    refine e_al rfl l0 ?_
    refine e_gf rfl (by decide) g205 F3 ?_
    refine e_bt rfl rfl (by rw [hM]; decide) ?_
    refine e_inc rfl l1 (by decide) (fun L l1 kp => ?_)
    have l0 := kp 0 _ (by decide) rfl l0
    have l2 := kp 2 _ (by decide) rfl l2
    refine e_s rfl rfl ?_
    exact rz_44 ha hc g205 F1 F2 F9 g210 F3 F8 g209 hM K n (k + 1) _ _ (by omega) l0 (by rw [nI_succ]; exact l1)
theorem rl_23 (ha : 1 ≤ a ∧ a ≤ 7) (hc : 1 ≤ c ∧ c ≤ 6) (g205 : f 205 = some (.inl (6, fs))) (F1 : fs[1]? = some (.int (nI a))) (F2 : fs[2]? = some (.int (nI c))) (F9 : fs[9]? = some (.ref 210)) (g210 : f 210 = some (.inr (.inl (1, 78, fun _ => 0)))) (K : ∀ w L, xlk L 0 = some (.ref 205) → xlk L 1 = some (.int 0) → evp Ls xs d 78 44 L [] w (z, u, f) Φ) : ∀ (n k : Nat) (w : Bool) (L : xL), k + n = 78 → xlk L 0 = some (.ref 205) → xlk L 1 = some (.int (nI k)) → evp Ls xs d 78 23 L [] w (z, u, f) Φ
  | 0, k, w, L, hk, l0, l1 => by
    refine e_il rfl l1 ?_
    refine e_s rfl rfl ?_
    refine e_bt rfl rfl (nI_le (a := 78) (by omega) (by omega)) ?_
    refine e_s rfl rfl ?_
    refine e_ist rfl (by decide) (fun L l1 kp => ?_)
    have l0 := kp 0 _ (by decide) rfl l0
    exact K _ _ l0 l1
  | n + 1, k, w, L, hk, l0, l1 => by
    refine e_il rfl l1 ?_
    refine e_s rfl rfl ?_
    refine e_bf rfl rfl (nI_ge (b := 78) (by omega) (by omega)) ?_
    refine e_al rfl l0 ?_
    refine e_gf rfl (by decide) g205 F9 ?_
    refine e_il rfl l1 ?_
    refine e_s rfl rfl ?_
    refine e_zas0 rfl (by decide) g210 (xin_nI (by omega) (by omega)) ?_
    refine e_inc rfl l1 (by decide) (fun L l1 kp => ?_)
    have l0 := kp 0 _ (by decide) rfl l0
    refine e_s rfl rfl ?_
    exact rl_23 ha hc g205 F1 F2 F9 g210 K n (k + 1) _ _ (by omega) l0 (by rw [nI_succ]; exact l1)
theorem rl_2 (ha : 1 ≤ a ∧ a ≤ 7) (hc : 1 ≤ c ∧ c ≤ 6) (g205 : f 205 = some (.inl (6, fs))) (F1 : fs[1]? = some (.int (nI a))) (F2 : fs[2]? = some (.int (nI c))) (F9 : fs[9]? = some (.ref 210)) (g210 : f 210 = some (.inr (.inl (1, 78, fun _ => 0)))) (F3 : fs[3]? = some (.int M)) (F8 : fs[8]? = some (.ref 209)) (g209 : f 209 = some (.inr (.inl (1, 6, fun _ => 0)))) (K : ∀ w L, xlk L 0 = some (.ref 205) → xlk L 1 = some (.int 0) → evp Ls xs d 78 44 L [] w (z, u, f) Φ) : ∀ (n k : Nat) (w : Bool) (L : xL), k + n = 6 → xlk L 0 = some (.ref 205) → xlk L 1 = some (.int (nI k)) → evp Ls xs d 78 2 L [] w (z, u, f) Φ
  | 0, k, w, L, hk, l0, l1 => by
    refine e_il rfl l1 ?_
    refine e_s rfl rfl ?_
    refine e_bt rfl rfl (nI_le (a := 6) (by omega) (by omega)) ?_
    refine e_s rfl rfl ?_
    refine e_ist rfl (by decide) (fun L l1 kp => ?_)
    have l0 := kp 0 _ (by decide) rfl l0
    exact rl_23 ha hc g205 F1 F2 F9 g210 K 78 0 _ _ (by omega) l0 l1
  | n + 1, k, w, L, hk, l0, l1 => by
    refine e_il rfl l1 ?_
    refine e_s rfl rfl ?_
    refine e_bf rfl rfl (nI_ge (b := 6) (by omega) (by omega)) ?_
    refine e_al rfl l0 ?_
    refine e_gf rfl (by decide) g205 F8 ?_
    refine e_il rfl l1 ?_
    refine e_s rfl rfl ?_
    refine e_zas0 rfl (by decide) g209 (xin_nI (by omega) (by omega)) ?_
    refine e_inc rfl l1 (by decide) (fun L l1 kp => ?_)
    have l0 := kp 0 _ (by decide) rfl l0
    refine e_s rfl rfl ?_
    exact rl_2 ha hc g205 F1 F2 F9 g210 F3 F8 g209 K n (k + 1) _ _ (by omega) l0 (by rw [nI_succ]; exact l1)
theorem m_relate0 (ha : 1 ≤ a ∧ a ≤ 7) (hc : 1 ≤ c ∧ c ≤ 6) (g205 : f 205 = some (.inl (6, fs))) (F1 : fs[1]? = some (.int (nI a))) (F2 : fs[2]? = some (.int (nI c))) (F9 : fs[9]? = some (.ref 210)) (g210 : f 210 = some (.inr (.inl (1, 78, fun _ => 0)))) (F3 : fs[3]? = some (.int M)) (F8 : fs[8]? = some (.ref 209)) (g209 : f 209 = some (.inr (.inl (1, 6, fun _ => 0)))) (hM : M = 0) (K : ∀ w, Φ (.inl none) w (z, u, f)) : evp Ls xs (d + 4) 78 0 [(0, .ref 205)] [] false (z, u, f) Φ := by
  have l0 : xlk [(0, .ref 205)] 0 = some (.ref 205) := rfl
  refine e_s rfl rfl ?_
  refine e_ist rfl (by decide) (fun L l1 kp => ?_)
  have l0 := kp 0 _ (by decide) rfl l0
  exact rl_2 ha hc g205 F1 F2 F9 g210 F3 F8 g209 (fun w L l0 l1 => rz_44 ha hc g205 F1 F2 F9 g210 F3 F8 g209 hM K c 0 w L (by omega) l0 l1) 6 0 _ _ (by omega) l0 l1
theorem ro_44 (ha : 1 ≤ a ∧ a ≤ 7) (hc : 1 ≤ c ∧ c ≤ 6) (g205 : f 205 = some (.inl (6, fs))) (F1 : fs[1]? = some (.int (nI a))) (F2 : fs[2]? = some (.int (nI c))) (F9 : fs[9]? = some (.ref 210)) (g210 : f 210 = some (.inr (.inl (1, 78, fun _ => 0)))) (F3 : fs[3]? = some (.int M)) (F8 : fs[8]? = some (.ref 209)) (F5 : fs[5]? = some (.ref 206)) (F6 : fs[6]? = some (.ref 207)) (g206 : f 206 = some (.inr (.inl (0, 14, gl)))) (g207 : f 207 = some (.inr (.inl (0, 14, fun _ => 0)))) (hM : M = 1) (hk9 : k9 < c) (hgl : gl 0 - nI a = nI k9) (K : ∀ w g, Φ (.inl none) w (z, u, xup f 209 (some (.inr (.inl (1, 6, g)))))) : ∀ (n k : Nat) (w : Bool) (L : xL) (g : Nat → Int32), k + n = c → xlk L 0 = some (.ref 205) → xlk L 1 = some (.int (nI k)) → evp Ls xs (d + 4) 78 44 L [] w (z, u, (xup f 209 (some (.inr (.inl (1, 6, g)))))) Φ
  | 0, k, w, L, g, hk, l0, l1 => by
    refine e_il rfl l1 ?_
    refine e_al rfl l0 ?_
    refine e_gf rfl (by decide) g205 F2 ?_
    refine e_bt rfl rfl (nI_le (by omega) (by omega)) ?_
    refine e_s rfl rfl ?_
    refine e_ist rfl (by decide) (fun L l1 kp => ?_)
    have l0 := kp 0 _ (by decide) rfl l0
    refine e_il rfl l1 ?_
    refine e_al rfl l0 ?_
    refine e_gf rfl (by decide) g205 F3 ?_
    refine e_bf rfl rfl (by rw [hM]; decide) ?_
    refine e_al rfl l0 ?_
    refine e_il rfl l1 ?_
    refine e_c rfl rfl ⟨Nat.le_of_ble_eq_true rfl, Nat.le_of_ble_eq_true rfl, Nat.le_of_ble_eq_true rfl, xrcv_of (by decide) (g205)⟩ ?_
    refine e_s rfl rfl ?_
    refine e_s rfl rfl ?_
    refine e_s rfl rfl ?_
    refine e_s rfl rfl ?_
    refine e_s rfl rfl ?_
    refine e_s rfl rfl ?_
    refine e_bt rfl rfl (by decide) ?_
    refine e_s rfl rfl ?_
    refine e_r1 rfl ?_
    refine e_ist rfl (by decide) (fun L l2 kp => ?_)
    have l0 := kp 0 _ (by decide) rfl l0
    have l1 := kp 1 _ (by decide) rfl l1
    refine e_s rfl rfl ?_
    refine e_ist rfl (by decide) (fun L l3 kp => ?_)
    have l0 := kp 0 _ (by decide) rfl l0
    have l1 := kp 1 _ (by decide) rfl l1
    have l2 := kp 2 _ (by decide) rfl l2
    refine e_il rfl l3 ?_
    refine e_al rfl l0 ?_
    refine e_gf rfl (by decide) g205 F6 ?_
    refine e_il rfl l1 ?_
    refine e_ia0 rfl (by decide) g207 (by decide) ?_
    refine e_bt rfl rfl (by decide) ?_
    refine e_inc rfl l1 (by decide) (fun L l1 kp => ?_)
    have l0 := kp 0 _ (by decide) rfl l0
    have l2 := kp 2 _ (by decide) rfl l2
    have l3 := kp 3 _ (by decide) rfl l3
    refine e_s rfl rfl ?_
    refine e_il rfl l1 ?_
    refine e_al rfl l0 ?_
    refine e_gf rfl (by decide) g205 F3 ?_
    refine e_bt rfl rfl (by rw [hM]; decide) ?_
    refine e_s rfl rfl ?_
    refine e_ist rfl (by decide) (fun L l1 kp => ?_)
    have l0 := kp 0 _ (by decide) rfl l0
    have l2 := kp 2 _ (by decide) rfl l2
    have l3 := kp 3 _ (by decide) rfl l3
    exact w_187 (f := (xup f 209 (some (.inr (.inl (1, 6, g)))))) ha hc g205 F1 F2 F9 g210 (fun w => K w g) c 0 _ _ (by omega) l0 l1
  | n + 1, k, w, L, g, hk, l0, l1 => by
    refine e_il rfl l1 ?_
    refine e_al rfl l0 ?_
    refine e_gf rfl (by decide) g205 F2 ?_
    refine e_bf rfl rfl (nI_ge (by omega) (by omega)) ?_
    refine e_s rfl rfl ?_
    refine e_ist rfl (by decide) (fun L l2 kp => ?_)
    have l0 := kp 0 _ (by decide) rfl l0
    have l1 := kp 1 _ (by decide) rfl l1
    refine e_il rfl l2 ?_
    refine e_al rfl l0 ?_
    refine e_gf rfl (by decide) g205 F3 ?_
    refine e_bf rfl rfl (by rw [hM]; decide) ?_
    refine e_al rfl l0 ?_
    refine e_il rfl l2 ?_
    refine e_s rfl rfl ?_
    refine e_al rfl l0 ?_
    refine e_gf rfl (by decide) g205 F6 ?_
    refine e_il rfl l2 ?_
    refine e_ia0 rfl (by decide) g207 (by decide) ?_
    refine e_c rfl rfl ⟨Nat.le_of_ble_eq_true rfl, Nat.le_of_ble_eq_true rfl, Nat.le_of_ble_eq_true rfl, xrcv_of (by decide) (g205)⟩ ?_
    refine e_s rfl rfl ?_
    refine e_s rfl rfl ?_
    refine e_c rfl rfl ⟨Nat.le_of_ble_eq_true rfl, Nat.le_of_ble_eq_true rfl, Nat.le_of_ble_eq_true rfl, xrcv_of (by decide) (g205)⟩ ?_
    refine e_s rfl rfl ?_
    refine e_s rfl rfl ?_
    refine e_s rfl rfl ?_
    refine e_s rfl rfl ?_
    refine e_s rfl rfl ?_
    refine e_s rfl rfl ?_
    refine e_bt rfl rfl (by decide) ?_
    refine e_s rfl rfl ?_
    refine e_r1 rfl ?_
    refine e_s rfl rfl ?_
    refine e_s rfl rfl ?_
    refine e_s rfl rfl ?_
    refine e_s rfl rfl ?_
    refine e_s rfl rfl ?_
    refine e_bt rfl rfl (by decide) ?_
    refine e_s rfl rfl ?_
    refine e_r2 rfl (by decide) ?_
    refine e_bf rfl rfl (by decide) ?_
    refine e_al rfl l0 ?_
    refine e_gf rfl (by decide) g205 F8 ?_
    refine e_al rfl l0 ?_
    refine e_gf rfl (by decide) g205 F5 ?_
    refine e_il rfl l2 ?_
    refine e_ia rfl (by decide) g206 (by decide) ?_
    refine e_al rfl l0 ?_
    refine e_gf rfl (by decide) g205 F1 ?_
    refine e_s rfl rfl ?_
    refine e_s rfl rfl ?_
    refine e_zas (n := 6) (g := g) rfl (by decide) rfl (by rw [show gl (Int32.toNatClampNeg 0) - nI a = nI k9 from hgl]; exact xin_nI (by omega) (by omega)) (by decide) ?_
    rw [xup_same]
    refine e_inc rfl l2 (by decide) (fun L l2 kp => ?_)
    have l0 := kp 0 _ (by decide) rfl l0
    have l1 := kp 1 _ (by decide) rfl l1
    refine e_s rfl rfl ?_
    refine e_il rfl l2 ?_
    refine e_al rfl l0 ?_
    refine e_gf rfl (by decide) g205 F3 ?_
    refine e_bt rfl rfl (by rw [hM]; decide) ?_
    refine e_inc rfl l1 (by decide) (fun L l1 kp => ?_)
    have l0 := kp 0 _ (by decide) rfl l0
    have l2 := kp 2 _ (by decide) rfl l2
    refine e_s rfl rfl ?_
    exact ro_44 ha hc g205 F1 F2 F9 g210 F3 F8 F5 F6 g206 g207 hM hk9 hgl K n (k + 1) _ _ _ (by omega) l0 (by rw [nI_succ]; exact l1)
theorem m_relate1 (ha : 1 ≤ a ∧ a ≤ 7) (hc : 1 ≤ c ∧ c ≤ 6) (g205 : f 205 = some (.inl (6, fs))) (F1 : fs[1]? = some (.int (nI a))) (F2 : fs[2]? = some (.int (nI c))) (F9 : fs[9]? = some (.ref 210)) (g210 : f 210 = some (.inr (.inl (1, 78, fun _ => 0)))) (F3 : fs[3]? = some (.int M)) (F8 : fs[8]? = some (.ref 209)) (F5 : fs[5]? = some (.ref 206)) (F6 : fs[6]? = some (.ref 207)) (g206 : f 206 = some (.inr (.inl (0, 14, gl)))) (g207 : f 207 = some (.inr (.inl (0, 14, fun _ => 0)))) (g209 : f 209 = some (.inr (.inl (1, 6, fun _ => 0)))) (hM : M = 1) (hk9 : k9 < c) (hgl : gl 0 - nI a = nI k9) (K : ∀ w g, Φ (.inl none) w (z, u, xup f 209 (some (.inr (.inl (1, 6, g)))))) : evp Ls xs (d + 4) 78 0 [(0, .ref 205)] [] false (z, u, f) Φ := by
  have l0 : xlk [(0, .ref 205)] 0 = some (.ref 205) := rfl
  refine e_s rfl rfl ?_
  refine e_ist rfl (by decide) (fun L l1 kp => ?_)
  have l0 := kp 0 _ (by decide) rfl l0
  refine rl_2 ha hc g205 F1 F2 F9 g210 F3 F8 g209 (fun w L l0 l1 => ?_) 6 0 _ _ (by omega) l0 l1
  rw [← xup_id g209]
  exact ro_44 ha hc g205 F1 F2 F9 g210 F3 F8 F5 F6 g206 g207 hM hk9 hgl K c 0 w L _ (by omega) l0 l1
theorem x_sub (ha : a ≤ 7) (hc : c ≤ 6) (h1 : ¬ x.toInt < (a : Int)) (h2 : x.toInt < (a : Int) + c) : ∃ k, k < c ∧ x - nI a = nI k := by
  have h0 : ¬ x < 0 := fun h => by
    rw [Int32.lt_iff_toInt_lt] at h
    have t0 : (0 : Int32).toInt = 0 := rfl
    omega
  obtain ⟨n, hn, rfl⟩ := nI_of h0
  have tn : (nI n).toInt = (n : Int) := nI_toInt (by omega)
  obtain ⟨q, rfl⟩ : ∃ q, n = q + a := ⟨n - a, by omega⟩
  exact ⟨q, by omega, by rw [← nI_add, Int32.add_sub_cancel]⟩
end RL
section OPS
variable {xs : Nat → Int32} {a c u : Nat} {f : Nat → Option xB} {x y v : Int32}
theorem op_3 (hI : xI a c f) (ha : 1 ≤ a ∧ a ≤ 7) (hc : 1 ≤ c ∧ c ≤ 6) (hu : u ≤ 20000) (e3 : xs 3 = x) (e4 : xs 4 = y) (e5 : xs 5 = v) : evp 6 xs 10 0 255 xLL [] true (221, u, f) xΦ := by
  obtain ⟨⟨g1, g2, g3, g4, g6, g7, g139, g201⟩, ⟨g205, g206, g207, g209, g210⟩, g220⟩ := hI
  have t0 : (0 : Int32).toInt = 0 := rfl
  have t1 : (1 : Int32).toInt = 1 := rfl
  have t2 : (2 : Int32).toInt = 2 := rfl
  have tn : (-1 : Int32).toInt = -1 := rfl
  have tz : ((0 : Int32) - 1).toInt = -1 := rfl
  have ta : (nI a).toInt = (a : Int) := nI_toInt (by omega)
  have tc : (nI a + nI c).toInt = (a : Int) + c := by rw [nI_add, nI_toInt (by omega)]; omega
  have tm : (nI a + nI c - 1).toInt = (a : Int) + c - 1 := by
    obtain ⟨b, hb⟩ : ∃ b, a + c = b + 1 := ⟨a + c - 1, by omega⟩
    rw [nI_add, hb, nI_pred, nI_toInt (by omega)]; omega
  have tk : (nI a - 1).toInt = (a : Int) - 1 := by
    obtain ⟨b, hb⟩ : ∃ b, a = b + 1 := ⟨a - 1, by omega⟩
    rw [hb, nI_pred, nI_toInt (by omega)]; omega
  refine e_s rfl rfl ?_
  refine e_c rfl rfl ⟨Nat.le_of_ble_eq_true rfl, Nat.le_of_ble_eq_true rfl, Nat.le_of_ble_eq_true rfl, xrcv_of (by decide) (g1)⟩ ?_
  refine e_s rfl rfl ?_
  refine e_s rfl rfl ?_
  refine e_pf rfl (by decide) g1 (Nat.le_of_ble_eq_true rfl) rfl rfl ?_
  refine e_s rfl rfl ?_
  refine e_gf rfl (by decide) rfl rfl ?_
  refine e_c rfl rfl ⟨Nat.le_of_ble_eq_true rfl, Nat.le_of_ble_eq_true rfl, Nat.le_of_ble_eq_true rfl, xrcv_of (by decide) (g201)⟩ ?_
  refine e_s rfl rfl ?_
  refine e_s rfl rfl ?_
  refine e_pf rfl (by decide) g201 (Nat.le_of_ble_eq_true rfl) rfl rfl ?_
  refine e_s rfl rfl ?_
  refine e_s rfl rfl ?_
  refine e_pf rfl (by decide) rfl (Nat.le_of_ble_eq_true rfl) rfl rfl ?_
  refine e_s rfl rfl ?_
  refine e_s rfl rfl ?_
  refine e_pf rfl (by decide) rfl (Nat.le_of_ble_eq_true rfl) rfl rfl ?_
  refine e_r0 rfl ?_
  refine e_s rfl rfl ?_
  refine e_gf rfl (by decide) rfl rfl ?_
  refine e_c rfl rfl ⟨Nat.le_of_ble_eq_true rfl, Nat.le_of_ble_eq_true rfl, Nat.le_of_ble_eq_true rfl, xrcv_of (by decide) (g139)⟩ ?_
  refine e_s rfl rfl ?_
  refine e_s rfl rfl ?_
  refine e_pf rfl (by decide) g139 (Nat.le_of_ble_eq_true rfl) rfl rfl ?_
  refine e_s rfl rfl ?_
  refine e_s rfl rfl ?_
  refine e_pf rfl (by decide) rfl (Nat.le_of_ble_eq_true rfl) rfl rfl ?_
  refine e_r0 rfl ?_
  refine e_s rfl rfl ?_
  refine e_gf rfl (by decide) rfl rfl ?_
  refine e_c rfl rfl ⟨Nat.le_of_ble_eq_true rfl, Nat.le_of_ble_eq_true rfl, Nat.le_of_ble_eq_true rfl, xrcv_of (by decide) (g2)⟩ ?_
  refine e_s rfl rfl ?_
  refine e_s rfl rfl ?_
  refine e_pf rfl (by decide) g2 (Nat.le_of_ble_eq_true rfl) rfl rfl ?_
  refine e_r0 rfl ?_
  refine e_r0 rfl ?_
  refine e_s rfl rfl ?_
  refine e_c rfl rfl ⟨Nat.le_of_ble_eq_true rfl, Nat.le_of_ble_eq_true rfl, Nat.le_of_ble_eq_true rfl, xrcv_of (by decide) (g205)⟩ ?_
  refine e_s rfl rfl ?_
  refine e_c rfl rfl ⟨Nat.le_of_ble_eq_true rfl, Nat.le_of_ble_eq_true rfl, Nat.le_of_ble_eq_true rfl, xrcv_of (by decide) (g205)⟩ ?_
  refine e_s rfl rfl ?_
  refine e_s rfl rfl ?_
  refine e_pf rfl (by decide) g205 (Nat.le_of_ble_eq_true rfl) rfl rfl ?_
  refine e_s rfl rfl ?_
  refine e_s rfl rfl ?_
  refine e_pf rfl (by decide) rfl (Nat.le_of_ble_eq_true rfl) rfl rfl ?_
  refine e_s rfl rfl ?_
  refine e_s rfl rfl ?_
  refine e_pf rfl (by decide) rfl (Nat.le_of_ble_eq_true rfl) rfl rfl ?_
  refine e_s rfl rfl ?_
  refine e_s rfl rfl ?_
  refine e_pf rfl (by decide) rfl (Nat.le_of_ble_eq_true rfl) rfl rfl ?_
  refine e_s rfl rfl ?_
  refine e_s rfl rfl ?_
  refine e_pf rfl (by decide) rfl (Nat.le_of_ble_eq_true rfl) rfl rfl ?_
  refine e_s rfl rfl ?_
  refine e_s rfl rfl ?_
  refine e_pf rfl (by decide) rfl (Nat.le_of_ble_eq_true rfl) rfl rfl ?_
  refine e_r0 rfl ?_
  refine e_s rfl rfl ?_
  refine e_s rfl rfl ?_
  refine e_pf rfl (by decide) rfl (Nat.le_of_ble_eq_true rfl) rfl rfl ?_
  refine e_s rfl rfl ?_
  refine e_s rfl rfl ?_
  refine e_pf rfl (by decide) rfl (Nat.le_of_ble_eq_true rfl) rfl rfl ?_
  refine e_s rfl rfl ?_
  refine e_c rfl rfl ⟨Nat.le_of_ble_eq_true rfl, Nat.le_of_ble_eq_true rfl, Nat.le_of_ble_eq_true rfl, xrcv_of (by decide) (rfl)⟩ ?_
  refine e_s rfl rfl ?_
  refine e_s rfl rfl ?_
  refine e_pf rfl (by decide) rfl (Nat.le_of_ble_eq_true rfl) rfl rfl ?_
  refine e_s rfl rfl ?_
  refine e_s rfl rfl ?_
  refine e_pf rfl (by decide) rfl (Nat.le_of_ble_eq_true rfl) rfl rfl ?_
  refine e_s rfl rfl ?_
  refine e_c rfl rfl ⟨Nat.le_of_ble_eq_true rfl, Nat.le_of_ble_eq_true rfl, Nat.le_of_ble_eq_true rfl, xrcv_of (by decide) (rfl)⟩ ?_
  refine m_relate0 (a := a) (c := c) ha hc rfl rfl rfl rfl g210 rfl rfl g209 rfl (fun w => ?_)
  refine e_r0 rfl ?_
  refine e_r0 rfl ?_
  refine e_s rfl rfl ?_
  refine e_s rfl rfl ?_
  refine e_s rfl rfl ?_
  refine e_s rfl rfl ?_
  refine e_s rfl rfl ?_
  refine e_s rfl rfl ?_
  refine e_s rfl rfl ?_
  refine e_s rfl rfl ?_
  refine e_bt rfl rfl (by decide) ?_
  refine e_s rfl rfl ?_
  refine e_r2 rfl (by decide) ?_
  exact rfl
theorem op_11 (hI : xI a c f) (ha : 1 ≤ a ∧ a ≤ 7) (hc : 1 ≤ c ∧ c ≤ 6) (hu : u ≤ 20000) (e3 : xs 3 = x) (e4 : xs 4 = y) (e5 : xs 5 = v) : evp 6 xs 10 0 620 xLL [] true (221, u, f) xΦ := by
  obtain ⟨⟨g1, g2, g3, g4, g6, g7, g139, g201⟩, ⟨g205, g206, g207, g209, g210⟩, g220⟩ := hI
  have t0 : (0 : Int32).toInt = 0 := rfl
  have t1 : (1 : Int32).toInt = 1 := rfl
  have t2 : (2 : Int32).toInt = 2 := rfl
  have tn : (-1 : Int32).toInt = -1 := rfl
  have tz : ((0 : Int32) - 1).toInt = -1 := rfl
  have ta : (nI a).toInt = (a : Int) := nI_toInt (by omega)
  have tc : (nI a + nI c).toInt = (a : Int) + c := by rw [nI_add, nI_toInt (by omega)]; omega
  have tm : (nI a + nI c - 1).toInt = (a : Int) + c - 1 := by
    obtain ⟨b, hb⟩ : ∃ b, a + c = b + 1 := ⟨a + c - 1, by omega⟩
    rw [nI_add, hb, nI_pred, nI_toInt (by omega)]; omega
  have tk : (nI a - 1).toInt = (a : Int) - 1 := by
    obtain ⟨b, hb⟩ : ∃ b, a = b + 1 := ⟨a - 1, by omega⟩
    rw [hb, nI_pred, nI_toInt (by omega)]; omega
  by_cases h0 : x.toInt < (a : Int)
  · refine e_s rfl rfl ?_
    refine e_s rfl rfl ?_
    refine e_s rfl rfl ?_
    refine e_s rfl rfl ?_
    refine e_s rfl rfl ?_
    refine e_sc rfl (by decide) (k := 3) (by decide) e3 ?_
    refine e_s rfl rfl ?_
    refine e_c rfl rfl ⟨Nat.le_of_ble_eq_true rfl, Nat.le_of_ble_eq_true rfl, Nat.le_of_ble_eq_true rfl, rfl⟩ ?_
    refine e_s rfl rfl ?_
    refine e_s rfl rfl ?_
    refine e_s rfl rfl ?_
    refine e_s rfl rfl ?_
    refine e_c rfl rfl ⟨Nat.le_of_ble_eq_true rfl, Nat.le_of_ble_eq_true rfl, Nat.le_of_ble_eq_true rfl, xrcv_of (by decide) (g1)⟩ ?_
    refine e_s rfl rfl ?_
    refine e_gf rfl (by decide) g1 rfl ?_
    refine e_s rfl rfl ?_
    refine e_c rfl rfl ⟨Nat.le_of_ble_eq_true rfl, Nat.le_of_ble_eq_true rfl, Nat.le_of_ble_eq_true rfl, xrcv_of (by decide) (g2)⟩ ?_
    refine e_s rfl rfl ?_
    refine e_s rfl rfl ?_
    refine e_gf rfl (by decide) g2 rfl ?_
    refine e_bt rfl rfl (by simp only [Int32.lt_iff_toInt_lt, Int32.le_iff_toInt_le]; omega) ?_
    refine e_s rfl rfl ?_
    refine e_r2 rfl (by decide) ?_
    refine e_bf rfl rfl (by decide) ?_
    refine e_th rfl (by omega) (by omega) (by decide) ⟨_, rfl, ?_⟩
    refine e_s rfl rfl ?_
    refine e_s rfl rfl ?_
    refine e_r1 rfl ?_
    refine e_s rfl rfl ?_
    refine e_s rfl rfl ?_
    refine e_s rfl rfl ?_
    refine e_s rfl rfl ?_
    refine e_s rfl rfl ?_
    refine e_s rfl rfl ?_
    refine e_sc rfl (by decide) (k := 3) (by decide) e3 ?_
    refine e_c rfl rfl ⟨Nat.le_of_ble_eq_true rfl, Nat.le_of_ble_eq_true rfl, Nat.le_of_ble_eq_true rfl, xrcv_of (by decide) (g205)⟩ ?_
    refine e_s rfl rfl ?_
    refine e_s rfl rfl ?_
    refine e_s rfl rfl ?_
    refine e_c rfl rfl ⟨Nat.le_of_ble_eq_true rfl, Nat.le_of_ble_eq_true rfl, Nat.le_of_ble_eq_true rfl, xrcv_of (by decide) (g205)⟩ ?_
    refine e_s rfl rfl ?_
    refine e_s rfl rfl ?_
    refine e_gf rfl (by decide) g205 rfl ?_
    refine e_s rfl rfl ?_
    refine e_gf rfl (by decide) g205 rfl ?_
    refine e_s rfl rfl ?_
    refine e_gf rfl (by decide) g205 rfl ?_
    refine e_s rfl rfl ?_
    refine e_s rfl rfl ?_
    refine e_s rfl rfl ?_
    refine e_c rfl rfl ⟨Nat.le_of_ble_eq_true rfl, Nat.le_of_ble_eq_true rfl, Nat.le_of_ble_eq_true rfl, rfl⟩ ?_
    refine e_s rfl rfl ?_
    refine e_s rfl rfl ?_
    refine e_bt rfl rfl (by simp only [Int32.lt_iff_toInt_lt, Int32.le_iff_toInt_le]; omega) ?_
    refine e_s rfl rfl ?_
    refine e_s rfl rfl ?_
    refine e_r2 rfl (by decide) ?_
    refine e_bt rfl rfl (by decide) ?_
    refine e_s rfl rfl ?_
    refine e_r2 rfl (by decide) ?_
    refine e_bt rfl rfl (by decide) ?_
    refine e_s rfl rfl ?_
    refine e_pf rfl (by decide) g205 (Nat.le_of_ble_eq_true rfl) rfl rfl ?_
    refine e_s rfl rfl ?_
    refine e_gf rfl (by decide) rfl rfl ?_
    refine e_bt rfl rfl (by decide) ?_
    refine e_s rfl rfl ?_
    refine e_r2 rfl (by decide) ?_
    refine e_s rfl rfl ?_
    refine e_s rfl rfl ?_
    refine e_c rfl rfl ⟨Nat.le_of_ble_eq_true rfl, Nat.le_of_ble_eq_true rfl, Nat.le_of_ble_eq_true rfl, xrcv_of (by decide) (rfl)⟩ ?_
    refine e_s rfl rfl ?_
    refine e_gf rfl (by decide) rfl rfl ?_
    refine e_r1 rfl ?_
    refine e_s rfl rfl ?_
    refine e_bt rfl rfl (by decide) ?_
    refine e_s rfl rfl ?_
    refine e_bt rfl rfl (by decide) ?_
    refine e_s rfl rfl ?_
    refine e_s rfl rfl ?_
    refine e_s rfl rfl ?_
    refine e_s rfl rfl ?_
    refine e_s rfl rfl ?_
    refine e_s rfl rfl ?_
    refine e_s rfl rfl ?_
    refine e_s rfl rfl ?_
    refine e_bt rfl rfl (by decide) ?_
    refine e_s rfl rfl ?_
    refine e_r2 rfl (by decide) ?_
    exact rfl
  by_cases h1 : x.toInt < (a : Int) + c
  · obtain ⟨k, hk, kx⟩ := x_sub ha.2 hc.2 h0 h1
    refine e_s rfl rfl ?_
    refine e_s rfl rfl ?_
    refine e_s rfl rfl ?_
    refine e_s rfl rfl ?_
    refine e_s rfl rfl ?_
    refine e_sc rfl (by decide) (k := 3) (by decide) e3 ?_
    refine e_s rfl rfl ?_
    refine e_c rfl rfl ⟨Nat.le_of_ble_eq_true rfl, Nat.le_of_ble_eq_true rfl, Nat.le_of_ble_eq_true rfl, rfl⟩ ?_
    refine e_s rfl rfl ?_
    refine e_s rfl rfl ?_
    refine e_s rfl rfl ?_
    refine e_s rfl rfl ?_
    refine e_c rfl rfl ⟨Nat.le_of_ble_eq_true rfl, Nat.le_of_ble_eq_true rfl, Nat.le_of_ble_eq_true rfl, xrcv_of (by decide) (g1)⟩ ?_
    refine e_s rfl rfl ?_
    refine e_gf rfl (by decide) g1 rfl ?_
    refine e_s rfl rfl ?_
    refine e_c rfl rfl ⟨Nat.le_of_ble_eq_true rfl, Nat.le_of_ble_eq_true rfl, Nat.le_of_ble_eq_true rfl, xrcv_of (by decide) (g2)⟩ ?_
    refine e_s rfl rfl ?_
    refine e_s rfl rfl ?_
    refine e_gf rfl (by decide) g2 rfl ?_
    refine e_bf rfl rfl (by simp only [Int32.lt_iff_toInt_lt, Int32.le_iff_toInt_le]; omega) ?_
    refine e_s rfl rfl ?_
    refine e_s rfl rfl ?_
    refine e_gf rfl (by decide) g2 rfl ?_
    refine e_s rfl rfl ?_
    refine e_gf rfl (by decide) g2 rfl ?_
    refine e_s rfl rfl ?_
    refine e_bf rfl rfl (by simp only [Int32.lt_iff_toInt_lt, Int32.le_iff_toInt_le]; omega) ?_
    refine e_s rfl rfl ?_
    refine e_s rfl rfl ?_
    refine e_r2 rfl (by decide) ?_
    refine e_bt rfl rfl (by decide) ?_
    refine e_s rfl rfl ?_
    refine e_gf rfl (by decide) g1 rfl ?_
    refine e_c rfl rfl ⟨Nat.le_of_ble_eq_true rfl, Nat.le_of_ble_eq_true rfl, Nat.le_of_ble_eq_true rfl, xrcv_of (by decide) (g2)⟩ ?_
    refine m_analyse ha hc g2 g6 g7 (fun w => ?_)
    refine e_s rfl rfl ?_
    refine e_gf rfl (by decide) g1 rfl ?_
    refine e_s rfl rfl ?_
    refine e_c rfl rfl ⟨Nat.le_of_ble_eq_true rfl, Nat.le_of_ble_eq_true rfl, Nat.le_of_ble_eq_true rfl, xrcv_of (by decide) (g2)⟩ ?_
    refine e_s rfl rfl ?_
    refine e_s rfl rfl ?_
    refine e_c rfl rfl ⟨Nat.le_of_ble_eq_true rfl, Nat.le_of_ble_eq_true rfl, Nat.le_of_ble_eq_true rfl, xrcv_of (by decide) (g2)⟩ ?_
    refine e_s rfl rfl ?_
    refine e_s rfl rfl ?_
    refine e_gf rfl (by decide) g2 rfl ?_
    refine e_bf rfl rfl (by simp only [Int32.lt_iff_toInt_lt, Int32.le_iff_toInt_le]; omega) ?_
    refine e_s rfl rfl ?_
    refine e_s rfl rfl ?_
    refine e_gf rfl (by decide) g2 rfl ?_
    refine e_s rfl rfl ?_
    refine e_gf rfl (by decide) g2 rfl ?_
    refine e_s rfl rfl ?_
    refine e_bf rfl rfl (by simp only [Int32.lt_iff_toInt_lt, Int32.le_iff_toInt_le]; omega) ?_
    refine e_s rfl rfl ?_
    refine e_s rfl rfl ?_
    refine e_r2 rfl (by decide) ?_
    refine e_bf rfl rfl (by decide) ?_
    refine e_s rfl rfl ?_
    refine e_gf rfl (by decide) g2 rfl ?_
    refine e_s rfl rfl ?_
    refine e_s rfl rfl ?_
    refine e_gf rfl (by decide) g2 rfl ?_
    refine e_s rfl rfl ?_
    refine e_za0 rfl (by decide) g6 (by rw [kx]; exact xin_nI (by omega) (by omega)) ?_
    refine e_bt rfl rfl (by decide) ?_
    refine e_s rfl rfl ?_
    refine e_r2 rfl (by decide) ?_
    refine e_r2 rfl (by decide) ?_
    refine e_bt rfl rfl (by decide) ?_
    refine e_s rfl rfl ?_
    refine e_las rfl (by decide) g220 (by decide) ?_
    refine e_s rfl rfl ?_
    refine e_s rfl rfl ?_
    refine e_r1 rfl ?_
    refine e_s rfl rfl ?_
    refine e_s rfl rfl ?_
    refine e_s rfl rfl ?_
    refine e_s rfl rfl ?_
    refine e_s rfl rfl ?_
    refine e_s rfl rfl ?_
    refine e_sc rfl (by decide) (k := 3) (by decide) e3 ?_
    refine e_c rfl rfl ⟨Nat.le_of_ble_eq_true rfl, Nat.le_of_ble_eq_true rfl, Nat.le_of_ble_eq_true rfl, xrcv_of (by decide) (g205)⟩ ?_
    refine e_s rfl rfl ?_
    refine e_s rfl rfl ?_
    refine e_s rfl rfl ?_
    refine e_c rfl rfl ⟨Nat.le_of_ble_eq_true rfl, Nat.le_of_ble_eq_true rfl, Nat.le_of_ble_eq_true rfl, xrcv_of (by decide) (g205)⟩ ?_
    refine e_s rfl rfl ?_
    refine e_s rfl rfl ?_
    refine e_gf rfl (by decide) g205 rfl ?_
    refine e_s rfl rfl ?_
    refine e_gf rfl (by decide) g205 rfl ?_
    refine e_s rfl rfl ?_
    refine e_gf rfl (by decide) g205 rfl ?_
    refine e_s rfl rfl ?_
    refine e_s rfl rfl ?_
    refine e_s rfl rfl ?_
    refine e_c rfl rfl ⟨Nat.le_of_ble_eq_true rfl, Nat.le_of_ble_eq_true rfl, Nat.le_of_ble_eq_true rfl, rfl⟩ ?_
    refine e_s rfl rfl ?_
    refine e_s rfl rfl ?_
    refine e_bf rfl rfl (by simp only [Int32.lt_iff_toInt_lt, Int32.le_iff_toInt_le]; omega) ?_
    refine e_s rfl rfl ?_
    refine e_s rfl rfl ?_
    refine e_bt rfl rfl (by simp only [Int32.lt_iff_toInt_lt, Int32.le_iff_toInt_le]; omega) ?_
    refine e_s rfl rfl ?_
    refine e_r2 rfl (by decide) ?_
    refine e_bf rfl rfl (by decide) ?_
    refine e_s rfl rfl ?_
    refine e_s rfl rfl ?_
    refine e_r2 rfl (by decide) ?_
    refine e_bf rfl rfl (by decide) ?_
    refine e_s rfl rfl ?_
    refine e_s rfl rfl ?_
    refine e_pf rfl (by decide) g205 (Nat.le_of_ble_eq_true rfl) rfl rfl ?_
    refine e_s rfl rfl ?_
    refine e_gf rfl (by decide) rfl rfl ?_
    refine e_bf rfl rfl (by decide) ?_
    refine e_s rfl rfl ?_
    refine e_gf rfl (by decide) rfl rfl ?_
    refine e_s rfl rfl ?_
    refine e_s rfl rfl ?_
    refine e_gf rfl (by decide) rfl rfl ?_
    refine e_s rfl rfl ?_
    refine e_za0 rfl (by decide) g209 (by rw [kx]; exact xin_nI (by omega) (by omega)) ?_
    refine e_bt rfl rfl (by decide) ?_
    refine e_s rfl rfl ?_
    refine e_r2 rfl (by decide) ?_
    refine e_s rfl rfl ?_
    refine e_s rfl rfl ?_
    refine e_c rfl rfl ⟨Nat.le_of_ble_eq_true rfl, Nat.le_of_ble_eq_true rfl, Nat.le_of_ble_eq_true rfl, xrcv_of (by decide) (rfl)⟩ ?_
    refine e_s rfl rfl ?_
    refine e_gf rfl (by decide) rfl rfl ?_
    refine e_r1 rfl ?_
    refine e_s rfl rfl ?_
    refine e_bt rfl rfl (by decide) ?_
    refine e_s rfl rfl ?_
    refine e_bf rfl rfl (by decide) ?_
    refine e_s rfl rfl ?_
    refine e_s rfl rfl ?_
    refine e_la rfl (by decide) rfl (by decide) ?_
    refine e_s rfl rfl ?_
    refine e_bt rfl rfl (by decide) ?_
    refine e_s rfl rfl ?_
    refine e_s rfl rfl ?_
    refine e_bt rfl rfl (by decide) ?_
    refine e_s rfl rfl ?_
    refine e_s rfl rfl ?_
    refine e_s rfl rfl ?_
    refine e_s rfl rfl ?_
    refine e_s rfl rfl ?_
    refine e_s rfl rfl ?_
    refine e_s rfl rfl ?_
    refine e_s rfl rfl ?_
    refine e_bt rfl rfl (by decide) ?_
    refine e_s rfl rfl ?_
    refine e_r2 rfl (by decide) ?_
    exact rfl
  refine e_s rfl rfl ?_
  refine e_s rfl rfl ?_
  refine e_s rfl rfl ?_
  refine e_s rfl rfl ?_
  refine e_s rfl rfl ?_
  refine e_sc rfl (by decide) (k := 3) (by decide) e3 ?_
  refine e_s rfl rfl ?_
  refine e_c rfl rfl ⟨Nat.le_of_ble_eq_true rfl, Nat.le_of_ble_eq_true rfl, Nat.le_of_ble_eq_true rfl, rfl⟩ ?_
  refine e_s rfl rfl ?_
  refine e_s rfl rfl ?_
  refine e_s rfl rfl ?_
  refine e_s rfl rfl ?_
  refine e_c rfl rfl ⟨Nat.le_of_ble_eq_true rfl, Nat.le_of_ble_eq_true rfl, Nat.le_of_ble_eq_true rfl, xrcv_of (by decide) (g1)⟩ ?_
  refine e_s rfl rfl ?_
  refine e_gf rfl (by decide) g1 rfl ?_
  refine e_s rfl rfl ?_
  refine e_c rfl rfl ⟨Nat.le_of_ble_eq_true rfl, Nat.le_of_ble_eq_true rfl, Nat.le_of_ble_eq_true rfl, xrcv_of (by decide) (g2)⟩ ?_
  refine e_s rfl rfl ?_
  refine e_s rfl rfl ?_
  refine e_gf rfl (by decide) g2 rfl ?_
  refine e_bf rfl rfl (by simp only [Int32.lt_iff_toInt_lt, Int32.le_iff_toInt_le]; omega) ?_
  refine e_s rfl rfl ?_
  refine e_s rfl rfl ?_
  refine e_gf rfl (by decide) g2 rfl ?_
  refine e_s rfl rfl ?_
  refine e_gf rfl (by decide) g2 rfl ?_
  refine e_s rfl rfl ?_
  refine e_bt rfl rfl (by simp only [Int32.lt_iff_toInt_lt, Int32.le_iff_toInt_le]; omega) ?_
  refine e_s rfl rfl ?_
  refine e_r2 rfl (by decide) ?_
  refine e_bf rfl rfl (by decide) ?_
  refine e_th rfl (by omega) (by omega) (by decide) ⟨_, rfl, ?_⟩
  refine e_s rfl rfl ?_
  refine e_s rfl rfl ?_
  refine e_r1 rfl ?_
  refine e_s rfl rfl ?_
  refine e_s rfl rfl ?_
  refine e_s rfl rfl ?_
  refine e_s rfl rfl ?_
  refine e_s rfl rfl ?_
  refine e_s rfl rfl ?_
  refine e_sc rfl (by decide) (k := 3) (by decide) e3 ?_
  refine e_c rfl rfl ⟨Nat.le_of_ble_eq_true rfl, Nat.le_of_ble_eq_true rfl, Nat.le_of_ble_eq_true rfl, xrcv_of (by decide) (g205)⟩ ?_
  refine e_s rfl rfl ?_
  refine e_s rfl rfl ?_
  refine e_s rfl rfl ?_
  refine e_c rfl rfl ⟨Nat.le_of_ble_eq_true rfl, Nat.le_of_ble_eq_true rfl, Nat.le_of_ble_eq_true rfl, xrcv_of (by decide) (g205)⟩ ?_
  refine e_s rfl rfl ?_
  refine e_s rfl rfl ?_
  refine e_gf rfl (by decide) g205 rfl ?_
  refine e_s rfl rfl ?_
  refine e_gf rfl (by decide) g205 rfl ?_
  refine e_s rfl rfl ?_
  refine e_gf rfl (by decide) g205 rfl ?_
  refine e_s rfl rfl ?_
  refine e_s rfl rfl ?_
  refine e_s rfl rfl ?_
  refine e_c rfl rfl ⟨Nat.le_of_ble_eq_true rfl, Nat.le_of_ble_eq_true rfl, Nat.le_of_ble_eq_true rfl, rfl⟩ ?_
  refine e_s rfl rfl ?_
  refine e_s rfl rfl ?_
  refine e_bf rfl rfl (by simp only [Int32.lt_iff_toInt_lt, Int32.le_iff_toInt_le]; omega) ?_
  refine e_s rfl rfl ?_
  refine e_s rfl rfl ?_
  refine e_bf rfl rfl (by simp only [Int32.lt_iff_toInt_lt, Int32.le_iff_toInt_le]; omega) ?_
  refine e_s rfl rfl ?_
  refine e_s rfl rfl ?_
  refine e_r2 rfl (by decide) ?_
  refine e_bt rfl rfl (by decide) ?_
  refine e_s rfl rfl ?_
  refine e_r2 rfl (by decide) ?_
  refine e_bt rfl rfl (by decide) ?_
  refine e_s rfl rfl ?_
  refine e_pf rfl (by decide) g205 (Nat.le_of_ble_eq_true rfl) rfl rfl ?_
  refine e_s rfl rfl ?_
  refine e_gf rfl (by decide) rfl rfl ?_
  refine e_bt rfl rfl (by decide) ?_
  refine e_s rfl rfl ?_
  refine e_r2 rfl (by decide) ?_
  refine e_s rfl rfl ?_
  refine e_s rfl rfl ?_
  refine e_c rfl rfl ⟨Nat.le_of_ble_eq_true rfl, Nat.le_of_ble_eq_true rfl, Nat.le_of_ble_eq_true rfl, xrcv_of (by decide) (rfl)⟩ ?_
  refine e_s rfl rfl ?_
  refine e_gf rfl (by decide) rfl rfl ?_
  refine e_r1 rfl ?_
  refine e_s rfl rfl ?_
  refine e_bt rfl rfl (by decide) ?_
  refine e_s rfl rfl ?_
  refine e_bt rfl rfl (by decide) ?_
  refine e_s rfl rfl ?_
  refine e_s rfl rfl ?_
  refine e_s rfl rfl ?_
  refine e_s rfl rfl ?_
  refine e_s rfl rfl ?_
  refine e_s rfl rfl ?_
  refine e_s rfl rfl ?_
  refine e_s rfl rfl ?_
  refine e_bt rfl rfl (by decide) ?_
  refine e_s rfl rfl ?_
  refine e_r2 rfl (by decide) ?_
  exact rfl
theorem op_12 (hI : xI a c f) (ha : 1 ≤ a ∧ a ≤ 7) (hc : 1 ≤ c ∧ c ≤ 6) (hu : u ≤ 20000) (e3 : xs 3 = x) (e4 : xs 4 = y) (e5 : xs 5 = v) : evp 6 xs 10 0 683 xLL [] true (221, u, f) xΦ := by
  obtain ⟨⟨g1, g2, g3, g4, g6, g7, g139, g201⟩, ⟨g205, g206, g207, g209, g210⟩, g220⟩ := hI
  have t0 : (0 : Int32).toInt = 0 := rfl
  have t1 : (1 : Int32).toInt = 1 := rfl
  have t2 : (2 : Int32).toInt = 2 := rfl
  have tn : (-1 : Int32).toInt = -1 := rfl
  have tz : ((0 : Int32) - 1).toInt = -1 := rfl
  have ta : (nI a).toInt = (a : Int) := nI_toInt (by omega)
  have tc : (nI a + nI c).toInt = (a : Int) + c := by rw [nI_add, nI_toInt (by omega)]; omega
  have tm : (nI a + nI c - 1).toInt = (a : Int) + c - 1 := by
    obtain ⟨b, hb⟩ : ∃ b, a + c = b + 1 := ⟨a + c - 1, by omega⟩
    rw [nI_add, hb, nI_pred, nI_toInt (by omega)]; omega
  have tk : (nI a - 1).toInt = (a : Int) - 1 := by
    obtain ⟨b, hb⟩ : ∃ b, a = b + 1 := ⟨a - 1, by omega⟩
    rw [hb, nI_pred, nI_toInt (by omega)]; omega
  by_cases h0 : x.toInt < (a : Int)
  · refine e_s rfl rfl ?_
    refine e_s rfl rfl ?_
    refine e_s rfl rfl ?_
    refine e_s rfl rfl ?_
    refine e_s rfl rfl ?_
    refine e_sc rfl (by decide) (k := 3) (by decide) e3 ?_
    refine e_s rfl rfl ?_
    refine e_c rfl rfl ⟨Nat.le_of_ble_eq_true rfl, Nat.le_of_ble_eq_true rfl, Nat.le_of_ble_eq_true rfl, rfl⟩ ?_
    refine e_s rfl rfl ?_
    refine e_s rfl rfl ?_
    refine e_s rfl rfl ?_
    refine e_s rfl rfl ?_
    refine e_c rfl rfl ⟨Nat.le_of_ble_eq_true rfl, Nat.le_of_ble_eq_true rfl, Nat.le_of_ble_eq_true rfl, xrcv_of (by decide) (g1)⟩ ?_
    refine e_s rfl rfl ?_
    refine e_gf rfl (by decide) g1 rfl ?_
    refine e_s rfl rfl ?_
    refine e_c rfl rfl ⟨Nat.le_of_ble_eq_true rfl, Nat.le_of_ble_eq_true rfl, Nat.le_of_ble_eq_true rfl, xrcv_of (by decide) (g2)⟩ ?_
    refine e_s rfl rfl ?_
    refine e_s rfl rfl ?_
    refine e_gf rfl (by decide) g2 rfl ?_
    refine e_bt rfl rfl (by simp only [Int32.lt_iff_toInt_lt, Int32.le_iff_toInt_le]; omega) ?_
    refine e_s rfl rfl ?_
    refine e_r2 rfl (by decide) ?_
    refine e_bf rfl rfl (by decide) ?_
    refine e_th rfl (by omega) (by omega) (by decide) ⟨_, rfl, ?_⟩
    refine e_s rfl rfl ?_
    refine e_s rfl rfl ?_
    refine e_r1 rfl ?_
    refine e_s rfl rfl ?_
    refine e_s rfl rfl ?_
    refine e_s rfl rfl ?_
    refine e_s rfl rfl ?_
    refine e_s rfl rfl ?_
    refine e_s rfl rfl ?_
    refine e_sc rfl (by decide) (k := 3) (by decide) e3 ?_
    refine e_c rfl rfl ⟨Nat.le_of_ble_eq_true rfl, Nat.le_of_ble_eq_true rfl, Nat.le_of_ble_eq_true rfl, xrcv_of (by decide) (g205)⟩ ?_
    refine e_s rfl rfl ?_
    refine e_s rfl rfl ?_
    refine e_c rfl rfl ⟨Nat.le_of_ble_eq_true rfl, Nat.le_of_ble_eq_true rfl, Nat.le_of_ble_eq_true rfl, xrcv_of (by decide) (g205)⟩ ?_
    refine e_s rfl rfl ?_
    refine e_s rfl rfl ?_
    refine e_gf rfl (by decide) g205 rfl ?_
    refine e_s rfl rfl ?_
    refine e_gf rfl (by decide) g205 rfl ?_
    refine e_s rfl rfl ?_
    refine e_gf rfl (by decide) g205 rfl ?_
    refine e_s rfl rfl ?_
    refine e_s rfl rfl ?_
    refine e_s rfl rfl ?_
    refine e_c rfl rfl ⟨Nat.le_of_ble_eq_true rfl, Nat.le_of_ble_eq_true rfl, Nat.le_of_ble_eq_true rfl, rfl⟩ ?_
    refine e_s rfl rfl ?_
    refine e_s rfl rfl ?_
    refine e_bt rfl rfl (by simp only [Int32.lt_iff_toInt_lt, Int32.le_iff_toInt_le]; omega) ?_
    refine e_s rfl rfl ?_
    refine e_s rfl rfl ?_
    refine e_r2 rfl (by decide) ?_
    refine e_bt rfl rfl (by decide) ?_
    refine e_s rfl rfl ?_
    refine e_r2 rfl (by decide) ?_
    refine e_bf rfl rfl (by decide) ?_
    refine e_s rfl rfl ?_
    refine e_s rfl rfl ?_
    refine e_c rfl rfl ⟨Nat.le_of_ble_eq_true rfl, Nat.le_of_ble_eq_true rfl, Nat.le_of_ble_eq_true rfl, xrcv_of (by decide) (g205)⟩ ?_
    refine e_s rfl rfl ?_
    refine e_s rfl rfl ?_
    refine e_pf rfl (by decide) g205 (Nat.le_of_ble_eq_true rfl) rfl rfl ?_
    refine e_s rfl rfl ?_
    refine e_r1 rfl ?_
    refine e_r1 rfl ?_
    refine e_s rfl rfl ?_
    refine e_s rfl rfl ?_
    refine e_c rfl rfl ⟨Nat.le_of_ble_eq_true rfl, Nat.le_of_ble_eq_true rfl, Nat.le_of_ble_eq_true rfl, xrcv_of (by decide) (rfl)⟩ ?_
    refine e_s rfl rfl ?_
    refine e_gf rfl (by decide) rfl rfl ?_
    refine e_r1 rfl ?_
    refine e_s rfl rfl ?_
    refine e_bt rfl rfl (by decide) ?_
    refine e_s rfl rfl ?_
    refine e_bt rfl rfl (by decide) ?_
    refine e_s rfl rfl ?_
    refine e_s rfl rfl ?_
    refine e_s rfl rfl ?_
    refine e_s rfl rfl ?_
    refine e_s rfl rfl ?_
    refine e_s rfl rfl ?_
    refine e_s rfl rfl ?_
    refine e_s rfl rfl ?_
    refine e_bt rfl rfl (by decide) ?_
    refine e_s rfl rfl ?_
    refine e_r2 rfl (by decide) ?_
    exact rfl
  by_cases h1 : x.toInt < (a : Int) + c
  · obtain ⟨k, hk, kx⟩ := x_sub ha.2 hc.2 h0 h1
    refine e_s rfl rfl ?_
    refine e_s rfl rfl ?_
    refine e_s rfl rfl ?_
    refine e_s rfl rfl ?_
    refine e_s rfl rfl ?_
    refine e_sc rfl (by decide) (k := 3) (by decide) e3 ?_
    refine e_s rfl rfl ?_
    refine e_c rfl rfl ⟨Nat.le_of_ble_eq_true rfl, Nat.le_of_ble_eq_true rfl, Nat.le_of_ble_eq_true rfl, rfl⟩ ?_
    refine e_s rfl rfl ?_
    refine e_s rfl rfl ?_
    refine e_s rfl rfl ?_
    refine e_s rfl rfl ?_
    refine e_c rfl rfl ⟨Nat.le_of_ble_eq_true rfl, Nat.le_of_ble_eq_true rfl, Nat.le_of_ble_eq_true rfl, xrcv_of (by decide) (g1)⟩ ?_
    refine e_s rfl rfl ?_
    refine e_gf rfl (by decide) g1 rfl ?_
    refine e_s rfl rfl ?_
    refine e_c rfl rfl ⟨Nat.le_of_ble_eq_true rfl, Nat.le_of_ble_eq_true rfl, Nat.le_of_ble_eq_true rfl, xrcv_of (by decide) (g2)⟩ ?_
    refine e_s rfl rfl ?_
    refine e_s rfl rfl ?_
    refine e_gf rfl (by decide) g2 rfl ?_
    refine e_bf rfl rfl (by simp only [Int32.lt_iff_toInt_lt, Int32.le_iff_toInt_le]; omega) ?_
    refine e_s rfl rfl ?_
    refine e_s rfl rfl ?_
    refine e_gf rfl (by decide) g2 rfl ?_
    refine e_s rfl rfl ?_
    refine e_gf rfl (by decide) g2 rfl ?_
    refine e_s rfl rfl ?_
    refine e_bf rfl rfl (by simp only [Int32.lt_iff_toInt_lt, Int32.le_iff_toInt_le]; omega) ?_
    refine e_s rfl rfl ?_
    refine e_s rfl rfl ?_
    refine e_r2 rfl (by decide) ?_
    refine e_bt rfl rfl (by decide) ?_
    refine e_s rfl rfl ?_
    refine e_gf rfl (by decide) g1 rfl ?_
    refine e_c rfl rfl ⟨Nat.le_of_ble_eq_true rfl, Nat.le_of_ble_eq_true rfl, Nat.le_of_ble_eq_true rfl, xrcv_of (by decide) (g2)⟩ ?_
    refine m_analyse ha hc g2 g6 g7 (fun w => ?_)
    refine e_s rfl rfl ?_
    refine e_gf rfl (by decide) g1 rfl ?_
    refine e_s rfl rfl ?_
    refine e_c rfl rfl ⟨Nat.le_of_ble_eq_true rfl, Nat.le_of_ble_eq_true rfl, Nat.le_of_ble_eq_true rfl, xrcv_of (by decide) (g2)⟩ ?_
    refine e_s rfl rfl ?_
    refine e_s rfl rfl ?_
    refine e_c rfl rfl ⟨Nat.le_of_ble_eq_true rfl, Nat.le_of_ble_eq_true rfl, Nat.le_of_ble_eq_true rfl, xrcv_of (by decide) (g2)⟩ ?_
    refine e_s rfl rfl ?_
    refine e_s rfl rfl ?_
    refine e_gf rfl (by decide) g2 rfl ?_
    refine e_bf rfl rfl (by simp only [Int32.lt_iff_toInt_lt, Int32.le_iff_toInt_le]; omega) ?_
    refine e_s rfl rfl ?_
    refine e_s rfl rfl ?_
    refine e_gf rfl (by decide) g2 rfl ?_
    refine e_s rfl rfl ?_
    refine e_gf rfl (by decide) g2 rfl ?_
    refine e_s rfl rfl ?_
    refine e_bf rfl rfl (by simp only [Int32.lt_iff_toInt_lt, Int32.le_iff_toInt_le]; omega) ?_
    refine e_s rfl rfl ?_
    refine e_s rfl rfl ?_
    refine e_r2 rfl (by decide) ?_
    refine e_bf rfl rfl (by decide) ?_
    refine e_s rfl rfl ?_
    refine e_gf rfl (by decide) g2 rfl ?_
    refine e_s rfl rfl ?_
    refine e_s rfl rfl ?_
    refine e_gf rfl (by decide) g2 rfl ?_
    refine e_s rfl rfl ?_
    refine e_ia0 rfl (by decide) g7 (by rw [kx]; exact xin_nI (by omega) (by omega)) ?_
    refine e_s rfl rfl ?_
    refine e_r1 rfl ?_
    refine e_r1 rfl ?_
    refine e_s rfl rfl ?_
    refine e_las rfl (by decide) g220 (by decide) ?_
    refine e_s rfl rfl ?_
    refine e_s rfl rfl ?_
    refine e_r1 rfl ?_
    refine e_s rfl rfl ?_
    refine e_s rfl rfl ?_
    refine e_s rfl rfl ?_
    refine e_s rfl rfl ?_
    refine e_s rfl rfl ?_
    refine e_s rfl rfl ?_
    refine e_sc rfl (by decide) (k := 3) (by decide) e3 ?_
    refine e_c rfl rfl ⟨Nat.le_of_ble_eq_true rfl, Nat.le_of_ble_eq_true rfl, Nat.le_of_ble_eq_true rfl, xrcv_of (by decide) (g205)⟩ ?_
    refine e_s rfl rfl ?_
    refine e_s rfl rfl ?_
    refine e_c rfl rfl ⟨Nat.le_of_ble_eq_true rfl, Nat.le_of_ble_eq_true rfl, Nat.le_of_ble_eq_true rfl, xrcv_of (by decide) (g205)⟩ ?_
    refine e_s rfl rfl ?_
    refine e_s rfl rfl ?_
    refine e_gf rfl (by decide) g205 rfl ?_
    refine e_s rfl rfl ?_
    refine e_gf rfl (by decide) g205 rfl ?_
    refine e_s rfl rfl ?_
    refine e_gf rfl (by decide) g205 rfl ?_
    refine e_s rfl rfl ?_
    refine e_s rfl rfl ?_
    refine e_s rfl rfl ?_
    refine e_c rfl rfl ⟨Nat.le_of_ble_eq_true rfl, Nat.le_of_ble_eq_true rfl, Nat.le_of_ble_eq_true rfl, rfl⟩ ?_
    refine e_s rfl rfl ?_
    refine e_s rfl rfl ?_
    refine e_bf rfl rfl (by simp only [Int32.lt_iff_toInt_lt, Int32.le_iff_toInt_le]; omega) ?_
    refine e_s rfl rfl ?_
    refine e_s rfl rfl ?_
    refine e_bt rfl rfl (by simp only [Int32.lt_iff_toInt_lt, Int32.le_iff_toInt_le]; omega) ?_
    refine e_s rfl rfl ?_
    refine e_r2 rfl (by decide) ?_
    refine e_bf rfl rfl (by decide) ?_
    refine e_s rfl rfl ?_
    refine e_s rfl rfl ?_
    refine e_r2 rfl (by decide) ?_
    refine e_bt rfl rfl (by decide) ?_
    refine e_s rfl rfl ?_
    refine e_s rfl rfl ?_
    refine e_pf rfl (by decide) g205 (Nat.le_of_ble_eq_true rfl) rfl rfl ?_
    refine e_s rfl rfl ?_
    refine e_s rfl rfl ?_
    refine e_s rfl rfl ?_
    refine e_gf rfl (by decide) rfl rfl ?_
    refine e_s rfl rfl ?_
    refine e_c rfl rfl ⟨Nat.le_of_ble_eq_true rfl, Nat.le_of_ble_eq_true rfl, Nat.le_of_ble_eq_true rfl, xrcv_of (by decide) (rfl)⟩ ?_
    refine m_firstOf (fs := (xMO a c).set 0 (.int 0)) ha hc (by exact rfl) (by exact rfl) (by exact rfl) (by exact rfl) (by exact g210) kx hk (fun w => ?_)
    refine e_r1 rfl ?_
    refine e_s rfl rfl ?_
    refine e_s rfl rfl ?_
    refine e_c rfl rfl ⟨Nat.le_of_ble_eq_true rfl, Nat.le_of_ble_eq_true rfl, Nat.le_of_ble_eq_true rfl, xrcv_of (by decide) (rfl)⟩ ?_
    refine e_s rfl rfl ?_
    refine e_gf rfl (by decide) rfl rfl ?_
    refine e_r1 rfl ?_
    refine e_s rfl rfl ?_
    refine e_bt rfl rfl (by decide) ?_
    refine e_s rfl rfl ?_
    refine e_bf rfl rfl (by decide) ?_
    refine e_s rfl rfl ?_
    refine e_s rfl rfl ?_
    refine e_la rfl (by decide) rfl (by decide) ?_
    refine e_s rfl rfl ?_
    refine e_s rfl rfl ?_
    refine e_s rfl rfl ?_
    refine e_bt rfl rfl (by decide) ?_
    refine e_s rfl rfl ?_
    refine e_s rfl rfl ?_
    refine e_s rfl rfl ?_
    refine e_s rfl rfl ?_
    refine e_s rfl rfl ?_
    refine e_s rfl rfl ?_
    refine e_s rfl rfl ?_
    refine e_s rfl rfl ?_
    refine e_bt rfl rfl (by decide) ?_
    refine e_s rfl rfl ?_
    refine e_r2 rfl (by decide) ?_
    exact rfl
  refine e_s rfl rfl ?_
  refine e_s rfl rfl ?_
  refine e_s rfl rfl ?_
  refine e_s rfl rfl ?_
  refine e_s rfl rfl ?_
  refine e_sc rfl (by decide) (k := 3) (by decide) e3 ?_
  refine e_s rfl rfl ?_
  refine e_c rfl rfl ⟨Nat.le_of_ble_eq_true rfl, Nat.le_of_ble_eq_true rfl, Nat.le_of_ble_eq_true rfl, rfl⟩ ?_
  refine e_s rfl rfl ?_
  refine e_s rfl rfl ?_
  refine e_s rfl rfl ?_
  refine e_s rfl rfl ?_
  refine e_c rfl rfl ⟨Nat.le_of_ble_eq_true rfl, Nat.le_of_ble_eq_true rfl, Nat.le_of_ble_eq_true rfl, xrcv_of (by decide) (g1)⟩ ?_
  refine e_s rfl rfl ?_
  refine e_gf rfl (by decide) g1 rfl ?_
  refine e_s rfl rfl ?_
  refine e_c rfl rfl ⟨Nat.le_of_ble_eq_true rfl, Nat.le_of_ble_eq_true rfl, Nat.le_of_ble_eq_true rfl, xrcv_of (by decide) (g2)⟩ ?_
  refine e_s rfl rfl ?_
  refine e_s rfl rfl ?_
  refine e_gf rfl (by decide) g2 rfl ?_
  refine e_bf rfl rfl (by simp only [Int32.lt_iff_toInt_lt, Int32.le_iff_toInt_le]; omega) ?_
  refine e_s rfl rfl ?_
  refine e_s rfl rfl ?_
  refine e_gf rfl (by decide) g2 rfl ?_
  refine e_s rfl rfl ?_
  refine e_gf rfl (by decide) g2 rfl ?_
  refine e_s rfl rfl ?_
  refine e_bt rfl rfl (by simp only [Int32.lt_iff_toInt_lt, Int32.le_iff_toInt_le]; omega) ?_
  refine e_s rfl rfl ?_
  refine e_r2 rfl (by decide) ?_
  refine e_bf rfl rfl (by decide) ?_
  refine e_th rfl (by omega) (by omega) (by decide) ⟨_, rfl, ?_⟩
  refine e_s rfl rfl ?_
  refine e_s rfl rfl ?_
  refine e_r1 rfl ?_
  refine e_s rfl rfl ?_
  refine e_s rfl rfl ?_
  refine e_s rfl rfl ?_
  refine e_s rfl rfl ?_
  refine e_s rfl rfl ?_
  refine e_s rfl rfl ?_
  refine e_sc rfl (by decide) (k := 3) (by decide) e3 ?_
  refine e_c rfl rfl ⟨Nat.le_of_ble_eq_true rfl, Nat.le_of_ble_eq_true rfl, Nat.le_of_ble_eq_true rfl, xrcv_of (by decide) (g205)⟩ ?_
  refine e_s rfl rfl ?_
  refine e_s rfl rfl ?_
  refine e_c rfl rfl ⟨Nat.le_of_ble_eq_true rfl, Nat.le_of_ble_eq_true rfl, Nat.le_of_ble_eq_true rfl, xrcv_of (by decide) (g205)⟩ ?_
  refine e_s rfl rfl ?_
  refine e_s rfl rfl ?_
  refine e_gf rfl (by decide) g205 rfl ?_
  refine e_s rfl rfl ?_
  refine e_gf rfl (by decide) g205 rfl ?_
  refine e_s rfl rfl ?_
  refine e_gf rfl (by decide) g205 rfl ?_
  refine e_s rfl rfl ?_
  refine e_s rfl rfl ?_
  refine e_s rfl rfl ?_
  refine e_c rfl rfl ⟨Nat.le_of_ble_eq_true rfl, Nat.le_of_ble_eq_true rfl, Nat.le_of_ble_eq_true rfl, rfl⟩ ?_
  refine e_s rfl rfl ?_
  refine e_s rfl rfl ?_
  refine e_bf rfl rfl (by simp only [Int32.lt_iff_toInt_lt, Int32.le_iff_toInt_le]; omega) ?_
  refine e_s rfl rfl ?_
  refine e_s rfl rfl ?_
  refine e_bf rfl rfl (by simp only [Int32.lt_iff_toInt_lt, Int32.le_iff_toInt_le]; omega) ?_
  refine e_s rfl rfl ?_
  refine e_s rfl rfl ?_
  refine e_r2 rfl (by decide) ?_
  refine e_bt rfl rfl (by decide) ?_
  refine e_s rfl rfl ?_
  refine e_r2 rfl (by decide) ?_
  refine e_bf rfl rfl (by decide) ?_
  refine e_s rfl rfl ?_
  refine e_s rfl rfl ?_
  refine e_c rfl rfl ⟨Nat.le_of_ble_eq_true rfl, Nat.le_of_ble_eq_true rfl, Nat.le_of_ble_eq_true rfl, xrcv_of (by decide) (g205)⟩ ?_
  refine e_s rfl rfl ?_
  refine e_s rfl rfl ?_
  refine e_pf rfl (by decide) g205 (Nat.le_of_ble_eq_true rfl) rfl rfl ?_
  refine e_s rfl rfl ?_
  refine e_r1 rfl ?_
  refine e_r1 rfl ?_
  refine e_s rfl rfl ?_
  refine e_s rfl rfl ?_
  refine e_c rfl rfl ⟨Nat.le_of_ble_eq_true rfl, Nat.le_of_ble_eq_true rfl, Nat.le_of_ble_eq_true rfl, xrcv_of (by decide) (rfl)⟩ ?_
  refine e_s rfl rfl ?_
  refine e_gf rfl (by decide) rfl rfl ?_
  refine e_r1 rfl ?_
  refine e_s rfl rfl ?_
  refine e_bt rfl rfl (by decide) ?_
  refine e_s rfl rfl ?_
  refine e_bt rfl rfl (by decide) ?_
  refine e_s rfl rfl ?_
  refine e_s rfl rfl ?_
  refine e_s rfl rfl ?_
  refine e_s rfl rfl ?_
  refine e_s rfl rfl ?_
  refine e_s rfl rfl ?_
  refine e_s rfl rfl ?_
  refine e_s rfl rfl ?_
  refine e_bt rfl rfl (by decide) ?_
  refine e_s rfl rfl ?_
  refine e_r2 rfl (by decide) ?_
  exact rfl
theorem op_0 (hI : xI a c f) (ha : 1 ≤ a ∧ a ≤ 7) (hc : 1 ≤ c ∧ c ≤ 6) (hu : u ≤ 20000) (e3 : xs 3 = x) (e4 : xs 4 = y) (e5 : xs 5 = v) : evp 6 xs 10 0 152 xLL [] true (221, u, f) xΦ := by
  obtain ⟨⟨g1, g2, g3, g4, g6, g7, g139, g201⟩, ⟨g205, g206, g207, g209, g210⟩, g220⟩ := hI
  have t0 : (0 : Int32).toInt = 0 := rfl
  have t1 : (1 : Int32).toInt = 1 := rfl
  have t2 : (2 : Int32).toInt = 2 := rfl
  have tn : (-1 : Int32).toInt = -1 := rfl
  have tz : ((0 : Int32) - 1).toInt = -1 := rfl
  have ta : (nI a).toInt = (a : Int) := nI_toInt (by omega)
  have tc : (nI a + nI c).toInt = (a : Int) + c := by rw [nI_add, nI_toInt (by omega)]; omega
  have tm : (nI a + nI c - 1).toInt = (a : Int) + c - 1 := by
    obtain ⟨b, hb⟩ : ∃ b, a + c = b + 1 := ⟨a + c - 1, by omega⟩
    rw [nI_add, hb, nI_pred, nI_toInt (by omega)]; omega
  have tk : (nI a - 1).toInt = (a : Int) - 1 := by
    obtain ⟨b, hb⟩ : ∃ b, a = b + 1 := ⟨a - 1, by omega⟩
    rw [hb, nI_pred, nI_toInt (by omega)]; omega
  by_cases h0 : x.toInt < (a : Int)
  · refine e_s rfl rfl ?_
    refine e_s rfl rfl ?_
    refine e_s rfl rfl ?_
    refine e_s rfl rfl ?_
    refine e_s rfl rfl ?_
    refine e_sc rfl (by decide) (k := 3) (by decide) e3 ?_
    refine e_s rfl rfl ?_
    refine e_c rfl rfl ⟨Nat.le_of_ble_eq_true rfl, Nat.le_of_ble_eq_true rfl, Nat.le_of_ble_eq_true rfl, rfl⟩ ?_
    refine e_s rfl rfl ?_
    refine e_s rfl rfl ?_
    refine e_s rfl rfl ?_
    refine e_s rfl rfl ?_
    refine e_c rfl rfl ⟨Nat.le_of_ble_eq_true rfl, Nat.le_of_ble_eq_true rfl, Nat.le_of_ble_eq_true rfl, xrcv_of (by decide) (g1)⟩ ?_
    refine e_s rfl rfl ?_
    refine e_gf rfl (by decide) g1 rfl ?_
    refine e_s rfl rfl ?_
    refine e_c rfl rfl ⟨Nat.le_of_ble_eq_true rfl, Nat.le_of_ble_eq_true rfl, Nat.le_of_ble_eq_true rfl, xrcv_of (by decide) (g2)⟩ ?_
    refine e_s rfl rfl ?_
    refine e_s rfl rfl ?_
    refine e_gf rfl (by decide) g2 rfl ?_
    refine e_bt rfl rfl (by simp only [Int32.lt_iff_toInt_lt, Int32.le_iff_toInt_le]; omega) ?_
    refine e_s rfl rfl ?_
    refine e_r2 rfl (by decide) ?_
    refine e_bf rfl rfl (by decide) ?_
    refine e_th rfl (by omega) (by omega) (by decide) ⟨_, rfl, ?_⟩
    refine e_s rfl rfl ?_
    refine e_s rfl rfl ?_
    refine e_r1 rfl ?_
    refine e_s rfl rfl ?_
    refine e_s rfl rfl ?_
    refine e_s rfl rfl ?_
    refine e_s rfl rfl ?_
    refine e_s rfl rfl ?_
    refine e_s rfl rfl ?_
    refine e_sc rfl (by decide) (k := 3) (by decide) e3 ?_
    refine e_c rfl rfl ⟨Nat.le_of_ble_eq_true rfl, Nat.le_of_ble_eq_true rfl, Nat.le_of_ble_eq_true rfl, xrcv_of (by decide) (g205)⟩ ?_
    refine e_s rfl rfl ?_
    refine e_s rfl rfl ?_
    refine e_s rfl rfl ?_
    refine e_c rfl rfl ⟨Nat.le_of_ble_eq_true rfl, Nat.le_of_ble_eq_true rfl, Nat.le_of_ble_eq_true rfl, xrcv_of (by decide) (g205)⟩ ?_
    refine e_s rfl rfl ?_
    refine e_s rfl rfl ?_
    refine e_gf rfl (by decide) g205 rfl ?_
    refine e_s rfl rfl ?_
    refine e_gf rfl (by decide) g205 rfl ?_
    refine e_s rfl rfl ?_
    refine e_gf rfl (by decide) g205 rfl ?_
    refine e_s rfl rfl ?_
    refine e_s rfl rfl ?_
    refine e_s rfl rfl ?_
    refine e_c rfl rfl ⟨Nat.le_of_ble_eq_true rfl, Nat.le_of_ble_eq_true rfl, Nat.le_of_ble_eq_true rfl, rfl⟩ ?_
    refine e_s rfl rfl ?_
    refine e_s rfl rfl ?_
    refine e_bt rfl rfl (by simp only [Int32.lt_iff_toInt_lt, Int32.le_iff_toInt_le]; omega) ?_
    refine e_s rfl rfl ?_
    refine e_s rfl rfl ?_
    refine e_r2 rfl (by decide) ?_
    refine e_bt rfl rfl (by decide) ?_
    refine e_s rfl rfl ?_
    refine e_r2 rfl (by decide) ?_
    refine e_bf rfl rfl (by decide) ?_
    refine e_s rfl rfl ?_
    refine e_s rfl rfl ?_
    refine e_pf rfl (by decide) g205 (Nat.le_of_ble_eq_true rfl) rfl rfl ?_
    refine e_s rfl rfl ?_
    refine e_gf rfl (by decide) rfl rfl ?_
    refine e_bf rfl rfl (by decide) ?_
    refine e_s rfl rfl ?_
    refine e_r1 rfl ?_
    refine e_s rfl rfl ?_
    refine e_s rfl rfl ?_
    refine e_c rfl rfl ⟨Nat.le_of_ble_eq_true rfl, Nat.le_of_ble_eq_true rfl, Nat.le_of_ble_eq_true rfl, xrcv_of (by decide) (rfl)⟩ ?_
    refine e_s rfl rfl ?_
    refine e_gf rfl (by decide) rfl rfl ?_
    refine e_r1 rfl ?_
    refine e_s rfl rfl ?_
    refine e_bt rfl rfl (by decide) ?_
    refine e_s rfl rfl ?_
    refine e_bt rfl rfl (by decide) ?_
    refine e_s rfl rfl ?_
    refine e_s rfl rfl ?_
    refine e_s rfl rfl ?_
    refine e_s rfl rfl ?_
    refine e_s rfl rfl ?_
    refine e_s rfl rfl ?_
    refine e_s rfl rfl ?_
    refine e_s rfl rfl ?_
    refine e_bt rfl rfl (by decide) ?_
    refine e_s rfl rfl ?_
    refine e_r2 rfl (by decide) ?_
    exact rfl
  by_cases h1 : x.toInt < (a : Int) + c
  · obtain ⟨k, hk, kx⟩ := x_sub ha.2 hc.2 h0 h1
    refine e_s rfl rfl ?_
    refine e_s rfl rfl ?_
    refine e_s rfl rfl ?_
    refine e_s rfl rfl ?_
    refine e_s rfl rfl ?_
    refine e_sc rfl (by decide) (k := 3) (by decide) e3 ?_
    refine e_s rfl rfl ?_
    refine e_c rfl rfl ⟨Nat.le_of_ble_eq_true rfl, Nat.le_of_ble_eq_true rfl, Nat.le_of_ble_eq_true rfl, rfl⟩ ?_
    refine e_s rfl rfl ?_
    refine e_s rfl rfl ?_
    refine e_s rfl rfl ?_
    refine e_s rfl rfl ?_
    refine e_c rfl rfl ⟨Nat.le_of_ble_eq_true rfl, Nat.le_of_ble_eq_true rfl, Nat.le_of_ble_eq_true rfl, xrcv_of (by decide) (g1)⟩ ?_
    refine e_s rfl rfl ?_
    refine e_gf rfl (by decide) g1 rfl ?_
    refine e_s rfl rfl ?_
    refine e_c rfl rfl ⟨Nat.le_of_ble_eq_true rfl, Nat.le_of_ble_eq_true rfl, Nat.le_of_ble_eq_true rfl, xrcv_of (by decide) (g2)⟩ ?_
    refine e_s rfl rfl ?_
    refine e_s rfl rfl ?_
    refine e_gf rfl (by decide) g2 rfl ?_
    refine e_bf rfl rfl (by simp only [Int32.lt_iff_toInt_lt, Int32.le_iff_toInt_le]; omega) ?_
    refine e_s rfl rfl ?_
    refine e_s rfl rfl ?_
    refine e_gf rfl (by decide) g2 rfl ?_
    refine e_s rfl rfl ?_
    refine e_gf rfl (by decide) g2 rfl ?_
    refine e_s rfl rfl ?_
    refine e_bf rfl rfl (by simp only [Int32.lt_iff_toInt_lt, Int32.le_iff_toInt_le]; omega) ?_
    refine e_s rfl rfl ?_
    refine e_s rfl rfl ?_
    refine e_r2 rfl (by decide) ?_
    refine e_bt rfl rfl (by decide) ?_
    refine e_s rfl rfl ?_
    refine e_gf rfl (by decide) g1 rfl ?_
    refine e_bf rfl rfl (by decide) ?_
    refine e_s rfl rfl ?_
    refine e_gf rfl (by decide) g1 rfl ?_
    refine e_c rfl rfl ⟨Nat.le_of_ble_eq_true rfl, Nat.le_of_ble_eq_true rfl, Nat.le_of_ble_eq_true rfl, xrcv_of (by decide) (g2)⟩ ?_
    refine e_s rfl rfl ?_
    refine e_gf rfl (by decide) g2 rfl ?_
    refine e_s rfl rfl ?_
    refine e_bf rfl rfl (by decide) ?_
    refine e_s rfl rfl ?_
    refine e_s rfl rfl ?_
    refine e_r2 rfl (by decide) ?_
    refine e_bt rfl rfl (by decide) ?_
    refine e_s rfl rfl ?_
    refine e_gf rfl (by decide) g1 rfl ?_
    refine e_c rfl rfl ⟨Nat.le_of_ble_eq_true rfl, Nat.le_of_ble_eq_true rfl, Nat.le_of_ble_eq_true rfl, xrcv_of (by decide) (g139)⟩ ?_
    refine e_s rfl rfl ?_
    refine e_s rfl rfl ?_
    refine e_pf rfl (by decide) g139 (Nat.le_of_ble_eq_true rfl) rfl rfl ?_
    refine e_s rfl rfl ?_
    refine e_s rfl rfl ?_
    refine e_pf rfl (by decide) rfl (Nat.le_of_ble_eq_true rfl) rfl rfl ?_
    refine e_r0 rfl ?_
    refine e_s rfl rfl ?_
    refine e_gf rfl (by decide) g1 rfl ?_
    refine e_s rfl rfl ?_
    refine e_c rfl rfl ⟨Nat.le_of_ble_eq_true rfl, Nat.le_of_ble_eq_true rfl, Nat.le_of_ble_eq_true rfl, xrcv_of (by decide) (g2)⟩ ?_
    refine e_s rfl rfl ?_
    refine e_gf rfl (by decide) g2 rfl ?_
    refine e_s rfl rfl ?_
    refine e_gf rfl (by decide) g2 rfl ?_
    refine e_s rfl rfl ?_
    refine e_ias rfl (by decide) g3 (by decide) ?_
    refine e_s rfl rfl ?_
    refine e_gf rfl (by decide) g2 rfl ?_
    refine e_s rfl rfl ?_
    refine e_gf rfl (by decide) g2 rfl ?_
    refine e_s rfl rfl ?_
    refine e_s rfl rfl ?_
    refine e_s rfl rfl ?_
    refine e_gf rfl (by decide) g2 rfl ?_
    refine e_s rfl rfl ?_
    refine e_gf rfl (by decide) g2 rfl ?_
    refine e_ia0 rfl (by decide) g4 (by decide) ?_
    refine e_ias rfl (by decide) g4 (by decide) ?_
    refine e_s rfl rfl ?_
    refine e_s rfl rfl ?_
    refine e_gf rfl (by decide) g2 rfl ?_
    refine e_s rfl rfl ?_
    refine e_s rfl rfl ?_
    refine e_pf rfl (by decide) g2 (Nat.le_of_ble_eq_true rfl) rfl rfl ?_
    refine e_s rfl rfl ?_
    refine e_gf rfl (by decide) rfl rfl ?_
    refine e_s rfl rfl ?_
    refine e_s rfl rfl ?_
    refine e_r1 rfl ?_
    refine e_r1 rfl ?_
    refine e_s rfl rfl ?_
    refine e_las rfl (by decide) g220 (by decide) ?_
    refine e_s rfl rfl ?_
    refine e_s rfl rfl ?_
    refine e_r1 rfl ?_
    refine e_s rfl rfl ?_
    refine e_s rfl rfl ?_
    refine e_s rfl rfl ?_
    refine e_s rfl rfl ?_
    refine e_s rfl rfl ?_
    refine e_s rfl rfl ?_
    refine e_sc rfl (by decide) (k := 3) (by decide) e3 ?_
    refine e_c rfl rfl ⟨Nat.le_of_ble_eq_true rfl, Nat.le_of_ble_eq_true rfl, Nat.le_of_ble_eq_true rfl, xrcv_of (by decide) (g205)⟩ ?_
    refine e_s rfl rfl ?_
    refine e_s rfl rfl ?_
    refine e_s rfl rfl ?_
    refine e_c rfl rfl ⟨Nat.le_of_ble_eq_true rfl, Nat.le_of_ble_eq_true rfl, Nat.le_of_ble_eq_true rfl, xrcv_of (by decide) (g205)⟩ ?_
    refine e_s rfl rfl ?_
    refine e_s rfl rfl ?_
    refine e_gf rfl (by decide) g205 rfl ?_
    refine e_s rfl rfl ?_
    refine e_gf rfl (by decide) g205 rfl ?_
    refine e_s rfl rfl ?_
    refine e_gf rfl (by decide) g205 rfl ?_
    refine e_s rfl rfl ?_
    refine e_s rfl rfl ?_
    refine e_s rfl rfl ?_
    refine e_c rfl rfl ⟨Nat.le_of_ble_eq_true rfl, Nat.le_of_ble_eq_true rfl, Nat.le_of_ble_eq_true rfl, rfl⟩ ?_
    refine e_s rfl rfl ?_
    refine e_s rfl rfl ?_
    refine e_bf rfl rfl (by simp only [Int32.lt_iff_toInt_lt, Int32.le_iff_toInt_le]; omega) ?_
    refine e_s rfl rfl ?_
    refine e_s rfl rfl ?_
    refine e_bt rfl rfl (by simp only [Int32.lt_iff_toInt_lt, Int32.le_iff_toInt_le]; omega) ?_
    refine e_s rfl rfl ?_
    refine e_r2 rfl (by decide) ?_
    refine e_bf rfl rfl (by decide) ?_
    refine e_s rfl rfl ?_
    refine e_s rfl rfl ?_
    refine e_r2 rfl (by decide) ?_
    refine e_bt rfl rfl (by decide) ?_
    refine e_s rfl rfl ?_
    refine e_gf rfl (by decide) g205 rfl ?_
    refine e_bf rfl rfl (by decide) ?_
    refine e_s rfl rfl ?_
    refine e_gf rfl (by decide) g205 rfl ?_
    refine e_s rfl rfl ?_
    refine e_bt rfl rfl (by decide) ?_
    refine e_s rfl rfl ?_
    refine e_pf rfl (by decide) g205 (Nat.le_of_ble_eq_true rfl) rfl rfl ?_
    refine e_s rfl rfl ?_
    refine e_gf rfl (by decide) rfl rfl ?_
    refine e_bt rfl rfl (by decide) ?_
    refine e_s rfl rfl ?_
    refine e_gf rfl (by decide) rfl rfl ?_
    refine e_s rfl rfl ?_
    refine e_gf rfl (by decide) rfl rfl ?_
    refine e_s rfl rfl ?_
    refine e_ias rfl (by decide) g206 (by decide) ?_
    refine e_s rfl rfl ?_
    refine e_gf rfl (by decide) rfl rfl ?_
    refine e_s rfl rfl ?_
    refine e_gf rfl (by decide) rfl rfl ?_
    refine e_s rfl rfl ?_
    refine e_ias0 rfl (by decide) g207 (by decide) ?_
    refine e_s rfl rfl ?_
    refine e_s rfl rfl ?_
    refine e_gf rfl (by decide) rfl rfl ?_
    refine e_s rfl rfl ?_
    refine e_s rfl rfl ?_
    refine e_pf rfl (by decide) rfl (Nat.le_of_ble_eq_true rfl) rfl rfl ?_
    refine e_s rfl rfl ?_
    refine e_c rfl rfl ⟨Nat.le_of_ble_eq_true rfl, Nat.le_of_ble_eq_true rfl, Nat.le_of_ble_eq_true rfl, xrcv_of (by decide) (rfl)⟩ ?_
    refine e_s rfl rfl ?_
    refine e_s rfl rfl ?_
    refine e_pf rfl (by decide) rfl (Nat.le_of_ble_eq_true rfl) rfl rfl ?_
    refine e_s rfl rfl ?_
    refine e_s rfl rfl ?_
    refine e_pf rfl (by decide) rfl (Nat.le_of_ble_eq_true rfl) rfl rfl ?_
    refine e_s rfl rfl ?_
    refine e_c rfl rfl ⟨Nat.le_of_ble_eq_true rfl, Nat.le_of_ble_eq_true rfl, Nat.le_of_ble_eq_true rfl, xrcv_of (by decide) (rfl)⟩ ?_
    refine m_relate1 (a := a) (c := c) ha hc rfl rfl rfl rfl g210 rfl rfl rfl rfl rfl g207 g209 (by decide) hk kx (fun w g => ?_)
    refine e_r0 rfl ?_
    refine e_s rfl rfl ?_
    refine e_gf rfl (by decide) rfl rfl ?_
    refine e_s rfl rfl ?_
    refine e_s rfl rfl ?_
    refine e_r1 rfl ?_
    refine e_s rfl rfl ?_
    refine e_s rfl rfl ?_
    refine e_c rfl rfl ⟨Nat.le_of_ble_eq_true rfl, Nat.le_of_ble_eq_true rfl, Nat.le_of_ble_eq_true rfl, xrcv_of (by decide) (rfl)⟩ ?_
    refine e_s rfl rfl ?_
    refine e_gf rfl (by decide) rfl rfl ?_
    refine e_r1 rfl ?_
    refine e_s rfl rfl ?_
    refine e_bt rfl rfl (by decide) ?_
    refine e_s rfl rfl ?_
    refine e_bf rfl rfl (by decide) ?_
    refine e_s rfl rfl ?_
    refine e_s rfl rfl ?_
    refine e_la rfl (by decide) rfl (by decide) ?_
    refine e_s rfl rfl ?_
    refine e_s rfl rfl ?_
    refine e_s rfl rfl ?_
    refine e_bt rfl rfl (by decide) ?_
    refine e_s rfl rfl ?_
    refine e_s rfl rfl ?_
    refine e_s rfl rfl ?_
    refine e_s rfl rfl ?_
    refine e_s rfl rfl ?_
    refine e_s rfl rfl ?_
    refine e_s rfl rfl ?_
    refine e_s rfl rfl ?_
    refine e_bt rfl rfl (by decide) ?_
    refine e_s rfl rfl ?_
    refine e_r2 rfl (by decide) ?_
    exact rfl
  refine e_s rfl rfl ?_
  refine e_s rfl rfl ?_
  refine e_s rfl rfl ?_
  refine e_s rfl rfl ?_
  refine e_s rfl rfl ?_
  refine e_sc rfl (by decide) (k := 3) (by decide) e3 ?_
  refine e_s rfl rfl ?_
  refine e_c rfl rfl ⟨Nat.le_of_ble_eq_true rfl, Nat.le_of_ble_eq_true rfl, Nat.le_of_ble_eq_true rfl, rfl⟩ ?_
  refine e_s rfl rfl ?_
  refine e_s rfl rfl ?_
  refine e_s rfl rfl ?_
  refine e_s rfl rfl ?_
  refine e_c rfl rfl ⟨Nat.le_of_ble_eq_true rfl, Nat.le_of_ble_eq_true rfl, Nat.le_of_ble_eq_true rfl, xrcv_of (by decide) (g1)⟩ ?_
  refine e_s rfl rfl ?_
  refine e_gf rfl (by decide) g1 rfl ?_
  refine e_s rfl rfl ?_
  refine e_c rfl rfl ⟨Nat.le_of_ble_eq_true rfl, Nat.le_of_ble_eq_true rfl, Nat.le_of_ble_eq_true rfl, xrcv_of (by decide) (g2)⟩ ?_
  refine e_s rfl rfl ?_
  refine e_s rfl rfl ?_
  refine e_gf rfl (by decide) g2 rfl ?_
  refine e_bf rfl rfl (by simp only [Int32.lt_iff_toInt_lt, Int32.le_iff_toInt_le]; omega) ?_
  refine e_s rfl rfl ?_
  refine e_s rfl rfl ?_
  refine e_gf rfl (by decide) g2 rfl ?_
  refine e_s rfl rfl ?_
  refine e_gf rfl (by decide) g2 rfl ?_
  refine e_s rfl rfl ?_
  refine e_bt rfl rfl (by simp only [Int32.lt_iff_toInt_lt, Int32.le_iff_toInt_le]; omega) ?_
  refine e_s rfl rfl ?_
  refine e_r2 rfl (by decide) ?_
  refine e_bf rfl rfl (by decide) ?_
  refine e_th rfl (by omega) (by omega) (by decide) ⟨_, rfl, ?_⟩
  refine e_s rfl rfl ?_
  refine e_s rfl rfl ?_
  refine e_r1 rfl ?_
  refine e_s rfl rfl ?_
  refine e_s rfl rfl ?_
  refine e_s rfl rfl ?_
  refine e_s rfl rfl ?_
  refine e_s rfl rfl ?_
  refine e_s rfl rfl ?_
  refine e_sc rfl (by decide) (k := 3) (by decide) e3 ?_
  refine e_c rfl rfl ⟨Nat.le_of_ble_eq_true rfl, Nat.le_of_ble_eq_true rfl, Nat.le_of_ble_eq_true rfl, xrcv_of (by decide) (g205)⟩ ?_
  refine e_s rfl rfl ?_
  refine e_s rfl rfl ?_
  refine e_s rfl rfl ?_
  refine e_c rfl rfl ⟨Nat.le_of_ble_eq_true rfl, Nat.le_of_ble_eq_true rfl, Nat.le_of_ble_eq_true rfl, xrcv_of (by decide) (g205)⟩ ?_
  refine e_s rfl rfl ?_
  refine e_s rfl rfl ?_
  refine e_gf rfl (by decide) g205 rfl ?_
  refine e_s rfl rfl ?_
  refine e_gf rfl (by decide) g205 rfl ?_
  refine e_s rfl rfl ?_
  refine e_gf rfl (by decide) g205 rfl ?_
  refine e_s rfl rfl ?_
  refine e_s rfl rfl ?_
  refine e_s rfl rfl ?_
  refine e_c rfl rfl ⟨Nat.le_of_ble_eq_true rfl, Nat.le_of_ble_eq_true rfl, Nat.le_of_ble_eq_true rfl, rfl⟩ ?_
  refine e_s rfl rfl ?_
  refine e_s rfl rfl ?_
  refine e_bf rfl rfl (by simp only [Int32.lt_iff_toInt_lt, Int32.le_iff_toInt_le]; omega) ?_
  refine e_s rfl rfl ?_
  refine e_s rfl rfl ?_
  refine e_bf rfl rfl (by simp only [Int32.lt_iff_toInt_lt, Int32.le_iff_toInt_le]; omega) ?_
  refine e_s rfl rfl ?_
  refine e_s rfl rfl ?_
  refine e_r2 rfl (by decide) ?_
  refine e_bt rfl rfl (by decide) ?_
  refine e_s rfl rfl ?_
  refine e_r2 rfl (by decide) ?_
  refine e_bf rfl rfl (by decide) ?_
  refine e_s rfl rfl ?_
  refine e_s rfl rfl ?_
  refine e_pf rfl (by decide) g205 (Nat.le_of_ble_eq_true rfl) rfl rfl ?_
  refine e_s rfl rfl ?_
  refine e_gf rfl (by decide) rfl rfl ?_
  refine e_bf rfl rfl (by decide) ?_
  refine e_s rfl rfl ?_
  refine e_r1 rfl ?_
  refine e_s rfl rfl ?_
  refine e_s rfl rfl ?_
  refine e_c rfl rfl ⟨Nat.le_of_ble_eq_true rfl, Nat.le_of_ble_eq_true rfl, Nat.le_of_ble_eq_true rfl, xrcv_of (by decide) (rfl)⟩ ?_
  refine e_s rfl rfl ?_
  refine e_gf rfl (by decide) rfl rfl ?_
  refine e_r1 rfl ?_
  refine e_s rfl rfl ?_
  refine e_bt rfl rfl (by decide) ?_
  refine e_s rfl rfl ?_
  refine e_bt rfl rfl (by decide) ?_
  refine e_s rfl rfl ?_
  refine e_s rfl rfl ?_
  refine e_s rfl rfl ?_
  refine e_s rfl rfl ?_
  refine e_s rfl rfl ?_
  refine e_s rfl rfl ?_
  refine e_s rfl rfl ?_
  refine e_s rfl rfl ?_
  refine e_bt rfl rfl (by decide) ?_
  refine e_s rfl rfl ?_
  refine e_r2 rfl (by decide) ?_
  exact rfl
end OPS
