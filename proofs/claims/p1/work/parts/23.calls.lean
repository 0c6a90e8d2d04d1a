/-! One call on the fresh object and on the fresh model: the calls without a loop. -/
/-- what the loop of the law finds -/
def xI (a c : Nat) (f : Nat → Option xB) : Prop := xFr a c f ∧ xFm a c f ∧ f 220 = some (.inr (.inr (.inl (1, fun _ => 0))))
/-- the law's locals at its loop -/
def xLL : xL := [(4, .int 2), (3, .ref 220), (2, .ref 205), (1, .ref 1), (0, .ref 0)]
/-- what is to come -/
def xΦ : xR → Bool → xH → Prop := fun r _ _ => r = .inl (some (.int 1))
section OP
variable {Ls : Nat} {xs : Nat → Int32} {d j pc : Nat} {L : xL} {st : List Value} {w : Bool} {h : xH} {Φ : xR → Bool → xH → Prop} {z u m nx : Nat} {f : Nat → Option xB}
theorem e_bt {F : xS} {c : Prop} {dc : Decidable c} {pa pb : Nat} {L' : xL} {st' : List Value} {w1 : Bool} {h1 : xH} (hP : xP Ls xs j pc = some (.inl F)) (hF : F L st w h = some (@ite Nat c dc pa pb, L', st', w1, h1)) (hc : c) (k : evp Ls xs d j pa L' st' w1 h1 Φ) : evp Ls xs d j pc L st w h Φ := e_s hP (by rw [hF, if_pos hc]) k
theorem e_bf {F : xS} {c : Prop} {dc : Decidable c} {pa pb : Nat} {L' : xL} {st' : List Value} {w1 : Bool} {h1 : xH} (hP : xP Ls xs j pc = some (.inl F)) (hF : F L st w h = some (@ite Nat c dc pa pb, L', st', w1, h1)) (hc : ¬ c) (k : evp Ls xs d j pb L' st' w1 h1 Φ) : evp Ls xs d j pc L st w h Φ := e_s hP (by rw [hF, if_neg hc]) k
theorem e_sc {i v : Int32} {k : Nat} (hP : xP Ls xs j pc = some (.inl (xs_ia Ls xs nx))) (hi : xin i Ls) (hk : i.toNatClampNeg = k) (hv : xs k = v) (kk : evp Ls xs d j nx L (.int v :: st) w h Φ) : evp Ls xs d j pc L (.int i :: .ref 0 :: st) w h Φ := by
  subst hk
  subst hv
  exact e_s hP (if_pos hi) kk
theorem e_la {n : Nat} {g : Nat → Int64} {i : Int32} (hP : xP Ls xs j pc = some (.inl (xs_la nx))) (hm : 0 < m) (hc : f m = some (.inr (.inr (.inl (n, g))))) (hi : xin i n) (kk : evp Ls xs d j nx L (.long (g i.toNatClampNeg) :: st) w (z, u, f) Φ) : evp Ls xs d j pc L (.int i :: .ref m :: st) w (z, u, f) Φ := by
  obtain ⟨q, rfl⟩ : ∃ q, m = q + 1 := ⟨m - 1, by omega⟩
  refine e_s hP ?_ kk
  unfold xs_la
  simp only [hc]
  exact if_pos hi
theorem e_th {x : Nat} (hP : xP Ls xs j pc = some (.inr (.inr (x + 3)))) (hz : z + 1 ≤ 600003) (hu : u + 6 ≤ 7302198) (hd : 6 ≤ d) (k : Φ (.inr (x, z)) true (z + 1, u + 6, xup f z none)) : evp Ls xs d j pc L [] false (z, u, f) Φ := e_t hP ⟨hz, hu, hd⟩ k
end OP
section OPS
variable {xs : Nat → Int32} {a c u : Nat} {f : Nat → Option xB} {x y v : Int32}
theorem op_1 (hI : xI a c f) (ha : 1 ≤ a ∧ a ≤ 7) (hc : 1 ≤ c ∧ c ≤ 6) (hu : u ≤ 20000) (e3 : xs 3 = x) (e4 : xs 4 = y) (e5 : xs 5 = v) : evp 6 xs 10 0 208 xLL [] true (221, u, f) xΦ := by
  obtain ⟨⟨g1, g2, g3, g4, g6, g7, g139, g201⟩, ⟨g205, g206, g207, g209, g210⟩, g220⟩ := hI
  have t0 : (0 : Int32).toInt = 0 := rfl
  have t1 : (1 : Int32).toInt = 1 := rfl
  have t2 : (2 : Int32).toInt = 2 := rfl
  have tn : (-1 : Int32).toInt = -1 := rfl
  have tz : ((0 : Int32) - 1).toInt = -1 := rfl
  have ta : (nI a).toInt = (a : Int) := nI_toInt (by omega)
  have tc : (nI a + nI c).toInt = (a : Int) + c := by rw [nI_add, nI_toInt (by omega)]; omega
  have tm : (nI a + nI c - 1).toInt = (a : Int) + c - 1 := by
    obtain ⟨b, hb⟩ : ∃ b, a + c = b + 1 := ⟨a + c - 1, by omega⟩
    rw [nI_add, hb, nI_pred, nI_toInt (by omega)]; omega
  have tk : (nI a - 1).toInt = (a : Int) - 1 := by
    obtain ⟨b, hb⟩ : ∃ b, a = b + 1 := ⟨a - 1, by omega⟩
    rw [hb, nI_pred, nI_toInt (by omega)]; omega
  by_cases h0 : x.toInt < 0
  · refine e_s rfl rfl ?_
    refine e_s rfl rfl ?_
    refine e_s rfl rfl ?_
    refine e_s rfl rfl ?_
    refine e_s rfl rfl ?_
    refine e_sc rfl (by decide) (k := 3) (by decide) e3 ?_
    refine e_c rfl rfl ⟨Nat.le_of_ble_eq_true rfl, Nat.le_of_ble_eq_true rfl, Nat.le_of_ble_eq_true rfl, rfl⟩ ?_
    refine e_s rfl rfl ?_
    refine e_s rfl rfl ?_
    refine e_c rfl rfl ⟨Nat.le_of_ble_eq_true rfl, Nat.le_of_ble_eq_true rfl, Nat.le_of_ble_eq_true rfl, xrcv_of (by decide) (g1)⟩ ?_
    refine e_s rfl rfl ?_
    refine e_gf rfl (by decide) g1 rfl ?_
    refine e_s rfl rfl ?_
    refine e_c rfl rfl ⟨Nat.le_of_ble_eq_true rfl, Nat.le_of_ble_eq_true rfl, Nat.le_of_ble_eq_true rfl, xrcv_of (by decide) (g2)⟩ ?_
    refine e_s rfl rfl ?_
    refine e_bt rfl rfl (by simp only [Int32.lt_iff_toInt_lt, Int32.le_iff_toInt_le]; omega) ?_
    refine e_s rfl rfl ?_
    refine e_r2 rfl (by decide) ?_
    refine e_bf rfl rfl (by decide) ?_
    refine e_th rfl (by omega) (by omega) (by decide) ⟨_, rfl, ?_⟩
    refine e_s rfl rfl ?_
    refine e_s rfl rfl ?_
    refine e_r1 rfl ?_
    refine e_s rfl rfl ?_
    refine e_s rfl rfl ?_
    refine e_s rfl rfl ?_
    refine e_s rfl rfl ?_
    refine e_s rfl rfl ?_
    refine e_s rfl rfl ?_
    refine e_sc rfl (by decide) (k := 3) (by decide) e3 ?_
    refine e_c rfl rfl ⟨Nat.le_of_ble_eq_true rfl, Nat.le_of_ble_eq_true rfl, Nat.le_of_ble_eq_true rfl, xrcv_of (by decide) (g205)⟩ ?_
    refine e_s rfl rfl ?_
    refine e_s rfl rfl ?_
    refine e_s rfl rfl ?_
    refine e_s rfl rfl ?_
    refine e_gf rfl (by decide) g205 rfl ?_
    refine e_s rfl rfl ?_
    refine e_gf rfl (by decide) g205 rfl ?_
    refine e_s rfl rfl ?_
    refine e_s rfl rfl ?_
    refine e_s rfl rfl ?_
    refine e_c rfl rfl ⟨Nat.le_of_ble_eq_true rfl, Nat.le_of_ble_eq_true rfl, Nat.le_of_ble_eq_true rfl, rfl⟩ ?_
    refine e_s rfl rfl ?_
    refine e_s rfl rfl ?_
    refine e_bt rfl rfl (by simp only [Int32.lt_iff_toInt_lt, Int32.le_iff_toInt_le]; omega) ?_
    refine e_s rfl rfl ?_
    refine e_s rfl rfl ?_
    refine e_r2 rfl (by decide) ?_
    refine e_bf rfl rfl (by decide) ?_
    refine e_s rfl rfl ?_
    refine e_s rfl rfl ?_
    refine e_pf rfl (by decide) g205 (Nat.le_of_ble_eq_true rfl) rfl rfl ?_
    refine e_s rfl rfl ?_
    refine e_gf rfl (by decide) rfl rfl ?_
    refine e_bf rfl rfl (by decide) ?_
    refine e_r0 rfl ?_
    refine e_s rfl rfl ?_
    refine e_c rfl rfl ⟨Nat.le_of_ble_eq_true rfl, Nat.le_of_ble_eq_true rfl, Nat.le_of_ble_eq_true rfl, xrcv_of (by decide) (rfl)⟩ ?_
    refine e_s rfl rfl ?_
    refine e_gf rfl (by decide) rfl rfl ?_
    refine e_r1 rfl ?_
    refine e_s rfl rfl ?_
    refine e_bt rfl rfl (by decide) ?_
    refine e_s rfl rfl ?_
    refine e_s rfl rfl ?_
    refine e_s rfl rfl ?_
    refine e_s rfl rfl ?_
    refine e_s rfl rfl ?_
    refine e_s rfl rfl ?_
    refine e_s rfl rfl ?_
    refine e_s rfl rfl ?_
    refine e_bt rfl rfl (by decide) ?_
    refine e_s rfl rfl ?_
    refine e_r2 rfl (by decide) ?_
    exact rfl
  by_cases h1 : x.toInt < (a : Int) + c
  · refine e_s rfl rfl ?_
    refine e_s rfl rfl ?_
    refine e_s rfl rfl ?_
    refine e_s rfl rfl ?_
    refine e_s rfl rfl ?_
    refine e_sc rfl (by decide) (k := 3) (by decide) e3 ?_
    refine e_c rfl rfl ⟨Nat.le_of_ble_eq_true rfl, Nat.le_of_ble_eq_true rfl, Nat.le_of_ble_eq_true rfl, rfl⟩ ?_
    refine e_s rfl rfl ?_
    refine e_s rfl rfl ?_
    refine e_c rfl rfl ⟨Nat.le_of_ble_eq_true rfl, Nat.le_of_ble_eq_true rfl, Nat.le_of_ble_eq_true rfl, xrcv_of (by decide) (g1)⟩ ?_
    refine e_s rfl rfl ?_
    refine e_gf rfl (by decide) g1 rfl ?_
    refine e_s rfl rfl ?_
    refine e_c rfl rfl ⟨Nat.le_of_ble_eq_true rfl, Nat.le_of_ble_eq_true rfl, Nat.le_of_ble_eq_true rfl, xrcv_of (by decide) (g2)⟩ ?_
    refine e_s rfl rfl ?_
    refine e_bf rfl rfl (by simp only [Int32.lt_iff_toInt_lt, Int32.le_iff_toInt_le]; omega) ?_
    refine e_s rfl rfl ?_
    refine e_s rfl rfl ?_
    refine e_gf rfl (by decide) g2 rfl ?_
    refine e_s rfl rfl ?_
    refine e_gf rfl (by decide) g2 rfl ?_
    refine e_s rfl rfl ?_
    refine e_bf rfl rfl (by simp only [Int32.lt_iff_toInt_lt, Int32.le_iff_toInt_le]; omega) ?_
    refine e_s rfl rfl ?_
    refine e_s rfl rfl ?_
    refine e_r2 rfl (by decide) ?_
    refine e_bt rfl rfl (by decide) ?_
    refine e_s rfl rfl ?_
    refine e_gf rfl (by decide) g1 rfl ?_
    refine e_bf rfl rfl (by decide) ?_
    refine e_s rfl rfl ?_
    refine e_gf rfl (by decide) g1 rfl ?_
    refine e_c rfl rfl ⟨Nat.le_of_ble_eq_true rfl, Nat.le_of_ble_eq_true rfl, Nat.le_of_ble_eq_true rfl, xrcv_of (by decide) (g2)⟩ ?_
    refine e_s rfl rfl ?_
    refine e_gf rfl (by decide) g2 rfl ?_
    refine e_bt rfl rfl (by decide) ?_
    refine e_s rfl rfl ?_
    refine e_r2 rfl (by decide) ?_
    refine e_bf rfl rfl (by decide) ?_
    refine e_th rfl (by omega) (by omega) (by decide) ⟨_, rfl, ?_⟩
    refine e_s rfl rfl ?_
    refine e_s rfl rfl ?_
    refine e_r1 rfl ?_
    refine e_s rfl rfl ?_
    refine e_s rfl rfl ?_
    refine e_s rfl rfl ?_
    refine e_s rfl rfl ?_
    refine e_s rfl rfl ?_
    refine e_s rfl rfl ?_
    refine e_sc rfl (by decide) (k := 3) (by decide) e3 ?_
    refine e_c rfl rfl ⟨Nat.le_of_ble_eq_true rfl, Nat.le_of_ble_eq_true rfl, Nat.le_of_ble_eq_true rfl, xrcv_of (by decide) (g205)⟩ ?_
    refine e_s rfl rfl ?_
    refine e_s rfl rfl ?_
    refine e_s rfl rfl ?_
    refine e_s rfl rfl ?_
    refine e_gf rfl (by decide) g205 rfl ?_
    refine e_s rfl rfl ?_
    refine e_gf rfl (by decide) g205 rfl ?_
    refine e_s rfl rfl ?_
    refine e_s rfl rfl ?_
    refine e_s rfl rfl ?_
    refine e_c rfl rfl ⟨Nat.le_of_ble_eq_true rfl, Nat.le_of_ble_eq_true rfl, Nat.le_of_ble_eq_true rfl, rfl⟩ ?_
    refine e_s rfl rfl ?_
    refine e_s rfl rfl ?_
    refine e_bf rfl rfl (by simp only [Int32.lt_iff_toInt_lt, Int32.le_iff_toInt_le]; omega) ?_
    refine e_s rfl rfl ?_
    refine e_s rfl rfl ?_
    refine e_bt rfl rfl (by simp only [Int32.lt_iff_toInt_lt, Int32.le_iff_toInt_le]; omega) ?_
    refine e_s rfl rfl ?_
    refine e_r2 rfl (by decide) ?_
    refine e_bt rfl rfl (by decide) ?_
    refine e_s rfl rfl ?_
    refine e_gf rfl (by decide) g205 rfl ?_
    refine e_bf rfl rfl (by decide) ?_
    refine e_s rfl rfl ?_
    refine e_gf rfl (by decide) g205 rfl ?_
    refine e_bt rfl rfl (by decide) ?_
    refine e_s rfl rfl ?_
    refine e_s rfl rfl ?_
    refine e_pf rfl (by decide) g205 (Nat.le_of_ble_eq_true rfl) rfl rfl ?_
    refine e_s rfl rfl ?_
    refine e_gf rfl (by decide) rfl rfl ?_
    refine e_bf rfl rfl (by decide) ?_
    refine e_r0 rfl ?_
    refine e_s rfl rfl ?_
    refine e_c rfl rfl ⟨Nat.le_of_ble_eq_true rfl, Nat.le_of_ble_eq_true rfl, Nat.le_of_ble_eq_true rfl, xrcv_of (by decide) (rfl)⟩ ?_
    refine e_s rfl rfl ?_
    refine e_gf rfl (by decide) rfl rfl ?_
    refine e_r1 rfl ?_
    refine e_s rfl rfl ?_
    refine e_bt rfl rfl (by decide) ?_
    refine e_s rfl rfl ?_
    refine e_s rfl rfl ?_
    refine e_s rfl rfl ?_
    refine e_s rfl rfl ?_
    refine e_s rfl rfl ?_
    refine e_s rfl rfl ?_
    refine e_s rfl rfl ?_
    refine e_s rfl rfl ?_
    refine e_bt rfl rfl (by decide) ?_
    refine e_s rfl rfl ?_
    refine e_r2 rfl (by decide) ?_
    exact rfl
  refine e_s rfl rfl ?_
  refine e_s rfl rfl ?_
  refine e_s rfl rfl ?_
  refine e_s rfl rfl ?_
  refine e_s rfl rfl ?_
  refine e_sc rfl (by decide) (k := 3) (by decide) e3 ?_
  refine e_c rfl rfl ⟨Nat.le_of_ble_eq_true rfl, Nat.le_of_ble_eq_true rfl, Nat.le_of_ble_eq_true rfl, rfl⟩ ?_
  refine e_s rfl rfl ?_
  refine e_s rfl rfl ?_
  refine e_c rfl rfl ⟨Nat.le_of_ble_eq_true rfl, Nat.le_of_ble_eq_true rfl, Nat.le_of_ble_eq_true rfl, xrcv_of (by decide) (g1)⟩ ?_
  refine e_s rfl rfl ?_
  refine e_gf rfl (by decide) g1 rfl ?_
  refine e_s rfl rfl ?_
  refine e_c rfl rfl ⟨Nat.le_of_ble_eq_true rfl, Nat.le_of_ble_eq_true rfl, Nat.le_of_ble_eq_true rfl, xrcv_of (by decide) (g2)⟩ ?_
  refine e_s rfl rfl ?_
  refine e_bf rfl rfl (by simp only [Int32.lt_iff_toInt_lt, Int32.le_iff_toInt_le]; omega) ?_
  refine e_s rfl rfl ?_
  refine e_s rfl rfl ?_
  refine e_gf rfl (by decide) g2 rfl ?_
  refine e_s rfl rfl ?_
  refine e_gf rfl (by decide) g2 rfl ?_
  refine e_s rfl rfl ?_
  refine e_bt rfl rfl (by simp only [Int32.lt_iff_toInt_lt, Int32.le_iff_toInt_le]; omega) ?_
  refine e_s rfl rfl ?_
  refine e_r2 rfl (by decide) ?_
  refine e_bf rfl rfl (by decide) ?_
  refine e_th rfl (by omega) (by omega) (by decide) ⟨_, rfl, ?_⟩
  refine e_s rfl rfl ?_
  refine e_s rfl rfl ?_
  refine e_r1 rfl ?_
  refine e_s rfl rfl ?_
  refine e_s rfl rfl ?_
  refine e_s rfl rfl ?_
  refine e_s rfl rfl ?_
  refine e_s rfl rfl ?_
  refine e_s rfl rfl ?_
  refine e_sc rfl (by decide) (k := 3) (by decide) e3 ?_
  refine e_c rfl rfl ⟨Nat.le_of_ble_eq_true rfl, Nat.le_of_ble_eq_true rfl, Nat.le_of_ble_eq_true rfl, xrcv_of (by decide) (g205)⟩ ?_
  refine e_s rfl rfl ?_
  refine e_s rfl rfl ?_
  refine e_s rfl rfl ?_
  refine e_s rfl rfl ?_
  refine e_gf rfl (by decide) g205 rfl ?_
  refine e_s rfl rfl ?_
  refine e_gf rfl (by decide) g205 rfl ?_
  refine e_s rfl rfl ?_
  refine e_s rfl rfl ?_
  refine e_s rfl rfl ?_
  refine e_c rfl rfl ⟨Nat.le_of_ble_eq_true rfl, Nat.le_of_ble_eq_true rfl, Nat.le_of_ble_eq_true rfl, rfl⟩ ?_
  refine e_s rfl rfl ?_
  refine e_s rfl rfl ?_
  refine e_bf rfl rfl (by simp only [Int32.lt_iff_toInt_lt, Int32.le_iff_toInt_le]; omega) ?_
  refine e_s rfl rfl ?_
  refine e_s rfl rfl ?_
  refine e_bf rfl rfl (by simp only [Int32.lt_iff_toInt_lt, Int32.le_iff_toInt_le]; omega) ?_
  refine e_s rfl rfl ?_
  refine e_s rfl rfl ?_
  refine e_r2 rfl (by decide) ?_
  refine e_bf rfl rfl (by decide) ?_
  refine e_s rfl rfl ?_
  refine e_s rfl rfl ?_
  refine e_pf rfl (by decide) g205 (Nat.le_of_ble_eq_true rfl) rfl rfl ?_
  refine e_s rfl rfl ?_
  refine e_gf rfl (by decide) rfl rfl ?_
  refine e_bf rfl rfl (by decide) ?_
  refine e_r0 rfl ?_
  refine e_s rfl rfl ?_
  refine e_c rfl rfl ⟨Nat.le_of_ble_eq_true rfl, Nat.le_of_ble_eq_true rfl, Nat.le_of_ble_eq_true rfl, xrcv_of (by decide) (rfl)⟩ ?_
  refine e_s rfl rfl ?_
  refine e_gf rfl (by decide) rfl rfl ?_
  refine e_r1 rfl ?_
  refine e_s rfl rfl ?_
  refine e_bt rfl rfl (by decide) ?_
  refine e_s rfl rfl ?_
  refine e_s rfl rfl ?_
  refine e_s rfl rfl ?_
  refine e_s rfl rfl ?_
  refine e_s rfl rfl ?_
  refine e_s rfl rfl ?_
  refine e_s rfl rfl ?_
  refine e_s rfl rfl ?_
  refine e_bt rfl rfl (by decide) ?_
  refine e_s rfl rfl ?_
  refine e_r2 rfl (by decide) ?_
  exact rfl
theorem op_2 (hI : xI a c f) (ha : 1 ≤ a ∧ a ≤ 7) (hc : 1 ≤ c ∧ c ≤ 6) (hu : u ≤ 20000) (e3 : xs 3 = x) (e4 : xs 4 = y) (e5 : xs 5 = v) : evp 6 xs 10 0 244 xLL [] true (221, u, f) xΦ := by
  obtain ⟨⟨g1, g2, g3, g4, g6, g7, g139, g201⟩, ⟨g205, g206, g207, g209, g210⟩, g220⟩ := hI
  have t0 : (0 : Int32).toInt = 0 := rfl
  have t1 : (1 : Int32).toInt = 1 := rfl
  have t2 : (2 : Int32).toInt = 2 := rfl
  have tn : (-1 : Int32).toInt = -1 := rfl
  have tz : ((0 : Int32) - 1).toInt = -1 := rfl
  have ta : (nI a).toInt = (a : Int) := nI_toInt (by omega)
  have tc : (nI a + nI c).toInt = (a : Int) + c := by rw [nI_add, nI_toInt (by omega)]; omega
  have tm : (nI a + nI c - 1).toInt = (a : Int) + c - 1 := by
    obtain ⟨b, hb⟩ : ∃ b, a + c = b + 1 := ⟨a + c - 1, by omega⟩
    rw [nI_add, hb, nI_pred, nI_toInt (by omega)]; omega
  have tk : (nI a - 1).toInt = (a : Int) - 1 := by
    obtain ⟨b, hb⟩ : ∃ b, a = b + 1 := ⟨a - 1, by omega⟩
    rw [hb, nI_pred, nI_toInt (by omega)]; omega
  refine e_s rfl rfl ?_
  refine e_c rfl rfl ⟨Nat.le_of_ble_eq_true rfl, Nat.le_of_ble_eq_true rfl, Nat.le_of_ble_eq_true rfl, xrcv_of (by decide) (g1)⟩ ?_
  refine e_s rfl rfl ?_
  refine e_s rfl rfl ?_
  refine e_pf rfl (by decide) g1 (Nat.le_of_ble_eq_true rfl) rfl rfl ?_
  refine e_s rfl rfl ?_
  refine e_gf rfl (by decide) rfl rfl ?_
  refine e_c rfl rfl ⟨Nat.le_of_ble_eq_true rfl, Nat.le_of_ble_eq_true rfl, Nat.le_of_ble_eq_true rfl, xrcv_of (by decide) (g201)⟩ ?_
  refine e_s rfl rfl ?_
  refine e_s rfl rfl ?_
  refine e_pf rfl (by decide) g201 (Nat.le_of_ble_eq_true rfl) rfl rfl ?_
  refine e_s rfl rfl ?_
  refine e_s rfl rfl ?_
  refine e_pf rfl (by decide) rfl (Nat.le_of_ble_eq_true rfl) rfl rfl ?_
  refine e_s rfl rfl ?_
  refine e_s rfl rfl ?_
  refine e_pf rfl (by decide) rfl (Nat.le_of_ble_eq_true rfl) rfl rfl ?_
  refine e_r0 rfl ?_
  refine e_r0 rfl ?_
  refine e_s rfl rfl ?_
  refine e_c rfl rfl ⟨Nat.le_of_ble_eq_true rfl, Nat.le_of_ble_eq_true rfl, Nat.le_of_ble_eq_true rfl, xrcv_of (by decide) (g205)⟩ ?_
  refine e_s rfl rfl ?_
  refine e_s rfl rfl ?_
  refine e_pf rfl (by decide) g205 (Nat.le_of_ble_eq_true rfl) rfl rfl ?_
  refine e_s rfl rfl ?_
  refine e_s rfl rfl ?_
  refine e_pf rfl (by decide) rfl (Nat.le_of_ble_eq_true rfl) rfl rfl ?_
  refine e_s rfl rfl ?_
  refine e_s rfl rfl ?_
  refine e_pf rfl (by decide) rfl (Nat.le_of_ble_eq_true rfl) rfl rfl ?_
  refine e_s rfl rfl ?_
  refine e_s rfl rfl ?_
  refine e_pf rfl (by decide) rfl (Nat.le_of_ble_eq_true rfl) rfl rfl ?_
  refine e_s rfl rfl ?_
  refine e_s rfl rfl ?_
  refine e_pf rfl (by decide) rfl (Nat.le_of_ble_eq_true rfl) rfl rfl ?_
  refine e_s rfl rfl ?_
  refine e_s rfl rfl ?_
  refine e_pf rfl (by decide) rfl (Nat.le_of_ble_eq_true rfl) rfl rfl ?_
  refine e_r0 rfl ?_
  refine e_s rfl rfl ?_
  refine e_s rfl rfl ?_
  refine e_s rfl rfl ?_
  refine e_s rfl rfl ?_
  refine e_s rfl rfl ?_
  refine e_s rfl rfl ?_
  refine e_s rfl rfl ?_
  refine e_s rfl rfl ?_
  refine e_bt rfl rfl (by decide) ?_
  refine e_s rfl rfl ?_
  refine e_r2 rfl (by decide) ?_
  exact rfl
theorem op_4 (hI : xI a c f) (ha : 1 ≤ a ∧ a ≤ 7) (hc : 1 ≤ c ∧ c ≤ 6) (hu : u ≤ 20000) (e3 : xs 3 = x) (e4 : xs 4 = y) (e5 : xs 5 = v) : evp 6 xs 10 0 266 xLL [] true (221, u, f) xΦ := by
  obtain ⟨⟨g1, g2, g3, g4, g6, g7, g139, g201⟩, ⟨g205, g206, g207, g209, g210⟩, g220⟩ := hI
  have t0 : (0 : Int32).toInt = 0 := rfl
  have t1 : (1 : Int32).toInt = 1 := rfl
  have t2 : (2 : Int32).toInt = 2 := rfl
  have tn : (-1 : Int32).toInt = -1 := rfl
  have tz : ((0 : Int32) - 1).toInt = -1 := rfl
  have ta : (nI a).toInt = (a : Int) := nI_toInt (by omega)
  have tc : (nI a + nI c).toInt = (a : Int) + c := by rw [nI_add, nI_toInt (by omega)]; omega
  have tm : (nI a + nI c - 1).toInt = (a : Int) + c - 1 := by
    obtain ⟨b, hb⟩ : ∃ b, a + c = b + 1 := ⟨a + c - 1, by omega⟩
    rw [nI_add, hb, nI_pred, nI_toInt (by omega)]; omega
  have tk : (nI a - 1).toInt = (a : Int) - 1 := by
    obtain ⟨b, hb⟩ : ∃ b, a = b + 1 := ⟨a - 1, by omega⟩
    rw [hb, nI_pred, nI_toInt (by omega)]; omega
  refine e_s rfl rfl ?_
  refine e_s rfl rfl ?_
  refine e_c rfl rfl ⟨Nat.le_of_ble_eq_true rfl, Nat.le_of_ble_eq_true rfl, Nat.le_of_ble_eq_true rfl, rfl⟩ ?_
  refine e_s rfl rfl ?_
  refine e_s rfl rfl ?_
  refine e_s rfl rfl ?_
  refine e_c rfl rfl ⟨Nat.le_of_ble_eq_true rfl, Nat.le_of_ble_eq_true rfl, Nat.le_of_ble_eq_true rfl, xrcv_of (by decide) (g1)⟩ ?_
  refine e_s rfl rfl ?_
  refine e_gf rfl (by decide) g1 rfl ?_
  refine e_bf rfl rfl (by decide) ?_
  refine e_s rfl rfl ?_
  refine e_gf rfl (by decide) g1 rfl ?_
  refine e_c rfl rfl ⟨Nat.le_of_ble_eq_true rfl, Nat.le_of_ble_eq_true rfl, Nat.le_of_ble_eq_true rfl, xrcv_of (by decide) (g2)⟩ ?_
  refine e_s rfl rfl ?_
  refine e_gf rfl (by decide) g2 rfl ?_
  refine e_bf rfl rfl (by decide) ?_
  refine e_s rfl rfl ?_
  refine e_s rfl rfl ?_
  refine e_r2 rfl (by decide) ?_
  refine e_bf rfl rfl (by decide) ?_
  refine e_th rfl (by omega) (by omega) (by decide) ⟨_, rfl, ?_⟩
  refine e_s rfl rfl ?_
  refine e_s rfl rfl ?_
  refine e_r1 rfl ?_
  refine e_s rfl rfl ?_
  refine e_s rfl rfl ?_
  refine e_c rfl rfl ⟨Nat.le_of_ble_eq_true rfl, Nat.le_of_ble_eq_true rfl, Nat.le_of_ble_eq_true rfl, xrcv_of (by decide) (g205)⟩ ?_
  refine e_s rfl rfl ?_
  refine e_gf rfl (by decide) g205 rfl ?_
  refine e_bf rfl rfl (by decide) ?_
  refine e_s rfl rfl ?_
  refine e_gf rfl (by decide) g205 rfl ?_
  refine e_bf rfl rfl (by decide) ?_
  refine e_s rfl rfl ?_
  refine e_s rfl rfl ?_
  refine e_c rfl rfl ⟨Nat.le_of_ble_eq_true rfl, Nat.le_of_ble_eq_true rfl, Nat.le_of_ble_eq_true rfl, xrcv_of (by decide) (g205)⟩ ?_
  refine e_s rfl rfl ?_
  refine e_s rfl rfl ?_
  refine e_pf rfl (by decide) g205 (Nat.le_of_ble_eq_true rfl) rfl rfl ?_
  refine e_s rfl rfl ?_
  refine e_r1 rfl ?_
  refine e_r1 rfl ?_
  refine e_s rfl rfl ?_
  refine e_s rfl rfl ?_
  refine e_c rfl rfl ⟨Nat.le_of_ble_eq_true rfl, Nat.le_of_ble_eq_true rfl, Nat.le_of_ble_eq_true rfl, xrcv_of (by decide) (rfl)⟩ ?_
  refine e_s rfl rfl ?_
  refine e_gf rfl (by decide) rfl rfl ?_
  refine e_r1 rfl ?_
  refine e_s rfl rfl ?_
  refine e_bt rfl rfl (by decide) ?_
  refine e_s rfl rfl ?_
  refine e_bt rfl rfl (by decide) ?_
  refine e_s rfl rfl ?_
  refine e_s rfl rfl ?_
  refine e_s rfl rfl ?_
  refine e_s rfl rfl ?_
  refine e_s rfl rfl ?_
  refine e_s rfl rfl ?_
  refine e_s rfl rfl ?_
  refine e_s rfl rfl ?_
  refine e_bt rfl rfl (by decide) ?_
  refine e_s rfl rfl ?_
  refine e_r2 rfl (by decide) ?_
  exact rfl
theorem op_5 (hI : xI a c f) (ha : 1 ≤ a ∧ a ≤ 7) (hc : 1 ≤ c ∧ c ≤ 6) (hu : u ≤ 20000) (e3 : xs 3 = x) (e4 : xs 4 = y) (e5 : xs 5 = v) : evp 6 xs 10 0 310 xLL [] true (221, u, f) xΦ := by
  obtain ⟨⟨g1, g2, g3, g4, g6, g7, g139, g201⟩, ⟨g205, g206, g207, g209, g210⟩, g220⟩ := hI
  have t0 : (0 : Int32).toInt = 0 := rfl
  have t1 : (1 : Int32).toInt = 1 := rfl
  have t2 : (2 : Int32).toInt = 2 := rfl
  have tn : (-1 : Int32).toInt = -1 := rfl
  have tz : ((0 : Int32) - 1).toInt = -1 := rfl
  have ta : (nI a).toInt = (a : Int) := nI_toInt (by omega)
  have tc : (nI a + nI c).toInt = (a : Int) + c := by rw [nI_add, nI_toInt (by omega)]; omega
  have tm : (nI a + nI c - 1).toInt = (a : Int) + c - 1 := by
    obtain ⟨b, hb⟩ : ∃ b, a + c = b + 1 := ⟨a + c - 1, by omega⟩
    rw [nI_add, hb, nI_pred, nI_toInt (by omega)]; omega
  have tk : (nI a - 1).toInt = (a : Int) - 1 := by
    obtain ⟨b, hb⟩ : ∃ b, a = b + 1 := ⟨a - 1, by omega⟩
    rw [hb, nI_pred, nI_toInt (by omega)]; omega
  by_cases h0 : x = 0
  · refine e_s rfl rfl ?_
    refine e_s rfl rfl ?_
    refine e_s rfl rfl ?_
    refine e_s rfl rfl ?_
    refine e_s rfl rfl ?_
    refine e_sc rfl (by decide) (k := 3) (by decide) e3 ?_
    refine e_c rfl rfl ⟨Nat.le_of_ble_eq_true rfl, Nat.le_of_ble_eq_true rfl, Nat.le_of_ble_eq_true rfl, xrcv_of (by decide) (g1)⟩ ?_
    refine e_s rfl rfl ?_
    refine e_bf rfl rfl (not_not_intro h0) ?_
    refine e_s rfl rfl ?_
    refine e_gf rfl (by decide) g1 rfl ?_
    refine e_c rfl rfl ⟨Nat.le_of_ble_eq_true rfl, Nat.le_of_ble_eq_true rfl, Nat.le_of_ble_eq_true rfl, xrcv_of (by decide) (g139)⟩ ?_
    refine e_s rfl rfl ?_
    refine e_gf rfl (by decide) g139 rfl ?_
    refine e_r1 rfl ?_
    refine e_r1 rfl ?_
    refine e_s rfl rfl ?_
    refine e_s rfl rfl ?_
    refine e_s rfl rfl ?_
    refine e_s rfl rfl ?_
    refine e_s rfl rfl ?_
    refine e_sc rfl (by decide) (k := 3) (by decide) e3 ?_
    refine e_c rfl rfl ⟨Nat.le_of_ble_eq_true rfl, Nat.le_of_ble_eq_true rfl, Nat.le_of_ble_eq_true rfl, xrcv_of (by decide) (g205)⟩ ?_
    refine e_s rfl rfl ?_
    refine e_s rfl rfl ?_
    refine e_pf rfl (by decide) g205 (Nat.le_of_ble_eq_true rfl) rfl rfl ?_
    refine e_s rfl rfl ?_
    refine e_bf rfl rfl (not_not_intro h0) ?_
    refine e_s rfl rfl ?_
    refine e_gf rfl (by decide) rfl rfl ?_
    refine e_s rfl rfl ?_
    refine e_r1 rfl ?_
    refine e_bt rfl rfl (by decide) ?_
    refine e_s rfl rfl ?_
    refine e_s rfl rfl ?_
    refine e_s rfl rfl ?_
    refine e_s rfl rfl ?_
    refine e_s rfl rfl ?_
    refine e_s rfl rfl ?_
    refine e_s rfl rfl ?_
    refine e_bt rfl rfl (by decide) ?_
    refine e_s rfl rfl ?_
    refine e_r2 rfl (by decide) ?_
    exact rfl
  by_cases h1 : x = 1
  · refine e_s rfl rfl ?_
    refine e_s rfl rfl ?_
    refine e_s rfl rfl ?_
    refine e_s rfl rfl ?_
    refine e_s rfl rfl ?_
    refine e_sc rfl (by decide) (k := 3) (by decide) e3 ?_
    refine e_c rfl rfl ⟨Nat.le_of_ble_eq_true rfl, Nat.le_of_ble_eq_true rfl, Nat.le_of_ble_eq_true rfl, xrcv_of (by decide) (g1)⟩ ?_
    refine e_s rfl rfl ?_
    refine e_bt rfl rfl h0 ?_
    refine e_s rfl rfl ?_
    refine e_s rfl rfl ?_
    refine e_bf rfl rfl (not_not_intro h1) ?_
    refine e_s rfl rfl ?_
    refine e_gf rfl (by decide) g1 rfl ?_
    refine e_c rfl rfl ⟨Nat.le_of_ble_eq_true rfl, Nat.le_of_ble_eq_true rfl, Nat.le_of_ble_eq_true rfl, xrcv_of (by decide) (g139)⟩ ?_
    refine e_s rfl rfl ?_
    refine e_gf rfl (by decide) g139 rfl ?_
    refine e_r1 rfl ?_
    refine e_s rfl rfl ?_
    refine e_r1 rfl ?_
    refine e_s rfl rfl ?_
    refine e_s rfl rfl ?_
    refine e_s rfl rfl ?_
    refine e_s rfl rfl ?_
    refine e_s rfl rfl ?_
    refine e_sc rfl (by decide) (k := 3) (by decide) e3 ?_
    refine e_c rfl rfl ⟨Nat.le_of_ble_eq_true rfl, Nat.le_of_ble_eq_true rfl, Nat.le_of_ble_eq_true rfl, xrcv_of (by decide) (g205)⟩ ?_
    refine e_s rfl rfl ?_
    refine e_s rfl rfl ?_
    refine e_pf rfl (by decide) g205 (Nat.le_of_ble_eq_true rfl) rfl rfl ?_
    refine e_s rfl rfl ?_
    refine e_bt rfl rfl h0 ?_
    refine e_s rfl rfl ?_
    refine e_s rfl rfl ?_
    refine e_bf rfl rfl (not_not_intro h1) ?_
    refine e_s rfl rfl ?_
    refine e_gf rfl (by decide) rfl rfl ?_
    refine e_s rfl rfl ?_
    refine e_r1 rfl ?_
    refine e_bt rfl rfl (by decide) ?_
    refine e_s rfl rfl ?_
    refine e_s rfl rfl ?_
    refine e_s rfl rfl ?_
    refine e_s rfl rfl ?_
    refine e_s rfl rfl ?_
    refine e_s rfl rfl ?_
    refine e_s rfl rfl ?_
    refine e_bt rfl rfl (by decide) ?_
    refine e_s rfl rfl ?_
    refine e_r2 rfl (by decide) ?_
    exact rfl
  refine e_s rfl rfl ?_
  refine e_s rfl rfl ?_
  refine e_s rfl rfl ?_
  refine e_s rfl rfl ?_
  refine e_s rfl rfl ?_
  refine e_sc rfl (by decide) (k := 3) (by decide) e3 ?_
  refine e_c rfl rfl ⟨Nat.le_of_ble_eq_true rfl, Nat.le_of_ble_eq_true rfl, Nat.le_of_ble_eq_true rfl, xrcv_of (by decide) (g1)⟩ ?_
  refine e_s rfl rfl ?_
  refine e_bt rfl rfl h0 ?_
  refine e_s rfl rfl ?_
  refine e_s rfl rfl ?_
  refine e_bt rfl rfl h1 ?_
  refine e_s rfl rfl ?_
  refine e_r1 rfl ?_
  refine e_s rfl rfl ?_
  refine e_s rfl rfl ?_
  refine e_s rfl rfl ?_
  refine e_s rfl rfl ?_
  refine e_s rfl rfl ?_
  refine e_sc rfl (by decide) (k := 3) (by decide) e3 ?_
  refine e_c rfl rfl ⟨Nat.le_of_ble_eq_true rfl, Nat.le_of_ble_eq_true rfl, Nat.le_of_ble_eq_true rfl, xrcv_of (by decide) (g205)⟩ ?_
  refine e_s rfl rfl ?_
  refine e_s rfl rfl ?_
  refine e_pf rfl (by decide) g205 (Nat.le_of_ble_eq_true rfl) rfl rfl ?_
  refine e_s rfl rfl ?_
  refine e_bt rfl rfl h0 ?_
  refine e_s rfl rfl ?_
  refine e_s rfl rfl ?_
  refine e_bt rfl rfl h1 ?_
  refine e_s rfl rfl ?_
  refine e_r1 rfl ?_
  refine e_bt rfl rfl (by decide) ?_
  refine e_s rfl rfl ?_
  refine e_s rfl rfl ?_
  refine e_s rfl rfl ?_
  refine e_s rfl rfl ?_
  refine e_s rfl rfl ?_
  refine e_s rfl rfl ?_
  refine e_s rfl rfl ?_
  refine e_bt rfl rfl (by decide) ?_
  refine e_s rfl rfl ?_
  refine e_r2 rfl (by decide) ?_
  exact rfl
theorem op_6 (hI : xI a c f) (ha : 1 ≤ a ∧ a ≤ 7) (hc : 1 ≤ c ∧ c ≤ 6) (hu : u ≤ 20000) (e3 : xs 3 = x) (e4 : xs 4 = y) (e5 : xs 5 = v) : evp 6 xs 10 0 335 xLL [] true (221, u, f) xΦ := by
  obtain ⟨⟨g1, g2, g3, g4, g6, g7, g139, g201⟩, ⟨g205, g206, g207, g209, g210⟩, g220⟩ := hI
  have t0 : (0 : Int32).toInt = 0 := rfl
  have t1 : (1 : Int32).toInt = 1 := rfl
  have t2 : (2 : Int32).toInt = 2 := rfl
  have tn : (-1 : Int32).toInt = -1 := rfl
  have tz : ((0 : Int32) - 1).toInt = -1 := rfl
  have ta : (nI a).toInt = (a : Int) := nI_toInt (by omega)
  have tc : (nI a + nI c).toInt = (a : Int) + c := by rw [nI_add, nI_toInt (by omega)]; omega
  have tm : (nI a + nI c - 1).toInt = (a : Int) + c - 1 := by
    obtain ⟨b, hb⟩ : ∃ b, a + c = b + 1 := ⟨a + c - 1, by omega⟩
    rw [nI_add, hb, nI_pred, nI_toInt (by omega)]; omega
  have tk : (nI a - 1).toInt = (a : Int) - 1 := by
    obtain ⟨b, hb⟩ : ∃ b, a = b + 1 := ⟨a - 1, by omega⟩
    rw [hb, nI_pred, nI_toInt (by omega)]; omega
  refine e_s rfl rfl ?_
  refine e_c rfl rfl ⟨Nat.le_of_ble_eq_true rfl, Nat.le_of_ble_eq_true rfl, Nat.le_of_ble_eq_true rfl, xrcv_of (by decide) (g1)⟩ ?_
  refine e_s rfl rfl ?_
  refine e_gf rfl (by decide) g1 rfl ?_
  refine e_bt rfl rfl (by decide) ?_
  refine e_s rfl rfl ?_
  refine e_r1 rfl ?_
  refine e_s rfl rfl ?_
  refine e_c rfl rfl ⟨Nat.le_of_ble_eq_true rfl, Nat.le_of_ble_eq_true rfl, Nat.le_of_ble_eq_true rfl, xrcv_of (by decide) (g205)⟩ ?_
  refine e_s rfl rfl ?_
  refine e_s rfl rfl ?_
  refine e_pf rfl (by decide) g205 (Nat.le_of_ble_eq_true rfl) rfl rfl ?_
  refine e_s rfl rfl ?_
  refine e_gf rfl (by decide) rfl rfl ?_
  refine e_r1 rfl ?_
  refine e_bt rfl rfl (by decide) ?_
  refine e_s rfl rfl ?_
  refine e_s rfl rfl ?_
  refine e_s rfl rfl ?_
  refine e_s rfl rfl ?_
  refine e_s rfl rfl ?_
  refine e_s rfl rfl ?_
  refine e_s rfl rfl ?_
  refine e_bt rfl rfl (by decide) ?_
  refine e_s rfl rfl ?_
  refine e_r2 rfl (by decide) ?_
  exact rfl
theorem op_7 (hI : xI a c f) (ha : 1 ≤ a ∧ a ≤ 7) (hc : 1 ≤ c ∧ c ≤ 6) (hu : u ≤ 20000) (e3 : xs 3 = x) (e4 : xs 4 = y) (e5 : xs 5 = v) : evp 6 xs 10 0 348 xLL [] true (221, u, f) xΦ := by
  obtain ⟨⟨g1, g2, g3, g4, g6, g7, g139, g201⟩, ⟨g205, g206, g207, g209, g210⟩, g220⟩ := hI
  have t0 : (0 : Int32).toInt = 0 := rfl
  have t1 : (1 : Int32).toInt = 1 := rfl
  have t2 : (2 : Int32).toInt = 2 := rfl
  have tn : (-1 : Int32).toInt = -1 := rfl
  have tz : ((0 : Int32) - 1).toInt = -1 := rfl
  have ta : (nI a).toInt = (a : Int) := nI_toInt (by omega)
  have tc : (nI a + nI c).toInt = (a : Int) + c := by rw [nI_add, nI_toInt (by omega)]; omega
  have tm : (nI a + nI c - 1).toInt = (a : Int) + c - 1 := by
    obtain ⟨b, hb⟩ : ∃ b, a + c = b + 1 := ⟨a + c - 1, by omega⟩
    rw [nI_add, hb, nI_pred, nI_toInt (by omega)]; omega
  have tk : (nI a - 1).toInt = (a : Int) - 1 := by
    obtain ⟨b, hb⟩ : ∃ b, a = b + 1 := ⟨a - 1, by omega⟩
    rw [hb, nI_pred, nI_toInt (by omega)]; omega
  by_cases h0 : x.toInt < 0
  · refine e_s rfl rfl ?_
    refine e_s rfl rfl ?_
    refine e_s rfl rfl ?_
    refine e_s rfl rfl ?_
    refine e_s rfl rfl ?_
    refine e_sc rfl (by decide) (k := 3) (by decide) e3 ?_
    refine e_s rfl rfl ?_
    refine e_c rfl rfl ⟨Nat.le_of_ble_eq_true rfl, Nat.le_of_ble_eq_true rfl, Nat.le_of_ble_eq_true rfl, rfl⟩ ?_
    refine e_s rfl rfl ?_
    refine e_s rfl rfl ?_
    refine e_s rfl rfl ?_
    refine e_s rfl rfl ?_
    refine e_c rfl rfl ⟨Nat.le_of_ble_eq_true rfl, Nat.le_of_ble_eq_true rfl, Nat.le_of_ble_eq_true rfl, xrcv_of (by decide) (g1)⟩ ?_
    refine e_s rfl rfl ?_
    refine e_s rfl rfl ?_
    refine e_c rfl rfl ⟨Nat.le_of_ble_eq_true rfl, Nat.le_of_ble_eq_true rfl, Nat.le_of_ble_eq_true rfl, xrcv_of (by decide) (g1)⟩ ?_
    refine e_s rfl rfl ?_
    refine e_gf rfl (by decide) g1 rfl ?_
    refine e_bt rfl rfl (by decide) ?_
    refine e_s rfl rfl ?_
    refine e_r2 rfl (by decide) ?_
    refine e_bf rfl rfl (by decide) ?_
    refine e_th rfl (by omega) (by omega) (by decide) ⟨_, rfl, ?_⟩
    refine e_s rfl rfl ?_
    refine e_s rfl rfl ?_
    refine e_r1 rfl ?_
    refine e_s rfl rfl ?_
    refine e_s rfl rfl ?_
    refine e_s rfl rfl ?_
    refine e_s rfl rfl ?_
    refine e_s rfl rfl ?_
    refine e_s rfl rfl ?_
    refine e_sc rfl (by decide) (k := 3) (by decide) e3 ?_
    refine e_c rfl rfl ⟨Nat.le_of_ble_eq_true rfl, Nat.le_of_ble_eq_true rfl, Nat.le_of_ble_eq_true rfl, xrcv_of (by decide) (g205)⟩ ?_
    refine e_s rfl rfl ?_
    refine e_s rfl rfl ?_
    refine e_c rfl rfl ⟨Nat.le_of_ble_eq_true rfl, Nat.le_of_ble_eq_true rfl, Nat.le_of_ble_eq_true rfl, xrcv_of (by decide) (g205)⟩ ?_
    refine e_s rfl rfl ?_
    refine e_s rfl rfl ?_
    refine e_s rfl rfl ?_
    refine e_gf rfl (by decide) g205 rfl ?_
    refine e_s rfl rfl ?_
    refine e_s rfl rfl ?_
    refine e_c rfl rfl ⟨Nat.le_of_ble_eq_true rfl, Nat.le_of_ble_eq_true rfl, Nat.le_of_ble_eq_true rfl, rfl⟩ ?_
    refine e_s rfl rfl ?_
    refine e_s rfl rfl ?_
    refine e_bt rfl rfl (by simp only [Int32.lt_iff_toInt_lt, Int32.le_iff_toInt_le]; omega) ?_
    refine e_s rfl rfl ?_
    refine e_s rfl rfl ?_
    refine e_r2 rfl (by decide) ?_
    refine e_bt rfl rfl (by decide) ?_
    refine e_s rfl rfl ?_
    refine e_r2 rfl (by decide) ?_
    refine e_bf rfl rfl (by decide) ?_
    refine e_s rfl rfl ?_
    refine e_s rfl rfl ?_
    refine e_c rfl rfl ⟨Nat.le_of_ble_eq_true rfl, Nat.le_of_ble_eq_true rfl, Nat.le_of_ble_eq_true rfl, xrcv_of (by decide) (g205)⟩ ?_
    refine e_s rfl rfl ?_
    refine e_s rfl rfl ?_
    refine e_pf rfl (by decide) g205 (Nat.le_of_ble_eq_true rfl) rfl rfl ?_
    refine e_s rfl rfl ?_
    refine e_r1 rfl ?_
    refine e_r1 rfl ?_
    refine e_s rfl rfl ?_
    refine e_s rfl rfl ?_
    refine e_c rfl rfl ⟨Nat.le_of_ble_eq_true rfl, Nat.le_of_ble_eq_true rfl, Nat.le_of_ble_eq_true rfl, xrcv_of (by decide) (rfl)⟩ ?_
    refine e_s rfl rfl ?_
    refine e_gf rfl (by decide) rfl rfl ?_
    refine e_r1 rfl ?_
    refine e_s rfl rfl ?_
    refine e_bt rfl rfl (by decide) ?_
    refine e_s rfl rfl ?_
    refine e_bt rfl rfl (by decide) ?_
    refine e_s rfl rfl ?_
    refine e_s rfl rfl ?_
    refine e_s rfl rfl ?_
    refine e_s rfl rfl ?_
    refine e_s rfl rfl ?_
    refine e_s rfl rfl ?_
    refine e_s rfl rfl ?_
    refine e_s rfl rfl ?_
    refine e_bt rfl rfl (by decide) ?_
    refine e_s rfl rfl ?_
    refine e_r2 rfl (by decide) ?_
    exact rfl
  refine e_s rfl rfl ?_
  refine e_s rfl rfl ?_
  refine e_s rfl rfl ?_
  refine e_s rfl rfl ?_
  refine e_s rfl rfl ?_
  refine e_sc rfl (by decide) (k := 3) (by decide) e3 ?_
  refine e_s rfl rfl ?_
  refine e_c rfl rfl ⟨Nat.le_of_ble_eq_true rfl, Nat.le_of_ble_eq_true rfl, Nat.le_of_ble_eq_true rfl, rfl⟩ ?_
  refine e_s rfl rfl ?_
  refine e_s rfl rfl ?_
  refine e_s rfl rfl ?_
  refine e_s rfl rfl ?_
  refine e_c rfl rfl ⟨Nat.le_of_ble_eq_true rfl, Nat.le_of_ble_eq_true rfl, Nat.le_of_ble_eq_true rfl, xrcv_of (by decide) (g1)⟩ ?_
  refine e_s rfl rfl ?_
  refine e_s rfl rfl ?_
  refine e_c rfl rfl ⟨Nat.le_of_ble_eq_true rfl, Nat.le_of_ble_eq_true rfl, Nat.le_of_ble_eq_true rfl, xrcv_of (by decide) (g1)⟩ ?_
  refine e_s rfl rfl ?_
  refine e_gf rfl (by decide) g1 rfl ?_
  refine e_bt rfl rfl (by decide) ?_
  refine e_s rfl rfl ?_
  refine e_r2 rfl (by decide) ?_
  refine e_bf rfl rfl (by decide) ?_
  refine e_th rfl (by omega) (by omega) (by decide) ⟨_, rfl, ?_⟩
  refine e_s rfl rfl ?_
  refine e_s rfl rfl ?_
  refine e_r1 rfl ?_
  refine e_s rfl rfl ?_
  refine e_s rfl rfl ?_
  refine e_s rfl rfl ?_
  refine e_s rfl rfl ?_
  refine e_s rfl rfl ?_
  refine e_s rfl rfl ?_
  refine e_sc rfl (by decide) (k := 3) (by decide) e3 ?_
  refine e_c rfl rfl ⟨Nat.le_of_ble_eq_true rfl, Nat.le_of_ble_eq_true rfl, Nat.le_of_ble_eq_true rfl, xrcv_of (by decide) (g205)⟩ ?_
  refine e_s rfl rfl ?_
  refine e_s rfl rfl ?_
  refine e_c rfl rfl ⟨Nat.le_of_ble_eq_true rfl, Nat.le_of_ble_eq_true rfl, Nat.le_of_ble_eq_true rfl, xrcv_of (by decide) (g205)⟩ ?_
  refine e_s rfl rfl ?_
  refine e_s rfl rfl ?_
  refine e_s rfl rfl ?_
  refine e_gf rfl (by decide) g205 rfl ?_
  refine e_s rfl rfl ?_
  refine e_s rfl rfl ?_
  refine e_c rfl rfl ⟨Nat.le_of_ble_eq_true rfl, Nat.le_of_ble_eq_true rfl, Nat.le_of_ble_eq_true rfl, rfl⟩ ?_
  refine e_s rfl rfl ?_
  refine e_s rfl rfl ?_
  refine e_bf rfl rfl (by simp only [Int32.lt_iff_toInt_lt, Int32.le_iff_toInt_le]; omega) ?_
  refine e_s rfl rfl ?_
  refine e_s rfl rfl ?_
  refine e_bf rfl rfl (by simp only [Int32.lt_iff_toInt_lt, Int32.le_iff_toInt_le]; omega) ?_
  refine e_s rfl rfl ?_
  refine e_s rfl rfl ?_
  refine e_r2 rfl (by decide) ?_
  refine e_bt rfl rfl (by decide) ?_
  refine e_s rfl rfl ?_
  refine e_r2 rfl (by decide) ?_
  refine e_bf rfl rfl (by decide) ?_
  refine e_s rfl rfl ?_
  refine e_s rfl rfl ?_
  refine e_c rfl rfl ⟨Nat.le_of_ble_eq_true rfl, Nat.le_of_ble_eq_true rfl, Nat.le_of_ble_eq_true rfl, xrcv_of (by decide) (g205)⟩ ?_
  refine e_s rfl rfl ?_
  refine e_s rfl rfl ?_
  refine e_pf rfl (by decide) g205 (Nat.le_of_ble_eq_true rfl) rfl rfl ?_
  refine e_s rfl rfl ?_
  refine e_r1 rfl ?_
  refine e_r1 rfl ?_
  refine e_s rfl rfl ?_
  refine e_s rfl rfl ?_
  refine e_c rfl rfl ⟨Nat.le_of_ble_eq_true rfl, Nat.le_of_ble_eq_true rfl, Nat.le_of_ble_eq_true rfl, xrcv_of (by decide) (rfl)⟩ ?_
  refine e_s rfl rfl ?_
  refine e_gf rfl (by decide) rfl rfl ?_
  refine e_r1 rfl ?_
  refine e_s rfl rfl ?_
  refine e_bt rfl rfl (by decide) ?_
  refine e_s rfl rfl ?_
  refine e_bt rfl rfl (by decide) ?_
  refine e_s rfl rfl ?_
  refine e_s rfl rfl ?_
  refine e_s rfl rfl ?_
  refine e_s rfl rfl ?_
  refine e_s rfl rfl ?_
  refine e_s rfl rfl ?_
  refine e_s rfl rfl ?_
  refine e_s rfl rfl ?_
  refine e_bt rfl rfl (by decide) ?_
  refine e_s rfl rfl ?_
  refine e_r2 rfl (by decide) ?_
  exact rfl
theorem op_8 (hI : xI a c f) (ha : 1 ≤ a ∧ a ≤ 7) (hc : 1 ≤ c ∧ c ≤ 6) (hu : u ≤ 20000) (e3 : xs 3 = x) (e4 : xs 4 = y) (e5 : xs 5 = v) : evp 6 xs 10 0 404 xLL [] true (221, u, f) xΦ := by
  obtain ⟨⟨g1, g2, g3, g4, g6, g7, g139, g201⟩, ⟨g205, g206, g207, g209, g210⟩, g220⟩ := hI
  have t0 : (0 : Int32).toInt = 0 := rfl
  have t1 : (1 : Int32).toInt = 1 := rfl
  have t2 : (2 : Int32).toInt = 2 := rfl
  have tn : (-1 : Int32).toInt = -1 := rfl
  have tz : ((0 : Int32) - 1).toInt = -1 := rfl
  have ta : (nI a).toInt = (a : Int) := nI_toInt (by omega)
  have tc : (nI a + nI c).toInt = (a : Int) + c := by rw [nI_add, nI_toInt (by omega)]; omega
  have tm : (nI a + nI c - 1).toInt = (a : Int) + c - 1 := by
    obtain ⟨b, hb⟩ : ∃ b, a + c = b + 1 := ⟨a + c - 1, by omega⟩
    rw [nI_add, hb, nI_pred, nI_toInt (by omega)]; omega
  have tk : (nI a - 1).toInt = (a : Int) - 1 := by
    obtain ⟨b, hb⟩ : ∃ b, a = b + 1 := ⟨a - 1, by omega⟩
    rw [hb, nI_pred, nI_toInt (by omega)]; omega
  by_cases h0 : x.toInt < 0
  · refine e_s rfl rfl ?_
    refine e_s rfl rfl ?_
    refine e_s rfl rfl ?_
    refine e_s rfl rfl ?_
    refine e_s rfl rfl ?_
    refine e_sc rfl (by decide) (k := 3) (by decide) e3 ?_
    refine e_s rfl rfl ?_
    refine e_s rfl rfl ?_
    refine e_s rfl rfl ?_
    refine e_s rfl rfl ?_
    refine e_sc rfl (by decide) (k := 4) (by decide) e4 ?_
    refine e_s rfl rfl ?_
    refine e_s rfl rfl ?_
    refine e_s rfl rfl ?_
    refine e_s rfl rfl ?_
    refine e_sc rfl (by decide) (k := 5) (by decide) e5 ?_
    refine e_s rfl rfl ?_
    refine e_c rfl rfl ⟨Nat.le_of_ble_eq_true rfl, Nat.le_of_ble_eq_true rfl, Nat.le_of_ble_eq_true rfl, rfl⟩ ?_
    refine e_s rfl rfl ?_
    refine e_s rfl rfl ?_
    refine e_s rfl rfl ?_
    refine e_s rfl rfl ?_
    refine e_s rfl rfl ?_
    refine e_s rfl rfl ?_
    refine e_c rfl rfl ⟨Nat.le_of_ble_eq_true rfl, Nat.le_of_ble_eq_true rfl, Nat.le_of_ble_eq_true rfl, xrcv_of (by decide) (g1)⟩ ?_
    refine e_s rfl rfl ?_
    refine e_s rfl rfl ?_
    refine e_c rfl rfl ⟨Nat.le_of_ble_eq_true rfl, Nat.le_of_ble_eq_true rfl, Nat.le_of_ble_eq_true rfl, xrcv_of (by decide) (g1)⟩ ?_
    refine e_s rfl rfl ?_
    refine e_gf rfl (by decide) g1 rfl ?_
    refine e_bt rfl rfl (by decide) ?_
    refine e_s rfl rfl ?_
    refine e_r2 rfl (by decide) ?_
    refine e_bt rfl rfl (by decide) ?_
    refine e_th rfl (by omega) (by omega) (by decide) ⟨_, rfl, ?_⟩
    refine e_s rfl rfl ?_
    refine e_s rfl rfl ?_
    refine e_r1 rfl ?_
    refine e_s rfl rfl ?_
    refine e_s rfl rfl ?_
    refine e_s rfl rfl ?_
    refine e_s rfl rfl ?_
    refine e_s rfl rfl ?_
    refine e_s rfl rfl ?_
    refine e_sc rfl (by decide) (k := 3) (by decide) e3 ?_
    refine e_s rfl rfl ?_
    refine e_s rfl rfl ?_
    refine e_s rfl rfl ?_
    refine e_s rfl rfl ?_
    refine e_sc rfl (by decide) (k := 4) (by decide) e4 ?_
    refine e_s rfl rfl ?_
    refine e_s rfl rfl ?_
    refine e_s rfl rfl ?_
    refine e_s rfl rfl ?_
    refine e_sc rfl (by decide) (k := 5) (by decide) e5 ?_
    refine e_c rfl rfl ⟨Nat.le_of_ble_eq_true rfl, Nat.le_of_ble_eq_true rfl, Nat.le_of_ble_eq_true rfl, xrcv_of (by decide) (g205)⟩ ?_
    refine e_s rfl rfl ?_
    refine e_s rfl rfl ?_
    refine e_c rfl rfl ⟨Nat.le_of_ble_eq_true rfl, Nat.le_of_ble_eq_true rfl, Nat.le_of_ble_eq_true rfl, xrcv_of (by decide) (g205)⟩ ?_
    refine e_s rfl rfl ?_
    refine e_s rfl rfl ?_
    refine e_s rfl rfl ?_
    refine e_gf rfl (by decide) g205 rfl ?_
    refine e_s rfl rfl ?_
    refine e_s rfl rfl ?_
    refine e_c rfl rfl ⟨Nat.le_of_ble_eq_true rfl, Nat.le_of_ble_eq_true rfl, Nat.le_of_ble_eq_true rfl, rfl⟩ ?_
    refine e_s rfl rfl ?_
    refine e_s rfl rfl ?_
    refine e_bt rfl rfl (by simp only [Int32.lt_iff_toInt_lt, Int32.le_iff_toInt_le]; omega) ?_
    refine e_s rfl rfl ?_
    refine e_s rfl rfl ?_
    refine e_r2 rfl (by decide) ?_
    refine e_bt rfl rfl (by decide) ?_
    refine e_s rfl rfl ?_
    refine e_r2 rfl (by decide) ?_
    refine e_bt rfl rfl (by decide) ?_
    refine e_s rfl rfl ?_
    refine e_s rfl rfl ?_
    refine e_c rfl rfl ⟨Nat.le_of_ble_eq_true rfl, Nat.le_of_ble_eq_true rfl, Nat.le_of_ble_eq_true rfl, xrcv_of (by decide) (g205)⟩ ?_
    refine e_s rfl rfl ?_
    refine e_s rfl rfl ?_
    refine e_pf rfl (by decide) g205 (Nat.le_of_ble_eq_true rfl) rfl rfl ?_
    refine e_s rfl rfl ?_
    refine e_r1 rfl ?_
    refine e_r1 rfl ?_
    refine e_s rfl rfl ?_
    refine e_s rfl rfl ?_
    refine e_c rfl rfl ⟨Nat.le_of_ble_eq_true rfl, Nat.le_of_ble_eq_true rfl, Nat.le_of_ble_eq_true rfl, xrcv_of (by decide) (rfl)⟩ ?_
    refine e_s rfl rfl ?_
    refine e_gf rfl (by decide) rfl rfl ?_
    refine e_r1 rfl ?_
    refine e_s rfl rfl ?_
    refine e_bt rfl rfl (by decide) ?_
    refine e_s rfl rfl ?_
    refine e_bt rfl rfl (by decide) ?_
    refine e_s rfl rfl ?_
    refine e_s rfl rfl ?_
    refine e_s rfl rfl ?_
    refine e_s rfl rfl ?_
    refine e_s rfl rfl ?_
    refine e_s rfl rfl ?_
    refine e_s rfl rfl ?_
    refine e_s rfl rfl ?_
    refine e_bt rfl rfl (by decide) ?_
    refine e_s rfl rfl ?_
    refine e_r2 rfl (by decide) ?_
    exact rfl
  refine e_s rfl rfl ?_
  refine e_s rfl rfl ?_
  refine e_s rfl rfl ?_
  refine e_s rfl rfl ?_
  refine e_s rfl rfl ?_
  refine e_sc rfl (by decide) (k := 3) (by decide) e3 ?_
  refine e_s rfl rfl ?_
  refine e_s rfl rfl ?_
  refine e_s rfl rfl ?_
  refine e_s rfl rfl ?_
  refine e_sc rfl (by decide) (k := 4) (by decide) e4 ?_
  refine e_s rfl rfl ?_
  refine e_s rfl rfl ?_
  refine e_s rfl rfl ?_
  refine e_s rfl rfl ?_
  refine e_sc rfl (by decide) (k := 5) (by decide) e5 ?_
  refine e_s rfl rfl ?_
  refine e_c rfl rfl ⟨Nat.le_of_ble_eq_true rfl, Nat.le_of_ble_eq_true rfl, Nat.le_of_ble_eq_true rfl, rfl⟩ ?_
  refine e_s rfl rfl ?_
  refine e_s rfl rfl ?_
  refine e_s rfl rfl ?_
  refine e_s rfl rfl ?_
  refine e_s rfl rfl ?_
  refine e_s rfl rfl ?_
  refine e_c rfl rfl ⟨Nat.le_of_ble_eq_true rfl, Nat.le_of_ble_eq_true rfl, Nat.le_of_ble_eq_true rfl, xrcv_of (by decide) (g1)⟩ ?_
  refine e_s rfl rfl ?_
  refine e_s rfl rfl ?_
  refine e_c rfl rfl ⟨Nat.le_of_ble_eq_true rfl, Nat.le_of_ble_eq_true rfl, Nat.le_of_ble_eq_true rfl, xrcv_of (by decide) (g1)⟩ ?_
  refine e_s rfl rfl ?_
  refine e_gf rfl (by decide) g1 rfl ?_
  refine e_bt rfl rfl (by decide) ?_
  refine e_s rfl rfl ?_
  refine e_r2 rfl (by decide) ?_
  refine e_bt rfl rfl (by decide) ?_
  refine e_th rfl (by omega) (by omega) (by decide) ⟨_, rfl, ?_⟩
  refine e_s rfl rfl ?_
  refine e_s rfl rfl ?_
  refine e_r1 rfl ?_
  refine e_s rfl rfl ?_
  refine e_s rfl rfl ?_
  refine e_s rfl rfl ?_
  refine e_s rfl rfl ?_
  refine e_s rfl rfl ?_
  refine e_s rfl rfl ?_
  refine e_sc rfl (by decide) (k := 3) (by decide) e3 ?_
  refine e_s rfl rfl ?_
  refine e_s rfl rfl ?_
  refine e_s rfl rfl ?_
  refine e_s rfl rfl ?_
  refine e_sc rfl (by decide) (k := 4) (by decide) e4 ?_
  refine e_s rfl rfl ?_
  refine e_s rfl rfl ?_
  refine e_s rfl rfl ?_
  refine e_s rfl rfl ?_
  refine e_sc rfl (by decide) (k := 5) (by decide) e5 ?_
  refine e_c rfl rfl ⟨Nat.le_of_ble_eq_true rfl, Nat.le_of_ble_eq_true rfl, Nat.le_of_ble_eq_true rfl, xrcv_of (by decide) (g205)⟩ ?_
  refine e_s rfl rfl ?_
  refine e_s rfl rfl ?_
  refine e_c rfl rfl ⟨Nat.le_of_ble_eq_true rfl, Nat.le_of_ble_eq_true rfl, Nat.le_of_ble_eq_true rfl, xrcv_of (by decide) (g205)⟩ ?_
  refine e_s rfl rfl ?_
  refine e_s rfl rfl ?_
  refine e_s rfl rfl ?_
  refine e_gf rfl (by decide) g205 rfl ?_
  refine e_s rfl rfl ?_
  refine e_s rfl rfl ?_
  refine e_c rfl rfl ⟨Nat.le_of_ble_eq_true rfl, Nat.le_of_ble_eq_true rfl, Nat.le_of_ble_eq_true rfl, rfl⟩ ?_
  refine e_s rfl rfl ?_
  refine e_s rfl rfl ?_
  refine e_bf rfl rfl (by simp only [Int32.lt_iff_toInt_lt, Int32.le_iff_toInt_le]; omega) ?_
  refine e_s rfl rfl ?_
  refine e_s rfl rfl ?_
  refine e_bf rfl rfl (by simp only [Int32.lt_iff_toInt_lt, Int32.le_iff_toInt_le]; omega) ?_
  refine e_s rfl rfl ?_
  refine e_s rfl rfl ?_
  refine e_r2 rfl (by decide) ?_
  refine e_bt rfl rfl (by decide) ?_
  refine e_s rfl rfl ?_
  refine e_r2 rfl (by decide) ?_
  refine e_bt rfl rfl (by decide) ?_
  refine e_s rfl rfl ?_
  refine e_s rfl rfl ?_
  refine e_c rfl rfl ⟨Nat.le_of_ble_eq_true rfl, Nat.le_of_ble_eq_true rfl, Nat.le_of_ble_eq_true rfl, xrcv_of (by decide) (g205)⟩ ?_
  refine e_s rfl rfl ?_
  refine e_s rfl rfl ?_
  refine e_pf rfl (by decide) g205 (Nat.le_of_ble_eq_true rfl) rfl rfl ?_
  refine e_s rfl rfl ?_
  refine e_r1 rfl ?_
  refine e_r1 rfl ?_
  refine e_s rfl rfl ?_
  refine e_s rfl rfl ?_
  refine e_c rfl rfl ⟨Nat.le_of_ble_eq_true rfl, Nat.le_of_ble_eq_true rfl, Nat.le_of_ble_eq_true rfl, xrcv_of (by decide) (rfl)⟩ ?_
  refine e_s rfl rfl ?_
  refine e_gf rfl (by decide) rfl rfl ?_
  refine e_r1 rfl ?_
  refine e_s rfl rfl ?_
  refine e_bt rfl rfl (by decide) ?_
  refine e_s rfl rfl ?_
  refine e_bt rfl rfl (by decide) ?_
  refine e_s rfl rfl ?_
  refine e_s rfl rfl ?_
  refine e_s rfl rfl ?_
  refine e_s rfl rfl ?_
  refine e_s rfl rfl ?_
  refine e_s rfl rfl ?_
  refine e_s rfl rfl ?_
  refine e_s rfl rfl ?_
  refine e_bt rfl rfl (by decide) ?_
  refine e_s rfl rfl ?_
  refine e_r2 rfl (by decide) ?_
  exact rfl
theorem op_9 (hI : xI a c f) (ha : 1 ≤ a ∧ a ≤ 7) (hc : 1 ≤ c ∧ c ≤ 6) (hu : u ≤ 20000) (e3 : xs 3 = x) (e4 : xs 4 = y) (e5 : xs 5 = v) : evp 6 xs 10 0 484 xLL [] true (221, u, f) xΦ := by
  obtain ⟨⟨g1, g2, g3, g4, g6, g7, g139, g201⟩, ⟨g205, g206, g207, g209, g210⟩, g220⟩ := hI
  have t0 : (0 : Int32).toInt = 0 := rfl
  have t1 : (1 : Int32).toInt = 1 := rfl
  have t2 : (2 : Int32).toInt = 2 := rfl
  have tn : (-1 : Int32).toInt = -1 := rfl
  have tz : ((0 : Int32) - 1).toInt = -1 := rfl
  have ta : (nI a).toInt = (a : Int) := nI_toInt (by omega)
  have tc : (nI a + nI c).toInt = (a : Int) + c := by rw [nI_add, nI_toInt (by omega)]; omega
  have tm : (nI a + nI c - 1).toInt = (a : Int) + c - 1 := by
    obtain ⟨b, hb⟩ : ∃ b, a + c = b + 1 := ⟨a + c - 1, by omega⟩
    rw [nI_add, hb, nI_pred, nI_toInt (by omega)]; omega
  have tk : (nI a - 1).toInt = (a : Int) - 1 := by
    obtain ⟨b, hb⟩ : ∃ b, a = b + 1 := ⟨a - 1, by omega⟩
    rw [hb, nI_pred, nI_toInt (by omega)]; omega
  by_cases h0 : y.toInt < 0
  · by_cases k0 : x.toInt < 0
    · refine e_s rfl rfl ?_
      refine e_s rfl rfl ?_
      refine e_s rfl rfl ?_
      refine e_s rfl rfl ?_
      refine e_s rfl rfl ?_
      refine e_sc rfl (by decide) (k := 3) (by decide) e3 ?_
      refine e_s rfl rfl ?_
      refine e_s rfl rfl ?_
      refine e_s rfl rfl ?_
      refine e_s rfl rfl ?_
      refine e_sc rfl (by decide) (k := 4) (by decide) e4 ?_
      refine e_s rfl rfl ?_
      refine e_c rfl rfl ⟨Nat.le_of_ble_eq_true rfl, Nat.le_of_ble_eq_true rfl, Nat.le_of_ble_eq_true rfl, rfl⟩ ?_
      refine e_s rfl rfl ?_
      refine e_s rfl rfl ?_
      refine e_s rfl rfl ?_
      refine e_s rfl rfl ?_
      refine e_s rfl rfl ?_
      refine e_c rfl rfl ⟨Nat.le_of_ble_eq_true rfl, Nat.le_of_ble_eq_true rfl, Nat.le_of_ble_eq_true rfl, xrcv_of (by decide) (g1)⟩ ?_
      refine e_s rfl rfl ?_
      refine e_gf rfl (by decide) g1 rfl ?_
      refine e_s rfl rfl ?_
      refine e_c rfl rfl ⟨Nat.le_of_ble_eq_true rfl, Nat.le_of_ble_eq_true rfl, Nat.le_of_ble_eq_true rfl, xrcv_of (by decide) (g2)⟩ ?_
      refine e_s rfl rfl ?_
      refine e_s rfl rfl ?_
      refine e_c rfl rfl ⟨Nat.le_of_ble_eq_true rfl, Nat.le_of_ble_eq_true rfl, Nat.le_of_ble_eq_true rfl, xrcv_of (by decide) (g2)⟩ ?_
      refine e_s rfl rfl ?_
      refine e_bt rfl rfl (by simp only [Int32.lt_iff_toInt_lt, Int32.le_iff_toInt_le]; omega) ?_
      refine e_s rfl rfl ?_
      refine e_r2 rfl (by decide) ?_
      refine e_bt rfl rfl (by decide) ?_
      refine e_s rfl rfl ?_
      refine e_s rfl rfl ?_
      refine e_gf rfl (by decide) g2 rfl ?_
      refine e_s rfl rfl ?_
      refine e_gf rfl (by decide) g2 rfl ?_
      refine e_s rfl rfl ?_
      refine e_bt rfl rfl (fun h => absurd (congrArg Int32.toInt h) (by omega)) ?_
      refine e_s rfl rfl ?_
      refine e_r1 rfl ?_
      refine e_s rfl rfl ?_
      refine e_s rfl rfl ?_
      refine e_s rfl rfl ?_
      refine e_c rfl rfl ⟨Nat.le_of_ble_eq_true rfl, Nat.le_of_ble_eq_true rfl, Nat.le_of_ble_eq_true rfl, xrcv_of (by decide) (g1)⟩ ?_
      refine e_s rfl rfl ?_
      refine e_gf rfl (by decide) g1 rfl ?_
      refine e_bt rfl rfl (by decide) ?_
      refine e_s rfl rfl ?_
      refine e_r2 rfl (by decide) ?_
      refine e_bt rfl rfl (by decide) ?_
      refine e_th rfl (by omega) (by omega) (by decide) ⟨_, rfl, ?_⟩
      refine e_s rfl rfl ?_
      refine e_s rfl rfl ?_
      refine e_r1 rfl ?_
      refine e_s rfl rfl ?_
      refine e_s rfl rfl ?_
      refine e_s rfl rfl ?_
      refine e_s rfl rfl ?_
      refine e_s rfl rfl ?_
      refine e_s rfl rfl ?_
      refine e_sc rfl (by decide) (k := 3) (by decide) e3 ?_
      refine e_s rfl rfl ?_
      refine e_s rfl rfl ?_
      refine e_s rfl rfl ?_
      refine e_s rfl rfl ?_
      refine e_sc rfl (by decide) (k := 4) (by decide) e4 ?_
      refine e_c rfl rfl ⟨Nat.le_of_ble_eq_true rfl, Nat.le_of_ble_eq_true rfl, Nat.le_of_ble_eq_true rfl, xrcv_of (by decide) (g205)⟩ ?_
      refine e_s rfl rfl ?_
      refine e_s rfl rfl ?_
      refine e_c rfl rfl ⟨Nat.le_of_ble_eq_true rfl, Nat.le_of_ble_eq_true rfl, Nat.le_of_ble_eq_true rfl, xrcv_of (by decide) (g205)⟩ ?_
      refine e_s rfl rfl ?_
      refine e_s rfl rfl ?_
      refine e_s rfl rfl ?_
      refine e_gf rfl (by decide) g205 rfl ?_
      refine e_s rfl rfl ?_
      refine e_s rfl rfl ?_
      refine e_c rfl rfl ⟨Nat.le_of_ble_eq_true rfl, Nat.le_of_ble_eq_true rfl, Nat.le_of_ble_eq_true rfl, rfl⟩ ?_
      refine e_s rfl rfl ?_
      refine e_s rfl rfl ?_
      refine e_bt rfl rfl (by simp only [Int32.lt_iff_toInt_lt, Int32.le_iff_toInt_le]; omega) ?_
      refine e_s rfl rfl ?_
      refine e_s rfl rfl ?_
      refine e_r2 rfl (by decide) ?_
      refine e_bt rfl rfl (by decide) ?_
      refine e_s rfl rfl ?_
      refine e_r2 rfl (by decide) ?_
      refine e_bt rfl rfl (by decide) ?_
      refine e_s rfl rfl ?_
      refine e_s rfl rfl ?_
      refine e_c rfl rfl ⟨Nat.le_of_ble_eq_true rfl, Nat.le_of_ble_eq_true rfl, Nat.le_of_ble_eq_true rfl, xrcv_of (by decide) (g205)⟩ ?_
      refine e_s rfl rfl ?_
      refine e_s rfl rfl ?_
      refine e_pf rfl (by decide) g205 (Nat.le_of_ble_eq_true rfl) rfl rfl ?_
      refine e_s rfl rfl ?_
      refine e_r1 rfl ?_
      refine e_r1 rfl ?_
      refine e_s rfl rfl ?_
      refine e_s rfl rfl ?_
      refine e_c rfl rfl ⟨Nat.le_of_ble_eq_true rfl, Nat.le_of_ble_eq_true rfl, Nat.le_of_ble_eq_true rfl, xrcv_of (by decide) (rfl)⟩ ?_
      refine e_s rfl rfl ?_
      refine e_gf rfl (by decide) rfl rfl ?_
      refine e_r1 rfl ?_
      refine e_s rfl rfl ?_
      refine e_bt rfl rfl (by decide) ?_
      refine e_s rfl rfl ?_
      refine e_bt rfl rfl (by decide) ?_
      refine e_s rfl rfl ?_
      refine e_s rfl rfl ?_
      refine e_s rfl rfl ?_
      refine e_s rfl rfl ?_
      refine e_s rfl rfl ?_
      refine e_s rfl rfl ?_
      refine e_s rfl rfl ?_
      refine e_s rfl rfl ?_
      refine e_bt rfl rfl (by decide) ?_
      refine e_s rfl rfl ?_
      refine e_r2 rfl (by decide) ?_
      exact rfl
    refine e_s rfl rfl ?_
    refine e_s rfl rfl ?_
    refine e_s rfl rfl ?_
    refine e_s rfl rfl ?_
    refine e_s rfl rfl ?_
    refine e_sc rfl (by decide) (k := 3) (by decide) e3 ?_
    refine e_s rfl rfl ?_
    refine e_s rfl rfl ?_
    refine e_s rfl rfl ?_
    refine e_s rfl rfl ?_
    refine e_sc rfl (by decide) (k := 4) (by decide) e4 ?_
    refine e_s rfl rfl ?_
    refine e_c rfl rfl ⟨Nat.le_of_ble_eq_true rfl, Nat.le_of_ble_eq_true rfl, Nat.le_of_ble_eq_true rfl, rfl⟩ ?_
    refine e_s rfl rfl ?_
    refine e_s rfl rfl ?_
    refine e_s rfl rfl ?_
    refine e_s rfl rfl ?_
    refine e_s rfl rfl ?_
    refine e_c rfl rfl ⟨Nat.le_of_ble_eq_true rfl, Nat.le_of_ble_eq_true rfl, Nat.le_of_ble_eq_true rfl, xrcv_of (by decide) (g1)⟩ ?_
    refine e_s rfl rfl ?_
    refine e_gf rfl (by decide) g1 rfl ?_
    refine e_s rfl rfl ?_
    refine e_c rfl rfl ⟨Nat.le_of_ble_eq_true rfl, Nat.le_of_ble_eq_true rfl, Nat.le_of_ble_eq_true rfl, xrcv_of (by decide) (g2)⟩ ?_
    refine e_s rfl rfl ?_
    refine e_s rfl rfl ?_
    refine e_c rfl rfl ⟨Nat.le_of_ble_eq_true rfl, Nat.le_of_ble_eq_true rfl, Nat.le_of_ble_eq_true rfl, xrcv_of (by decide) (g2)⟩ ?_
    refine e_s rfl rfl ?_
    refine e_bt rfl rfl (by simp only [Int32.lt_iff_toInt_lt, Int32.le_iff_toInt_le]; omega) ?_
    refine e_s rfl rfl ?_
    refine e_r2 rfl (by decide) ?_
    refine e_bt rfl rfl (by decide) ?_
    refine e_s rfl rfl ?_
    refine e_s rfl rfl ?_
    refine e_gf rfl (by decide) g2 rfl ?_
    refine e_s rfl rfl ?_
    refine e_gf rfl (by decide) g2 rfl ?_
    refine e_s rfl rfl ?_
    refine e_bt rfl rfl (fun h => absurd (congrArg Int32.toInt h) (by omega)) ?_
    refine e_s rfl rfl ?_
    refine e_r1 rfl ?_
    refine e_s rfl rfl ?_
    refine e_s rfl rfl ?_
    refine e_s rfl rfl ?_
    refine e_c rfl rfl ⟨Nat.le_of_ble_eq_true rfl, Nat.le_of_ble_eq_true rfl, Nat.le_of_ble_eq_true rfl, xrcv_of (by decide) (g1)⟩ ?_
    refine e_s rfl rfl ?_
    refine e_gf rfl (by decide) g1 rfl ?_
    refine e_bt rfl rfl (by decide) ?_
    refine e_s rfl rfl ?_
    refine e_r2 rfl (by decide) ?_
    refine e_bt rfl rfl (by decide) ?_
    refine e_th rfl (by omega) (by omega) (by decide) ⟨_, rfl, ?_⟩
    refine e_s rfl rfl ?_
    refine e_s rfl rfl ?_
    refine e_r1 rfl ?_
    refine e_s rfl rfl ?_
    refine e_s rfl rfl ?_
    refine e_s rfl rfl ?_
    refine e_s rfl rfl ?_
    refine e_s rfl rfl ?_
    refine e_s rfl rfl ?_
    refine e_sc rfl (by decide) (k := 3) (by decide) e3 ?_
    refine e_s rfl rfl ?_
    refine e_s rfl rfl ?_
    refine e_s rfl rfl ?_
    refine e_s rfl rfl ?_
    refine e_sc rfl (by decide) (k := 4) (by decide) e4 ?_
    refine e_c rfl rfl ⟨Nat.le_of_ble_eq_true rfl, Nat.le_of_ble_eq_true rfl, Nat.le_of_ble_eq_true rfl, xrcv_of (by decide) (g205)⟩ ?_
    refine e_s rfl rfl ?_
    refine e_s rfl rfl ?_
    refine e_c rfl rfl ⟨Nat.le_of_ble_eq_true rfl, Nat.le_of_ble_eq_true rfl, Nat.le_of_ble_eq_true rfl, xrcv_of (by decide) (g205)⟩ ?_
    refine e_s rfl rfl ?_
    refine e_s rfl rfl ?_
    refine e_s rfl rfl ?_
    refine e_gf rfl (by decide) g205 rfl ?_
    refine e_s rfl rfl ?_
    refine e_s rfl rfl ?_
    refine e_c rfl rfl ⟨Nat.le_of_ble_eq_true rfl, Nat.le_of_ble_eq_true rfl, Nat.le_of_ble_eq_true rfl, rfl⟩ ?_
    refine e_s rfl rfl ?_
    refine e_s rfl rfl ?_
    refine e_bf rfl rfl (by simp only [Int32.lt_iff_toInt_lt, Int32.le_iff_toInt_le]; omega) ?_
    refine e_s rfl rfl ?_
    refine e_s rfl rfl ?_
    refine e_bf rfl rfl (by simp only [Int32.lt_iff_toInt_lt, Int32.le_iff_toInt_le]; omega) ?_
    refine e_s rfl rfl ?_
    refine e_s rfl rfl ?_
    refine e_r2 rfl (by decide) ?_
    refine e_bt rfl rfl (by decide) ?_
    refine e_s rfl rfl ?_
    refine e_r2 rfl (by decide) ?_
    refine e_bt rfl rfl (by decide) ?_
    refine e_s rfl rfl ?_
    refine e_s rfl rfl ?_
    refine e_c rfl rfl ⟨Nat.le_of_ble_eq_true rfl, Nat.le_of_ble_eq_true rfl, Nat.le_of_ble_eq_true rfl, xrcv_of (by decide) (g205)⟩ ?_
    refine e_s rfl rfl ?_
    refine e_s rfl rfl ?_
    refine e_pf rfl (by decide) g205 (Nat.le_of_ble_eq_true rfl) rfl rfl ?_
    refine e_s rfl rfl ?_
    refine e_r1 rfl ?_
    refine e_r1 rfl ?_
    refine e_s rfl rfl ?_
    refine e_s rfl rfl ?_
    refine e_c rfl rfl ⟨Nat.le_of_ble_eq_true rfl, Nat.le_of_ble_eq_true rfl, Nat.le_of_ble_eq_true rfl, xrcv_of (by decide) (rfl)⟩ ?_
    refine e_s rfl rfl ?_
    refine e_gf rfl (by decide) rfl rfl ?_
    refine e_r1 rfl ?_
    refine e_s rfl rfl ?_
    refine e_bt rfl rfl (by decide) ?_
    refine e_s rfl rfl ?_
    refine e_bt rfl rfl (by decide) ?_
    refine e_s rfl rfl ?_
    refine e_s rfl rfl ?_
    refine e_s rfl rfl ?_
    refine e_s rfl rfl ?_
    refine e_s rfl rfl ?_
    refine e_s rfl rfl ?_
    refine e_s rfl rfl ?_
    refine e_s rfl rfl ?_
    refine e_bt rfl rfl (by decide) ?_
    refine e_s rfl rfl ?_
    refine e_r2 rfl (by decide) ?_
    exact rfl
  by_cases h1 : y.toInt < (a : Int)
  · by_cases k0 : x.toInt < 0
    · refine e_s rfl rfl ?_
      refine e_s rfl rfl ?_
      refine e_s rfl rfl ?_
      refine e_s rfl rfl ?_
      refine e_s rfl rfl ?_
      refine e_sc rfl (by decide) (k := 3) (by decide) e3 ?_
      refine e_s rfl rfl ?_
      refine e_s rfl rfl ?_
      refine e_s rfl rfl ?_
      refine e_s rfl rfl ?_
      refine e_sc rfl (by decide) (k := 4) (by decide) e4 ?_
      refine e_s rfl rfl ?_
      refine e_c rfl rfl ⟨Nat.le_of_ble_eq_true rfl, Nat.le_of_ble_eq_true rfl, Nat.le_of_ble_eq_true rfl, rfl⟩ ?_
      refine e_s rfl rfl ?_
      refine e_s rfl rfl ?_
      refine e_s rfl rfl ?_
      refine e_s rfl rfl ?_
      refine e_s rfl rfl ?_
      refine e_c rfl rfl ⟨Nat.le_of_ble_eq_true rfl, Nat.le_of_ble_eq_true rfl, Nat.le_of_ble_eq_true rfl, xrcv_of (by decide) (g1)⟩ ?_
      refine e_s rfl rfl ?_
      refine e_gf rfl (by decide) g1 rfl ?_
      refine e_s rfl rfl ?_
      refine e_c rfl rfl ⟨Nat.le_of_ble_eq_true rfl, Nat.le_of_ble_eq_true rfl, Nat.le_of_ble_eq_true rfl, xrcv_of (by decide) (g2)⟩ ?_
      refine e_s rfl rfl ?_
      refine e_s rfl rfl ?_
      refine e_c rfl rfl ⟨Nat.le_of_ble_eq_true rfl, Nat.le_of_ble_eq_true rfl, Nat.le_of_ble_eq_true rfl, xrcv_of (by decide) (g2)⟩ ?_
      refine e_s rfl rfl ?_
      refine e_bf rfl rfl (by simp only [Int32.lt_iff_toInt_lt, Int32.le_iff_toInt_le]; omega) ?_
      refine e_s rfl rfl ?_
      refine e_s rfl rfl ?_
      refine e_gf rfl (by decide) g2 rfl ?_
      refine e_bf rfl rfl (by simp only [Int32.lt_iff_toInt_lt, Int32.le_iff_toInt_le]; omega) ?_
      refine e_s rfl rfl ?_
      refine e_s rfl rfl ?_
      refine e_r2 rfl (by decide) ?_
      refine e_bf rfl rfl (by decide) ?_
      refine e_s rfl rfl ?_
      refine e_r1 rfl ?_
      refine e_s rfl rfl ?_
      refine e_s rfl rfl ?_
      refine e_s rfl rfl ?_
      refine e_c rfl rfl ⟨Nat.le_of_ble_eq_true rfl, Nat.le_of_ble_eq_true rfl, Nat.le_of_ble_eq_true rfl, xrcv_of (by decide) (g1)⟩ ?_
      refine e_s rfl rfl ?_
      refine e_gf rfl (by decide) g1 rfl ?_
      refine e_bt rfl rfl (by decide) ?_
      refine e_s rfl rfl ?_
      refine e_r2 rfl (by decide) ?_
      refine e_bt rfl rfl (by decide) ?_
      refine e_th rfl (by omega) (by omega) (by decide) ⟨_, rfl, ?_⟩
      refine e_s rfl rfl ?_
      refine e_s rfl rfl ?_
      refine e_r1 rfl ?_
      refine e_s rfl rfl ?_
      refine e_s rfl rfl ?_
      refine e_s rfl rfl ?_
      refine e_s rfl rfl ?_
      refine e_s rfl rfl ?_
      refine e_s rfl rfl ?_
      refine e_sc rfl (by decide) (k := 3) (by decide) e3 ?_
      refine e_s rfl rfl ?_
      refine e_s rfl rfl ?_
      refine e_s rfl rfl ?_
      refine e_s rfl rfl ?_
      refine e_sc rfl (by decide) (k := 4) (by decide) e4 ?_
      refine e_c rfl rfl ⟨Nat.le_of_ble_eq_true rfl, Nat.le_of_ble_eq_true rfl, Nat.le_of_ble_eq_true rfl, xrcv_of (by decide) (g205)⟩ ?_
      refine e_s rfl rfl ?_
      refine e_s rfl rfl ?_
      refine e_c rfl rfl ⟨Nat.le_of_ble_eq_true rfl, Nat.le_of_ble_eq_true rfl, Nat.le_of_ble_eq_true rfl, xrcv_of (by decide) (g205)⟩ ?_
      refine e_s rfl rfl ?_
      refine e_s rfl rfl ?_
      refine e_s rfl rfl ?_
      refine e_gf rfl (by decide) g205 rfl ?_
      refine e_s rfl rfl ?_
      refine e_s rfl rfl ?_
      refine e_c rfl rfl ⟨Nat.le_of_ble_eq_true rfl, Nat.le_of_ble_eq_true rfl, Nat.le_of_ble_eq_true rfl, rfl⟩ ?_
      refine e_s rfl rfl ?_
      refine e_s rfl rfl ?_
      refine e_bt rfl rfl (by simp only [Int32.lt_iff_toInt_lt, Int32.le_iff_toInt_le]; omega) ?_
      refine e_s rfl rfl ?_
      refine e_s rfl rfl ?_
      refine e_r2 rfl (by decide) ?_
      refine e_bt rfl rfl (by decide) ?_
      refine e_s rfl rfl ?_
      refine e_r2 rfl (by decide) ?_
      refine e_bt rfl rfl (by decide) ?_
      refine e_s rfl rfl ?_
      refine e_s rfl rfl ?_
      refine e_c rfl rfl ⟨Nat.le_of_ble_eq_true rfl, Nat.le_of_ble_eq_true rfl, Nat.le_of_ble_eq_true rfl, xrcv_of (by decide) (g205)⟩ ?_
      refine e_s rfl rfl ?_
      refine e_s rfl rfl ?_
      refine e_pf rfl (by decide) g205 (Nat.le_of_ble_eq_true rfl) rfl rfl ?_
      refine e_s rfl rfl ?_
      refine e_r1 rfl ?_
      refine e_r1 rfl ?_
      refine e_s rfl rfl ?_
      refine e_s rfl rfl ?_
      refine e_c rfl rfl ⟨Nat.le_of_ble_eq_true rfl, Nat.le_of_ble_eq_true rfl, Nat.le_of_ble_eq_true rfl, xrcv_of (by decide) (rfl)⟩ ?_
      refine e_s rfl rfl ?_
      refine e_gf rfl (by decide) rfl rfl ?_
      refine e_r1 rfl ?_
      refine e_s rfl rfl ?_
      refine e_bt rfl rfl (by decide) ?_
      refine e_s rfl rfl ?_
      refine e_bt rfl rfl (by decide) ?_
      refine e_s rfl rfl ?_
      refine e_s rfl rfl ?_
      refine e_s rfl rfl ?_
      refine e_s rfl rfl ?_
      refine e_s rfl rfl ?_
      refine e_s rfl rfl ?_
      refine e_s rfl rfl ?_
      refine e_s rfl rfl ?_
      refine e_bt rfl rfl (by decide) ?_
      refine e_s rfl rfl ?_
      refine e_r2 rfl (by decide) ?_
      exact rfl
    refine e_s rfl rfl ?_
    refine e_s rfl rfl ?_
    refine e_s rfl rfl ?_
    refine e_s rfl rfl ?_
    refine e_s rfl rfl ?_
    refine e_sc rfl (by decide) (k := 3) (by decide) e3 ?_
    refine e_s rfl rfl ?_
    refine e_s rfl rfl ?_
    refine e_s rfl rfl ?_
    refine e_s rfl rfl ?_
    refine e_sc rfl (by decide) (k := 4) (by decide) e4 ?_
    refine e_s rfl rfl ?_
    refine e_c rfl rfl ⟨Nat.le_of_ble_eq_true rfl, Nat.le_of_ble_eq_true rfl, Nat.le_of_ble_eq_true rfl, rfl⟩ ?_
    refine e_s rfl rfl ?_
    refine e_s rfl rfl ?_
    refine e_s rfl rfl ?_
    refine e_s rfl rfl ?_
    refine e_s rfl rfl ?_
    refine e_c rfl rfl ⟨Nat.le_of_ble_eq_true rfl, Nat.le_of_ble_eq_true rfl, Nat.le_of_ble_eq_true rfl, xrcv_of (by decide) (g1)⟩ ?_
    refine e_s rfl rfl ?_
    refine e_gf rfl (by decide) g1 rfl ?_
    refine e_s rfl rfl ?_
    refine e_c rfl rfl ⟨Nat.le_of_ble_eq_true rfl, Nat.le_of_ble_eq_true rfl, Nat.le_of_ble_eq_true rfl, xrcv_of (by decide) (g2)⟩ ?_
    refine e_s rfl rfl ?_
    refine e_s rfl rfl ?_
    refine e_c rfl rfl ⟨Nat.le_of_ble_eq_true rfl, Nat.le_of_ble_eq_true rfl, Nat.le_of_ble_eq_true rfl, xrcv_of (by decide) (g2)⟩ ?_
    refine e_s rfl rfl ?_
    refine e_bf rfl rfl (by simp only [Int32.lt_iff_toInt_lt, Int32.le_iff_toInt_le]; omega) ?_
    refine e_s rfl rfl ?_
    refine e_s rfl rfl ?_
    refine e_gf rfl (by decide) g2 rfl ?_
    refine e_bf rfl rfl (by simp only [Int32.lt_iff_toInt_lt, Int32.le_iff_toInt_le]; omega) ?_
    refine e_s rfl rfl ?_
    refine e_s rfl rfl ?_
    refine e_r2 rfl (by decide) ?_
    refine e_bf rfl rfl (by decide) ?_
    refine e_s rfl rfl ?_
    refine e_r1 rfl ?_
    refine e_s rfl rfl ?_
    refine e_s rfl rfl ?_
    refine e_s rfl rfl ?_
    refine e_c rfl rfl ⟨Nat.le_of_ble_eq_true rfl, Nat.le_of_ble_eq_true rfl, Nat.le_of_ble_eq_true rfl, xrcv_of (by decide) (g1)⟩ ?_
    refine e_s rfl rfl ?_
    refine e_gf rfl (by decide) g1 rfl ?_
    refine e_bt rfl rfl (by decide) ?_
    refine e_s rfl rfl ?_
    refine e_r2 rfl (by decide) ?_
    refine e_bt rfl rfl (by decide) ?_
    refine e_th rfl (by omega) (by omega) (by decide) ⟨_, rfl, ?_⟩
    refine e_s rfl rfl ?_
    refine e_s rfl rfl ?_
    refine e_r1 rfl ?_
    refine e_s rfl rfl ?_
    refine e_s rfl rfl ?_
    refine e_s rfl rfl ?_
    refine e_s rfl rfl ?_
    refine e_s rfl rfl ?_
    refine e_s rfl rfl ?_
    refine e_sc rfl (by decide) (k := 3) (by decide) e3 ?_
    refine e_s rfl rfl ?_
    refine e_s rfl rfl ?_
    refine e_s rfl rfl ?_
    refine e_s rfl rfl ?_
    refine e_sc rfl (by decide) (k := 4) (by decide) e4 ?_
    refine e_c rfl rfl ⟨Nat.le_of_ble_eq_true rfl, Nat.le_of_ble_eq_true rfl, Nat.le_of_ble_eq_true rfl, xrcv_of (by decide) (g205)⟩ ?_
    refine e_s rfl rfl ?_
    refine e_s rfl rfl ?_
    refine e_c rfl rfl ⟨Nat.le_of_ble_eq_true rfl, Nat.le_of_ble_eq_true rfl, Nat.le_of_ble_eq_true rfl, xrcv_of (by decide) (g205)⟩ ?_
    refine e_s rfl rfl ?_
    refine e_s rfl rfl ?_
    refine e_s rfl rfl ?_
    refine e_gf rfl (by decide) g205 rfl ?_
    refine e_s rfl rfl ?_
    refine e_s rfl rfl ?_
    refine e_c rfl rfl ⟨Nat.le_of_ble_eq_true rfl, Nat.le_of_ble_eq_true rfl, Nat.le_of_ble_eq_true rfl, rfl⟩ ?_
    refine e_s rfl rfl ?_
    refine e_s rfl rfl ?_
    refine e_bf rfl rfl (by simp only [Int32.lt_iff_toInt_lt, Int32.le_iff_toInt_le]; omega) ?_
    refine e_s rfl rfl ?_
    refine e_s rfl rfl ?_
    refine e_bf rfl rfl (by simp only [Int32.lt_iff_toInt_lt, Int32.le_iff_toInt_le]; omega) ?_
    refine e_s rfl rfl ?_
    refine e_s rfl rfl ?_
    refine e_r2 rfl (by decide) ?_
    refine e_bt rfl rfl (by decide) ?_
    refine e_s rfl rfl ?_
    refine e_r2 rfl (by decide) ?_
    refine e_bt rfl rfl (by decide) ?_
    refine e_s rfl rfl ?_
    refine e_s rfl rfl ?_
    refine e_c rfl rfl ⟨Nat.le_of_ble_eq_true rfl, Nat.le_of_ble_eq_true rfl, Nat.le_of_ble_eq_true rfl, xrcv_of (by decide) (g205)⟩ ?_
    refine e_s rfl rfl ?_
    refine e_s rfl rfl ?_
    refine e_pf rfl (by decide) g205 (Nat.le_of_ble_eq_true rfl) rfl rfl ?_
    refine e_s rfl rfl ?_
    refine e_r1 rfl ?_
    refine e_r1 rfl ?_
    refine e_s rfl rfl ?_
    refine e_s rfl rfl ?_
    refine e_c rfl rfl ⟨Nat.le_of_ble_eq_true rfl, Nat.le_of_ble_eq_true rfl, Nat.le_of_ble_eq_true rfl, xrcv_of (by decide) (rfl)⟩ ?_
    refine e_s rfl rfl ?_
    refine e_gf rfl (by decide) rfl rfl ?_
    refine e_r1 rfl ?_
    refine e_s rfl rfl ?_
    refine e_bt rfl rfl (by decide) ?_
    refine e_s rfl rfl ?_
    refine e_bt rfl rfl (by decide) ?_
    refine e_s rfl rfl ?_
    refine e_s rfl rfl ?_
    refine e_s rfl rfl ?_
    refine e_s rfl rfl ?_
    refine e_s rfl rfl ?_
    refine e_s rfl rfl ?_
    refine e_s rfl rfl ?_
    refine e_s rfl rfl ?_
    refine e_bt rfl rfl (by decide) ?_
    refine e_s rfl rfl ?_
    refine e_r2 rfl (by decide) ?_
    exact rfl
  by_cases h2 : y = nI a + nI c
  · by_cases k0 : x.toInt < 0
    · refine e_s rfl rfl ?_
      refine e_s rfl rfl ?_
      refine e_s rfl rfl ?_
      refine e_s rfl rfl ?_
      refine e_s rfl rfl ?_
      refine e_sc rfl (by decide) (k := 3) (by decide) e3 ?_
      refine e_s rfl rfl ?_
      refine e_s rfl rfl ?_
      refine e_s rfl rfl ?_
      refine e_s rfl rfl ?_
      refine e_sc rfl (by decide) (k := 4) (by decide) e4 ?_
      refine e_s rfl rfl ?_
      refine e_c rfl rfl ⟨Nat.le_of_ble_eq_true rfl, Nat.le_of_ble_eq_true rfl, Nat.le_of_ble_eq_true rfl, rfl⟩ ?_
      refine e_s rfl rfl ?_
      refine e_s rfl rfl ?_
      refine e_s rfl rfl ?_
      refine e_s rfl rfl ?_
      refine e_s rfl rfl ?_
      refine e_c rfl rfl ⟨Nat.le_of_ble_eq_true rfl, Nat.le_of_ble_eq_true rfl, Nat.le_of_ble_eq_true rfl, xrcv_of (by decide) (g1)⟩ ?_
      refine e_s rfl rfl ?_
      refine e_gf rfl (by decide) g1 rfl ?_
      refine e_s rfl rfl ?_
      refine e_c rfl rfl ⟨Nat.le_of_ble_eq_true rfl, Nat.le_of_ble_eq_true rfl, Nat.le_of_ble_eq_true rfl, xrcv_of (by decide) (g2)⟩ ?_
      refine e_s rfl rfl ?_
      refine e_s rfl rfl ?_
      refine e_c rfl rfl ⟨Nat.le_of_ble_eq_true rfl, Nat.le_of_ble_eq_true rfl, Nat.le_of_ble_eq_true rfl, xrcv_of (by decide) (g2)⟩ ?_
      refine e_s rfl rfl ?_
      refine e_bf rfl rfl (by simp only [Int32.lt_iff_toInt_lt, Int32.le_iff_toInt_le]; omega) ?_
      refine e_s rfl rfl ?_
      refine e_s rfl rfl ?_
      refine e_gf rfl (by decide) g2 rfl ?_
      refine e_bt rfl rfl (by simp only [Int32.lt_iff_toInt_lt, Int32.le_iff_toInt_le]; omega) ?_
      refine e_s rfl rfl ?_
      refine e_r2 rfl (by decide) ?_
      refine e_bt rfl rfl (by decide) ?_
      refine e_s rfl rfl ?_
      refine e_s rfl rfl ?_
      refine e_gf rfl (by decide) g2 rfl ?_
      refine e_s rfl rfl ?_
      refine e_gf rfl (by decide) g2 rfl ?_
      refine e_s rfl rfl ?_
      refine e_bf rfl rfl (not_not_intro h2) ?_
      refine e_s rfl rfl ?_
      refine e_gf rfl (by decide) g2 rfl ?_
      refine e_s rfl rfl ?_
      refine e_r1 rfl ?_
      refine e_s rfl rfl ?_
      refine e_s rfl rfl ?_
      refine e_s rfl rfl ?_
      refine e_c rfl rfl ⟨Nat.le_of_ble_eq_true rfl, Nat.le_of_ble_eq_true rfl, Nat.le_of_ble_eq_true rfl, xrcv_of (by decide) (g1)⟩ ?_
      refine e_s rfl rfl ?_
      refine e_gf rfl (by decide) g1 rfl ?_
      refine e_bt rfl rfl (by decide) ?_
      refine e_s rfl rfl ?_
      refine e_r2 rfl (by decide) ?_
      refine e_bt rfl rfl (by decide) ?_
      refine e_th rfl (by omega) (by omega) (by decide) ⟨_, rfl, ?_⟩
      refine e_s rfl rfl ?_
      refine e_s rfl rfl ?_
      refine e_r1 rfl ?_
      refine e_s rfl rfl ?_
      refine e_s rfl rfl ?_
      refine e_s rfl rfl ?_
      refine e_s rfl rfl ?_
      refine e_s rfl rfl ?_
      refine e_s rfl rfl ?_
      refine e_sc rfl (by decide) (k := 3) (by decide) e3 ?_
      refine e_s rfl rfl ?_
      refine e_s rfl rfl ?_
      refine e_s rfl rfl ?_
      refine e_s rfl rfl ?_
      refine e_sc rfl (by decide) (k := 4) (by decide) e4 ?_
      refine e_c rfl rfl ⟨Nat.le_of_ble_eq_true rfl, Nat.le_of_ble_eq_true rfl, Nat.le_of_ble_eq_true rfl, xrcv_of (by decide) (g205)⟩ ?_
      refine e_s rfl rfl ?_
      refine e_s rfl rfl ?_
      refine e_c rfl rfl ⟨Nat.le_of_ble_eq_true rfl, Nat.le_of_ble_eq_true rfl, Nat.le_of_ble_eq_true rfl, xrcv_of (by decide) (g205)⟩ ?_
      refine e_s rfl rfl ?_
      refine e_s rfl rfl ?_
      refine e_s rfl rfl ?_
      refine e_gf rfl (by decide) g205 rfl ?_
      refine e_s rfl rfl ?_
      refine e_s rfl rfl ?_
      refine e_c rfl rfl ⟨Nat.le_of_ble_eq_true rfl, Nat.le_of_ble_eq_true rfl, Nat.le_of_ble_eq_true rfl, rfl⟩ ?_
      refine e_s rfl rfl ?_
      refine e_s rfl rfl ?_
      refine e_bt rfl rfl (by simp only [Int32.lt_iff_toInt_lt, Int32.le_iff_toInt_le]; omega) ?_
      refine e_s rfl rfl ?_
      refine e_s rfl rfl ?_
      refine e_r2 rfl (by decide) ?_
      refine e_bt rfl rfl (by decide) ?_
      refine e_s rfl rfl ?_
      refine e_r2 rfl (by decide) ?_
      refine e_bt rfl rfl (by decide) ?_
      refine e_s rfl rfl ?_
      refine e_s rfl rfl ?_
      refine e_c rfl rfl ⟨Nat.le_of_ble_eq_true rfl, Nat.le_of_ble_eq_true rfl, Nat.le_of_ble_eq_true rfl, xrcv_of (by decide) (g205)⟩ ?_
      refine e_s rfl rfl ?_
      refine e_s rfl rfl ?_
      refine e_pf rfl (by decide) g205 (Nat.le_of_ble_eq_true rfl) rfl rfl ?_
      refine e_s rfl rfl ?_
      refine e_r1 rfl ?_
      refine e_r1 rfl ?_
      refine e_s rfl rfl ?_
      refine e_s rfl rfl ?_
      refine e_c rfl rfl ⟨Nat.le_of_ble_eq_true rfl, Nat.le_of_ble_eq_true rfl, Nat.le_of_ble_eq_true rfl, xrcv_of (by decide) (rfl)⟩ ?_
      refine e_s rfl rfl ?_
      refine e_gf rfl (by decide) rfl rfl ?_
      refine e_r1 rfl ?_
      refine e_s rfl rfl ?_
      refine e_bt rfl rfl (by decide) ?_
      refine e_s rfl rfl ?_
      refine e_bt rfl rfl (by decide) ?_
      refine e_s rfl rfl ?_
      refine e_s rfl rfl ?_
      refine e_s rfl rfl ?_
      refine e_s rfl rfl ?_
      refine e_s rfl rfl ?_
      refine e_s rfl rfl ?_
      refine e_s rfl rfl ?_
      refine e_s rfl rfl ?_
      refine e_bt rfl rfl (by decide) ?_
      refine e_s rfl rfl ?_
      refine e_r2 rfl (by decide) ?_
      exact rfl
    refine e_s rfl rfl ?_
    refine e_s rfl rfl ?_
    refine e_s rfl rfl ?_
    refine e_s rfl rfl ?_
    refine e_s rfl rfl ?_
    refine e_sc rfl (by decide) (k := 3) (by decide) e3 ?_
    refine e_s rfl rfl ?_
    refine e_s rfl rfl ?_
    refine e_s rfl rfl ?_
    refine e_s rfl rfl ?_
    refine e_sc rfl (by decide) (k := 4) (by decide) e4 ?_
    refine e_s rfl rfl ?_
    refine e_c rfl rfl ⟨Nat.le_of_ble_eq_true rfl, Nat.le_of_ble_eq_true rfl, Nat.le_of_ble_eq_true rfl, rfl⟩ ?_
    refine e_s rfl rfl ?_
    refine e_s rfl rfl ?_
    refine e_s rfl rfl ?_
    refine e_s rfl rfl ?_
    refine e_s rfl rfl ?_
    refine e_c rfl rfl ⟨Nat.le_of_ble_eq_true rfl, Nat.le_of_ble_eq_true rfl, Nat.le_of_ble_eq_true rfl, xrcv_of (by decide) (g1)⟩ ?_
    refine e_s rfl rfl ?_
    refine e_gf rfl (by decide) g1 rfl ?_
    refine e_s rfl rfl ?_
    refine e_c rfl rfl ⟨Nat.le_of_ble_eq_true rfl, Nat.le_of_ble_eq_true rfl, Nat.le_of_ble_eq_true rfl, xrcv_of (by decide) (g2)⟩ ?_
    refine e_s rfl rfl ?_
    refine e_s rfl rfl ?_
    refine e_c rfl rfl ⟨Nat.le_of_ble_eq_true rfl, Nat.le_of_ble_eq_true rfl, Nat.le_of_ble_eq_true rfl, xrcv_of (by decide) (g2)⟩ ?_
    refine e_s rfl rfl ?_
    refine e_bf rfl rfl (by simp only [Int32.lt_iff_toInt_lt, Int32.le_iff_toInt_le]; omega) ?_
    refine e_s rfl rfl ?_
    refine e_s rfl rfl ?_
    refine e_gf rfl (by decide) g2 rfl ?_
    refine e_bt rfl rfl (by simp only [Int32.lt_iff_toInt_lt, Int32.le_iff_toInt_le]; omega) ?_
    refine e_s rfl rfl ?_
    refine e_r2 rfl (by decide) ?_
    refine e_bt rfl rfl (by decide) ?_
    refine e_s rfl rfl ?_
    refine e_s rfl rfl ?_
    refine e_gf rfl (by decide) g2 rfl ?_
    refine e_s rfl rfl ?_
    refine e_gf rfl (by decide) g2 rfl ?_
    refine e_s rfl rfl ?_
    refine e_bf rfl rfl (not_not_intro h2) ?_
    refine e_s rfl rfl ?_
    refine e_gf rfl (by decide) g2 rfl ?_
    refine e_s rfl rfl ?_
    refine e_r1 rfl ?_
    refine e_s rfl rfl ?_
    refine e_s rfl rfl ?_
    refine e_s rfl rfl ?_
    refine e_c rfl rfl ⟨Nat.le_of_ble_eq_true rfl, Nat.le_of_ble_eq_true rfl, Nat.le_of_ble_eq_true rfl, xrcv_of (by decide) (g1)⟩ ?_
    refine e_s rfl rfl ?_
    refine e_gf rfl (by decide) g1 rfl ?_
    refine e_bt rfl rfl (by decide) ?_
    refine e_s rfl rfl ?_
    refine e_r2 rfl (by decide) ?_
    refine e_bt rfl rfl (by decide) ?_
    refine e_th rfl (by omega) (by omega) (by decide) ⟨_, rfl, ?_⟩
    refine e_s rfl rfl ?_
    refine e_s rfl rfl ?_
    refine e_r1 rfl ?_
    refine e_s rfl rfl ?_
    refine e_s rfl rfl ?_
    refine e_s rfl rfl ?_
    refine e_s rfl rfl ?_
    refine e_s rfl rfl ?_
    refine e_s rfl rfl ?_
    refine e_sc rfl (by decide) (k := 3) (by decide) e3 ?_
    refine e_s rfl rfl ?_
    refine e_s rfl rfl ?_
    refine e_s rfl rfl ?_
    refine e_s rfl rfl ?_
    refine e_sc rfl (by decide) (k := 4) (by decide) e4 ?_
    refine e_c rfl rfl ⟨Nat.le_of_ble_eq_true rfl, Nat.le_of_ble_eq_true rfl, Nat.le_of_ble_eq_true rfl, xrcv_of (by decide) (g205)⟩ ?_
    refine e_s rfl rfl ?_
    refine e_s rfl rfl ?_
    refine e_c rfl rfl ⟨Nat.le_of_ble_eq_true rfl, Nat.le_of_ble_eq_true rfl, Nat.le_of_ble_eq_true rfl, xrcv_of (by decide) (g205)⟩ ?_
    refine e_s rfl rfl ?_
    refine e_s rfl rfl ?_
    refine e_s rfl rfl ?_
    refine e_gf rfl (by decide) g205 rfl ?_
    refine e_s rfl rfl ?_
    refine e_s rfl rfl ?_
    refine e_c rfl rfl ⟨Nat.le_of_ble_eq_true rfl, Nat.le_of_ble_eq_true rfl, Nat.le_of_ble_eq_true rfl, rfl⟩ ?_
    refine e_s rfl rfl ?_
    refine e_s rfl rfl ?_
    refine e_bf rfl rfl (by simp only [Int32.lt_iff_toInt_lt, Int32.le_iff_toInt_le]; omega) ?_
    refine e_s rfl rfl ?_
    refine e_s rfl rfl ?_
    refine e_bf rfl rfl (by simp only [Int32.lt_iff_toInt_lt, Int32.le_iff_toInt_le]; omega) ?_
    refine e_s rfl rfl ?_
    refine e_s rfl rfl ?_
    refine e_r2 rfl (by decide) ?_
    refine e_bt rfl rfl (by decide) ?_
    refine e_s rfl rfl ?_
    refine e_r2 rfl (by decide) ?_
    refine e_bt rfl rfl (by decide) ?_
    refine e_s rfl rfl ?_
    refine e_s rfl rfl ?_
    refine e_c rfl rfl ⟨Nat.le_of_ble_eq_true rfl, Nat.le_of_ble_eq_true rfl, Nat.le_of_ble_eq_true rfl, xrcv_of (by decide) (g205)⟩ ?_
    refine e_s rfl rfl ?_
    refine e_s rfl rfl ?_
    refine e_pf rfl (by decide) g205 (Nat.le_of_ble_eq_true rfl) rfl rfl ?_
    refine e_s rfl rfl ?_
    refine e_r1 rfl ?_
    refine e_r1 rfl ?_
    refine e_s rfl rfl ?_
    refine e_s rfl rfl ?_
    refine e_c rfl rfl ⟨Nat.le_of_ble_eq_true rfl, Nat.le_of_ble_eq_true rfl, Nat.le_of_ble_eq_true rfl, xrcv_of (by decide) (rfl)⟩ ?_
    refine e_s rfl rfl ?_
    refine e_gf rfl (by decide) rfl rfl ?_
    refine e_r1 rfl ?_
    refine e_s rfl rfl ?_
    refine e_bt rfl rfl (by decide) ?_
    refine e_s rfl rfl ?_
    refine e_bt rfl rfl (by decide) ?_
    refine e_s rfl rfl ?_
    refine e_s rfl rfl ?_
    refine e_s rfl rfl ?_
    refine e_s rfl rfl ?_
    refine e_s rfl rfl ?_
    refine e_s rfl rfl ?_
    refine e_s rfl rfl ?_
    refine e_s rfl rfl ?_
    refine e_bt rfl rfl (by decide) ?_
    refine e_s rfl rfl ?_
    refine e_r2 rfl (by decide) ?_
    exact rfl
  by_cases k0 : x.toInt < 0
  · refine e_s rfl rfl ?_
    refine e_s rfl rfl ?_
    refine e_s rfl rfl ?_
    refine e_s rfl rfl ?_
    refine e_s rfl rfl ?_
    refine e_sc rfl (by decide) (k := 3) (by decide) e3 ?_
    refine e_s rfl rfl ?_
    refine e_s rfl rfl ?_
    refine e_s rfl rfl ?_
    refine e_s rfl rfl ?_
    refine e_sc rfl (by decide) (k := 4) (by decide) e4 ?_
    refine e_s rfl rfl ?_
    refine e_c rfl rfl ⟨Nat.le_of_ble_eq_true rfl, Nat.le_of_ble_eq_true rfl, Nat.le_of_ble_eq_true rfl, rfl⟩ ?_
    refine e_s rfl rfl ?_
    refine e_s rfl rfl ?_
    refine e_s rfl rfl ?_
    refine e_s rfl rfl ?_
    refine e_s rfl rfl ?_
    refine e_c rfl rfl ⟨Nat.le_of_ble_eq_true rfl, Nat.le_of_ble_eq_true rfl, Nat.le_of_ble_eq_true rfl, xrcv_of (by decide) (g1)⟩ ?_
    refine e_s rfl rfl ?_
    refine e_gf rfl (by decide) g1 rfl ?_
    refine e_s rfl rfl ?_
    refine e_c rfl rfl ⟨Nat.le_of_ble_eq_true rfl, Nat.le_of_ble_eq_true rfl, Nat.le_of_ble_eq_true rfl, xrcv_of (by decide) (g2)⟩ ?_
    refine e_s rfl rfl ?_
    refine e_s rfl rfl ?_
    refine e_c rfl rfl ⟨Nat.le_of_ble_eq_true rfl, Nat.le_of_ble_eq_true rfl, Nat.le_of_ble_eq_true rfl, xrcv_of (by decide) (g2)⟩ ?_
    refine e_s rfl rfl ?_
    refine e_bf rfl rfl (by simp only [Int32.lt_iff_toInt_lt, Int32.le_iff_toInt_le]; omega) ?_
    refine e_s rfl rfl ?_
    refine e_s rfl rfl ?_
    refine e_gf rfl (by decide) g2 rfl ?_
    refine e_bt rfl rfl (by simp only [Int32.lt_iff_toInt_lt, Int32.le_iff_toInt_le]; omega) ?_
    refine e_s rfl rfl ?_
    refine e_r2 rfl (by decide) ?_
    refine e_bt rfl rfl (by decide) ?_
    refine e_s rfl rfl ?_
    refine e_s rfl rfl ?_
    refine e_gf rfl (by decide) g2 rfl ?_
    refine e_s rfl rfl ?_
    refine e_gf rfl (by decide) g2 rfl ?_
    refine e_s rfl rfl ?_
    refine e_bt rfl rfl h2 ?_
    refine e_s rfl rfl ?_
    refine e_r1 rfl ?_
    refine e_s rfl rfl ?_
    refine e_s rfl rfl ?_
    refine e_s rfl rfl ?_
    refine e_c rfl rfl ⟨Nat.le_of_ble_eq_true rfl, Nat.le_of_ble_eq_true rfl, Nat.le_of_ble_eq_true rfl, xrcv_of (by decide) (g1)⟩ ?_
    refine e_s rfl rfl ?_
    refine e_gf rfl (by decide) g1 rfl ?_
    refine e_bt rfl rfl (by decide) ?_
    refine e_s rfl rfl ?_
    refine e_r2 rfl (by decide) ?_
    refine e_bt rfl rfl (by decide) ?_
    refine e_th rfl (by omega) (by omega) (by decide) ⟨_, rfl, ?_⟩
    refine e_s rfl rfl ?_
    refine e_s rfl rfl ?_
    refine e_r1 rfl ?_
    refine e_s rfl rfl ?_
    refine e_s rfl rfl ?_
    refine e_s rfl rfl ?_
    refine e_s rfl rfl ?_
    refine e_s rfl rfl ?_
    refine e_s rfl rfl ?_
    refine e_sc rfl (by decide) (k := 3) (by decide) e3 ?_
    refine e_s rfl rfl ?_
    refine e_s rfl rfl ?_
    refine e_s rfl rfl ?_
    refine e_s rfl rfl ?_
    refine e_sc rfl (by decide) (k := 4) (by decide) e4 ?_
    refine e_c rfl rfl ⟨Nat.le_of_ble_eq_true rfl, Nat.le_of_ble_eq_true rfl, Nat.le_of_ble_eq_true rfl, xrcv_of (by decide) (g205)⟩ ?_
    refine e_s rfl rfl ?_
    refine e_s rfl rfl ?_
    refine e_c rfl rfl ⟨Nat.le_of_ble_eq_true rfl, Nat.le_of_ble_eq_true rfl, Nat.le_of_ble_eq_true rfl, xrcv_of (by decide) (g205)⟩ ?_
    refine e_s rfl rfl ?_
    refine e_s rfl rfl ?_
    refine e_s rfl rfl ?_
    refine e_gf rfl (by decide) g205 rfl ?_
    refine e_s rfl rfl ?_
    refine e_s rfl rfl ?_
    refine e_c rfl rfl ⟨Nat.le_of_ble_eq_true rfl, Nat.le_of_ble_eq_true rfl, Nat.le_of_ble_eq_true rfl, rfl⟩ ?_
    refine e_s rfl rfl ?_
    refine e_s rfl rfl ?_
    refine e_bt rfl rfl (by simp only [Int32.lt_iff_toInt_lt, Int32.le_iff_toInt_le]; omega) ?_
    refine e_s rfl rfl ?_
    refine e_s rfl rfl ?_
    refine e_r2 rfl (by decide) ?_
    refine e_bt rfl rfl (by decide) ?_
    refine e_s rfl rfl ?_
    refine e_r2 rfl (by decide) ?_
    refine e_bt rfl rfl (by decide) ?_
    refine e_s rfl rfl ?_
    refine e_s rfl rfl ?_
    refine e_c rfl rfl ⟨Nat.le_of_ble_eq_true rfl, Nat.le_of_ble_eq_true rfl, Nat.le_of_ble_eq_true rfl, xrcv_of (by decide) (g205)⟩ ?_
    refine e_s rfl rfl ?_
    refine e_s rfl rfl ?_
    refine e_pf rfl (by decide) g205 (Nat.le_of_ble_eq_true rfl) rfl rfl ?_
    refine e_s rfl rfl ?_
    refine e_r1 rfl ?_
    refine e_r1 rfl ?_
    refine e_s rfl rfl ?_
    refine e_s rfl rfl ?_
    refine e_c rfl rfl ⟨Nat.le_of_ble_eq_true rfl, Nat.le_of_ble_eq_true rfl, Nat.le_of_ble_eq_true rfl, xrcv_of (by decide) (rfl)⟩ ?_
    refine e_s rfl rfl ?_
    refine e_gf rfl (by decide) rfl rfl ?_
    refine e_r1 rfl ?_
    refine e_s rfl rfl ?_
    refine e_bt rfl rfl (by decide) ?_
    refine e_s rfl rfl ?_
    refine e_bt rfl rfl (by decide) ?_
    refine e_s rfl rfl ?_
    refine e_s rfl rfl ?_
    refine e_s rfl rfl ?_
    refine e_s rfl rfl ?_
    refine e_s rfl rfl ?_
    refine e_s rfl rfl ?_
    refine e_s rfl rfl ?_
    refine e_s rfl rfl ?_
    refine e_bt rfl rfl (by decide) ?_
    refine e_s rfl rfl ?_
    refine e_r2 rfl (by decide) ?_
    exact rfl
  refine e_s rfl rfl ?_
  refine e_s rfl rfl ?_
  refine e_s rfl rfl ?_
  refine e_s rfl rfl ?_
  refine e_s rfl rfl ?_
  refine e_sc rfl (by decide) (k := 3) (by decide) e3 ?_
  refine e_s rfl rfl ?_
  refine e_s rfl rfl ?_
  refine e_s rfl rfl ?_
  refine e_s rfl rfl ?_
  refine e_sc rfl (by decide) (k := 4) (by decide) e4 ?_
  refine e_s rfl rfl ?_
  refine e_c rfl rfl ⟨Nat.le_of_ble_eq_true rfl, Nat.le_of_ble_eq_true rfl, Nat.le_of_ble_eq_true rfl, rfl⟩ ?_
  refine e_s rfl rfl ?_
  refine e_s rfl rfl ?_
  refine e_s rfl rfl ?_
  refine e_s rfl rfl ?_
  refine e_s rfl rfl ?_
  refine e_c rfl rfl ⟨Nat.le_of_ble_eq_true rfl, Nat.le_of_ble_eq_true rfl, Nat.le_of_ble_eq_true rfl, xrcv_of (by decide) (g1)⟩ ?_
  refine e_s rfl rfl ?_
  refine e_gf rfl (by decide) g1 rfl ?_
  refine e_s rfl rfl ?_
  refine e_c rfl rfl ⟨Nat.le_of_ble_eq_true rfl, Nat.le_of_ble_eq_true rfl, Nat.le_of_ble_eq_true rfl, xrcv_of (by decide) (g2)⟩ ?_
  refine e_s rfl rfl ?_
  refine e_s rfl rfl ?_
  refine e_c rfl rfl ⟨Nat.le_of_ble_eq_true rfl, Nat.le_of_ble_eq_true rfl, Nat.le_of_ble_eq_true rfl, xrcv_of (by decide) (g2)⟩ ?_
  refine e_s rfl rfl ?_
  refine e_bf rfl rfl (by simp only [Int32.lt_iff_toInt_lt, Int32.le_iff_toInt_le]; omega) ?_
  refine e_s rfl rfl ?_
  refine e_s rfl rfl ?_
  refine e_gf rfl (by decide) g2 rfl ?_
  refine e_bt rfl rfl (by simp only [Int32.lt_iff_toInt_lt, Int32.le_iff_toInt_le]; omega) ?_
  refine e_s rfl rfl ?_
  refine e_r2 rfl (by decide) ?_
  refine e_bt rfl rfl (by decide) ?_
  refine e_s rfl rfl ?_
  refine e_s rfl rfl ?_
  refine e_gf rfl (by decide) g2 rfl ?_
  refine e_s rfl rfl ?_
  refine e_gf rfl (by decide) g2 rfl ?_
  refine e_s rfl rfl ?_
  refine e_bt rfl rfl h2 ?_
  refine e_s rfl rfl ?_
  refine e_r1 rfl ?_
  refine e_s rfl rfl ?_
  refine e_s rfl rfl ?_
  refine e_s rfl rfl ?_
  refine e_c rfl rfl ⟨Nat.le_of_ble_eq_true rfl, Nat.le_of_ble_eq_true rfl, Nat.le_of_ble_eq_true rfl, xrcv_of (by decide) (g1)⟩ ?_
  refine e_s rfl rfl ?_
  refine e_gf rfl (by decide) g1 rfl ?_
  refine e_bt rfl rfl (by decide) ?_
  refine e_s rfl rfl ?_
  refine e_r2 rfl (by decide) ?_
  refine e_bt rfl rfl (by decide) ?_
  refine e_th rfl (by omega) (by omega) (by decide) ⟨_, rfl, ?_⟩
  refine e_s rfl rfl ?_
  refine e_s rfl rfl ?_
  refine e_r1 rfl ?_
  refine e_s rfl rfl ?_
  refine e_s rfl rfl ?_
  refine e_s rfl rfl ?_
  refine e_s rfl rfl ?_
  refine e_s rfl rfl ?_
  refine e_s rfl rfl ?_
  refine e_sc rfl (by decide) (k := 3) (by decide) e3 ?_
  refine e_s rfl rfl ?_
  refine e_s rfl rfl ?_
  refine e_s rfl rfl ?_
  refine e_s rfl rfl ?_
  refine e_sc rfl (by decide) (k := 4) (by decide) e4 ?_
  refine e_c rfl rfl ⟨Nat.le_of_ble_eq_true rfl, Nat.le_of_ble_eq_true rfl, Nat.le_of_ble_eq_true rfl, xrcv_of (by decide) (g205)⟩ ?_
  refine e_s rfl rfl ?_
  refine e_s rfl rfl ?_
  refine e_c rfl rfl ⟨Nat.le_of_ble_eq_true rfl, Nat.le_of_ble_eq_true rfl, Nat.le_of_ble_eq_true rfl, xrcv_of (by decide) (g205)⟩ ?_
  refine e_s rfl rfl ?_
  refine e_s rfl rfl ?_
  refine e_s rfl rfl ?_
  refine e_gf rfl (by decide) g205 rfl ?_
  refine e_s rfl rfl ?_
  refine e_s rfl rfl ?_
  refine e_c rfl rfl ⟨Nat.le_of_ble_eq_true rfl, Nat.le_of_ble_eq_true rfl, Nat.le_of_ble_eq_true rfl, rfl⟩ ?_
  refine e_s rfl rfl ?_
  refine e_s rfl rfl ?_
  refine e_bf rfl rfl (by simp only [Int32.lt_iff_toInt_lt, Int32.le_iff_toInt_le]; omega) ?_
  refine e_s rfl rfl ?_
  refine e_s rfl rfl ?_
  refine e_bf rfl rfl (by simp only [Int32.lt_iff_toInt_lt, Int32.le_iff_toInt_le]; omega) ?_
  refine e_s rfl rfl ?_
  refine e_s rfl rfl ?_
  refine e_r2 rfl (by decide) ?_
  refine e_bt rfl rfl (by decide) ?_
  refine e_s rfl rfl ?_
  refine e_r2 rfl (by decide) ?_
  refine e_bt rfl rfl (by decide) ?_
  refine e_s rfl rfl ?_
  refine e_s rfl rfl ?_
  refine e_c rfl rfl ⟨Nat.le_of_ble_eq_true rfl, Nat.le_of_ble_eq_true rfl, Nat.le_of_ble_eq_true rfl, xrcv_of (by decide) (g205)⟩ ?_
  refine e_s rfl rfl ?_
  refine e_s rfl rfl ?_
  refine e_pf rfl (by decide) g205 (Nat.le_of_ble_eq_true rfl) rfl rfl ?_
  refine e_s rfl rfl ?_
  refine e_r1 rfl ?_
  refine e_r1 rfl ?_
  refine e_s rfl rfl ?_
  refine e_s rfl rfl ?_
  refine e_c rfl rfl ⟨Nat.le_of_ble_eq_true rfl, Nat.le_of_ble_eq_true rfl, Nat.le_of_ble_eq_true rfl, xrcv_of (by decide) (rfl)⟩ ?_
  refine e_s rfl rfl ?_
  refine e_gf rfl (by decide) rfl rfl ?_
  refine e_r1 rfl ?_
  refine e_s rfl rfl ?_
  refine e_bt rfl rfl (by decide) ?_
  refine e_s rfl rfl ?_
  refine e_bt rfl rfl (by decide) ?_
  refine e_s rfl rfl ?_
  refine e_s rfl rfl ?_
  refine e_s rfl rfl ?_
  refine e_s rfl rfl ?_
  refine e_s rfl rfl ?_
  refine e_s rfl rfl ?_
  refine e_s rfl rfl ?_
  refine e_s rfl rfl ?_
  refine e_bt rfl rfl (by decide) ?_
  refine e_s rfl rfl ?_
  refine e_r2 rfl (by decide) ?_
  exact rfl
theorem op_10 (hI : xI a c f) (ha : 1 ≤ a ∧ a ≤ 7) (hc : 1 ≤ c ∧ c ≤ 6) (hu : u ≤ 20000) (e3 : xs 3 = x) (e4 : xs 4 = y) (e5 : xs 5 = v) : evp 6 xs 10 0 552 xLL [] true (221, u, f) xΦ := by
  obtain ⟨⟨g1, g2, g3, g4, g6, g7, g139, g201⟩, ⟨g205, g206, g207, g209, g210⟩, g220⟩ := hI
  have t0 : (0 : Int32).toInt = 0 := rfl
  have t1 : (1 : Int32).toInt = 1 := rfl
  have t2 : (2 : Int32).toInt = 2 := rfl
  have tn : (-1 : Int32).toInt = -1 := rfl
  have tz : ((0 : Int32) - 1).toInt = -1 := rfl
  have ta : (nI a).toInt = (a : Int) := nI_toInt (by omega)
  have tc : (nI a + nI c).toInt = (a : Int) + c := by rw [nI_add, nI_toInt (by omega)]; omega
  have tm : (nI a + nI c - 1).toInt = (a : Int) + c - 1 := by
    obtain ⟨b, hb⟩ : ∃ b, a + c = b + 1 := ⟨a + c - 1, by omega⟩
    rw [nI_add, hb, nI_pred, nI_toInt (by omega)]; omega
  have tk : (nI a - 1).toInt = (a : Int) - 1 := by
    obtain ⟨b, hb⟩ : ∃ b, a = b + 1 := ⟨a - 1, by omega⟩
    rw [hb, nI_pred, nI_toInt (by omega)]; omega
  by_cases h0 : x.toInt < 0
  · refine e_s rfl rfl ?_
    refine e_s rfl rfl ?_
    refine e_s rfl rfl ?_
    refine e_s rfl rfl ?_
    refine e_s rfl rfl ?_
    refine e_sc rfl (by decide) (k := 3) (by decide) e3 ?_
    refine e_s rfl rfl ?_
    refine e_s rfl rfl ?_
    refine e_s rfl rfl ?_
    refine e_s rfl rfl ?_
    refine e_sc rfl (by decide) (k := 4) (by decide) e4 ?_
    refine e_s rfl rfl ?_
    refine e_c rfl rfl ⟨Nat.le_of_ble_eq_true rfl, Nat.le_of_ble_eq_true rfl, Nat.le_of_ble_eq_true rfl, rfl⟩ ?_
    refine e_s rfl rfl ?_
    refine e_s rfl rfl ?_
    refine e_s rfl rfl ?_
    refine e_s rfl rfl ?_
    refine e_s rfl rfl ?_
    refine e_c rfl rfl ⟨Nat.le_of_ble_eq_true rfl, Nat.le_of_ble_eq_true rfl, Nat.le_of_ble_eq_true rfl, xrcv_of (by decide) (g1)⟩ ?_
    refine e_s rfl rfl ?_
    refine e_s rfl rfl ?_
    refine e_c rfl rfl ⟨Nat.le_of_ble_eq_true rfl, Nat.le_of_ble_eq_true rfl, Nat.le_of_ble_eq_true rfl, xrcv_of (by decide) (g1)⟩ ?_
    refine e_s rfl rfl ?_
    refine e_gf rfl (by decide) g1 rfl ?_
    refine e_bt rfl rfl (by decide) ?_
    refine e_s rfl rfl ?_
    refine e_r2 rfl (by decide) ?_
    refine e_bt rfl rfl (by decide) ?_
    refine e_th rfl (by omega) (by omega) (by decide) ⟨_, rfl, ?_⟩
    refine e_s rfl rfl ?_
    refine e_s rfl rfl ?_
    refine e_r1 rfl ?_
    refine e_s rfl rfl ?_
    refine e_s rfl rfl ?_
    refine e_s rfl rfl ?_
    refine e_s rfl rfl ?_
    refine e_s rfl rfl ?_
    refine e_s rfl rfl ?_
    refine e_sc rfl (by decide) (k := 3) (by decide) e3 ?_
    refine e_s rfl rfl ?_
    refine e_s rfl rfl ?_
    refine e_s rfl rfl ?_
    refine e_s rfl rfl ?_
    refine e_sc rfl (by decide) (k := 4) (by decide) e4 ?_
    refine e_c rfl rfl ⟨Nat.le_of_ble_eq_true rfl, Nat.le_of_ble_eq_true rfl, Nat.le_of_ble_eq_true rfl, xrcv_of (by decide) (g205)⟩ ?_
    refine e_s rfl rfl ?_
    refine e_s rfl rfl ?_
    refine e_c rfl rfl ⟨Nat.le_of_ble_eq_true rfl, Nat.le_of_ble_eq_true rfl, Nat.le_of_ble_eq_true rfl, xrcv_of (by decide) (g205)⟩ ?_
    refine e_s rfl rfl ?_
    refine e_s rfl rfl ?_
    refine e_s rfl rfl ?_
    refine e_gf rfl (by decide) g205 rfl ?_
    refine e_s rfl rfl ?_
    refine e_s rfl rfl ?_
    refine e_c rfl rfl ⟨Nat.le_of_ble_eq_true rfl, Nat.le_of_ble_eq_true rfl, Nat.le_of_ble_eq_true rfl, rfl⟩ ?_
    refine e_s rfl rfl ?_
    refine e_s rfl rfl ?_
    refine e_bt rfl rfl (by simp only [Int32.lt_iff_toInt_lt, Int32.le_iff_toInt_le]; omega) ?_
    refine e_s rfl rfl ?_
    refine e_s rfl rfl ?_
    refine e_r2 rfl (by decide) ?_
    refine e_bt rfl rfl (by decide) ?_
    refine e_s rfl rfl ?_
    refine e_r2 rfl (by decide) ?_
    refine e_bt rfl rfl (by decide) ?_
    refine e_s rfl rfl ?_
    refine e_s rfl rfl ?_
    refine e_c rfl rfl ⟨Nat.le_of_ble_eq_true rfl, Nat.le_of_ble_eq_true rfl, Nat.le_of_ble_eq_true rfl, xrcv_of (by decide) (g205)⟩ ?_
    refine e_s rfl rfl ?_
    refine e_s rfl rfl ?_
    refine e_pf rfl (by decide) g205 (Nat.le_of_ble_eq_true rfl) rfl rfl ?_
    refine e_s rfl rfl ?_
    refine e_r1 rfl ?_
    refine e_r1 rfl ?_
    refine e_s rfl rfl ?_
    refine e_s rfl rfl ?_
    refine e_c rfl rfl ⟨Nat.le_of_ble_eq_true rfl, Nat.le_of_ble_eq_true rfl, Nat.le_of_ble_eq_true rfl, xrcv_of (by decide) (rfl)⟩ ?_
    refine e_s rfl rfl ?_
    refine e_gf rfl (by decide) rfl rfl ?_
    refine e_r1 rfl ?_
    refine e_s rfl rfl ?_
    refine e_bt rfl rfl (by decide) ?_
    refine e_s rfl rfl ?_
    refine e_bt rfl rfl (by decide) ?_
    refine e_s rfl rfl ?_
    refine e_s rfl rfl ?_
    refine e_s rfl rfl ?_
    refine e_s rfl rfl ?_
    refine e_s rfl rfl ?_
    refine e_s rfl rfl ?_
    refine e_s rfl rfl ?_
    refine e_s rfl rfl ?_
    refine e_bt rfl rfl (by decide) ?_
    refine e_s rfl rfl ?_
    refine e_r2 rfl (by decide) ?_
    exact rfl
  refine e_s rfl rfl ?_
  refine e_s rfl rfl ?_
  refine e_s rfl rfl ?_
  refine e_s rfl rfl ?_
  refine e_s rfl rfl ?_
  refine e_sc rfl (by decide) (k := 3) (by decide) e3 ?_
  refine e_s rfl rfl ?_
  refine e_s rfl rfl ?_
  refine e_s rfl rfl ?_
  refine e_s rfl rfl ?_
  refine e_sc rfl (by decide) (k := 4) (by decide) e4 ?_
  refine e_s rfl rfl ?_
  refine e_c rfl rfl ⟨Nat.le_of_ble_eq_true rfl, Nat.le_of_ble_eq_true rfl, Nat.le_of_ble_eq_true rfl, rfl⟩ ?_
  refine e_s rfl rfl ?_
  refine e_s rfl rfl ?_
  refine e_s rfl rfl ?_
  refine e_s rfl rfl ?_
  refine e_s rfl rfl ?_
  refine e_c rfl rfl ⟨Nat.le_of_ble_eq_true rfl, Nat.le_of_ble_eq_true rfl, Nat.le_of_ble_eq_true rfl, xrcv_of (by decide) (g1)⟩ ?_
  refine e_s rfl rfl ?_
  refine e_s rfl rfl ?_
  refine e_c rfl rfl ⟨Nat.le_of_ble_eq_true rfl, Nat.le_of_ble_eq_true rfl, Nat.le_of_ble_eq_true rfl, xrcv_of (by decide) (g1)⟩ ?_
  refine e_s rfl rfl ?_
  refine e_gf rfl (by decide) g1 rfl ?_
  refine e_bt rfl rfl (by decide) ?_
  refine e_s rfl rfl ?_
  refine e_r2 rfl (by decide) ?_
  refine e_bt rfl rfl (by decide) ?_
  refine e_th rfl (by omega) (by omega) (by decide) ⟨_, rfl, ?_⟩
  refine e_s rfl rfl ?_
  refine e_s rfl rfl ?_
  refine e_r1 rfl ?_
  refine e_s rfl rfl ?_
  refine e_s rfl rfl ?_
  refine e_s rfl rfl ?_
  refine e_s rfl rfl ?_
  refine e_s rfl rfl ?_
  refine e_s rfl rfl ?_
  refine e_sc rfl (by decide) (k := 3) (by decide) e3 ?_
  refine e_s rfl rfl ?_
  refine e_s rfl rfl ?_
  refine e_s rfl rfl ?_
  refine e_s rfl rfl ?_
  refine e_sc rfl (by decide) (k := 4) (by decide) e4 ?_
  refine e_c rfl rfl ⟨Nat.le_of_ble_eq_true rfl, Nat.le_of_ble_eq_true rfl, Nat.le_of_ble_eq_true rfl, xrcv_of (by decide) (g205)⟩ ?_
  refine e_s rfl rfl ?_
  refine e_s rfl rfl ?_
  refine e_c rfl rfl ⟨Nat.le_of_ble_eq_true rfl, Nat.le_of_ble_eq_true rfl, Nat.le_of_ble_eq_true rfl, xrcv_of (by decide) (g205)⟩ ?_
  refine e_s rfl rfl ?_
  refine e_s rfl rfl ?_
  refine e_s rfl rfl ?_
  refine e_gf rfl (by decide) g205 rfl ?_
  refine e_s rfl rfl ?_
  refine e_s rfl rfl ?_
  refine e_c rfl rfl ⟨Nat.le_of_ble_eq_true rfl, Nat.le_of_ble_eq_true rfl, Nat.le_of_ble_eq_true rfl, rfl⟩ ?_
  refine e_s rfl rfl ?_
  refine e_s rfl rfl ?_
  refine e_bf rfl rfl (by simp only [Int32.lt_iff_toInt_lt, Int32.le_iff_toInt_le]; omega) ?_
  refine e_s rfl rfl ?_
  refine e_s rfl rfl ?_
  refine e_bf rfl rfl (by simp only [Int32.lt_iff_toInt_lt, Int32.le_iff_toInt_le]; omega) ?_
  refine e_s rfl rfl ?_
  refine e_s rfl rfl ?_
  refine e_r2 rfl (by decide) ?_
  refine e_bt rfl rfl (by decide) ?_
  refine e_s rfl rfl ?_
  refine e_r2 rfl (by decide) ?_
  refine e_bt rfl rfl (by decide) ?_
  refine e_s rfl rfl ?_
  refine e_s rfl rfl ?_
  refine e_c rfl rfl ⟨Nat.le_of_ble_eq_true rfl, Nat.le_of_ble_eq_true rfl, Nat.le_of_ble_eq_true rfl, xrcv_of (by decide) (g205)⟩ ?_
  refine e_s rfl rfl ?_
  refine e_s rfl rfl ?_
  refine e_pf rfl (by decide) g205 (Nat.le_of_ble_eq_true rfl) rfl rfl ?_
  refine e_s rfl rfl ?_
  refine e_r1 rfl ?_
  refine e_r1 rfl ?_
  refine e_s rfl rfl ?_
  refine e_s rfl rfl ?_
  refine e_c rfl rfl ⟨Nat.le_of_ble_eq_true rfl, Nat.le_of_ble_eq_true rfl, Nat.le_of_ble_eq_true rfl, xrcv_of (by decide) (rfl)⟩ ?_
  refine e_s rfl rfl ?_
  refine e_gf rfl (by decide) rfl rfl ?_
  refine e_r1 rfl ?_
  refine e_s rfl rfl ?_
  refine e_bt rfl rfl (by decide) ?_
  refine e_s rfl rfl ?_
  refine e_bt rfl rfl (by decide) ?_
  refine e_s rfl rfl ?_
  refine e_s rfl rfl ?_
  refine e_s rfl rfl ?_
  refine e_s rfl rfl ?_
  refine e_s rfl rfl ?_
  refine e_s rfl rfl ?_
  refine e_s rfl rfl ?_
  refine e_s rfl rfl ?_
  refine e_bt rfl rfl (by decide) ?_
  refine e_s rfl rfl ?_
  refine e_r2 rfl (by decide) ?_
  exact rfl
theorem op_13 (hI : xI a c f) (ha : 1 ≤ a ∧ a ≤ 7) (hc : 1 ≤ c ∧ c ≤ 6) (hu : u ≤ 20000) (e3 : xs 3 = x) (e4 : xs 4 = y) (e5 : xs 5 = v) : evp 6 xs 10 0 739 xLL [] true (221, u, f) xΦ := by
  obtain ⟨⟨g1, g2, g3, g4, g6, g7, g139, g201⟩, ⟨g205, g206, g207, g209, g210⟩, g220⟩ := hI
  have t0 : (0 : Int32).toInt = 0 := rfl
  have t1 : (1 : Int32).toInt = 1 := rfl
  have t2 : (2 : Int32).toInt = 2 := rfl
  have tn : (-1 : Int32).toInt = -1 := rfl
  have tz : ((0 : Int32) - 1).toInt = -1 := rfl
  have ta : (nI a).toInt = (a : Int) := nI_toInt (by omega)
  have tc : (nI a + nI c).toInt = (a : Int) + c := by rw [nI_add, nI_toInt (by omega)]; omega
  have tm : (nI a + nI c - 1).toInt = (a : Int) + c - 1 := by
    obtain ⟨b, hb⟩ : ∃ b, a + c = b + 1 := ⟨a + c - 1, by omega⟩
    rw [nI_add, hb, nI_pred, nI_toInt (by omega)]; omega
  have tk : (nI a - 1).toInt = (a : Int) - 1 := by
    obtain ⟨b, hb⟩ : ∃ b, a = b + 1 := ⟨a - 1, by omega⟩
    rw [hb, nI_pred, nI_toInt (by omega)]; omega
  refine e_s rfl rfl ?_
  refine e_c rfl rfl ⟨Nat.le_of_ble_eq_true rfl, Nat.le_of_ble_eq_true rfl, Nat.le_of_ble_eq_true rfl, rfl⟩ ?_
  refine e_s rfl rfl ?_
  refine e_c rfl rfl ⟨Nat.le_of_ble_eq_true rfl, Nat.le_of_ble_eq_true rfl, Nat.le_of_ble_eq_true rfl, xrcv_of (by decide) (g1)⟩ ?_
  refine e_s rfl rfl ?_
  refine e_gf rfl (by decide) g1 rfl ?_
  refine e_bf rfl rfl (by decide) ?_
  refine e_th rfl (by omega) (by omega) (by decide) ⟨_, rfl, ?_⟩
  refine e_s rfl rfl ?_
  refine e_s rfl rfl ?_
  refine e_r1 rfl ?_
  refine e_s rfl rfl ?_
  refine e_s rfl rfl ?_
  refine e_c rfl rfl ⟨Nat.le_of_ble_eq_true rfl, Nat.le_of_ble_eq_true rfl, Nat.le_of_ble_eq_true rfl, xrcv_of (by decide) (g205)⟩ ?_
  refine e_s rfl rfl ?_
  refine e_s rfl rfl ?_
  refine e_gf rfl (by decide) g205 rfl ?_
  refine e_bt rfl rfl (by decide) ?_
  refine e_s rfl rfl ?_
  refine e_pf rfl (by decide) g205 (Nat.le_of_ble_eq_true rfl) rfl rfl ?_
  refine e_s rfl rfl ?_
  refine e_gf rfl (by decide) rfl rfl ?_
  refine e_bf rfl rfl (by decide) ?_
  refine e_r0 rfl ?_
  refine e_s rfl rfl ?_
  refine e_c rfl rfl ⟨Nat.le_of_ble_eq_true rfl, Nat.le_of_ble_eq_true rfl, Nat.le_of_ble_eq_true rfl, xrcv_of (by decide) (rfl)⟩ ?_
  refine e_s rfl rfl ?_
  refine e_gf rfl (by decide) rfl rfl ?_
  refine e_r1 rfl ?_
  refine e_s rfl rfl ?_
  refine e_bt rfl rfl (by decide) ?_
  refine e_s rfl rfl ?_
  refine e_s rfl rfl ?_
  refine e_s rfl rfl ?_
  refine e_s rfl rfl ?_
  refine e_s rfl rfl ?_
  refine e_s rfl rfl ?_
  refine e_s rfl rfl ?_
  refine e_s rfl rfl ?_
  refine e_bt rfl rfl (by decide) ?_
  refine e_s rfl rfl ?_
  refine e_r2 rfl (by decide) ?_
  exact rfl
theorem op_14 (hI : xI a c f) (ha : 1 ≤ a ∧ a ≤ 7) (hc : 1 ≤ c ∧ c ≤ 6) (hu : u ≤ 20000) (e3 : xs 3 = x) (e4 : xs 4 = y) (e5 : xs 5 = v) : evp 6 xs 10 0 763 xLL [] true (221, u, f) xΦ := by
  obtain ⟨⟨g1, g2, g3, g4, g6, g7, g139, g201⟩, ⟨g205, g206, g207, g209, g210⟩, g220⟩ := hI
  have t0 : (0 : Int32).toInt = 0 := rfl
  have t1 : (1 : Int32).toInt = 1 := rfl
  have t2 : (2 : Int32).toInt = 2 := rfl
  have tn : (-1 : Int32).toInt = -1 := rfl
  have tz : ((0 : Int32) - 1).toInt = -1 := rfl
  have ta : (nI a).toInt = (a : Int) := nI_toInt (by omega)
  have tc : (nI a + nI c).toInt = (a : Int) + c := by rw [nI_add, nI_toInt (by omega)]; omega
  have tm : (nI a + nI c - 1).toInt = (a : Int) + c - 1 := by
    obtain ⟨b, hb⟩ : ∃ b, a + c = b + 1 := ⟨a + c - 1, by omega⟩
    rw [nI_add, hb, nI_pred, nI_toInt (by omega)]; omega
  have tk : (nI a - 1).toInt = (a : Int) - 1 := by
    obtain ⟨b, hb⟩ : ∃ b, a = b + 1 := ⟨a - 1, by omega⟩
    rw [hb, nI_pred, nI_toInt (by omega)]; omega
  by_cases h0 : x.toInt < 0
  · refine e_s rfl rfl ?_
    refine e_s rfl rfl ?_
    refine e_s rfl rfl ?_
    refine e_s rfl rfl ?_
    refine e_s rfl rfl ?_
    refine e_sc rfl (by decide) (k := 3) (by decide) e3 ?_
    refine e_s rfl rfl ?_
    refine e_c rfl rfl ⟨Nat.le_of_ble_eq_true rfl, Nat.le_of_ble_eq_true rfl, Nat.le_of_ble_eq_true rfl, rfl⟩ ?_
    refine e_s rfl rfl ?_
    refine e_s rfl rfl ?_
    refine e_s rfl rfl ?_
    refine e_s rfl rfl ?_
    refine e_c rfl rfl ⟨Nat.le_of_ble_eq_true rfl, Nat.le_of_ble_eq_true rfl, Nat.le_of_ble_eq_true rfl, xrcv_of (by decide) (g1)⟩ ?_
    refine e_s rfl rfl ?_
    refine e_gf rfl (by decide) g1 rfl ?_
    refine e_s rfl rfl ?_
    refine e_c rfl rfl ⟨Nat.le_of_ble_eq_true rfl, Nat.le_of_ble_eq_true rfl, Nat.le_of_ble_eq_true rfl, xrcv_of (by decide) (g2)⟩ ?_
    refine e_s rfl rfl ?_
    refine e_bt rfl rfl (by simp only [Int32.lt_iff_toInt_lt, Int32.le_iff_toInt_le]; omega) ?_
    refine e_s rfl rfl ?_
    refine e_r2 rfl (by decide) ?_
    refine e_bf rfl rfl (by decide) ?_
    refine e_th rfl (by omega) (by omega) (by decide) ⟨_, rfl, ?_⟩
    refine e_s rfl rfl ?_
    refine e_s rfl rfl ?_
    refine e_r1 rfl ?_
    refine e_s rfl rfl ?_
    refine e_s rfl rfl ?_
    refine e_s rfl rfl ?_
    refine e_s rfl rfl ?_
    refine e_s rfl rfl ?_
    refine e_s rfl rfl ?_
    refine e_sc rfl (by decide) (k := 3) (by decide) e3 ?_
    refine e_c rfl rfl ⟨Nat.le_of_ble_eq_true rfl, Nat.le_of_ble_eq_true rfl, Nat.le_of_ble_eq_true rfl, xrcv_of (by decide) (g205)⟩ ?_
    refine e_s rfl rfl ?_
    refine e_s rfl rfl ?_
    refine e_s rfl rfl ?_
    refine e_s rfl rfl ?_
    refine e_gf rfl (by decide) g205 rfl ?_
    refine e_s rfl rfl ?_
    refine e_s rfl rfl ?_
    refine e_c rfl rfl ⟨Nat.le_of_ble_eq_true rfl, Nat.le_of_ble_eq_true rfl, Nat.le_of_ble_eq_true rfl, rfl⟩ ?_
    refine e_s rfl rfl ?_
    refine e_s rfl rfl ?_
    refine e_bt rfl rfl (by simp only [Int32.lt_iff_toInt_lt, Int32.le_iff_toInt_le]; omega) ?_
    refine e_s rfl rfl ?_
    refine e_s rfl rfl ?_
    refine e_r2 rfl (by decide) ?_
    refine e_bf rfl rfl (by decide) ?_
    refine e_s rfl rfl ?_
    refine e_s rfl rfl ?_
    refine e_pf rfl (by decide) g205 (Nat.le_of_ble_eq_true rfl) rfl rfl ?_
    refine e_s rfl rfl ?_
    refine e_gf rfl (by decide) rfl rfl ?_
    refine e_bf rfl rfl (by decide) ?_
    refine e_s rfl rfl ?_
    refine e_r2 rfl (by decide) ?_
    refine e_s rfl rfl ?_
    refine e_s rfl rfl ?_
    refine e_c rfl rfl ⟨Nat.le_of_ble_eq_true rfl, Nat.le_of_ble_eq_true rfl, Nat.le_of_ble_eq_true rfl, xrcv_of (by decide) (rfl)⟩ ?_
    refine e_s rfl rfl ?_
    refine e_gf rfl (by decide) rfl rfl ?_
    refine e_r1 rfl ?_
    refine e_s rfl rfl ?_
    refine e_bt rfl rfl (by decide) ?_
    refine e_s rfl rfl ?_
    refine e_bt rfl rfl (by decide) ?_
    refine e_s rfl rfl ?_
    refine e_s rfl rfl ?_
    refine e_s rfl rfl ?_
    refine e_s rfl rfl ?_
    refine e_s rfl rfl ?_
    refine e_s rfl rfl ?_
    refine e_s rfl rfl ?_
    refine e_s rfl rfl ?_
    refine e_bt rfl rfl (by decide) ?_
    refine e_s rfl rfl ?_
    refine e_r2 rfl (by decide) ?_
    exact rfl
  by_cases h1 : x.toInt < (a : Int)
  · refine e_s rfl rfl ?_
    refine e_s rfl rfl ?_
    refine e_s rfl rfl ?_
    refine e_s rfl rfl ?_
    refine e_s rfl rfl ?_
    refine e_sc rfl (by decide) (k := 3) (by decide) e3 ?_
    refine e_s rfl rfl ?_
    refine e_c rfl rfl ⟨Nat.le_of_ble_eq_true rfl, Nat.le_of_ble_eq_true rfl, Nat.le_of_ble_eq_true rfl, rfl⟩ ?_
    refine e_s rfl rfl ?_
    refine e_s rfl rfl ?_
    refine e_s rfl rfl ?_
    refine e_s rfl rfl ?_
    refine e_c rfl rfl ⟨Nat.le_of_ble_eq_true rfl, Nat.le_of_ble_eq_true rfl, Nat.le_of_ble_eq_true rfl, xrcv_of (by decide) (g1)⟩ ?_
    refine e_s rfl rfl ?_
    refine e_gf rfl (by decide) g1 rfl ?_
    refine e_s rfl rfl ?_
    refine e_c rfl rfl ⟨Nat.le_of_ble_eq_true rfl, Nat.le_of_ble_eq_true rfl, Nat.le_of_ble_eq_true rfl, xrcv_of (by decide) (g2)⟩ ?_
    refine e_s rfl rfl ?_
    refine e_bf rfl rfl (by simp only [Int32.lt_iff_toInt_lt, Int32.le_iff_toInt_le]; omega) ?_
    refine e_s rfl rfl ?_
    refine e_s rfl rfl ?_
    refine e_gf rfl (by decide) g2 rfl ?_
    refine e_bf rfl rfl (by simp only [Int32.lt_iff_toInt_lt, Int32.le_iff_toInt_le]; omega) ?_
    refine e_s rfl rfl ?_
    refine e_s rfl rfl ?_
    refine e_r2 rfl (by decide) ?_
    refine e_bt rfl rfl (by decide) ?_
    refine e_s rfl rfl ?_
    refine e_gf rfl (by decide) g1 rfl ?_
    refine e_c rfl rfl ⟨Nat.le_of_ble_eq_true rfl, Nat.le_of_ble_eq_true rfl, Nat.le_of_ble_eq_true rfl, xrcv_of (by decide) (g201)⟩ ?_
    refine e_s rfl rfl ?_
    refine e_gf rfl (by decide) g201 rfl ?_
    refine e_r1 rfl ?_
    refine e_s rfl rfl ?_
    refine e_bt rfl rfl (by decide) ?_
    refine e_th rfl (by omega) (by omega) (by decide) ⟨_, rfl, ?_⟩
    refine e_s rfl rfl ?_
    refine e_s rfl rfl ?_
    refine e_r1 rfl ?_
    refine e_s rfl rfl ?_
    refine e_s rfl rfl ?_
    refine e_s rfl rfl ?_
    refine e_s rfl rfl ?_
    refine e_s rfl rfl ?_
    refine e_s rfl rfl ?_
    refine e_sc rfl (by decide) (k := 3) (by decide) e3 ?_
    refine e_c rfl rfl ⟨Nat.le_of_ble_eq_true rfl, Nat.le_of_ble_eq_true rfl, Nat.le_of_ble_eq_true rfl, xrcv_of (by decide) (g205)⟩ ?_
    refine e_s rfl rfl ?_
    refine e_s rfl rfl ?_
    refine e_s rfl rfl ?_
    refine e_s rfl rfl ?_
    refine e_gf rfl (by decide) g205 rfl ?_
    refine e_s rfl rfl ?_
    refine e_s rfl rfl ?_
    refine e_c rfl rfl ⟨Nat.le_of_ble_eq_true rfl, Nat.le_of_ble_eq_true rfl, Nat.le_of_ble_eq_true rfl, rfl⟩ ?_
    refine e_s rfl rfl ?_
    refine e_s rfl rfl ?_
    refine e_bf rfl rfl (by simp only [Int32.lt_iff_toInt_lt, Int32.le_iff_toInt_le]; omega) ?_
    refine e_s rfl rfl ?_
    refine e_s rfl rfl ?_
    refine e_bt rfl rfl (by simp only [Int32.lt_iff_toInt_lt, Int32.le_iff_toInt_le]; omega) ?_
    refine e_s rfl rfl ?_
    refine e_r2 rfl (by decide) ?_
    refine e_bt rfl rfl (by decide) ?_
    refine e_s rfl rfl ?_
    refine e_gf rfl (by decide) g205 rfl ?_
    refine e_s rfl rfl ?_
    refine e_bt rfl rfl (by decide) ?_
    refine e_s rfl rfl ?_
    refine e_s rfl rfl ?_
    refine e_pf rfl (by decide) g205 (Nat.le_of_ble_eq_true rfl) rfl rfl ?_
    refine e_s rfl rfl ?_
    refine e_gf rfl (by decide) rfl rfl ?_
    refine e_bf rfl rfl (by decide) ?_
    refine e_s rfl rfl ?_
    refine e_r2 rfl (by decide) ?_
    refine e_s rfl rfl ?_
    refine e_s rfl rfl ?_
    refine e_c rfl rfl ⟨Nat.le_of_ble_eq_true rfl, Nat.le_of_ble_eq_true rfl, Nat.le_of_ble_eq_true rfl, xrcv_of (by decide) (rfl)⟩ ?_
    refine e_s rfl rfl ?_
    refine e_gf rfl (by decide) rfl rfl ?_
    refine e_r1 rfl ?_
    refine e_s rfl rfl ?_
    refine e_bt rfl rfl (by decide) ?_
    refine e_s rfl rfl ?_
    refine e_bt rfl rfl (by decide) ?_
    refine e_s rfl rfl ?_
    refine e_s rfl rfl ?_
    refine e_s rfl rfl ?_
    refine e_s rfl rfl ?_
    refine e_s rfl rfl ?_
    refine e_s rfl rfl ?_
    refine e_s rfl rfl ?_
    refine e_s rfl rfl ?_
    refine e_bt rfl rfl (by decide) ?_
    refine e_s rfl rfl ?_
    refine e_r2 rfl (by decide) ?_
    exact rfl
  refine e_s rfl rfl ?_
  refine e_s rfl rfl ?_
  refine e_s rfl rfl ?_
  refine e_s rfl rfl ?_
  refine e_s rfl rfl ?_
  refine e_sc rfl (by decide) (k := 3) (by decide) e3 ?_
  refine e_s rfl rfl ?_
  refine e_c rfl rfl ⟨Nat.le_of_ble_eq_true rfl, Nat.le_of_ble_eq_true rfl, Nat.le_of_ble_eq_true rfl, rfl⟩ ?_
  refine e_s rfl rfl ?_
  refine e_s rfl rfl ?_
  refine e_s rfl rfl ?_
  refine e_s rfl rfl ?_
  refine e_c rfl rfl ⟨Nat.le_of_ble_eq_true rfl, Nat.le_of_ble_eq_true rfl, Nat.le_of_ble_eq_true rfl, xrcv_of (by decide) (g1)⟩ ?_
  refine e_s rfl rfl ?_
  refine e_gf rfl (by decide) g1 rfl ?_
  refine e_s rfl rfl ?_
  refine e_c rfl rfl ⟨Nat.le_of_ble_eq_true rfl, Nat.le_of_ble_eq_true rfl, Nat.le_of_ble_eq_true rfl, xrcv_of (by decide) (g2)⟩ ?_
  refine e_s rfl rfl ?_
  refine e_bf rfl rfl (by simp only [Int32.lt_iff_toInt_lt, Int32.le_iff_toInt_le]; omega) ?_
  refine e_s rfl rfl ?_
  refine e_s rfl rfl ?_
  refine e_gf rfl (by decide) g2 rfl ?_
  refine e_bt rfl rfl (by simp only [Int32.lt_iff_toInt_lt, Int32.le_iff_toInt_le]; omega) ?_
  refine e_s rfl rfl ?_
  refine e_r2 rfl (by decide) ?_
  refine e_bf rfl rfl (by decide) ?_
  refine e_th rfl (by omega) (by omega) (by decide) ⟨_, rfl, ?_⟩
  refine e_s rfl rfl ?_
  refine e_s rfl rfl ?_
  refine e_r1 rfl ?_
  refine e_s rfl rfl ?_
  refine e_s rfl rfl ?_
  refine e_s rfl rfl ?_
  refine e_s rfl rfl ?_
  refine e_s rfl rfl ?_
  refine e_s rfl rfl ?_
  refine e_sc rfl (by decide) (k := 3) (by decide) e3 ?_
  refine e_c rfl rfl ⟨Nat.le_of_ble_eq_true rfl, Nat.le_of_ble_eq_true rfl, Nat.le_of_ble_eq_true rfl, xrcv_of (by decide) (g205)⟩ ?_
  refine e_s rfl rfl ?_
  refine e_s rfl rfl ?_
  refine e_s rfl rfl ?_
  refine e_s rfl rfl ?_
  refine e_gf rfl (by decide) g205 rfl ?_
  refine e_s rfl rfl ?_
  refine e_s rfl rfl ?_
  refine e_c rfl rfl ⟨Nat.le_of_ble_eq_true rfl, Nat.le_of_ble_eq_true rfl, Nat.le_of_ble_eq_true rfl, rfl⟩ ?_
  refine e_s rfl rfl ?_
  refine e_s rfl rfl ?_
  refine e_bf rfl rfl (by simp only [Int32.lt_iff_toInt_lt, Int32.le_iff_toInt_le]; omega) ?_
  refine e_s rfl rfl ?_
  refine e_s rfl rfl ?_
  refine e_bf rfl rfl (by simp only [Int32.lt_iff_toInt_lt, Int32.le_iff_toInt_le]; omega) ?_
  refine e_s rfl rfl ?_
  refine e_s rfl rfl ?_
  refine e_r2 rfl (by decide) ?_
  refine e_bf rfl rfl (by decide) ?_
  refine e_s rfl rfl ?_
  refine e_s rfl rfl ?_
  refine e_pf rfl (by decide) g205 (Nat.le_of_ble_eq_true rfl) rfl rfl ?_
  refine e_s rfl rfl ?_
  refine e_gf rfl (by decide) rfl rfl ?_
  refine e_bf rfl rfl (by decide) ?_
  refine e_s rfl rfl ?_
  refine e_r2 rfl (by decide) ?_
  refine e_s rfl rfl ?_
  refine e_s rfl rfl ?_
  refine e_c rfl rfl ⟨Nat.le_of_ble_eq_true rfl, Nat.le_of_ble_eq_true rfl, Nat.le_of_ble_eq_true rfl, xrcv_of (by decide) (rfl)⟩ ?_
  refine e_s rfl rfl ?_
  refine e_gf rfl (by decide) rfl rfl ?_
  refine e_r1 rfl ?_
  refine e_s rfl rfl ?_
  refine e_bt rfl rfl (by decide) ?_
  refine e_s rfl rfl ?_
  refine e_bt rfl rfl (by decide) ?_
  refine e_s rfl rfl ?_
  refine e_s rfl rfl ?_
  refine e_s rfl rfl ?_
  refine e_s rfl rfl ?_
  refine e_s rfl rfl ?_
  refine e_s rfl rfl ?_
  refine e_s rfl rfl ?_
  refine e_s rfl rfl ?_
  refine e_bt rfl rfl (by decide) ?_
  refine e_s rfl rfl ?_
  refine e_r2 rfl (by decide) ?_
  exact rfl
theorem op_15 (hI : xI a c f) (ha : 1 ≤ a ∧ a ≤ 7) (hc : 1 ≤ c ∧ c ≤ 6) (hu : u ≤ 20000) (e3 : xs 3 = x) (e4 : xs 4 = y) (e5 : xs 5 = v) : evp 6 xs 10 0 826 xLL [] true (221, u, f) xΦ := by
  obtain ⟨⟨g1, g2, g3, g4, g6, g7, g139, g201⟩, ⟨g205, g206, g207, g209, g210⟩, g220⟩ := hI
  have t0 : (0 : Int32).toInt = 0 := rfl
  have t1 : (1 : Int32).toInt = 1 := rfl
  have t2 : (2 : Int32).toInt = 2 := rfl
  have tn : (-1 : Int32).toInt = -1 := rfl
  have tz : ((0 : Int32) - 1).toInt = -1 := rfl
  have ta : (nI a).toInt = (a : Int) := nI_toInt (by omega)
  have tc : (nI a + nI c).toInt = (a : Int) + c := by rw [nI_add, nI_toInt (by omega)]; omega
  have tm : (nI a + nI c - 1).toInt = (a : Int) + c - 1 := by
    obtain ⟨b, hb⟩ : ∃ b, a + c = b + 1 := ⟨a + c - 1, by omega⟩
    rw [nI_add, hb, nI_pred, nI_toInt (by omega)]; omega
  have tk : (nI a - 1).toInt = (a : Int) - 1 := by
    obtain ⟨b, hb⟩ : ∃ b, a = b + 1 := ⟨a - 1, by omega⟩
    rw [hb, nI_pred, nI_toInt (by omega)]; omega
  refine e_s rfl rfl ?_
  refine e_s rfl rfl ?_
  refine e_c rfl rfl ⟨Nat.le_of_ble_eq_true rfl, Nat.le_of_ble_eq_true rfl, Nat.le_of_ble_eq_true rfl, rfl⟩ ?_
  refine e_s rfl rfl ?_
  refine e_s rfl rfl ?_
  refine e_s rfl rfl ?_
  refine e_c rfl rfl ⟨Nat.le_of_ble_eq_true rfl, Nat.le_of_ble_eq_true rfl, Nat.le_of_ble_eq_true rfl, xrcv_of (by decide) (g1)⟩ ?_
  refine e_s rfl rfl ?_
  refine e_gf rfl (by decide) g1 rfl ?_
  refine e_c rfl rfl ⟨Nat.le_of_ble_eq_true rfl, Nat.le_of_ble_eq_true rfl, Nat.le_of_ble_eq_true rfl, xrcv_of (by decide) (g201)⟩ ?_
  refine e_s rfl rfl ?_
  refine e_gf rfl (by decide) g201 rfl ?_
  refine e_r1 rfl ?_
  refine e_s rfl rfl ?_
  refine e_bf rfl rfl (by decide) ?_
  refine e_th rfl (by omega) (by omega) (by decide) ⟨_, rfl, ?_⟩
  refine e_s rfl rfl ?_
  refine e_s rfl rfl ?_
  refine e_r1 rfl ?_
  refine e_s rfl rfl ?_
  refine e_s rfl rfl ?_
  refine e_c rfl rfl ⟨Nat.le_of_ble_eq_true rfl, Nat.le_of_ble_eq_true rfl, Nat.le_of_ble_eq_true rfl, xrcv_of (by decide) (g205)⟩ ?_
  refine e_s rfl rfl ?_
  refine e_s rfl rfl ?_
  refine e_gf rfl (by decide) g205 rfl ?_
  refine e_s rfl rfl ?_
  refine e_bt rfl rfl (by decide) ?_
  refine e_s rfl rfl ?_
  refine e_pf rfl (by decide) g205 (Nat.le_of_ble_eq_true rfl) rfl rfl ?_
  refine e_s rfl rfl ?_
  refine e_gf rfl (by decide) rfl rfl ?_
  refine e_bf rfl rfl (by decide) ?_
  refine e_s rfl rfl ?_
  refine e_r2 rfl (by decide) ?_
  refine e_s rfl rfl ?_
  refine e_s rfl rfl ?_
  refine e_c rfl rfl ⟨Nat.le_of_ble_eq_true rfl, Nat.le_of_ble_eq_true rfl, Nat.le_of_ble_eq_true rfl, xrcv_of (by decide) (rfl)⟩ ?_
  refine e_s rfl rfl ?_
  refine e_gf rfl (by decide) rfl rfl ?_
  refine e_r1 rfl ?_
  refine e_s rfl rfl ?_
  refine e_bt rfl rfl (by decide) ?_
  refine e_s rfl rfl ?_
  refine e_bt rfl rfl (by decide) ?_
  refine e_s rfl rfl ?_
  refine e_s rfl rfl ?_
  refine e_s rfl rfl ?_
  refine e_s rfl rfl ?_
  refine e_s rfl rfl ?_
  refine e_s rfl rfl ?_
  refine e_s rfl rfl ?_
  refine e_s rfl rfl ?_
  refine e_bt rfl rfl (by decide) ?_
  refine e_s rfl rfl ?_
  refine e_r2 rfl (by decide) ?_
  exact rfl
theorem op_16 (hI : xI a c f) (ha : 1 ≤ a ∧ a ≤ 7) (hc : 1 ≤ c ∧ c ≤ 6) (hu : u ≤ 20000) (e3 : xs 3 = x) (e4 : xs 4 = y) (e5 : xs 5 = v) : evp 6 xs 10 0 877 xLL [] true (221, u, f) xΦ := by
  obtain ⟨⟨g1, g2, g3, g4, g6, g7, g139, g201⟩, ⟨g205, g206, g207, g209, g210⟩, g220⟩ := hI
  have t0 : (0 : Int32).toInt = 0 := rfl
  have t1 : (1 : Int32).toInt = 1 := rfl
  have t2 : (2 : Int32).toInt = 2 := rfl
  have tn : (-1 : Int32).toInt = -1 := rfl
  have tz : ((0 : Int32) - 1).toInt = -1 := rfl
  have ta : (nI a).toInt = (a : Int) := nI_toInt (by omega)
  have tc : (nI a + nI c).toInt = (a : Int) + c := by rw [nI_add, nI_toInt (by omega)]; omega
  have tm : (nI a + nI c - 1).toInt = (a : Int) + c - 1 := by
    obtain ⟨b, hb⟩ : ∃ b, a + c = b + 1 := ⟨a + c - 1, by omega⟩
    rw [nI_add, hb, nI_pred, nI_toInt (by omega)]; omega
  have tk : (nI a - 1).toInt = (a : Int) - 1 := by
    obtain ⟨b, hb⟩ : ∃ b, a = b + 1 := ⟨a - 1, by omega⟩
    rw [hb, nI_pred, nI_toInt (by omega)]; omega
  refine e_s rfl rfl ?_
  refine e_c rfl rfl ⟨Nat.le_of_ble_eq_true rfl, Nat.le_of_ble_eq_true rfl, Nat.le_of_ble_eq_true rfl, xrcv_of (by decide) (g1)⟩ ?_
  refine e_s rfl rfl ?_
  refine e_gf rfl (by decide) g1 rfl ?_
  refine e_c rfl rfl ⟨Nat.le_of_ble_eq_true rfl, Nat.le_of_ble_eq_true rfl, Nat.le_of_ble_eq_true rfl, xrcv_of (by decide) (g201)⟩ ?_
  refine e_s rfl rfl ?_
  refine e_gf rfl (by decide) g201 rfl ?_
  refine e_r1 rfl ?_
  refine e_r1 rfl ?_
  refine e_s rfl rfl ?_
  refine e_c rfl rfl ⟨Nat.le_of_ble_eq_true rfl, Nat.le_of_ble_eq_true rfl, Nat.le_of_ble_eq_true rfl, xrcv_of (by decide) (g205)⟩ ?_
  refine e_s rfl rfl ?_
  refine e_s rfl rfl ?_
  refine e_pf rfl (by decide) g205 (Nat.le_of_ble_eq_true rfl) rfl rfl ?_
  refine e_s rfl rfl ?_
  refine e_gf rfl (by decide) rfl rfl ?_
  refine e_r1 rfl ?_
  refine e_bt rfl rfl (by decide) ?_
  refine e_s rfl rfl ?_
  refine e_s rfl rfl ?_
  refine e_s rfl rfl ?_
  refine e_s rfl rfl ?_
  refine e_s rfl rfl ?_
  refine e_s rfl rfl ?_
  refine e_s rfl rfl ?_
  refine e_bt rfl rfl (by decide) ?_
  refine e_s rfl rfl ?_
  refine e_r2 rfl (by decide) ?_
  exact rfl
theorem op_17 (hI : xI a c f) (ha : 1 ≤ a ∧ a ≤ 7) (hc : 1 ≤ c ∧ c ≤ 6) (hu : u ≤ 20000) (e3 : xs 3 = x) (e4 : xs 4 = y) (e5 : xs 5 = v) : evp 6 xs 10 0 890 xLL [] true (221, u, f) xΦ := by
  obtain ⟨⟨g1, g2, g3, g4, g6, g7, g139, g201⟩, ⟨g205, g206, g207, g209, g210⟩, g220⟩ := hI
  have t0 : (0 : Int32).toInt = 0 := rfl
  have t1 : (1 : Int32).toInt = 1 := rfl
  have t2 : (2 : Int32).toInt = 2 := rfl
  have tn : (-1 : Int32).toInt = -1 := rfl
  have tz : ((0 : Int32) - 1).toInt = -1 := rfl
  have ta : (nI a).toInt = (a : Int) := nI_toInt (by omega)
  have tc : (nI a + nI c).toInt = (a : Int) + c := by rw [nI_add, nI_toInt (by omega)]; omega
  have tm : (nI a + nI c - 1).toInt = (a : Int) + c - 1 := by
    obtain ⟨b, hb⟩ : ∃ b, a + c = b + 1 := ⟨a + c - 1, by omega⟩
    rw [nI_add, hb, nI_pred, nI_toInt (by omega)]; omega
  have tk : (nI a - 1).toInt = (a : Int) - 1 := by
    obtain ⟨b, hb⟩ : ∃ b, a = b + 1 := ⟨a - 1, by omega⟩
    rw [hb, nI_pred, nI_toInt (by omega)]; omega
  refine e_s rfl rfl ?_
  refine e_c rfl rfl ⟨Nat.le_of_ble_eq_true rfl, Nat.le_of_ble_eq_true rfl, Nat.le_of_ble_eq_true rfl, xrcv_of (by decide) (g1)⟩ ?_
  refine e_s rfl rfl ?_
  refine e_gf rfl (by decide) g1 rfl ?_
  refine e_c rfl rfl ⟨Nat.le_of_ble_eq_true rfl, Nat.le_of_ble_eq_true rfl, Nat.le_of_ble_eq_true rfl, xrcv_of (by decide) (g201)⟩ ?_
  refine e_s rfl rfl ?_
  refine e_gf rfl (by decide) g201 rfl ?_
  refine e_r1 rfl ?_
  refine e_r1 rfl ?_
  refine e_s rfl rfl ?_
  refine e_c rfl rfl ⟨Nat.le_of_ble_eq_true rfl, Nat.le_of_ble_eq_true rfl, Nat.le_of_ble_eq_true rfl, xrcv_of (by decide) (g205)⟩ ?_
  refine e_s rfl rfl ?_
  refine e_s rfl rfl ?_
  refine e_pf rfl (by decide) g205 (Nat.le_of_ble_eq_true rfl) rfl rfl ?_
  refine e_s rfl rfl ?_
  refine e_gf rfl (by decide) rfl rfl ?_
  refine e_r1 rfl ?_
  refine e_bt rfl rfl (by decide) ?_
  refine e_s rfl rfl ?_
  refine e_s rfl rfl ?_
  refine e_s rfl rfl ?_
  refine e_s rfl rfl ?_
  refine e_s rfl rfl ?_
  refine e_s rfl rfl ?_
  refine e_s rfl rfl ?_
  refine e_bt rfl rfl (by decide) ?_
  refine e_s rfl rfl ?_
  refine e_r2 rfl (by decide) ?_
  exact rfl
theorem op_18 (hI : xI a c f) (ha : 1 ≤ a ∧ a ≤ 7) (hc : 1 ≤ c ∧ c ≤ 6) (hu : u ≤ 20000) (e3 : xs 3 = x) (e4 : xs 4 = y) (e5 : xs 5 = v) : evp 6 xs 10 0 903 xLL [] true (221, u, f) xΦ := by
  obtain ⟨⟨g1, g2, g3, g4, g6, g7, g139, g201⟩, ⟨g205, g206, g207, g209, g210⟩, g220⟩ := hI
  have t0 : (0 : Int32).toInt = 0 := rfl
  have t1 : (1 : Int32).toInt = 1 := rfl
  have t2 : (2 : Int32).toInt = 2 := rfl
  have tn : (-1 : Int32).toInt = -1 := rfl
  have tz : ((0 : Int32) - 1).toInt = -1 := rfl
  have ta : (nI a).toInt = (a : Int) := nI_toInt (by omega)
  have tc : (nI a + nI c).toInt = (a : Int) + c := by rw [nI_add, nI_toInt (by omega)]; omega
  have tm : (nI a + nI c - 1).toInt = (a : Int) + c - 1 := by
    obtain ⟨b, hb⟩ : ∃ b, a + c = b + 1 := ⟨a + c - 1, by omega⟩
    rw [nI_add, hb, nI_pred, nI_toInt (by omega)]; omega
  have tk : (nI a - 1).toInt = (a : Int) - 1 := by
    obtain ⟨b, hb⟩ : ∃ b, a = b + 1 := ⟨a - 1, by omega⟩
    rw [hb, nI_pred, nI_toInt (by omega)]; omega
  refine e_s rfl rfl ?_
  refine e_c rfl rfl ⟨Nat.le_of_ble_eq_true rfl, Nat.le_of_ble_eq_true rfl, Nat.le_of_ble_eq_true rfl, xrcv_of (by decide) (g1)⟩ ?_
  refine e_s rfl rfl ?_
  refine e_gf rfl (by decide) g1 rfl ?_
  refine e_c rfl rfl ⟨Nat.le_of_ble_eq_true rfl, Nat.le_of_ble_eq_true rfl, Nat.le_of_ble_eq_true rfl, xrcv_of (by decide) (g201)⟩ ?_
  refine e_s rfl rfl ?_
  refine e_gf rfl (by decide) g201 rfl ?_
  refine e_r1 rfl ?_
  refine e_r1 rfl ?_
  refine e_s rfl rfl ?_
  refine e_c rfl rfl ⟨Nat.le_of_ble_eq_true rfl, Nat.le_of_ble_eq_true rfl, Nat.le_of_ble_eq_true rfl, xrcv_of (by decide) (g205)⟩ ?_
  refine e_s rfl rfl ?_
  refine e_s rfl rfl ?_
  refine e_pf rfl (by decide) g205 (Nat.le_of_ble_eq_true rfl) rfl rfl ?_
  refine e_s rfl rfl ?_
  refine e_gf rfl (by decide) rfl rfl ?_
  refine e_r1 rfl ?_
  refine e_bt rfl rfl (by decide) ?_
  refine e_s rfl rfl ?_
  refine e_s rfl rfl ?_
  refine e_s rfl rfl ?_
  refine e_s rfl rfl ?_
  refine e_s rfl rfl ?_
  refine e_s rfl rfl ?_
  refine e_s rfl rfl ?_
  refine e_bt rfl rfl (by decide) ?_
  refine e_s rfl rfl ?_
  refine e_r2 rfl (by decide) ?_
  exact rfl
theorem op_19 (hI : xI a c f) (ha : 1 ≤ a ∧ a ≤ 7) (hc : 1 ≤ c ∧ c ≤ 6) (hu : u ≤ 20000) (e3 : xs 3 = x) (e4 : xs 4 = y) (e5 : xs 5 = v) : evp 6 xs 10 0 916 xLL [] true (221, u, f) xΦ := by
  obtain ⟨⟨g1, g2, g3, g4, g6, g7, g139, g201⟩, ⟨g205, g206, g207, g209, g210⟩, g220⟩ := hI
  have t0 : (0 : Int32).toInt = 0 := rfl
  have t1 : (1 : Int32).toInt = 1 := rfl
  have t2 : (2 : Int32).toInt = 2 := rfl
  have tn : (-1 : Int32).toInt = -1 := rfl
  have tz : ((0 : Int32) - 1).toInt = -1 := rfl
  have ta : (nI a).toInt = (a : Int) := nI_toInt (by omega)
  have tc : (nI a + nI c).toInt = (a : Int) + c := by rw [nI_add, nI_toInt (by omega)]; omega
  have tm : (nI a + nI c - 1).toInt = (a : Int) + c - 1 := by
    obtain ⟨b, hb⟩ : ∃ b, a + c = b + 1 := ⟨a + c - 1, by omega⟩
    rw [nI_add, hb, nI_pred, nI_toInt (by omega)]; omega
  have tk : (nI a - 1).toInt = (a : Int) - 1 := by
    obtain ⟨b, hb⟩ : ∃ b, a = b + 1 := ⟨a - 1, by omega⟩
    rw [hb, nI_pred, nI_toInt (by omega)]; omega
  by_cases h0 : x.toInt < 0
  · refine e_s rfl rfl ?_
    refine e_s rfl rfl ?_
    refine e_s rfl rfl ?_
    refine e_s rfl rfl ?_
    refine e_s rfl rfl ?_
    refine e_sc rfl (by decide) (k := 3) (by decide) e3 ?_
    refine e_s rfl rfl ?_
    refine e_c rfl rfl ⟨Nat.le_of_ble_eq_true rfl, Nat.le_of_ble_eq_true rfl, Nat.le_of_ble_eq_true rfl, rfl⟩ ?_
    refine e_s rfl rfl ?_
    refine e_s rfl rfl ?_
    refine e_s rfl rfl ?_
    refine e_s rfl rfl ?_
    refine e_c rfl rfl ⟨Nat.le_of_ble_eq_true rfl, Nat.le_of_ble_eq_true rfl, Nat.le_of_ble_eq_true rfl, xrcv_of (by decide) (g1)⟩ ?_
    refine e_s rfl rfl ?_
    refine e_bt rfl rfl (by simp only [Int32.lt_iff_toInt_lt, Int32.le_iff_toInt_le]; omega) ?_
    refine e_th rfl (by omega) (by omega) (by decide) ⟨_, rfl, ?_⟩
    refine e_s rfl rfl ?_
    refine e_s rfl rfl ?_
    refine e_r1 rfl ?_
    refine e_s rfl rfl ?_
    refine e_s rfl rfl ?_
    refine e_s rfl rfl ?_
    refine e_s rfl rfl ?_
    refine e_s rfl rfl ?_
    refine e_s rfl rfl ?_
    refine e_sc rfl (by decide) (k := 3) (by decide) e3 ?_
    refine e_c rfl rfl ⟨Nat.le_of_ble_eq_true rfl, Nat.le_of_ble_eq_true rfl, Nat.le_of_ble_eq_true rfl, xrcv_of (by decide) (g205)⟩ ?_
    refine e_s rfl rfl ?_
    refine e_s rfl rfl ?_
    refine e_s rfl rfl ?_
    refine e_gf rfl (by decide) g205 rfl ?_
    refine e_s rfl rfl ?_
    refine e_s rfl rfl ?_
    refine e_c rfl rfl ⟨Nat.le_of_ble_eq_true rfl, Nat.le_of_ble_eq_true rfl, Nat.le_of_ble_eq_true rfl, rfl⟩ ?_
    refine e_s rfl rfl ?_
    refine e_s rfl rfl ?_
    refine e_bt rfl rfl (by simp only [Int32.lt_iff_toInt_lt, Int32.le_iff_toInt_le]; omega) ?_
    refine e_s rfl rfl ?_
    refine e_s rfl rfl ?_
    refine e_r2 rfl (by decide) ?_
    refine e_bt rfl rfl (by decide) ?_
    refine e_s rfl rfl ?_
    refine e_s rfl rfl ?_
    refine e_c rfl rfl ⟨Nat.le_of_ble_eq_true rfl, Nat.le_of_ble_eq_true rfl, Nat.le_of_ble_eq_true rfl, xrcv_of (by decide) (g205)⟩ ?_
    refine e_s rfl rfl ?_
    refine e_s rfl rfl ?_
    refine e_pf rfl (by decide) g205 (Nat.le_of_ble_eq_true rfl) rfl rfl ?_
    refine e_s rfl rfl ?_
    refine e_r1 rfl ?_
    refine e_r1 rfl ?_
    refine e_s rfl rfl ?_
    refine e_s rfl rfl ?_
    refine e_c rfl rfl ⟨Nat.le_of_ble_eq_true rfl, Nat.le_of_ble_eq_true rfl, Nat.le_of_ble_eq_true rfl, xrcv_of (by decide) (rfl)⟩ ?_
    refine e_s rfl rfl ?_
    refine e_gf rfl (by decide) rfl rfl ?_
    refine e_r1 rfl ?_
    refine e_s rfl rfl ?_
    refine e_bt rfl rfl (by decide) ?_
    refine e_s rfl rfl ?_
    refine e_bt rfl rfl (by decide) ?_
    refine e_s rfl rfl ?_
    refine e_s rfl rfl ?_
    refine e_s rfl rfl ?_
    refine e_s rfl rfl ?_
    refine e_s rfl rfl ?_
    refine e_s rfl rfl ?_
    refine e_s rfl rfl ?_
    refine e_s rfl rfl ?_
    refine e_bt rfl rfl (by decide) ?_
    refine e_s rfl rfl ?_
    refine e_r2 rfl (by decide) ?_
    exact rfl
  refine e_s rfl rfl ?_
  refine e_s rfl rfl ?_
  refine e_s rfl rfl ?_
  refine e_s rfl rfl ?_
  refine e_s rfl rfl ?_
  refine e_sc rfl (by decide) (k := 3) (by decide) e3 ?_
  refine e_s rfl rfl ?_
  refine e_c rfl rfl ⟨Nat.le_of_ble_eq_true rfl, Nat.le_of_ble_eq_true rfl, Nat.le_of_ble_eq_true rfl, rfl⟩ ?_
  refine e_s rfl rfl ?_
  refine e_s rfl rfl ?_
  refine e_s rfl rfl ?_
  refine e_s rfl rfl ?_
  refine e_c rfl rfl ⟨Nat.le_of_ble_eq_true rfl, Nat.le_of_ble_eq_true rfl, Nat.le_of_ble_eq_true rfl, xrcv_of (by decide) (g1)⟩ ?_
  refine e_s rfl rfl ?_
  refine e_bf rfl rfl (by simp only [Int32.lt_iff_toInt_lt, Int32.le_iff_toInt_le]; omega) ?_
  refine e_s rfl rfl ?_
  refine e_s rfl rfl ?_
  refine e_gf rfl (by decide) g1 rfl ?_
  refine e_c rfl rfl ⟨Nat.le_of_ble_eq_true rfl, Nat.le_of_ble_eq_true rfl, Nat.le_of_ble_eq_true rfl, xrcv_of (by decide) (g201)⟩ ?_
  refine e_s rfl rfl ?_
  refine e_gf rfl (by decide) g201 rfl ?_
  refine e_s rfl rfl ?_
  refine e_c rfl rfl ⟨Nat.le_of_ble_eq_true rfl, Nat.le_of_ble_eq_true rfl, Nat.le_of_ble_eq_true rfl, rfl⟩ ?_
  refine e_s rfl rfl ?_
  refine e_s rfl rfl ?_
  refine e_bf rfl rfl (by decide) ?_
  refine e_s rfl rfl ?_
  refine e_s rfl rfl ?_
  refine e_r1 rfl ?_
  refine e_r1 rfl ?_
  refine e_bf rfl rfl (by simp only [Int32.lt_iff_toInt_lt, Int32.le_iff_toInt_le]; omega) ?_
  refine e_th rfl (by omega) (by omega) (by decide) ⟨_, rfl, ?_⟩
  refine e_s rfl rfl ?_
  refine e_s rfl rfl ?_
  refine e_r1 rfl ?_
  refine e_s rfl rfl ?_
  refine e_s rfl rfl ?_
  refine e_s rfl rfl ?_
  refine e_s rfl rfl ?_
  refine e_s rfl rfl ?_
  refine e_s rfl rfl ?_
  refine e_sc rfl (by decide) (k := 3) (by decide) e3 ?_
  refine e_c rfl rfl ⟨Nat.le_of_ble_eq_true rfl, Nat.le_of_ble_eq_true rfl, Nat.le_of_ble_eq_true rfl, xrcv_of (by decide) (g205)⟩ ?_
  refine e_s rfl rfl ?_
  refine e_s rfl rfl ?_
  refine e_s rfl rfl ?_
  refine e_gf rfl (by decide) g205 rfl ?_
  refine e_s rfl rfl ?_
  refine e_s rfl rfl ?_
  refine e_c rfl rfl ⟨Nat.le_of_ble_eq_true rfl, Nat.le_of_ble_eq_true rfl, Nat.le_of_ble_eq_true rfl, rfl⟩ ?_
  refine e_s rfl rfl ?_
  refine e_s rfl rfl ?_
  refine e_bf rfl rfl (by simp only [Int32.lt_iff_toInt_lt, Int32.le_iff_toInt_le]; omega) ?_
  refine e_s rfl rfl ?_
  refine e_s rfl rfl ?_
  refine e_bf rfl rfl (by simp only [Int32.lt_iff_toInt_lt, Int32.le_iff_toInt_le]; omega) ?_
  refine e_s rfl rfl ?_
  refine e_s rfl rfl ?_
  refine e_r2 rfl (by decide) ?_
  refine e_bt rfl rfl (by decide) ?_
  refine e_s rfl rfl ?_
  refine e_s rfl rfl ?_
  refine e_c rfl rfl ⟨Nat.le_of_ble_eq_true rfl, Nat.le_of_ble_eq_true rfl, Nat.le_of_ble_eq_true rfl, xrcv_of (by decide) (g205)⟩ ?_
  refine e_s rfl rfl ?_
  refine e_s rfl rfl ?_
  refine e_pf rfl (by decide) g205 (Nat.le_of_ble_eq_true rfl) rfl rfl ?_
  refine e_s rfl rfl ?_
  refine e_r1 rfl ?_
  refine e_r1 rfl ?_
  refine e_s rfl rfl ?_
  refine e_s rfl rfl ?_
  refine e_c rfl rfl ⟨Nat.le_of_ble_eq_true rfl, Nat.le_of_ble_eq_true rfl, Nat.le_of_ble_eq_true rfl, xrcv_of (by decide) (rfl)⟩ ?_
  refine e_s rfl rfl ?_
  refine e_gf rfl (by decide) rfl rfl ?_
  refine e_r1 rfl ?_
  refine e_s rfl rfl ?_
  refine e_bt rfl rfl (by decide) ?_
  refine e_s rfl rfl ?_
  refine e_bt rfl rfl (by decide) ?_
  refine e_s rfl rfl ?_
  refine e_s rfl rfl ?_
  refine e_s rfl rfl ?_
  refine e_s rfl rfl ?_
  refine e_s rfl rfl ?_
  refine e_s rfl rfl ?_
  refine e_s rfl rfl ?_
  refine e_s rfl rfl ?_
  refine e_bt rfl rfl (by decide) ?_
  refine e_s rfl rfl ?_
  refine e_r2 rfl (by decide) ?_
  exact rfl
end OPS
