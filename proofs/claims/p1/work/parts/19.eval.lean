/-! Runs with a goal behind them: 'evp .. Φ': the run comes to an end of which Φ holds. -/
theorem xrun_mono {P : Nat → Nat → Option xK} {M : Nat → Option xMd} {zm um : Nat} : ∀ (n d j pc : Nat) (L : xL) (st : List Value) (w : Bool) (h : xH) (r : xR × Bool × xH), xrun P M zm um n d j pc L st w h = some r → xrun P M zm um (n + 1) d j pc L st w h = some r
  | 0, _, _, _, _, _, _, _, _, hr => by cases hr
  | n + 1, d, j, pc, L, st, w, h, r, hr => by
    unfold xrun at hr ⊢
    split at hr
    · cases hr
    · rename_i F hF
      try simp only [hF]
      split at hr
      · cases hr
      · rename_i pc' L' st' w1 h1 hst
        try simp only [hst]
        exact xrun_mono n d j pc' L' st' w1 h1 r hr
    · rename_i j2 k rc hd9 hF
      try simp only [hF]
      split at hr
      · rename_i d2 md2 hM2
        try simp only [hM2]
        split at hr
        · rename_i hcond
          rw [if_pos hcond]
          split at hr
          · cases hr
          · rename_i v w2 h2 hr2
            rw [xrun_mono n (d2 + 1) j2 0 _ [] false h _ hr2]
            exact xrun_mono n (d2 + 2) j (pc + 3) L _ (w || w2) h2 r hr
          · rename_i x i w2 h2 hr2
            rw [xrun_mono n (d2 + 1) j2 0 _ [] false h _ hr2]
            split at hr
            · rename_i q hq
              try simp only [hq]
              exact xrun_mono n (d2 + 2) j q L _ true h2 r hr
            · cases hr
        · cases hr
      · cases hr
    · rename_i hF
      try simp only [hF]
      exact hr
    · rename_i hF
      try simp only [hF]
      exact hr
    · rename_i hF
      try simp only [hF]
      exact hr
    · rename_i x hF
      try simp only [hF]
      exact hr
theorem xrun_le {P : Nat → Nat → Option xK} {M : Nat → Option xMd} {zm um n n2 d j pc : Nat} {L : xL} {st : List Value} {w : Bool} {h : xH} {r : xR × Bool × xH} (hn : n ≤ n2) (hr : xrun P M zm um n d j pc L st w h = some r) : xrun P M zm um n2 d j pc L st w h = some r := by
  induction hn with
  | refl => exact hr
  | step _ ih => exact xrun_mono _ d j pc L st w h r ih
def evp (Ls : Nat) (xs : Nat → Int32) (d j pc : Nat) (L : xL) (st : List Value) (w : Bool) (h : xH) (Φ : xR → Bool → xH → Prop) : Prop :=
  ∃ n r w' h', xrun (xP Ls xs) xM 600003 7302198 n d j pc L st w h = some (r, w', h') ∧ Φ r w' h'
section EV
variable {Ls : Nat} {xs : Nat → Int32} {d j pc : Nat} {L : xL} {st : List Value} {w : Bool} {h : xH} {Φ : xR → Bool → xH → Prop}
theorem e_s {F : xS} {pc' : Nat} {L' : xL} {st' : List Value} {w1 : Bool} {h1 : xH} (hP : xP Ls xs j pc = some (.inl F)) (hF : F L st w h = some (pc', L', st', w1, h1)) (k : evp Ls xs d j pc' L' st' w1 h1 Φ) : evp Ls xs d j pc L st w h Φ := by
  obtain ⟨n, r, w', h', hr, hΦ⟩ := k
  refine ⟨n + 1, r, w', h', ?_, hΦ⟩
  unfold xrun
  simp only [hP, hF]
  exact hr
/-- a call: what is behind it, by how the callee ends -/
theorem e_c {d2 j2 k rc : Nat} {hd : List (Nat × Nat)} {md2 : xMd} (hP : xP Ls xs j pc = some (.inr (.inl (j2, k, rc, hd)))) (hM : xM j2 = some md2) (hc : k ≤ st.length ∧ xcs (st.drop k) ≤ 8 ∧ xcs (st.take k) ≤ md2.2.2.1 ∧ xrcv h rc (st.take k).reverse = true)
    (kk : evp Ls xs (d2 + 1) j2 0 (lv_args 0 (st.take k).reverse) [] false h (fun r w2 h2 => match r with
      | .inl v => evp Ls xs (d2 + 2) j (pc + 3) L (v.toList ++ st.drop k) (w || w2) h2 Φ
      | .inr (x, i) => ∃ q, hd.lookup x = some q ∧ evp Ls xs (d2 + 2) j q L [.ref i] true h2 Φ)) : evp Ls xs (d2 + 2) j pc L st w h Φ := by
  obtain ⟨n, r, w2, h2, hr, hk⟩ := kk
  cases r with
  | inl v =>
    obtain ⟨n1, r1, w1, h1, hr1, hΦ⟩ := hk
    refine ⟨max n n1 + 1, r1, w1, h1, ?_, hΦ⟩
    unfold xrun
    simp only [hP, hM]
    rw [if_pos hc, xrun_le (Nat.le_max_left n n1) hr]
    exact xrun_le (Nat.le_max_right n n1) hr1
  | inr q9 =>
    obtain ⟨x, i⟩ := q9
    obtain ⟨q, hq, n1, r1, w1, h1, hr1, hΦ⟩ := hk
    refine ⟨max n n1 + 1, r1, w1, h1, ?_, hΦ⟩
    unfold xrun
    simp only [hP, hM]
    rw [if_pos hc, xrun_le (Nat.le_max_left n n1) hr]
    simp only [hq]
    exact xrun_le (Nat.le_max_right n n1) hr1
theorem e_r0 (hP : xP Ls xs j pc = some (.inr (.inr 0))) (k : Φ (.inl none) w h) : evp Ls xs d j pc L [] w h Φ := by
  refine ⟨1, _, _, _, ?_, k⟩
  unfold xrun
  simp only [hP]
theorem e_r1 {x : Int32} (hP : xP Ls xs j pc = some (.inr (.inr 1))) (k : Φ (.inl (some (.int x))) w h) : evp Ls xs d j pc L [.int x] w h Φ := by
  refine ⟨1, _, _, _, ?_, k⟩
  unfold xrun
  simp only [hP]
theorem e_r2 {x : Int32} (hP : xP Ls xs j pc = some (.inr (.inr 2))) (hx : x = 0 ∨ x = 1) (k : Φ (.inl (some (.int x))) w h) : evp Ls xs d j pc L [.int x] w h Φ := by
  refine ⟨1, _, _, _, ?_, k⟩
  unfold xrun
  simp only [hP]
  rw [if_pos hx]
theorem e_t {x : Nat} (hP : xP Ls xs j pc = some (.inr (.inr (x + 3)))) (hc : h.1 + 1 ≤ 600003 ∧ h.2.1 + 6 ≤ 7302198 ∧ 6 ≤ d) (k : Φ (.inr (x, h.1)) true (h.1 + 1, h.2.1 + 6, xup h.2.2 h.1 none)) : evp Ls xs d j pc L [] false h Φ := by
  refine ⟨1, _, _, _, ?_, k⟩
  unfold xrun
  simp only [hP, true_and]
  rw [if_pos hc]
variable {z u : Nat} {f : Nat → Option xB} {nx : Nat}
/-- new cells; how many slots there are is not said exactly -/
theorem e_nw {ci N : Nat} {fs : List Value} (hP : xP Ls xs j pc = some (.inl (xs_nw 600003 7302198 ci N fs nx))) (hz : z + 1 ≤ 600003) (hu : u + N ≤ 7302198) (k : ∀ u', u' ≤ u + N → evp Ls xs d j nx L (.ref z :: st) true (z + 1, u', xup f z (some (.inl (ci, fs)))) Φ) : evp Ls xs d j pc L st w (z, u, f) Φ :=
  e_s hP (by show (if z + 1 ≤ 600003 ∧ u + N ≤ 7302198 then _ else _) = _; rw [if_pos ⟨hz, hu⟩]) (k (u + N) (Nat.le_refl _))
theorem e_nai {n : Int32} {N B : Nat} (hP : xP Ls xs j pc = some (.inl (xs_nai 600003 7302198 nx))) (hn : ¬ n < 0) (hN : n.toNatClampNeg = N) (hB : N ≤ B) (hB2 : B ≤ 1000000) (hz : z + 1 ≤ 600003) (hu : u + B ≤ 7302198) (k : ∀ u', u' ≤ u + B → evp Ls xs d j nx L (.ref z :: st) true (z + 1, u', xup f z (some (.inr (.inl (0, N, fun _ => 0))))) Φ) : evp Ls xs d j pc L (.int n :: st) w (z, u, f) Φ := by
  subst hN
  exact e_s hP (by show (if ¬ n < 0 ∧ n.toNatClampNeg ≤ 1000000 ∧ z + 1 ≤ 600003 ∧ u + n.toNatClampNeg ≤ 7302198 then _ else _) = _; rw [if_pos ⟨hn, by omega, hz, by omega⟩]) (k (u + n.toNatClampNeg) (by omega))
theorem e_naz {n : Int32} {N B : Nat} (hP : xP Ls xs j pc = some (.inl (xs_naz 600003 7302198 nx))) (hn : ¬ n < 0) (hN : n.toNatClampNeg = N) (hB : N ≤ B) (hB2 : B ≤ 1000000) (hz : z + 1 ≤ 600003) (hu : u + B ≤ 7302198) (k : ∀ u', u' ≤ u + B → evp Ls xs d j nx L (.ref z :: st) true (z + 1, u', xup f z (some (.inr (.inl (1, N, fun _ => 0))))) Φ) : evp Ls xs d j pc L (.int n :: st) w (z, u, f) Φ := by
  subst hN
  exact e_s hP (by show (if ¬ n < 0 ∧ n.toNatClampNeg ≤ 1000000 ∧ z + 1 ≤ 600003 ∧ u + n.toNatClampNeg ≤ 7302198 then _ else _) = _; rw [if_pos ⟨hn, by omega, hz, by omega⟩]) (k (u + n.toNatClampNeg) (by omega))
theorem e_naj {n : Int32} {N B : Nat} (hP : xP Ls xs j pc = some (.inl (xs_naj 600003 7302198 nx))) (hn : ¬ n < 0) (hN : n.toNatClampNeg = N) (hB : N ≤ B) (hB2 : B ≤ 1000000) (hz : z + 1 ≤ 600003) (hu : u + B ≤ 7302198) (k : ∀ u', u' ≤ u + B → evp Ls xs d j nx L (.ref z :: st) true (z + 1, u', xup f z (some (.inr (.inr (.inl (N, fun _ => 0)))))) Φ) : evp Ls xs d j pc L (.int n :: st) w (z, u, f) Φ := by
  subst hN
  exact e_s hP (by show (if ¬ n < 0 ∧ n.toNatClampNeg ≤ 1000000 ∧ z + 1 ≤ 600003 ∧ u + n.toNatClampNeg ≤ 7302198 then _ else _) = _; rw [if_pos ⟨hn, by omega, hz, by omega⟩]) (k (u + n.toNatClampNeg) (by omega))
theorem e_mn {n k9 : Int32} {N K B : Nat} (hP : xP Ls xs j pc = some (.inl (xs_mn 600003 7302198 nx))) (hn : ¬ n < 0) (hk : ¬ k9 < 0) (hN : n.toNatClampNeg = N) (hK : k9.toNatClampNeg = K) (hN2 : N ≤ 1000) (hK2 : K ≤ 1000) (hB : N + N * K ≤ B) (hz : z + 1 + N ≤ 600003) (hu : u + B ≤ 7302198) (k : ∀ u', u' ≤ u + B → evp Ls xs d j nx L (.ref z :: st) true (z + 1 + N, u', xgr f z N K) Φ) : evp Ls xs d j pc L (.int k9 :: .int n :: st) w (z, u, f) Φ := by
  subst hN
  subst hK
  exact e_s hP (by show (if ¬ n < 0 ∧ ¬ k9 < 0 ∧ n.toNatClampNeg ≤ 1000 ∧ k9.toNatClampNeg ≤ 1000 ∧ z + 1 + n.toNatClampNeg ≤ 600003 ∧ u + n.toNatClampNeg + n.toNatClampNeg * k9.toNatClampNeg ≤ 7302198 then _ else _) = _; rw [if_pos ⟨hn, hk, hN2, hK2, hz, by omega⟩]) (k (u + n.toNatClampNeg + n.toNatClampNeg * k9.toNatClampNeg) (by omega))
end EV
