/-! The constructors, run. -/
theorem c_Grammar {Ls : Nat} {xs : Nat → Int32} {t n : Int32} {u d N : Nat} {f0 : Nat → Option xB} {Φ : xR → Bool → xH → Prop} (hn : ¬ n < 0) (hN : n.toNatClampNeg = N) (hN6 : N ≤ 6) (hu : u ≤ 1000)
    (k : ∀ u', u' ≤ u + 100 → Φ (.inl none) true (8, u', xup (xup (xup (xup (xup (xup f0 2 (some (.inl (1, [.int t, .int n, .ref 3, .ref 4, .ref 5, .int 0, .ref 6, .ref 7])))) 3 (some (.inr (.inl (0, 14, fun _ => 0))))) 4 (some (.inr (.inl (0, 15, fun _ => 0))))) 5 (some (.inr (.inl (0, 40, fun _ => 0))))) 6 (some (.inr (.inl (1, N, fun _ => 0))))) 7 (some (.inr (.inl (0, N, fun _ => 0))))))  :
    evp Ls xs d 37 0 [(0, .ref 2), (1, .int t), (2, .int n)] [] false (3, u, xup f0 2 (some (.inl (1, [.int 0, .int 0, .null, .null, .null, .int 0, .null, .null])))) Φ := by
  repeat (refine e_s rfl rfl ?_)
  refine e_nai (N := 14) (B := 14) rfl (by decide) (by decide) (by omega) (by omega) (by omega) (by omega) (fun u1 h1 => ?_)
  repeat (refine e_s rfl rfl ?_)
  refine e_nai (N := 15) (B := 15) rfl (by decide) (by decide) (by omega) (by omega) (by omega) (by omega) (fun u2 h2 => ?_)
  repeat (refine e_s rfl rfl ?_)
  refine e_nai (N := 40) (B := 40) rfl (by decide) (by decide) (by omega) (by omega) (by omega) (by omega) (fun u3 h3 => ?_)
  repeat (refine e_s rfl rfl ?_)
  refine e_naz (N := N) (B := 6) rfl hn hN (by omega) (by omega) (by omega) (by omega) (fun u4 h4 => ?_)
  repeat (refine e_s rfl rfl ?_)
  refine e_nai (N := N) (B := 6) rfl hn hN (by omega) (by omega) (by omega) (by omega) (fun u5 h5 => ?_)
  repeat (refine e_s rfl rfl ?_)
  refine e_r0 rfl ?_
  sorry
