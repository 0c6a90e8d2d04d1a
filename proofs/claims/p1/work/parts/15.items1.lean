theorem d_1_0 : decode method_2_code 0 = .ok (.iload_n 1, 1) := by decide +kernel
theorem d_1_1 : decode method_2_code 1 = .ok (.aload_n 0, 1) := by decide +kernel
theorem d_1_2 : decode method_2_code 2 = .ok (.arraylength, 1) := by decide +kernel
theorem d_1_3 : decode method_2_code 3 = .ok (.if_icmp .ge (9), 3) := by decide +kernel
theorem d_1_6 : decode method_2_code 6 = .ok (.aload_n 0, 1) := by decide +kernel
theorem d_1_7 : decode method_2_code 7 = .ok (.iload_n 1, 1) := by decide +kernel
theorem d_1_8 : decode method_2_code 8 = .ok (.iaload, 1) := by decide +kernel
theorem d_1_9 : decode method_2_code 9 = .ok (.goto (4), 3) := by decide +kernel
theorem d_1_12 : decode method_2_code 12 = .ok (.iconst (0), 1) := by decide +kernel
theorem d_1_13 : decode method_2_code 13 = .ok (.ireturn, 1) := by decide +kernel
theorem it_1_0 (Ls : Nat) (xs : Nat → Int32) : xPI Ls xs md_1 0 (.inl (xs_il 1 1)) := by
  exact xs_iload_n_ok d_1_0 rfl
theorem it_1_1 (Ls : Nat) (xs : Nat → Int32) : xPI Ls xs md_1 1 (.inl (xs_al 0 2)) := by
  exact xs_aload_n_ok d_1_1 rfl
theorem it_1_2 (Ls : Nat) (xs : Nat → Int32) : xPI Ls xs md_1 2 (.inl (xs_len Ls 3)) := by
  exact xs_len_ok d_1_2
theorem it_1_3 (Ls : Nat) (xs : Nat → Int32) : xPI Ls xs md_1 3 (.inl (xs_ic_ge 12 6)) := by
  exact xs_ic_ge_ok d_1_3 (by decide)
theorem it_1_6 (Ls : Nat) (xs : Nat → Int32) : xPI Ls xs md_1 6 (.inl (xs_al 0 7)) := by
  exact xs_aload_n_ok d_1_6 rfl
theorem it_1_7 (Ls : Nat) (xs : Nat → Int32) : xPI Ls xs md_1 7 (.inl (xs_il 1 8)) := by
  exact xs_iload_n_ok d_1_7 rfl
theorem it_1_8 (Ls : Nat) (xs : Nat → Int32) : xPI Ls xs md_1 8 (.inl (xs_ia Ls xs 9)) := by
  exact xs_ia_ok d_1_8
theorem it_1_9 (Ls : Nat) (xs : Nat → Int32) : xPI Ls xs md_1 9 (.inl (xs_goto 13)) := by
  exact xs_goto_ok d_1_9 (by decide)
theorem it_1_12 (Ls : Nat) (xs : Nat → Int32) : xPI Ls xs md_1 12 (.inl (xs_c (0) 13)) := by
  exact xs_iconst_ok d_1_12 (by decide)
theorem it_1_13 (Ls : Nat) (xs : Nat → Int32) : xPI Ls xs md_1 13 (.inr (.inr 1)) := by
  exact ⟨rfl, d_1_13⟩
def K_1 (Ls : Nat) (xs : Nat → Int32) : Nat → Option xK := xbt 7 (xbt 2 (xbt 1 (xlf 0 (.inl (xs_il 1 1))) (xlf 1 (.inl (xs_al 0 2)))) (xbt 3 (xlf 2 (.inl (xs_len Ls 3))) (xbt 6 (xlf 3 (.inl (xs_ic_ge 12 6))) (xlf 6 (.inl (xs_al 0 7)))))) (xbt 9 (xbt 8 (xlf 7 (.inl (xs_il 1 8))) (xlf 8 (.inl (xs_ia Ls xs 9)))) (xbt 12 (xlf 9 (.inl (xs_goto 13))) (xbt 13 (xlf 12 (.inl (xs_c (0) 13))) (xlf 13 (.inr (.inr 1))))))
theorem ok_1 (Ls : Nat) (xs : Nat → Int32) : ∀ pc it, K_1 Ls xs pc = some it → xPI Ls xs md_1 pc it := by
  unfold K_1
  exact xbt_ok (xbt_ok (xbt_ok (xlf_ok (it_1_0 Ls xs)) (xlf_ok (it_1_1 Ls xs))) (xbt_ok (xlf_ok (it_1_2 Ls xs)) (xbt_ok (xlf_ok (it_1_3 Ls xs)) (xlf_ok (it_1_6 Ls xs))))) (xbt_ok (xbt_ok (xlf_ok (it_1_7 Ls xs)) (xlf_ok (it_1_8 Ls xs))) (xbt_ok (xlf_ok (it_1_9 Ls xs)) (xbt_ok (xlf_ok (it_1_12 Ls xs)) (xlf_ok (it_1_13 Ls xs)))))
theorem d_2_0 : decode method_3_code 0 = .ok (.aload_n 2, 1) := by decide +kernel
theorem d_2_1 : decode method_3_code 1 = .ok (.iconst (0), 1) := by decide +kernel
theorem d_2_2 : decode method_3_code 2 = .ok (.aload_n 0, 1) := by decide +kernel
theorem d_2_3 : decode method_3_code 3 = .ok (.iload_n 1, 1) := by decide +kernel
theorem d_2_4 : decode method_3_code 4 = .ok (.invokevirtual 7, 3) := by decide +kernel
theorem d_2_7 : decode method_3_code 7 = .ok (.i2l, 1) := by decide +kernel
theorem d_2_8 : decode method_3_code 8 = .ok (.lastore, 1) := by decide +kernel
theorem d_2_9 : decode method_3_code 9 = .ok (.goto (9), 3) := by decide +kernel
theorem d_2_12 : decode method_3_code 12 = .ok (.astore_n 3, 1) := by decide +kernel
theorem d_2_13 : decode method_3_code 13 = .ok (.iconst (1), 1) := by decide +kernel
theorem d_2_14 : decode method_3_code 14 = .ok (.ireturn, 1) := by decide +kernel
theorem d_2_15 : decode method_3_code 15 = .ok (.astore_n 3, 1) := by decide +kernel
theorem d_2_16 : decode method_3_code 16 = .ok (.iconst (2), 1) := by decide +kernel
theorem d_2_17 : decode method_3_code 17 = .ok (.ireturn, 1) := by decide +kernel
theorem d_2_18 : decode method_3_code 18 = .ok (.iconst (0), 1) := by decide +kernel
theorem d_2_19 : decode method_3_code 19 = .ok (.ireturn, 1) := by decide +kernel
theorem it_2_0 (Ls : Nat) (xs : Nat → Int32) : xPI Ls xs md_2 0 (.inl (xs_al 2 1)) := by
  exact xs_aload_n_ok d_2_0 rfl
theorem it_2_1 (Ls : Nat) (xs : Nat → Int32) : xPI Ls xs md_2 1 (.inl (xs_c (0) 2)) := by
  exact xs_iconst_ok d_2_1 (by decide)
theorem it_2_2 (Ls : Nat) (xs : Nat → Int32) : xPI Ls xs md_2 2 (.inl (xs_al 0 3)) := by
  exact xs_aload_n_ok d_2_2 rfl
theorem it_2_3 (Ls : Nat) (xs : Nat → Int32) : xPI Ls xs md_2 3 (.inl (xs_il 1 4)) := by
  exact xs_iload_n_ok d_2_3 rfl
theorem it_2_4 (Ls : Nat) (xs : Nat → Int32) : xPI Ls xs md_2 4 (.inr (.inl (16, 2, 2, [(0, 12), (1, 15)]))) := by
  exact ⟨md_16, rfl, tw_1, by decide, ⟨by decide, by decide⟩, Or.inr (Or.inr ⟨0, R_0, T_0, N_0, 7, 1, rfl, rfl, rfl, rfl, d_2_4, tw_265, tw_266, tw_267, by decide +kernel, (fun x q h => by
    have h := xlu h
    simp only [List.mem_cons, Prod.mk.injEq, List.not_mem_nil, or_false] at h
    rcases h with ⟨rfl, rfl⟩ | ⟨rfl, rfl⟩
    · exact ⟨[], _, _, rfl, rfl, by decide, rfl, tw_263, by decide +kernel, (by intro y hy; cases hy)⟩
    · exact ⟨[_], _, _, rfl, rfl, by decide, rfl, tw_264, by decide +kernel, (by intro y hy; rcases List.mem_singleton.mp hy with rfl; exact ⟨by decide, "java/lang/IllegalArgumentException", tw_263, by decide +kernel⟩)⟩)⟩)⟩
theorem it_2_7 (Ls : Nat) (xs : Nat → Int32) : xPI Ls xs md_2 7 (.inl (xs_i2l 8)) := by
  exact xs_i2l_ok d_2_7
theorem it_2_8 (Ls : Nat) (xs : Nat → Int32) : xPI Ls xs md_2 8 (.inl (xs_las 9)) := by
  exact xs_las_ok d_2_8
theorem it_2_9 (Ls : Nat) (xs : Nat → Int32) : xPI Ls xs md_2 9 (.inl (xs_goto 18)) := by
  exact xs_goto_ok d_2_9 (by decide)
theorem it_2_12 (Ls : Nat) (xs : Nat → Int32) : xPI Ls xs md_2 12 (.inl (xs_as 4 3 13)) := by
  exact xs_astore_n_ok d_2_12 rfl
theorem it_2_13 (Ls : Nat) (xs : Nat → Int32) : xPI Ls xs md_2 13 (.inl (xs_c (1) 14)) := by
  exact xs_iconst_ok d_2_13 (by decide)
theorem it_2_14 (Ls : Nat) (xs : Nat → Int32) : xPI Ls xs md_2 14 (.inr (.inr 1)) := by
  exact ⟨rfl, d_2_14⟩
theorem it_2_15 (Ls : Nat) (xs : Nat → Int32) : xPI Ls xs md_2 15 (.inl (xs_as 4 3 16)) := by
  exact xs_astore_n_ok d_2_15 rfl
theorem it_2_16 (Ls : Nat) (xs : Nat → Int32) : xPI Ls xs md_2 16 (.inl (xs_c (2) 17)) := by
  exact xs_iconst_ok d_2_16 (by decide)
theorem it_2_17 (Ls : Nat) (xs : Nat → Int32) : xPI Ls xs md_2 17 (.inr (.inr 1)) := by
  exact ⟨rfl, d_2_17⟩
theorem it_2_18 (Ls : Nat) (xs : Nat → Int32) : xPI Ls xs md_2 18 (.inl (xs_c (0) 19)) := by
  exact xs_iconst_ok d_2_18 (by decide)
theorem it_2_19 (Ls : Nat) (xs : Nat → Int32) : xPI Ls xs md_2 19 (.inr (.inr 1)) := by
  exact ⟨rfl, d_2_19⟩
def K_2 (Ls : Nat) (xs : Nat → Int32) : Nat → Option xK := xbt 12 (xbt 4 (xbt 2 (xbt 1 (xlf 0 (.inl (xs_al 2 1))) (xlf 1 (.inl (xs_c (0) 2)))) (xbt 3 (xlf 2 (.inl (xs_al 0 3))) (xlf 3 (.inl (xs_il 1 4))))) (xbt 8 (xbt 7 (xlf 4 (.inr (.inl (16, 2, 2, [(0, 12), (1, 15)])))) (xlf 7 (.inl (xs_i2l 8)))) (xbt 9 (xlf 8 (.inl (xs_las 9))) (xlf 9 (.inl (xs_goto 18)))))) (xbt 16 (xbt 14 (xbt 13 (xlf 12 (.inl (xs_as 4 3 13))) (xlf 13 (.inl (xs_c (1) 14)))) (xbt 15 (xlf 14 (.inr (.inr 1))) (xlf 15 (.inl (xs_as 4 3 16))))) (xbt 18 (xbt 17 (xlf 16 (.inl (xs_c (2) 17))) (xlf 17 (.inr (.inr 1)))) (xbt 19 (xlf 18 (.inl (xs_c (0) 19))) (xlf 19 (.inr (.inr 1))))))
theorem ok_2 (Ls : Nat) (xs : Nat → Int32) : ∀ pc it, K_2 Ls xs pc = some it → xPI Ls xs md_2 pc it := by
  unfold K_2
  exact xbt_ok (xbt_ok (xbt_ok (xbt_ok (xlf_ok (it_2_0 Ls xs)) (xlf_ok (it_2_1 Ls xs))) (xbt_ok (xlf_ok (it_2_2 Ls xs)) (xlf_ok (it_2_3 Ls xs)))) (xbt_ok (xbt_ok (xlf_ok (it_2_4 Ls xs)) (xlf_ok (it_2_7 Ls xs))) (xbt_ok (xlf_ok (it_2_8 Ls xs)) (xlf_ok (it_2_9 Ls xs))))) (xbt_ok (xbt_ok (xbt_ok (xlf_ok (it_2_12 Ls xs)) (xlf_ok (it_2_13 Ls xs))) (xbt_ok (xlf_ok (it_2_14 Ls xs)) (xlf_ok (it_2_15 Ls xs)))) (xbt_ok (xbt_ok (xlf_ok (it_2_16 Ls xs)) (xlf_ok (it_2_17 Ls xs))) (xbt_ok (xlf_ok (it_2_18 Ls xs)) (xlf_ok (it_2_19 Ls xs)))))
theorem d_3_0 : decode method_4_code 0 = .ok (.aload_n 0, 1) := by decide +kernel
theorem d_3_1 : decode method_4_code 1 = .ok (.iload_n 1, 1) := by decide +kernel
theorem d_3_2 : decode method_4_code 2 = .ok (.invokevirtual 17, 3) := by decide +kernel
theorem d_3_5 : decode method_4_code 5 = .ok (.goto (9), 3) := by decide +kernel
theorem d_3_8 : decode method_4_code 8 = .ok (.astore_n 2, 1) := by decide +kernel
theorem d_3_9 : decode method_4_code 9 = .ok (.iconst (1), 1) := by decide +kernel
theorem d_3_10 : decode method_4_code 10 = .ok (.ireturn, 1) := by decide +kernel
theorem d_3_11 : decode method_4_code 11 = .ok (.astore_n 2, 1) := by decide +kernel
theorem d_3_12 : decode method_4_code 12 = .ok (.iconst (2), 1) := by decide +kernel
theorem d_3_13 : decode method_4_code 13 = .ok (.ireturn, 1) := by decide +kernel
theorem d_3_14 : decode method_4_code 14 = .ok (.iconst (0), 1) := by decide +kernel
theorem d_3_15 : decode method_4_code 15 = .ok (.ireturn, 1) := by decide +kernel
theorem it_3_0 (Ls : Nat) (xs : Nat → Int32) : xPI Ls xs md_3 0 (.inl (xs_al 0 1)) := by
  exact xs_aload_n_ok d_3_0 rfl
theorem it_3_1 (Ls : Nat) (xs : Nat → Int32) : xPI Ls xs md_3 1 (.inl (xs_il 1 2)) := by
  exact xs_iload_n_ok d_3_1 rfl
theorem it_3_2 (Ls : Nat) (xs : Nat → Int32) : xPI Ls xs md_3 2 (.inr (.inl (17, 2, 2, [(0, 8), (1, 11)]))) := by
  exact ⟨md_17, rfl, tw_1, by decide, ⟨by decide, by decide⟩, Or.inr (Or.inr ⟨0, R_0, T_0, N_0, 17, 1, rfl, rfl, rfl, rfl, d_3_2, tw_370, tw_371, tw_372, by decide +kernel, (fun x q h => by
    have h := xlu h
    simp only [List.mem_cons, Prod.mk.injEq, List.not_mem_nil, or_false] at h
    rcases h with ⟨rfl, rfl⟩ | ⟨rfl, rfl⟩
    · exact ⟨[], _, _, rfl, rfl, by decide, rfl, tw_263, by decide +kernel, (by intro y hy; cases hy)⟩
    · exact ⟨[_], _, _, rfl, rfl, by decide, rfl, tw_264, by decide +kernel, (by intro y hy; rcases List.mem_singleton.mp hy with rfl; exact ⟨by decide, "java/lang/IllegalArgumentException", tw_263, by decide +kernel⟩)⟩)⟩)⟩
theorem it_3_5 (Ls : Nat) (xs : Nat → Int32) : xPI Ls xs md_3 5 (.inl (xs_goto 14)) := by
  exact xs_goto_ok d_3_5 (by decide)
theorem it_3_8 (Ls : Nat) (xs : Nat → Int32) : xPI Ls xs md_3 8 (.inl (xs_as 3 2 9)) := by
  exact xs_astore_n_ok d_3_8 rfl
theorem it_3_9 (Ls : Nat) (xs : Nat → Int32) : xPI Ls xs md_3 9 (.inl (xs_c (1) 10)) := by
  exact xs_iconst_ok d_3_9 (by decide)
theorem it_3_10 (Ls : Nat) (xs : Nat → Int32) : xPI Ls xs md_3 10 (.inr (.inr 1)) := by
  exact ⟨rfl, d_3_10⟩
theorem it_3_11 (Ls : Nat) (xs : Nat → Int32) : xPI Ls xs md_3 11 (.inl (xs_as 3 2 12)) := by
  exact xs_astore_n_ok d_3_11 rfl
theorem it_3_12 (Ls : Nat) (xs : Nat → Int32) : xPI Ls xs md_3 12 (.inl (xs_c (2) 13)) := by
  exact xs_iconst_ok d_3_12 (by decide)
theorem it_3_13 (Ls : Nat) (xs : Nat → Int32) : xPI Ls xs md_3 13 (.inr (.inr 1)) := by
  exact ⟨rfl, d_3_13⟩
theorem it_3_14 (Ls : Nat) (xs : Nat → Int32) : xPI Ls xs md_3 14 (.inl (xs_c (0) 15)) := by
  exact xs_iconst_ok d_3_14 (by decide)
theorem it_3_15 (Ls : Nat) (xs : Nat → Int32) : xPI Ls xs md_3 15 (.inr (.inr 1)) := by
  exact ⟨rfl, d_3_15⟩
def K_3 (Ls : Nat) (xs : Nat → Int32) : Nat → Option xK := xbt 10 (xbt 5 (xbt 1 (xlf 0 (.inl (xs_al 0 1))) (xbt 2 (xlf 1 (.inl (xs_il 1 2))) (xlf 2 (.inr (.inl (17, 2, 2, [(0, 8), (1, 11)])))))) (xbt 8 (xlf 5 (.inl (xs_goto 14))) (xbt 9 (xlf 8 (.inl (xs_as 3 2 9))) (xlf 9 (.inl (xs_c (1) 10)))))) (xbt 13 (xbt 11 (xlf 10 (.inr (.inr 1))) (xbt 12 (xlf 11 (.inl (xs_as 3 2 12))) (xlf 12 (.inl (xs_c (2) 13))))) (xbt 14 (xlf 13 (.inr (.inr 1))) (xbt 15 (xlf 14 (.inl (xs_c (0) 15))) (xlf 15 (.inr (.inr 1))))))
theorem ok_3 (Ls : Nat) (xs : Nat → Int32) : ∀ pc it, K_3 Ls xs pc = some it → xPI Ls xs md_3 pc it := by
  unfold K_3
  exact xbt_ok (xbt_ok (xbt_ok (xlf_ok (it_3_0 Ls xs)) (xbt_ok (xlf_ok (it_3_1 Ls xs)) (xlf_ok (it_3_2 Ls xs)))) (xbt_ok (xlf_ok (it_3_5 Ls xs)) (xbt_ok (xlf_ok (it_3_8 Ls xs)) (xlf_ok (it_3_9 Ls xs))))) (xbt_ok (xbt_ok (xlf_ok (it_3_10 Ls xs)) (xbt_ok (xlf_ok (it_3_11 Ls xs)) (xlf_ok (it_3_12 Ls xs)))) (xbt_ok (xlf_ok (it_3_13 Ls xs)) (xbt_ok (xlf_ok (it_3_14 Ls xs)) (xlf_ok (it_3_15 Ls xs)))))
theorem d_4_0 : decode method_5_code 0 = .ok (.aload_n 1, 1) := by decide +kernel
theorem d_4_1 : decode method_5_code 1 = .ok (.iconst (0), 1) := by decide +kernel
theorem d_4_2 : decode method_5_code 2 = .ok (.aload_n 0, 1) := by decide +kernel
theorem d_4_3 : decode method_5_code 3 = .ok (.invokevirtual 21, 3) := by decide +kernel
theorem d_4_6 : decode method_5_code 6 = .ok (.i2l, 1) := by decide +kernel
theorem d_4_7 : decode method_5_code 7 = .ok (.lastore, 1) := by decide +kernel
theorem d_4_8 : decode method_5_code 8 = .ok (.goto (12), 3) := by decide +kernel
theorem d_4_11 : decode method_5_code 11 = .ok (.astore_n 2, 1) := by decide +kernel
theorem d_4_12 : decode method_5_code 12 = .ok (.iconst (1), 1) := by decide +kernel
theorem d_4_13 : decode method_5_code 13 = .ok (.ireturn, 1) := by decide +kernel
theorem d_4_14 : decode method_5_code 14 = .ok (.astore_n 2, 1) := by decide +kernel
theorem d_4_15 : decode method_5_code 15 = .ok (.iconst (2), 1) := by decide +kernel
theorem d_4_16 : decode method_5_code 16 = .ok (.ireturn, 1) := by decide +kernel
theorem d_4_17 : decode method_5_code 17 = .ok (.astore_n 2, 1) := by decide +kernel
theorem d_4_18 : decode method_5_code 18 = .ok (.iconst (3), 1) := by decide +kernel
theorem d_4_19 : decode method_5_code 19 = .ok (.ireturn, 1) := by decide +kernel
theorem d_4_20 : decode method_5_code 20 = .ok (.iconst (0), 1) := by decide +kernel
theorem d_4_21 : decode method_5_code 21 = .ok (.ireturn, 1) := by decide +kernel
theorem it_4_0 (Ls : Nat) (xs : Nat → Int32) : xPI Ls xs md_4 0 (.inl (xs_al 1 1)) := by
  exact xs_aload_n_ok d_4_0 rfl
theorem it_4_1 (Ls : Nat) (xs : Nat → Int32) : xPI Ls xs md_4 1 (.inl (xs_c (0) 2)) := by
  exact xs_iconst_ok d_4_1 (by decide)
theorem it_4_2 (Ls : Nat) (xs : Nat → Int32) : xPI Ls xs md_4 2 (.inl (xs_al 0 3)) := by
  exact xs_aload_n_ok d_4_2 rfl
theorem it_4_3 (Ls : Nat) (xs : Nat → Int32) : xPI Ls xs md_4 3 (.inr (.inl (20, 1, 2, [(1, 11)]))) := by
  exact ⟨md_20, rfl, tw_1, by decide, ⟨by decide, by decide⟩, Or.inr (Or.inr ⟨0, R_0, T_0, N_0, 21, 0, rfl, rfl, rfl, rfl, d_4_3, tw_393, tw_394, tw_395, by decide +kernel, (fun x q h => by
    have h := xlu h
    simp only [List.mem_cons, Prod.mk.injEq, List.not_mem_nil, or_false] at h
    rcases h with ⟨rfl, rfl⟩
    · exact ⟨[], _, _, rfl, rfl, by decide, rfl, tw_264, by decide +kernel, (by intro y hy; cases hy)⟩)⟩)⟩
theorem it_4_6 (Ls : Nat) (xs : Nat → Int32) : xPI Ls xs md_4 6 (.inl (xs_i2l 7)) := by
  exact xs_i2l_ok d_4_6
theorem it_4_7 (Ls : Nat) (xs : Nat → Int32) : xPI Ls xs md_4 7 (.inl (xs_las 8)) := by
  exact xs_las_ok d_4_7
theorem it_4_8 (Ls : Nat) (xs : Nat → Int32) : xPI Ls xs md_4 8 (.inl (xs_goto 20)) := by
  exact xs_goto_ok d_4_8 (by decide)
theorem it_4_11 (Ls : Nat) (xs : Nat → Int32) : xPI Ls xs md_4 11 (.inl (xs_as 3 2 12)) := by
  exact xs_astore_n_ok d_4_11 rfl
theorem it_4_12 (Ls : Nat) (xs : Nat → Int32) : xPI Ls xs md_4 12 (.inl (xs_c (1) 13)) := by
  exact xs_iconst_ok d_4_12 (by decide)
theorem it_4_13 (Ls : Nat) (xs : Nat → Int32) : xPI Ls xs md_4 13 (.inr (.inr 1)) := by
  exact ⟨rfl, d_4_13⟩
theorem it_4_14 (Ls : Nat) (xs : Nat → Int32) : xPI Ls xs md_4 14 (.inl (xs_as 3 2 15)) := by
  exact xs_astore_n_ok d_4_14 rfl
theorem it_4_15 (Ls : Nat) (xs : Nat → Int32) : xPI Ls xs md_4 15 (.inl (xs_c (2) 16)) := by
  exact xs_iconst_ok d_4_15 (by decide)
theorem it_4_16 (Ls : Nat) (xs : Nat → Int32) : xPI Ls xs md_4 16 (.inr (.inr 1)) := by
  exact ⟨rfl, d_4_16⟩
theorem it_4_17 (Ls : Nat) (xs : Nat → Int32) : xPI Ls xs md_4 17 (.inl (xs_as 3 2 18)) := by
  exact xs_astore_n_ok d_4_17 rfl
theorem it_4_18 (Ls : Nat) (xs : Nat → Int32) : xPI Ls xs md_4 18 (.inl (xs_c (3) 19)) := by
  exact xs_iconst_ok d_4_18 (by decide)
theorem it_4_19 (Ls : Nat) (xs : Nat → Int32) : xPI Ls xs md_4 19 (.inr (.inr 1)) := by
  exact ⟨rfl, d_4_19⟩
theorem it_4_20 (Ls : Nat) (xs : Nat → Int32) : xPI Ls xs md_4 20 (.inl (xs_c (0) 21)) := by
  exact xs_iconst_ok d_4_20 (by decide)
theorem it_4_21 (Ls : Nat) (xs : Nat → Int32) : xPI Ls xs md_4 21 (.inr (.inr 1)) := by
  exact ⟨rfl, d_4_21⟩
def K_4 (Ls : Nat) (xs : Nat → Int32) : Nat → Option xK := xbt 13 (xbt 6 (xbt 2 (xbt 1 (xlf 0 (.inl (xs_al 1 1))) (xlf 1 (.inl (xs_c (0) 2)))) (xbt 3 (xlf 2 (.inl (xs_al 0 3))) (xlf 3 (.inr (.inl (20, 1, 2, [(1, 11)])))))) (xbt 8 (xbt 7 (xlf 6 (.inl (xs_i2l 7))) (xlf 7 (.inl (xs_las 8)))) (xbt 11 (xlf 8 (.inl (xs_goto 20))) (xbt 12 (xlf 11 (.inl (xs_as 3 2 12))) (xlf 12 (.inl (xs_c (1) 13))))))) (xbt 17 (xbt 15 (xbt 14 (xlf 13 (.inr (.inr 1))) (xlf 14 (.inl (xs_as 3 2 15)))) (xbt 16 (xlf 15 (.inl (xs_c (2) 16))) (xlf 16 (.inr (.inr 1))))) (xbt 19 (xbt 18 (xlf 17 (.inl (xs_as 3 2 18))) (xlf 18 (.inl (xs_c (3) 19)))) (xbt 20 (xlf 19 (.inr (.inr 1))) (xbt 21 (xlf 20 (.inl (xs_c (0) 21))) (xlf 21 (.inr (.inr 1)))))))
theorem ok_4 (Ls : Nat) (xs : Nat → Int32) : ∀ pc it, K_4 Ls xs pc = some it → xPI Ls xs md_4 pc it := by
  unfold K_4
  exact xbt_ok (xbt_ok (xbt_ok (xbt_ok (xlf_ok (it_4_0 Ls xs)) (xlf_ok (it_4_1 Ls xs))) (xbt_ok (xlf_ok (it_4_2 Ls xs)) (xlf_ok (it_4_3 Ls xs)))) (xbt_ok (xbt_ok (xlf_ok (it_4_6 Ls xs)) (xlf_ok (it_4_7 Ls xs))) (xbt_ok (xlf_ok (it_4_8 Ls xs)) (xbt_ok (xlf_ok (it_4_11 Ls xs)) (xlf_ok (it_4_12 Ls xs)))))) (xbt_ok (xbt_ok (xbt_ok (xlf_ok (it_4_13 Ls xs)) (xlf_ok (it_4_14 Ls xs))) (xbt_ok (xlf_ok (it_4_15 Ls xs)) (xlf_ok (it_4_16 Ls xs)))) (xbt_ok (xbt_ok (xlf_ok (it_4_17 Ls xs)) (xlf_ok (it_4_18 Ls xs))) (xbt_ok (xlf_ok (it_4_19 Ls xs)) (xbt_ok (xlf_ok (it_4_20 Ls xs)) (xlf_ok (it_4_21 Ls xs))))))
theorem d_5_0 : decode method_6_code 0 = .ok (.aload_n 2, 1) := by decide +kernel
theorem d_5_1 : decode method_6_code 1 = .ok (.iconst (0), 1) := by decide +kernel
theorem d_5_2 : decode method_6_code 2 = .ok (.aload_n 0, 1) := by decide +kernel
theorem d_5_3 : decode method_6_code 3 = .ok (.iload_n 1, 1) := by decide +kernel
theorem d_5_4 : decode method_6_code 4 = .ok (.invokevirtual 29, 3) := by decide +kernel
theorem d_5_7 : decode method_6_code 7 = .ok (.i2l, 1) := by decide +kernel
theorem d_5_8 : decode method_6_code 8 = .ok (.lastore, 1) := by decide +kernel
theorem d_5_9 : decode method_6_code 9 = .ok (.goto (6), 3) := by decide +kernel
theorem d_5_12 : decode method_6_code 12 = .ok (.astore_n 3, 1) := by decide +kernel
theorem d_5_13 : decode method_6_code 13 = .ok (.iconst (1), 1) := by decide +kernel
theorem d_5_14 : decode method_6_code 14 = .ok (.ireturn, 1) := by decide +kernel
theorem d_5_15 : decode method_6_code 15 = .ok (.iconst (0), 1) := by decide +kernel
theorem d_5_16 : decode method_6_code 16 = .ok (.ireturn, 1) := by decide +kernel
theorem it_5_0 (Ls : Nat) (xs : Nat → Int32) : xPI Ls xs md_5 0 (.inl (xs_al 2 1)) := by
  exact xs_aload_n_ok d_5_0 rfl
theorem it_5_1 (Ls : Nat) (xs : Nat → Int32) : xPI Ls xs md_5 1 (.inl (xs_c (0) 2)) := by
  exact xs_iconst_ok d_5_1 (by decide)
theorem it_5_2 (Ls : Nat) (xs : Nat → Int32) : xPI Ls xs md_5 2 (.inl (xs_al 0 3)) := by
  exact xs_aload_n_ok d_5_2 rfl
theorem it_5_3 (Ls : Nat) (xs : Nat → Int32) : xPI Ls xs md_5 3 (.inl (xs_il 1 4)) := by
  exact xs_iload_n_ok d_5_3 rfl
theorem it_5_4 (Ls : Nat) (xs : Nat → Int32) : xPI Ls xs md_5 4 (.inr (.inl (23, 2, 2, [(2, 12)]))) := by
  exact ⟨md_23, rfl, tw_1, by decide, ⟨by decide, by decide⟩, Or.inr (Or.inr ⟨0, R_0, T_0, N_0, 29, 1, rfl, rfl, rfl, rfl, d_5_4, tw_596, tw_597, tw_598, by decide +kernel, (fun x q h => by
    have h := xlu h
    simp only [List.mem_cons, Prod.mk.injEq, List.not_mem_nil, or_false] at h
    rcases h with ⟨rfl, rfl⟩
    · exact ⟨[], _, _, rfl, rfl, by decide, rfl, tw_595, by decide +kernel, (by intro y hy; cases hy)⟩)⟩)⟩
theorem it_5_7 (Ls : Nat) (xs : Nat → Int32) : xPI Ls xs md_5 7 (.inl (xs_i2l 8)) := by
  exact xs_i2l_ok d_5_7
theorem it_5_8 (Ls : Nat) (xs : Nat → Int32) : xPI Ls xs md_5 8 (.inl (xs_las 9)) := by
  exact xs_las_ok d_5_8
theorem it_5_9 (Ls : Nat) (xs : Nat → Int32) : xPI Ls xs md_5 9 (.inl (xs_goto 15)) := by
  exact xs_goto_ok d_5_9 (by decide)
theorem it_5_12 (Ls : Nat) (xs : Nat → Int32) : xPI Ls xs md_5 12 (.inl (xs_as 4 3 13)) := by
  exact xs_astore_n_ok d_5_12 rfl
theorem it_5_13 (Ls : Nat) (xs : Nat → Int32) : xPI Ls xs md_5 13 (.inl (xs_c (1) 14)) := by
  exact xs_iconst_ok d_5_13 (by decide)
theorem it_5_14 (Ls : Nat) (xs : Nat → Int32) : xPI Ls xs md_5 14 (.inr (.inr 1)) := by
  exact ⟨rfl, d_5_14⟩
theorem it_5_15 (Ls : Nat) (xs : Nat → Int32) : xPI Ls xs md_5 15 (.inl (xs_c (0) 16)) := by
  exact xs_iconst_ok d_5_15 (by decide)
theorem it_5_16 (Ls : Nat) (xs : Nat → Int32) : xPI Ls xs md_5 16 (.inr (.inr 1)) := by
  exact ⟨rfl, d_5_16⟩
def K_5 (Ls : Nat) (xs : Nat → Int32) : Nat → Option xK := xbt 8 (xbt 3 (xbt 1 (xlf 0 (.inl (xs_al 2 1))) (xbt 2 (xlf 1 (.inl (xs_c (0) 2))) (xlf 2 (.inl (xs_al 0 3))))) (xbt 4 (xlf 3 (.inl (xs_il 1 4))) (xbt 7 (xlf 4 (.inr (.inl (23, 2, 2, [(2, 12)])))) (xlf 7 (.inl (xs_i2l 8)))))) (xbt 13 (xbt 9 (xlf 8 (.inl (xs_las 9))) (xbt 12 (xlf 9 (.inl (xs_goto 15))) (xlf 12 (.inl (xs_as 4 3 13))))) (xbt 15 (xbt 14 (xlf 13 (.inl (xs_c (1) 14))) (xlf 14 (.inr (.inr 1)))) (xbt 16 (xlf 15 (.inl (xs_c (0) 16))) (xlf 16 (.inr (.inr 1))))))
theorem ok_5 (Ls : Nat) (xs : Nat → Int32) : ∀ pc it, K_5 Ls xs pc = some it → xPI Ls xs md_5 pc it := by
  unfold K_5
  exact xbt_ok (xbt_ok (xbt_ok (xlf_ok (it_5_0 Ls xs)) (xbt_ok (xlf_ok (it_5_1 Ls xs)) (xlf_ok (it_5_2 Ls xs)))) (xbt_ok (xlf_ok (it_5_3 Ls xs)) (xbt_ok (xlf_ok (it_5_4 Ls xs)) (xlf_ok (it_5_7 Ls xs))))) (xbt_ok (xbt_ok (xlf_ok (it_5_8 Ls xs)) (xbt_ok (xlf_ok (it_5_9 Ls xs)) (xlf_ok (it_5_12 Ls xs)))) (xbt_ok (xbt_ok (xlf_ok (it_5_13 Ls xs)) (xlf_ok (it_5_14 Ls xs))) (xbt_ok (xlf_ok (it_5_15 Ls xs)) (xlf_ok (it_5_16 Ls xs)))))
theorem d_6_0 : decode method_7_code 0 = .ok (.aload 4, 2) := by decide +kernel
theorem d_6_2 : decode method_7_code 2 = .ok (.iconst (0), 1) := by decide +kernel
theorem d_6_3 : decode method_7_code 3 = .ok (.aload_n 0, 1) := by decide +kernel
theorem d_6_4 : decode method_7_code 4 = .ok (.iload_n 1, 1) := by decide +kernel
theorem d_6_5 : decode method_7_code 5 = .ok (.iload_n 2, 1) := by decide +kernel
theorem d_6_6 : decode method_7_code 6 = .ok (.iload_n 3, 1) := by decide +kernel
theorem d_6_7 : decode method_7_code 7 = .ok (.invokevirtual 34, 3) := by decide +kernel
theorem d_6_10 : decode method_7_code 10 = .ok (.i2l, 1) := by decide +kernel
theorem d_6_11 : decode method_7_code 11 = .ok (.lastore, 1) := by decide +kernel
theorem d_6_12 : decode method_7_code 12 = .ok (.goto (7), 3) := by decide +kernel
theorem d_6_15 : decode method_7_code 15 = .ok (.astore 5, 2) := by decide +kernel
theorem d_6_17 : decode method_7_code 17 = .ok (.iconst (1), 1) := by decide +kernel
theorem d_6_18 : decode method_7_code 18 = .ok (.ireturn, 1) := by decide +kernel
theorem d_6_19 : decode method_7_code 19 = .ok (.iconst (0), 1) := by decide +kernel
theorem d_6_20 : decode method_7_code 20 = .ok (.ireturn, 1) := by decide +kernel
theorem it_6_0 (Ls : Nat) (xs : Nat → Int32) : xPI Ls xs md_6 0 (.inl (xs_al 4 2)) := by
  exact xs_aload_ok d_6_0
theorem it_6_2 (Ls : Nat) (xs : Nat → Int32) : xPI Ls xs md_6 2 (.inl (xs_c (0) 3)) := by
  exact xs_iconst_ok d_6_2 (by decide)
theorem it_6_3 (Ls : Nat) (xs : Nat → Int32) : xPI Ls xs md_6 3 (.inl (xs_al 0 4)) := by
  exact xs_aload_n_ok d_6_3 rfl
theorem it_6_4 (Ls : Nat) (xs : Nat → Int32) : xPI Ls xs md_6 4 (.inl (xs_il 1 5)) := by
  exact xs_iload_n_ok d_6_4 rfl
theorem it_6_5 (Ls : Nat) (xs : Nat → Int32) : xPI Ls xs md_6 5 (.inl (xs_il 2 6)) := by
  exact xs_iload_n_ok d_6_5 rfl
theorem it_6_6 (Ls : Nat) (xs : Nat → Int32) : xPI Ls xs md_6 6 (.inl (xs_il 3 7)) := by
  exact xs_iload_n_ok d_6_6 rfl
theorem it_6_7 (Ls : Nat) (xs : Nat → Int32) : xPI Ls xs md_6 7 (.inr (.inl (24, 4, 2, [(2, 15)]))) := by
  exact ⟨md_24, rfl, tw_1, by decide, ⟨by decide, by decide⟩, Or.inr (Or.inr ⟨0, R_0, T_0, N_0, 34, 3, rfl, rfl, rfl, rfl, d_6_7, tw_633, tw_634, tw_635, by decide +kernel, (fun x q h => by
    have h := xlu h
    simp only [List.mem_cons, Prod.mk.injEq, List.not_mem_nil, or_false] at h
    rcases h with ⟨rfl, rfl⟩
    · exact ⟨[], _, _, rfl, rfl, by decide, rfl, tw_595, by decide +kernel, (by intro y hy; cases hy)⟩)⟩)⟩
theorem it_6_10 (Ls : Nat) (xs : Nat → Int32) : xPI Ls xs md_6 10 (.inl (xs_i2l 11)) := by
  exact xs_i2l_ok d_6_10
theorem it_6_11 (Ls : Nat) (xs : Nat → Int32) : xPI Ls xs md_6 11 (.inl (xs_las 12)) := by
  exact xs_las_ok d_6_11
theorem it_6_12 (Ls : Nat) (xs : Nat → Int32) : xPI Ls xs md_6 12 (.inl (xs_goto 19)) := by
  exact xs_goto_ok d_6_12 (by decide)
theorem it_6_15 (Ls : Nat) (xs : Nat → Int32) : xPI Ls xs md_6 15 (.inl (xs_as 6 5 17)) := by
  exact xs_astore_ok d_6_15
theorem it_6_17 (Ls : Nat) (xs : Nat → Int32) : xPI Ls xs md_6 17 (.inl (xs_c (1) 18)) := by
  exact xs_iconst_ok d_6_17 (by decide)
theorem it_6_18 (Ls : Nat) (xs : Nat → Int32) : xPI Ls xs md_6 18 (.inr (.inr 1)) := by
  exact ⟨rfl, d_6_18⟩
theorem it_6_19 (Ls : Nat) (xs : Nat → Int32) : xPI Ls xs md_6 19 (.inl (xs_c (0) 20)) := by
  exact xs_iconst_ok d_6_19 (by decide)
theorem it_6_20 (Ls : Nat) (xs : Nat → Int32) : xPI Ls xs md_6 20 (.inr (.inr 1)) := by
  exact ⟨rfl, d_6_20⟩
def K_6 (Ls : Nat) (xs : Nat → Int32) : Nat → Option xK := xbt 10 (xbt 4 (xbt 2 (xlf 0 (.inl (xs_al 4 2))) (xbt 3 (xlf 2 (.inl (xs_c (0) 3))) (xlf 3 (.inl (xs_al 0 4))))) (xbt 6 (xbt 5 (xlf 4 (.inl (xs_il 1 5))) (xlf 5 (.inl (xs_il 2 6)))) (xbt 7 (xlf 6 (.inl (xs_il 3 7))) (xlf 7 (.inr (.inl (24, 4, 2, [(2, 15)]))))))) (xbt 17 (xbt 12 (xbt 11 (xlf 10 (.inl (xs_i2l 11))) (xlf 11 (.inl (xs_las 12)))) (xbt 15 (xlf 12 (.inl (xs_goto 19))) (xlf 15 (.inl (xs_as 6 5 17))))) (xbt 19 (xbt 18 (xlf 17 (.inl (xs_c (1) 18))) (xlf 18 (.inr (.inr 1)))) (xbt 20 (xlf 19 (.inl (xs_c (0) 20))) (xlf 20 (.inr (.inr 1))))))
theorem ok_6 (Ls : Nat) (xs : Nat → Int32) : ∀ pc it, K_6 Ls xs pc = some it → xPI Ls xs md_6 pc it := by
  unfold K_6
  exact xbt_ok (xbt_ok (xbt_ok (xlf_ok (it_6_0 Ls xs)) (xbt_ok (xlf_ok (it_6_2 Ls xs)) (xlf_ok (it_6_3 Ls xs)))) (xbt_ok (xbt_ok (xlf_ok (it_6_4 Ls xs)) (xlf_ok (it_6_5 Ls xs))) (xbt_ok (xlf_ok (it_6_6 Ls xs)) (xlf_ok (it_6_7 Ls xs))))) (xbt_ok (xbt_ok (xbt_ok (xlf_ok (it_6_10 Ls xs)) (xlf_ok (it_6_11 Ls xs))) (xbt_ok (xlf_ok (it_6_12 Ls xs)) (xlf_ok (it_6_15 Ls xs)))) (xbt_ok (xbt_ok (xlf_ok (it_6_17 Ls xs)) (xlf_ok (it_6_18 Ls xs))) (xbt_ok (xlf_ok (it_6_19 Ls xs)) (xlf_ok (it_6_20 Ls xs)))))
theorem d_7_0 : decode method_8_code 0 = .ok (.aload_n 3, 1) := by decide +kernel
theorem d_7_1 : decode method_8_code 1 = .ok (.iconst (0), 1) := by decide +kernel
theorem d_7_2 : decode method_8_code 2 = .ok (.aload_n 0, 1) := by decide +kernel
theorem d_7_3 : decode method_8_code 3 = .ok (.iload_n 1, 1) := by decide +kernel
theorem d_7_4 : decode method_8_code 4 = .ok (.iload_n 2, 1) := by decide +kernel
theorem d_7_5 : decode method_8_code 5 = .ok (.invokevirtual 38, 3) := by decide +kernel
theorem d_7_8 : decode method_8_code 8 = .ok (.i2l, 1) := by decide +kernel
theorem d_7_9 : decode method_8_code 9 = .ok (.lastore, 1) := by decide +kernel
theorem d_7_10 : decode method_8_code 10 = .ok (.goto (7), 3) := by decide +kernel
theorem d_7_13 : decode method_8_code 13 = .ok (.astore 4, 2) := by decide +kernel
theorem d_7_15 : decode method_8_code 15 = .ok (.iconst (1), 1) := by decide +kernel
theorem d_7_16 : decode method_8_code 16 = .ok (.ireturn, 1) := by decide +kernel
theorem d_7_17 : decode method_8_code 17 = .ok (.iconst (0), 1) := by decide +kernel
theorem d_7_18 : decode method_8_code 18 = .ok (.ireturn, 1) := by decide +kernel
theorem it_7_0 (Ls : Nat) (xs : Nat → Int32) : xPI Ls xs md_7 0 (.inl (xs_al 3 1)) := by
  exact xs_aload_n_ok d_7_0 rfl
theorem it_7_1 (Ls : Nat) (xs : Nat → Int32) : xPI Ls xs md_7 1 (.inl (xs_c (0) 2)) := by
  exact xs_iconst_ok d_7_1 (by decide)
theorem it_7_2 (Ls : Nat) (xs : Nat → Int32) : xPI Ls xs md_7 2 (.inl (xs_al 0 3)) := by
  exact xs_aload_n_ok d_7_2 rfl
theorem it_7_3 (Ls : Nat) (xs : Nat → Int32) : xPI Ls xs md_7 3 (.inl (xs_il 1 4)) := by
  exact xs_iload_n_ok d_7_3 rfl
theorem it_7_4 (Ls : Nat) (xs : Nat → Int32) : xPI Ls xs md_7 4 (.inl (xs_il 2 5)) := by
  exact xs_iload_n_ok d_7_4 rfl
theorem it_7_5 (Ls : Nat) (xs : Nat → Int32) : xPI Ls xs md_7 5 (.inr (.inl (25, 3, 2, [(2, 13)]))) := by
  exact ⟨md_25, rfl, tw_1, by decide, ⟨by decide, by decide⟩, Or.inr (Or.inr ⟨0, R_0, T_0, N_0, 38, 2, rfl, rfl, rfl, rfl, d_7_5, tw_658, tw_659, tw_660, by decide +kernel, (fun x q h => by
    have h := xlu h
    simp only [List.mem_cons, Prod.mk.injEq, List.not_mem_nil, or_false] at h
    rcases h with ⟨rfl, rfl⟩
    · exact ⟨[], _, _, rfl, rfl, by decide, rfl, tw_595, by decide +kernel, (by intro y hy; cases hy)⟩)⟩)⟩
theorem it_7_8 (Ls : Nat) (xs : Nat → Int32) : xPI Ls xs md_7 8 (.inl (xs_i2l 9)) := by
  exact xs_i2l_ok d_7_8
theorem it_7_9 (Ls : Nat) (xs : Nat → Int32) : xPI Ls xs md_7 9 (.inl (xs_las 10)) := by
  exact xs_las_ok d_7_9
theorem it_7_10 (Ls : Nat) (xs : Nat → Int32) : xPI Ls xs md_7 10 (.inl (xs_goto 17)) := by
  exact xs_goto_ok d_7_10 (by decide)
theorem it_7_13 (Ls : Nat) (xs : Nat → Int32) : xPI Ls xs md_7 13 (.inl (xs_as 5 4 15)) := by
  exact xs_astore_ok d_7_13
theorem it_7_15 (Ls : Nat) (xs : Nat → Int32) : xPI Ls xs md_7 15 (.inl (xs_c (1) 16)) := by
  exact xs_iconst_ok d_7_15 (by decide)
theorem it_7_16 (Ls : Nat) (xs : Nat → Int32) : xPI Ls xs md_7 16 (.inr (.inr 1)) := by
  exact ⟨rfl, d_7_16⟩
theorem it_7_17 (Ls : Nat) (xs : Nat → Int32) : xPI Ls xs md_7 17 (.inl (xs_c (0) 18)) := by
  exact xs_iconst_ok d_7_17 (by decide)
theorem it_7_18 (Ls : Nat) (xs : Nat → Int32) : xPI Ls xs md_7 18 (.inr (.inr 1)) := by
  exact ⟨rfl, d_7_18⟩
def K_7 (Ls : Nat) (xs : Nat → Int32) : Nat → Option xK := xbt 9 (xbt 3 (xbt 1 (xlf 0 (.inl (xs_al 3 1))) (xbt 2 (xlf 1 (.inl (xs_c (0) 2))) (xlf 2 (.inl (xs_al 0 3))))) (xbt 5 (xbt 4 (xlf 3 (.inl (xs_il 1 4))) (xlf 4 (.inl (xs_il 2 5)))) (xbt 8 (xlf 5 (.inr (.inl (25, 3, 2, [(2, 13)])))) (xlf 8 (.inl (xs_i2l 9)))))) (xbt 15 (xbt 10 (xlf 9 (.inl (xs_las 10))) (xbt 13 (xlf 10 (.inl (xs_goto 17))) (xlf 13 (.inl (xs_as 5 4 15))))) (xbt 17 (xbt 16 (xlf 15 (.inl (xs_c (1) 16))) (xlf 16 (.inr (.inr 1)))) (xbt 18 (xlf 17 (.inl (xs_c (0) 18))) (xlf 18 (.inr (.inr 1))))))
theorem ok_7 (Ls : Nat) (xs : Nat → Int32) : ∀ pc it, K_7 Ls xs pc = some it → xPI Ls xs md_7 pc it := by
  unfold K_7
  exact xbt_ok (xbt_ok (xbt_ok (xlf_ok (it_7_0 Ls xs)) (xbt_ok (xlf_ok (it_7_1 Ls xs)) (xlf_ok (it_7_2 Ls xs)))) (xbt_ok (xbt_ok (xlf_ok (it_7_3 Ls xs)) (xlf_ok (it_7_4 Ls xs))) (xbt_ok (xlf_ok (it_7_5 Ls xs)) (xlf_ok (it_7_8 Ls xs))))) (xbt_ok (xbt_ok (xlf_ok (it_7_9 Ls xs)) (xbt_ok (xlf_ok (it_7_10 Ls xs)) (xlf_ok (it_7_13 Ls xs)))) (xbt_ok (xbt_ok (xlf_ok (it_7_15 Ls xs)) (xlf_ok (it_7_16 Ls xs))) (xbt_ok (xlf_ok (it_7_17 Ls xs)) (xlf_ok (it_7_18 Ls xs)))))
theorem d_8_0 : decode method_9_code 0 = .ok (.aload_n 3, 1) := by decide +kernel
theorem d_8_1 : decode method_9_code 1 = .ok (.iconst (0), 1) := by decide +kernel
theorem d_8_2 : decode method_9_code 2 = .ok (.aload_n 0, 1) := by decide +kernel
theorem d_8_3 : decode method_9_code 3 = .ok (.iload_n 1, 1) := by decide +kernel
theorem d_8_4 : decode method_9_code 4 = .ok (.iload_n 2, 1) := by decide +kernel
theorem d_8_5 : decode method_9_code 5 = .ok (.invokevirtual 42, 3) := by decide +kernel
theorem d_8_8 : decode method_9_code 8 = .ok (.i2l, 1) := by decide +kernel
theorem d_8_9 : decode method_9_code 9 = .ok (.lastore, 1) := by decide +kernel
theorem d_8_10 : decode method_9_code 10 = .ok (.goto (7), 3) := by decide +kernel
theorem d_8_13 : decode method_9_code 13 = .ok (.astore 4, 2) := by decide +kernel
theorem d_8_15 : decode method_9_code 15 = .ok (.iconst (1), 1) := by decide +kernel
theorem d_8_16 : decode method_9_code 16 = .ok (.ireturn, 1) := by decide +kernel
theorem d_8_17 : decode method_9_code 17 = .ok (.iconst (0), 1) := by decide +kernel
theorem d_8_18 : decode method_9_code 18 = .ok (.ireturn, 1) := by decide +kernel
theorem it_8_0 (Ls : Nat) (xs : Nat → Int32) : xPI Ls xs md_8 0 (.inl (xs_al 3 1)) := by
  exact xs_aload_n_ok d_8_0 rfl
theorem it_8_1 (Ls : Nat) (xs : Nat → Int32) : xPI Ls xs md_8 1 (.inl (xs_c (0) 2)) := by
  exact xs_iconst_ok d_8_1 (by decide)
theorem it_8_2 (Ls : Nat) (xs : Nat → Int32) : xPI Ls xs md_8 2 (.inl (xs_al 0 3)) := by
  exact xs_aload_n_ok d_8_2 rfl
theorem it_8_3 (Ls : Nat) (xs : Nat → Int32) : xPI Ls xs md_8 3 (.inl (xs_il 1 4)) := by
  exact xs_iload_n_ok d_8_3 rfl
theorem it_8_4 (Ls : Nat) (xs : Nat → Int32) : xPI Ls xs md_8 4 (.inl (xs_il 2 5)) := by
  exact xs_iload_n_ok d_8_4 rfl
theorem it_8_5 (Ls : Nat) (xs : Nat → Int32) : xPI Ls xs md_8 5 (.inr (.inl (26, 3, 2, [(2, 13)]))) := by
  exact ⟨md_26, rfl, tw_1, by decide, ⟨by decide, by decide⟩, Or.inr (Or.inr ⟨0, R_0, T_0, N_0, 42, 2, rfl, rfl, rfl, rfl, d_8_5, tw_678, tw_679, tw_680, by decide +kernel, (fun x q h => by
    have h := xlu h
    simp only [List.mem_cons, Prod.mk.injEq, List.not_mem_nil, or_false] at h
    rcases h with ⟨rfl, rfl⟩
    · exact ⟨[], _, _, rfl, rfl, by decide, rfl, tw_595, by decide +kernel, (by intro y hy; cases hy)⟩)⟩)⟩
theorem it_8_8 (Ls : Nat) (xs : Nat → Int32) : xPI Ls xs md_8 8 (.inl (xs_i2l 9)) := by
  exact xs_i2l_ok d_8_8
theorem it_8_9 (Ls : Nat) (xs : Nat → Int32) : xPI Ls xs md_8 9 (.inl (xs_las 10)) := by
  exact xs_las_ok d_8_9
theorem it_8_10 (Ls : Nat) (xs : Nat → Int32) : xPI Ls xs md_8 10 (.inl (xs_goto 17)) := by
  exact xs_goto_ok d_8_10 (by decide)
theorem it_8_13 (Ls : Nat) (xs : Nat → Int32) : xPI Ls xs md_8 13 (.inl (xs_as 5 4 15)) := by
  exact xs_astore_ok d_8_13
theorem it_8_15 (Ls : Nat) (xs : Nat → Int32) : xPI Ls xs md_8 15 (.inl (xs_c (1) 16)) := by
  exact xs_iconst_ok d_8_15 (by decide)
theorem it_8_16 (Ls : Nat) (xs : Nat → Int32) : xPI Ls xs md_8 16 (.inr (.inr 1)) := by
  exact ⟨rfl, d_8_16⟩
theorem it_8_17 (Ls : Nat) (xs : Nat → Int32) : xPI Ls xs md_8 17 (.inl (xs_c (0) 18)) := by
  exact xs_iconst_ok d_8_17 (by decide)
theorem it_8_18 (Ls : Nat) (xs : Nat → Int32) : xPI Ls xs md_8 18 (.inr (.inr 1)) := by
  exact ⟨rfl, d_8_18⟩
def K_8 (Ls : Nat) (xs : Nat → Int32) : Nat → Option xK := xbt 9 (xbt 3 (xbt 1 (xlf 0 (.inl (xs_al 3 1))) (xbt 2 (xlf 1 (.inl (xs_c (0) 2))) (xlf 2 (.inl (xs_al 0 3))))) (xbt 5 (xbt 4 (xlf 3 (.inl (xs_il 1 4))) (xlf 4 (.inl (xs_il 2 5)))) (xbt 8 (xlf 5 (.inr (.inl (26, 3, 2, [(2, 13)])))) (xlf 8 (.inl (xs_i2l 9)))))) (xbt 15 (xbt 10 (xlf 9 (.inl (xs_las 10))) (xbt 13 (xlf 10 (.inl (xs_goto 17))) (xlf 13 (.inl (xs_as 5 4 15))))) (xbt 17 (xbt 16 (xlf 15 (.inl (xs_c (1) 16))) (xlf 16 (.inr (.inr 1)))) (xbt 18 (xlf 17 (.inl (xs_c (0) 18))) (xlf 18 (.inr (.inr 1))))))
theorem ok_8 (Ls : Nat) (xs : Nat → Int32) : ∀ pc it, K_8 Ls xs pc = some it → xPI Ls xs md_8 pc it := by
  unfold K_8
  exact xbt_ok (xbt_ok (xbt_ok (xlf_ok (it_8_0 Ls xs)) (xbt_ok (xlf_ok (it_8_1 Ls xs)) (xlf_ok (it_8_2 Ls xs)))) (xbt_ok (xbt_ok (xlf_ok (it_8_3 Ls xs)) (xlf_ok (it_8_4 Ls xs))) (xbt_ok (xlf_ok (it_8_5 Ls xs)) (xlf_ok (it_8_8 Ls xs))))) (xbt_ok (xbt_ok (xlf_ok (it_8_9 Ls xs)) (xbt_ok (xlf_ok (it_8_10 Ls xs)) (xlf_ok (it_8_13 Ls xs)))) (xbt_ok (xbt_ok (xlf_ok (it_8_15 Ls xs)) (xlf_ok (it_8_16 Ls xs))) (xbt_ok (xlf_ok (it_8_17 Ls xs)) (xlf_ok (it_8_18 Ls xs)))))
theorem d_9_0 : decode method_10_code 0 = .ok (.aload_n 2, 1) := by decide +kernel
theorem d_9_1 : decode method_10_code 1 = .ok (.iconst (0), 1) := by decide +kernel
theorem d_9_2 : decode method_10_code 2 = .ok (.aload_n 0, 1) := by decide +kernel
theorem d_9_3 : decode method_10_code 3 = .ok (.iload_n 1, 1) := by decide +kernel
theorem d_9_4 : decode method_10_code 4 = .ok (.invokevirtual 45, 3) := by decide +kernel
theorem d_9_7 : decode method_10_code 7 = .ok (.ifCond .eq (7), 3) := by decide +kernel
theorem d_9_10 : decode method_10_code 10 = .ok (.lconst 1, 1) := by decide +kernel
theorem d_9_11 : decode method_10_code 11 = .ok (.goto (4), 3) := by decide +kernel
theorem d_9_14 : decode method_10_code 14 = .ok (.lconst 0, 1) := by decide +kernel
theorem d_9_15 : decode method_10_code 15 = .ok (.lastore, 1) := by decide +kernel
theorem d_9_16 : decode method_10_code 16 = .ok (.goto (6), 3) := by decide +kernel
theorem d_9_19 : decode method_10_code 19 = .ok (.astore_n 3, 1) := by decide +kernel
theorem d_9_20 : decode method_10_code 20 = .ok (.iconst (1), 1) := by decide +kernel
theorem d_9_21 : decode method_10_code 21 = .ok (.ireturn, 1) := by decide +kernel
theorem d_9_22 : decode method_10_code 22 = .ok (.iconst (0), 1) := by decide +kernel
theorem d_9_23 : decode method_10_code 23 = .ok (.ireturn, 1) := by decide +kernel
theorem it_9_0 (Ls : Nat) (xs : Nat → Int32) : xPI Ls xs md_9 0 (.inl (xs_al 2 1)) := by
  exact xs_aload_n_ok d_9_0 rfl
theorem it_9_1 (Ls : Nat) (xs : Nat → Int32) : xPI Ls xs md_9 1 (.inl (xs_c (0) 2)) := by
  exact xs_iconst_ok d_9_1 (by decide)
theorem it_9_2 (Ls : Nat) (xs : Nat → Int32) : xPI Ls xs md_9 2 (.inl (xs_al 0 3)) := by
  exact xs_aload_n_ok d_9_2 rfl
theorem it_9_3 (Ls : Nat) (xs : Nat → Int32) : xPI Ls xs md_9 3 (.inl (xs_il 1 4)) := by
  exact xs_iload_n_ok d_9_3 rfl
theorem it_9_4 (Ls : Nat) (xs : Nat → Int32) : xPI Ls xs md_9 4 (.inr (.inl (27, 2, 2, [(0, 19)]))) := by
  exact ⟨md_27, rfl, tw_1, by decide, ⟨by decide, by decide⟩, Or.inr (Or.inr ⟨0, R_0, T_0, N_0, 45, 1, rfl, rfl, rfl, rfl, d_9_4, tw_686, tw_687, tw_688, by decide +kernel, (fun x q h => by
    have h := xlu h
    simp only [List.mem_cons, Prod.mk.injEq, List.not_mem_nil, or_false] at h
    rcases h with ⟨rfl, rfl⟩
    · exact ⟨[], _, _, rfl, rfl, by decide, rfl, tw_263, by decide +kernel, (by intro y hy; cases hy)⟩)⟩)⟩
theorem it_9_7 (Ls : Nat) (xs : Nat → Int32) : xPI Ls xs md_9 7 (.inl (xs_if_eq 14 10)) := by
  exact xs_if_eq_ok d_9_7 (by decide)
theorem it_9_10 (Ls : Nat) (xs : Nat → Int32) : xPI Ls xs md_9 10 (.inl (xs_cl (1) 11)) := by
  exact xs_lconst_ok d_9_10 (by decide)
theorem it_9_11 (Ls : Nat) (xs : Nat → Int32) : xPI Ls xs md_9 11 (.inl (xs_goto 15)) := by
  exact xs_goto_ok d_9_11 (by decide)
theorem it_9_14 (Ls : Nat) (xs : Nat → Int32) : xPI Ls xs md_9 14 (.inl (xs_cl (0) 15)) := by
  exact xs_lconst_ok d_9_14 (by decide)
theorem it_9_15 (Ls : Nat) (xs : Nat → Int32) : xPI Ls xs md_9 15 (.inl (xs_las 16)) := by
  exact xs_las_ok d_9_15
theorem it_9_16 (Ls : Nat) (xs : Nat → Int32) : xPI Ls xs md_9 16 (.inl (xs_goto 22)) := by
  exact xs_goto_ok d_9_16 (by decide)
theorem it_9_19 (Ls : Nat) (xs : Nat → Int32) : xPI Ls xs md_9 19 (.inl (xs_as 4 3 20)) := by
  exact xs_astore_n_ok d_9_19 rfl
theorem it_9_20 (Ls : Nat) (xs : Nat → Int32) : xPI Ls xs md_9 20 (.inl (xs_c (1) 21)) := by
  exact xs_iconst_ok d_9_20 (by decide)
theorem it_9_21 (Ls : Nat) (xs : Nat → Int32) : xPI Ls xs md_9 21 (.inr (.inr 1)) := by
  exact ⟨rfl, d_9_21⟩
theorem it_9_22 (Ls : Nat) (xs : Nat → Int32) : xPI Ls xs md_9 22 (.inl (xs_c (0) 23)) := by
  exact xs_iconst_ok d_9_22 (by decide)
theorem it_9_23 (Ls : Nat) (xs : Nat → Int32) : xPI Ls xs md_9 23 (.inr (.inr 1)) := by
  exact ⟨rfl, d_9_23⟩
def K_9 (Ls : Nat) (xs : Nat → Int32) : Nat → Option xK := xbt 14 (xbt 4 (xbt 2 (xbt 1 (xlf 0 (.inl (xs_al 2 1))) (xlf 1 (.inl (xs_c (0) 2)))) (xbt 3 (xlf 2 (.inl (xs_al 0 3))) (xlf 3 (.inl (xs_il 1 4))))) (xbt 10 (xbt 7 (xlf 4 (.inr (.inl (27, 2, 2, [(0, 19)])))) (xlf 7 (.inl (xs_if_eq 14 10)))) (xbt 11 (xlf 10 (.inl (xs_cl (1) 11))) (xlf 11 (.inl (xs_goto 15)))))) (xbt 20 (xbt 16 (xbt 15 (xlf 14 (.inl (xs_cl (0) 15))) (xlf 15 (.inl (xs_las 16)))) (xbt 19 (xlf 16 (.inl (xs_goto 22))) (xlf 19 (.inl (xs_as 4 3 20))))) (xbt 22 (xbt 21 (xlf 20 (.inl (xs_c (1) 21))) (xlf 21 (.inr (.inr 1)))) (xbt 23 (xlf 22 (.inl (xs_c (0) 23))) (xlf 23 (.inr (.inr 1))))))
theorem ok_9 (Ls : Nat) (xs : Nat → Int32) : ∀ pc it, K_9 Ls xs pc = some it → xPI Ls xs md_9 pc it := by
  unfold K_9
  exact xbt_ok (xbt_ok (xbt_ok (xbt_ok (xlf_ok (it_9_0 Ls xs)) (xlf_ok (it_9_1 Ls xs))) (xbt_ok (xlf_ok (it_9_2 Ls xs)) (xlf_ok (it_9_3 Ls xs)))) (xbt_ok (xbt_ok (xlf_ok (it_9_4 Ls xs)) (xlf_ok (it_9_7 Ls xs))) (xbt_ok (xlf_ok (it_9_10 Ls xs)) (xlf_ok (it_9_11 Ls xs))))) (xbt_ok (xbt_ok (xbt_ok (xlf_ok (it_9_14 Ls xs)) (xlf_ok (it_9_15 Ls xs))) (xbt_ok (xlf_ok (it_9_16 Ls xs)) (xlf_ok (it_9_19 Ls xs)))) (xbt_ok (xbt_ok (xlf_ok (it_9_20 Ls xs)) (xlf_ok (it_9_21 Ls xs))) (xbt_ok (xlf_ok (it_9_22 Ls xs)) (xlf_ok (it_9_23 Ls xs)))))
theorem d_10_0 : decode method_11_code 0 = .ok (.aload_n 2, 1) := by decide +kernel
theorem d_10_1 : decode method_11_code 1 = .ok (.iconst (0), 1) := by decide +kernel
theorem d_10_2 : decode method_11_code 2 = .ok (.aload_n 0, 1) := by decide +kernel
theorem d_10_3 : decode method_11_code 3 = .ok (.iload_n 1, 1) := by decide +kernel
theorem d_10_4 : decode method_11_code 4 = .ok (.invokevirtual 49, 3) := by decide +kernel
theorem d_10_7 : decode method_11_code 7 = .ok (.i2l, 1) := by decide +kernel
theorem d_10_8 : decode method_11_code 8 = .ok (.lastore, 1) := by decide +kernel
theorem d_10_9 : decode method_11_code 9 = .ok (.goto (6), 3) := by decide +kernel
theorem d_10_12 : decode method_11_code 12 = .ok (.astore_n 3, 1) := by decide +kernel
theorem d_10_13 : decode method_11_code 13 = .ok (.iconst (1), 1) := by decide +kernel
theorem d_10_14 : decode method_11_code 14 = .ok (.ireturn, 1) := by decide +kernel
theorem d_10_15 : decode method_11_code 15 = .ok (.iconst (0), 1) := by decide +kernel
theorem d_10_16 : decode method_11_code 16 = .ok (.ireturn, 1) := by decide +kernel
theorem it_10_0 (Ls : Nat) (xs : Nat → Int32) : xPI Ls xs md_10 0 (.inl (xs_al 2 1)) := by
  exact xs_aload_n_ok d_10_0 rfl
theorem it_10_1 (Ls : Nat) (xs : Nat → Int32) : xPI Ls xs md_10 1 (.inl (xs_c (0) 2)) := by
  exact xs_iconst_ok d_10_1 (by decide)
theorem it_10_2 (Ls : Nat) (xs : Nat → Int32) : xPI Ls xs md_10 2 (.inl (xs_al 0 3)) := by
  exact xs_aload_n_ok d_10_2 rfl
theorem it_10_3 (Ls : Nat) (xs : Nat → Int32) : xPI Ls xs md_10 3 (.inl (xs_il 1 4)) := by
  exact xs_iload_n_ok d_10_3 rfl
theorem it_10_4 (Ls : Nat) (xs : Nat → Int32) : xPI Ls xs md_10 4 (.inr (.inl (28, 2, 2, [(0, 12)]))) := by
  exact ⟨md_28, rfl, tw_1, by decide, ⟨by decide, by decide⟩, Or.inr (Or.inr ⟨0, R_0, T_0, N_0, 49, 1, rfl, rfl, rfl, rfl, d_10_4, tw_695, tw_696, tw_697, by decide +kernel, (fun x q h => by
    have h := xlu h
    simp only [List.mem_cons, Prod.mk.injEq, List.not_mem_nil, or_false] at h
    rcases h with ⟨rfl, rfl⟩
    · exact ⟨[], _, _, rfl, rfl, by decide, rfl, tw_263, by decide +kernel, (by intro y hy; cases hy)⟩)⟩)⟩
theorem it_10_7 (Ls : Nat) (xs : Nat → Int32) : xPI Ls xs md_10 7 (.inl (xs_i2l 8)) := by
  exact xs_i2l_ok d_10_7
theorem it_10_8 (Ls : Nat) (xs : Nat → Int32) : xPI Ls xs md_10 8 (.inl (xs_las 9)) := by
  exact xs_las_ok d_10_8
theorem it_10_9 (Ls : Nat) (xs : Nat → Int32) : xPI Ls xs md_10 9 (.inl (xs_goto 15)) := by
  exact xs_goto_ok d_10_9 (by decide)
theorem it_10_12 (Ls : Nat) (xs : Nat → Int32) : xPI Ls xs md_10 12 (.inl (xs_as 4 3 13)) := by
  exact xs_astore_n_ok d_10_12 rfl
theorem it_10_13 (Ls : Nat) (xs : Nat → Int32) : xPI Ls xs md_10 13 (.inl (xs_c (1) 14)) := by
  exact xs_iconst_ok d_10_13 (by decide)
theorem it_10_14 (Ls : Nat) (xs : Nat → Int32) : xPI Ls xs md_10 14 (.inr (.inr 1)) := by
  exact ⟨rfl, d_10_14⟩
theorem it_10_15 (Ls : Nat) (xs : Nat → Int32) : xPI Ls xs md_10 15 (.inl (xs_c (0) 16)) := by
  exact xs_iconst_ok d_10_15 (by decide)
theorem it_10_16 (Ls : Nat) (xs : Nat → Int32) : xPI Ls xs md_10 16 (.inr (.inr 1)) := by
  exact ⟨rfl, d_10_16⟩
def K_10 (Ls : Nat) (xs : Nat → Int32) : Nat → Option xK := xbt 8 (xbt 3 (xbt 1 (xlf 0 (.inl (xs_al 2 1))) (xbt 2 (xlf 1 (.inl (xs_c (0) 2))) (xlf 2 (.inl (xs_al 0 3))))) (xbt 4 (xlf 3 (.inl (xs_il 1 4))) (xbt 7 (xlf 4 (.inr (.inl (28, 2, 2, [(0, 12)])))) (xlf 7 (.inl (xs_i2l 8)))))) (xbt 13 (xbt 9 (xlf 8 (.inl (xs_las 9))) (xbt 12 (xlf 9 (.inl (xs_goto 15))) (xlf 12 (.inl (xs_as 4 3 13))))) (xbt 15 (xbt 14 (xlf 13 (.inl (xs_c (1) 14))) (xlf 14 (.inr (.inr 1)))) (xbt 16 (xlf 15 (.inl (xs_c (0) 16))) (xlf 16 (.inr (.inr 1))))))
theorem ok_10 (Ls : Nat) (xs : Nat → Int32) : ∀ pc it, K_10 Ls xs pc = some it → xPI Ls xs md_10 pc it := by
  unfold K_10
  exact xbt_ok (xbt_ok (xbt_ok (xlf_ok (it_10_0 Ls xs)) (xbt_ok (xlf_ok (it_10_1 Ls xs)) (xlf_ok (it_10_2 Ls xs)))) (xbt_ok (xlf_ok (it_10_3 Ls xs)) (xbt_ok (xlf_ok (it_10_4 Ls xs)) (xlf_ok (it_10_7 Ls xs))))) (xbt_ok (xbt_ok (xlf_ok (it_10_8 Ls xs)) (xbt_ok (xlf_ok (it_10_9 Ls xs)) (xlf_ok (it_10_12 Ls xs)))) (xbt_ok (xbt_ok (xlf_ok (it_10_13 Ls xs)) (xlf_ok (it_10_14 Ls xs))) (xbt_ok (xlf_ok (it_10_15 Ls xs)) (xlf_ok (it_10_16 Ls xs)))))
theorem d_11_0 : decode method_12_code 0 = .ok (.aload_n 0, 1) := by decide +kernel
theorem d_11_1 : decode method_12_code 1 = .ok (.invokevirtual 52, 3) := by decide +kernel
theorem d_11_4 : decode method_12_code 4 = .ok (.goto (6), 3) := by decide +kernel
theorem d_11_7 : decode method_12_code 7 = .ok (.astore_n 1, 1) := by decide +kernel
theorem d_11_8 : decode method_12_code 8 = .ok (.iconst (1), 1) := by decide +kernel
theorem d_11_9 : decode method_12_code 9 = .ok (.ireturn, 1) := by decide +kernel
theorem d_11_10 : decode method_12_code 10 = .ok (.iconst (0), 1) := by decide +kernel
theorem d_11_11 : decode method_12_code 11 = .ok (.ireturn, 1) := by decide +kernel
theorem it_11_0 (Ls : Nat) (xs : Nat → Int32) : xPI Ls xs md_11 0 (.inl (xs_al 0 1)) := by
  exact xs_aload_n_ok d_11_0 rfl
theorem it_11_1 (Ls : Nat) (xs : Nat → Int32) : xPI Ls xs md_11 1 (.inr (.inl (29, 1, 2, [(1, 7)]))) := by
  exact ⟨md_29, rfl, tw_1, by decide, ⟨by decide, by decide⟩, Or.inr (Or.inr ⟨0, R_0, T_0, N_0, 52, 0, rfl, rfl, rfl, rfl, d_11_1, tw_703, tw_704, tw_705, by decide +kernel, (fun x q h => by
    have h := xlu h
    simp only [List.mem_cons, Prod.mk.injEq, List.not_mem_nil, or_false] at h
    rcases h with ⟨rfl, rfl⟩
    · exact ⟨[], _, _, rfl, rfl, by decide, rfl, tw_264, by decide +kernel, (by intro y hy; cases hy)⟩)⟩)⟩
theorem it_11_4 (Ls : Nat) (xs : Nat → Int32) : xPI Ls xs md_11 4 (.inl (xs_goto 10)) := by
  exact xs_goto_ok d_11_4 (by decide)
theorem it_11_7 (Ls : Nat) (xs : Nat → Int32) : xPI Ls xs md_11 7 (.inl (xs_as 2 1 8)) := by
  exact xs_astore_n_ok d_11_7 rfl
theorem it_11_8 (Ls : Nat) (xs : Nat → Int32) : xPI Ls xs md_11 8 (.inl (xs_c (1) 9)) := by
  exact xs_iconst_ok d_11_8 (by decide)
theorem it_11_9 (Ls : Nat) (xs : Nat → Int32) : xPI Ls xs md_11 9 (.inr (.inr 1)) := by
  exact ⟨rfl, d_11_9⟩
theorem it_11_10 (Ls : Nat) (xs : Nat → Int32) : xPI Ls xs md_11 10 (.inl (xs_c (0) 11)) := by
  exact xs_iconst_ok d_11_10 (by decide)
theorem it_11_11 (Ls : Nat) (xs : Nat → Int32) : xPI Ls xs md_11 11 (.inr (.inr 1)) := by
  exact ⟨rfl, d_11_11⟩
def K_11 (Ls : Nat) (xs : Nat → Int32) : Nat → Option xK := xbt 8 (xbt 4 (xbt 1 (xlf 0 (.inl (xs_al 0 1))) (xlf 1 (.inr (.inl (29, 1, 2, [(1, 7)]))))) (xbt 7 (xlf 4 (.inl (xs_goto 10))) (xlf 7 (.inl (xs_as 2 1 8))))) (xbt 10 (xbt 9 (xlf 8 (.inl (xs_c (1) 9))) (xlf 9 (.inr (.inr 1)))) (xbt 11 (xlf 10 (.inl (xs_c (0) 11))) (xlf 11 (.inr (.inr 1)))))
theorem ok_11 (Ls : Nat) (xs : Nat → Int32) : ∀ pc it, K_11 Ls xs pc = some it → xPI Ls xs md_11 pc it := by
  unfold K_11
  exact xbt_ok (xbt_ok (xbt_ok (xlf_ok (it_11_0 Ls xs)) (xlf_ok (it_11_1 Ls xs))) (xbt_ok (xlf_ok (it_11_4 Ls xs)) (xlf_ok (it_11_7 Ls xs)))) (xbt_ok (xbt_ok (xlf_ok (it_11_8 Ls xs)) (xlf_ok (it_11_9 Ls xs))) (xbt_ok (xlf_ok (it_11_10 Ls xs)) (xlf_ok (it_11_11 Ls xs))))
theorem d_12_0 : decode method_13_code 0 = .ok (.aload_n 2, 1) := by decide +kernel
theorem d_12_1 : decode method_13_code 1 = .ok (.iconst (0), 1) := by decide +kernel
theorem d_12_2 : decode method_13_code 2 = .ok (.aload_n 0, 1) := by decide +kernel
theorem d_12_3 : decode method_13_code 3 = .ok (.iload_n 1, 1) := by decide +kernel
theorem d_12_4 : decode method_13_code 4 = .ok (.invokevirtual 55, 3) := by decide +kernel
theorem d_12_7 : decode method_13_code 7 = .ok (.ifCond .eq (7), 3) := by decide +kernel
theorem d_12_10 : decode method_13_code 10 = .ok (.lconst 1, 1) := by decide +kernel
theorem d_12_11 : decode method_13_code 11 = .ok (.goto (4), 3) := by decide +kernel
theorem d_12_14 : decode method_13_code 14 = .ok (.lconst 0, 1) := by decide +kernel
theorem d_12_15 : decode method_13_code 15 = .ok (.lastore, 1) := by decide +kernel
theorem d_12_16 : decode method_13_code 16 = .ok (.goto (9), 3) := by decide +kernel
theorem d_12_19 : decode method_13_code 19 = .ok (.astore_n 3, 1) := by decide +kernel
theorem d_12_20 : decode method_13_code 20 = .ok (.iconst (1), 1) := by decide +kernel
theorem d_12_21 : decode method_13_code 21 = .ok (.ireturn, 1) := by decide +kernel
theorem d_12_22 : decode method_13_code 22 = .ok (.astore_n 3, 1) := by decide +kernel
theorem d_12_23 : decode method_13_code 23 = .ok (.iconst (2), 1) := by decide +kernel
theorem d_12_24 : decode method_13_code 24 = .ok (.ireturn, 1) := by decide +kernel
theorem d_12_25 : decode method_13_code 25 = .ok (.iconst (0), 1) := by decide +kernel
theorem d_12_26 : decode method_13_code 26 = .ok (.ireturn, 1) := by decide +kernel
theorem it_12_0 (Ls : Nat) (xs : Nat → Int32) : xPI Ls xs md_12 0 (.inl (xs_al 2 1)) := by
  exact xs_aload_n_ok d_12_0 rfl
theorem it_12_1 (Ls : Nat) (xs : Nat → Int32) : xPI Ls xs md_12 1 (.inl (xs_c (0) 2)) := by
  exact xs_iconst_ok d_12_1 (by decide)
theorem it_12_2 (Ls : Nat) (xs : Nat → Int32) : xPI Ls xs md_12 2 (.inl (xs_al 0 3)) := by
  exact xs_aload_n_ok d_12_2 rfl
theorem it_12_3 (Ls : Nat) (xs : Nat → Int32) : xPI Ls xs md_12 3 (.inl (xs_il 1 4)) := by
  exact xs_iload_n_ok d_12_3 rfl
theorem it_12_4 (Ls : Nat) (xs : Nat → Int32) : xPI Ls xs md_12 4 (.inr (.inl (30, 2, 2, [(0, 19), (1, 22)]))) := by
  exact ⟨md_30, rfl, tw_1, by decide, ⟨by decide, by decide⟩, Or.inr (Or.inr ⟨0, R_0, T_0, N_0, 55, 1, rfl, rfl, rfl, rfl, d_12_4, tw_715, tw_716, tw_717, by decide +kernel, (fun x q h => by
    have h := xlu h
    simp only [List.mem_cons, Prod.mk.injEq, List.not_mem_nil, or_false] at h
    rcases h with ⟨rfl, rfl⟩ | ⟨rfl, rfl⟩
    · exact ⟨[], _, _, rfl, rfl, by decide, rfl, tw_263, by decide +kernel, (by intro y hy; cases hy)⟩
    · exact ⟨[_], _, _, rfl, rfl, by decide, rfl, tw_264, by decide +kernel, (by intro y hy; rcases List.mem_singleton.mp hy with rfl; exact ⟨by decide, "java/lang/IllegalArgumentException", tw_263, by decide +kernel⟩)⟩)⟩)⟩
theorem it_12_7 (Ls : Nat) (xs : Nat → Int32) : xPI Ls xs md_12 7 (.inl (xs_if_eq 14 10)) := by
  exact xs_if_eq_ok d_12_7 (by decide)
theorem it_12_10 (Ls : Nat) (xs : Nat → Int32) : xPI Ls xs md_12 10 (.inl (xs_cl (1) 11)) := by
  exact xs_lconst_ok d_12_10 (by decide)
theorem it_12_11 (Ls : Nat) (xs : Nat → Int32) : xPI Ls xs md_12 11 (.inl (xs_goto 15)) := by
  exact xs_goto_ok d_12_11 (by decide)
theorem it_12_14 (Ls : Nat) (xs : Nat → Int32) : xPI Ls xs md_12 14 (.inl (xs_cl (0) 15)) := by
  exact xs_lconst_ok d_12_14 (by decide)
theorem it_12_15 (Ls : Nat) (xs : Nat → Int32) : xPI Ls xs md_12 15 (.inl (xs_las 16)) := by
  exact xs_las_ok d_12_15
theorem it_12_16 (Ls : Nat) (xs : Nat → Int32) : xPI Ls xs md_12 16 (.inl (xs_goto 25)) := by
  exact xs_goto_ok d_12_16 (by decide)
theorem it_12_19 (Ls : Nat) (xs : Nat → Int32) : xPI Ls xs md_12 19 (.inl (xs_as 4 3 20)) := by
  exact xs_astore_n_ok d_12_19 rfl
theorem it_12_20 (Ls : Nat) (xs : Nat → Int32) : xPI Ls xs md_12 20 (.inl (xs_c (1) 21)) := by
  exact xs_iconst_ok d_12_20 (by decide)
theorem it_12_21 (Ls : Nat) (xs : Nat → Int32) : xPI Ls xs md_12 21 (.inr (.inr 1)) := by
  exact ⟨rfl, d_12_21⟩
theorem it_12_22 (Ls : Nat) (xs : Nat → Int32) : xPI Ls xs md_12 22 (.inl (xs_as 4 3 23)) := by
  exact xs_astore_n_ok d_12_22 rfl
theorem it_12_23 (Ls : Nat) (xs : Nat → Int32) : xPI Ls xs md_12 23 (.inl (xs_c (2) 24)) := by
  exact xs_iconst_ok d_12_23 (by decide)
theorem it_12_24 (Ls : Nat) (xs : Nat → Int32) : xPI Ls xs md_12 24 (.inr (.inr 1)) := by
  exact ⟨rfl, d_12_24⟩
theorem it_12_25 (Ls : Nat) (xs : Nat → Int32) : xPI Ls xs md_12 25 (.inl (xs_c (0) 26)) := by
  exact xs_iconst_ok d_12_25 (by decide)
theorem it_12_26 (Ls : Nat) (xs : Nat → Int32) : xPI Ls xs md_12 26 (.inr (.inr 1)) := by
  exact ⟨rfl, d_12_26⟩
def K_12 (Ls : Nat) (xs : Nat → Int32) : Nat → Option xK := xbt 15 (xbt 4 (xbt 2 (xbt 1 (xlf 0 (.inl (xs_al 2 1))) (xlf 1 (.inl (xs_c (0) 2)))) (xbt 3 (xlf 2 (.inl (xs_al 0 3))) (xlf 3 (.inl (xs_il 1 4))))) (xbt 10 (xbt 7 (xlf 4 (.inr (.inl (30, 2, 2, [(0, 19), (1, 22)])))) (xlf 7 (.inl (xs_if_eq 14 10)))) (xbt 11 (xlf 10 (.inl (xs_cl (1) 11))) (xbt 14 (xlf 11 (.inl (xs_goto 15))) (xlf 14 (.inl (xs_cl (0) 15))))))) (xbt 22 (xbt 19 (xbt 16 (xlf 15 (.inl (xs_las 16))) (xlf 16 (.inl (xs_goto 25)))) (xbt 20 (xlf 19 (.inl (xs_as 4 3 20))) (xbt 21 (xlf 20 (.inl (xs_c (1) 21))) (xlf 21 (.inr (.inr 1)))))) (xbt 24 (xbt 23 (xlf 22 (.inl (xs_as 4 3 23))) (xlf 23 (.inl (xs_c (2) 24)))) (xbt 25 (xlf 24 (.inr (.inr 1))) (xbt 26 (xlf 25 (.inl (xs_c (0) 26))) (xlf 26 (.inr (.inr 1)))))))
theorem ok_12 (Ls : Nat) (xs : Nat → Int32) : ∀ pc it, K_12 Ls xs pc = some it → xPI Ls xs md_12 pc it := by
  unfold K_12
  exact xbt_ok (xbt_ok (xbt_ok (xbt_ok (xlf_ok (it_12_0 Ls xs)) (xlf_ok (it_12_1 Ls xs))) (xbt_ok (xlf_ok (it_12_2 Ls xs)) (xlf_ok (it_12_3 Ls xs)))) (xbt_ok (xbt_ok (xlf_ok (it_12_4 Ls xs)) (xlf_ok (it_12_7 Ls xs))) (xbt_ok (xlf_ok (it_12_10 Ls xs)) (xbt_ok (xlf_ok (it_12_11 Ls xs)) (xlf_ok (it_12_14 Ls xs)))))) (xbt_ok (xbt_ok (xbt_ok (xlf_ok (it_12_15 Ls xs)) (xlf_ok (it_12_16 Ls xs))) (xbt_ok (xlf_ok (it_12_19 Ls xs)) (xbt_ok (xlf_ok (it_12_20 Ls xs)) (xlf_ok (it_12_21 Ls xs))))) (xbt_ok (xbt_ok (xlf_ok (it_12_22 Ls xs)) (xlf_ok (it_12_23 Ls xs))) (xbt_ok (xlf_ok (it_12_24 Ls xs)) (xbt_ok (xlf_ok (it_12_25 Ls xs)) (xlf_ok (it_12_26 Ls xs))))))
theorem d_13_0 : decode method_14_code 0 = .ok (.aload_n 1, 1) := by decide +kernel
theorem d_13_1 : decode method_14_code 1 = .ok (.iconst (0), 1) := by decide +kernel
theorem d_13_2 : decode method_14_code 2 = .ok (.aload_n 0, 1) := by decide +kernel
theorem d_13_3 : decode method_14_code 3 = .ok (.invokevirtual 58, 3) := by decide +kernel
theorem d_13_6 : decode method_14_code 6 = .ok (.ifCond .eq (7), 3) := by decide +kernel
theorem d_13_9 : decode method_14_code 9 = .ok (.lconst 1, 1) := by decide +kernel
theorem d_13_10 : decode method_14_code 10 = .ok (.goto (4), 3) := by decide +kernel
theorem d_13_13 : decode method_14_code 13 = .ok (.lconst 0, 1) := by decide +kernel
theorem d_13_14 : decode method_14_code 14 = .ok (.lastore, 1) := by decide +kernel
theorem d_13_15 : decode method_14_code 15 = .ok (.goto (6), 3) := by decide +kernel
theorem d_13_18 : decode method_14_code 18 = .ok (.astore_n 2, 1) := by decide +kernel
theorem d_13_19 : decode method_14_code 19 = .ok (.iconst (1), 1) := by decide +kernel
theorem d_13_20 : decode method_14_code 20 = .ok (.ireturn, 1) := by decide +kernel
theorem d_13_21 : decode method_14_code 21 = .ok (.iconst (0), 1) := by decide +kernel
theorem d_13_22 : decode method_14_code 22 = .ok (.ireturn, 1) := by decide +kernel
theorem it_13_0 (Ls : Nat) (xs : Nat → Int32) : xPI Ls xs md_13 0 (.inl (xs_al 1 1)) := by
  exact xs_aload_n_ok d_13_0 rfl
theorem it_13_1 (Ls : Nat) (xs : Nat → Int32) : xPI Ls xs md_13 1 (.inl (xs_c (0) 2)) := by
  exact xs_iconst_ok d_13_1 (by decide)
theorem it_13_2 (Ls : Nat) (xs : Nat → Int32) : xPI Ls xs md_13 2 (.inl (xs_al 0 3)) := by
  exact xs_aload_n_ok d_13_2 rfl
theorem it_13_3 (Ls : Nat) (xs : Nat → Int32) : xPI Ls xs md_13 3 (.inr (.inl (31, 1, 2, [(1, 18)]))) := by
  exact ⟨md_31, rfl, tw_1, by decide, ⟨by decide, by decide⟩, Or.inr (Or.inr ⟨0, R_0, T_0, N_0, 58, 0, rfl, rfl, rfl, rfl, d_13_3, tw_756, tw_757, tw_758, by decide +kernel, (fun x q h => by
    have h := xlu h
    simp only [List.mem_cons, Prod.mk.injEq, List.not_mem_nil, or_false] at h
    rcases h with ⟨rfl, rfl⟩
    · exact ⟨[], _, _, rfl, rfl, by decide, rfl, tw_264, by decide +kernel, (by intro y hy; cases hy)⟩)⟩)⟩
theorem it_13_6 (Ls : Nat) (xs : Nat → Int32) : xPI Ls xs md_13 6 (.inl (xs_if_eq 13 9)) := by
  exact xs_if_eq_ok d_13_6 (by decide)
theorem it_13_9 (Ls : Nat) (xs : Nat → Int32) : xPI Ls xs md_13 9 (.inl (xs_cl (1) 10)) := by
  exact xs_lconst_ok d_13_9 (by decide)
theorem it_13_10 (Ls : Nat) (xs : Nat → Int32) : xPI Ls xs md_13 10 (.inl (xs_goto 14)) := by
  exact xs_goto_ok d_13_10 (by decide)
theorem it_13_13 (Ls : Nat) (xs : Nat → Int32) : xPI Ls xs md_13 13 (.inl (xs_cl (0) 14)) := by
  exact xs_lconst_ok d_13_13 (by decide)
theorem it_13_14 (Ls : Nat) (xs : Nat → Int32) : xPI Ls xs md_13 14 (.inl (xs_las 15)) := by
  exact xs_las_ok d_13_14
theorem it_13_15 (Ls : Nat) (xs : Nat → Int32) : xPI Ls xs md_13 15 (.inl (xs_goto 21)) := by
  exact xs_goto_ok d_13_15 (by decide)
theorem it_13_18 (Ls : Nat) (xs : Nat → Int32) : xPI Ls xs md_13 18 (.inl (xs_as 3 2 19)) := by
  exact xs_astore_n_ok d_13_18 rfl
theorem it_13_19 (Ls : Nat) (xs : Nat → Int32) : xPI Ls xs md_13 19 (.inl (xs_c (1) 20)) := by
  exact xs_iconst_ok d_13_19 (by decide)
theorem it_13_20 (Ls : Nat) (xs : Nat → Int32) : xPI Ls xs md_13 20 (.inr (.inr 1)) := by
  exact ⟨rfl, d_13_20⟩
theorem it_13_21 (Ls : Nat) (xs : Nat → Int32) : xPI Ls xs md_13 21 (.inl (xs_c (0) 22)) := by
  exact xs_iconst_ok d_13_21 (by decide)
theorem it_13_22 (Ls : Nat) (xs : Nat → Int32) : xPI Ls xs md_13 22 (.inr (.inr 1)) := by
  exact ⟨rfl, d_13_22⟩
def K_13 (Ls : Nat) (xs : Nat → Int32) : Nat → Option xK := xbt 13 (xbt 3 (xbt 1 (xlf 0 (.inl (xs_al 1 1))) (xbt 2 (xlf 1 (.inl (xs_c (0) 2))) (xlf 2 (.inl (xs_al 0 3))))) (xbt 9 (xbt 6 (xlf 3 (.inr (.inl (31, 1, 2, [(1, 18)])))) (xlf 6 (.inl (xs_if_eq 13 9)))) (xbt 10 (xlf 9 (.inl (xs_cl (1) 10))) (xlf 10 (.inl (xs_goto 14)))))) (xbt 19 (xbt 15 (xbt 14 (xlf 13 (.inl (xs_cl (0) 14))) (xlf 14 (.inl (xs_las 15)))) (xbt 18 (xlf 15 (.inl (xs_goto 21))) (xlf 18 (.inl (xs_as 3 2 19))))) (xbt 21 (xbt 20 (xlf 19 (.inl (xs_c (1) 20))) (xlf 20 (.inr (.inr 1)))) (xbt 22 (xlf 21 (.inl (xs_c (0) 22))) (xlf 22 (.inr (.inr 1))))))
theorem ok_13 (Ls : Nat) (xs : Nat → Int32) : ∀ pc it, K_13 Ls xs pc = some it → xPI Ls xs md_13 pc it := by
  unfold K_13
  exact xbt_ok (xbt_ok (xbt_ok (xlf_ok (it_13_0 Ls xs)) (xbt_ok (xlf_ok (it_13_1 Ls xs)) (xlf_ok (it_13_2 Ls xs)))) (xbt_ok (xbt_ok (xlf_ok (it_13_3 Ls xs)) (xlf_ok (it_13_6 Ls xs))) (xbt_ok (xlf_ok (it_13_9 Ls xs)) (xlf_ok (it_13_10 Ls xs))))) (xbt_ok (xbt_ok (xbt_ok (xlf_ok (it_13_13 Ls xs)) (xlf_ok (it_13_14 Ls xs))) (xbt_ok (xlf_ok (it_13_15 Ls xs)) (xlf_ok (it_13_18 Ls xs)))) (xbt_ok (xbt_ok (xlf_ok (it_13_19 Ls xs)) (xlf_ok (it_13_20 Ls xs))) (xbt_ok (xlf_ok (it_13_21 Ls xs)) (xlf_ok (it_13_22 Ls xs)))))
theorem d_14_0 : decode method_15_code 0 = .ok (.aload_n 2, 1) := by decide +kernel
theorem d_14_1 : decode method_15_code 1 = .ok (.iconst (0), 1) := by decide +kernel
theorem d_14_2 : decode method_15_code 2 = .ok (.aload_n 0, 1) := by decide +kernel
theorem d_14_3 : decode method_15_code 3 = .ok (.iload_n 1, 1) := by decide +kernel
theorem d_14_4 : decode method_15_code 4 = .ok (.invokevirtual 62, 3) := by decide +kernel
theorem d_14_7 : decode method_15_code 7 = .ok (.i2l, 1) := by decide +kernel
theorem d_14_8 : decode method_15_code 8 = .ok (.lastore, 1) := by decide +kernel
theorem d_14_9 : decode method_15_code 9 = .ok (.goto (6), 3) := by decide +kernel
theorem d_14_12 : decode method_15_code 12 = .ok (.astore_n 3, 1) := by decide +kernel
theorem d_14_13 : decode method_15_code 13 = .ok (.iconst (1), 1) := by decide +kernel
theorem d_14_14 : decode method_15_code 14 = .ok (.ireturn, 1) := by decide +kernel
theorem d_14_15 : decode method_15_code 15 = .ok (.iconst (0), 1) := by decide +kernel
theorem d_14_16 : decode method_15_code 16 = .ok (.ireturn, 1) := by decide +kernel
theorem it_14_0 (Ls : Nat) (xs : Nat → Int32) : xPI Ls xs md_14 0 (.inl (xs_al 2 1)) := by
  exact xs_aload_n_ok d_14_0 rfl
theorem it_14_1 (Ls : Nat) (xs : Nat → Int32) : xPI Ls xs md_14 1 (.inl (xs_c (0) 2)) := by
  exact xs_iconst_ok d_14_1 (by decide)
theorem it_14_2 (Ls : Nat) (xs : Nat → Int32) : xPI Ls xs md_14 2 (.inl (xs_al 0 3)) := by
  exact xs_aload_n_ok d_14_2 rfl
theorem it_14_3 (Ls : Nat) (xs : Nat → Int32) : xPI Ls xs md_14 3 (.inl (xs_il 1 4)) := by
  exact xs_iload_n_ok d_14_3 rfl
theorem it_14_4 (Ls : Nat) (xs : Nat → Int32) : xPI Ls xs md_14 4 (.inr (.inl (35, 2, 2, [(2, 12)]))) := by
  exact ⟨md_35, rfl, tw_1, by decide, ⟨by decide, by decide⟩, Or.inr (Or.inr ⟨0, R_0, T_0, N_0, 62, 1, rfl, rfl, rfl, rfl, d_14_4, tw_765, tw_766, tw_767, by decide +kernel, (fun x q h => by
    have h := xlu h
    simp only [List.mem_cons, Prod.mk.injEq, List.not_mem_nil, or_false] at h
    rcases h with ⟨rfl, rfl⟩
    · exact ⟨[], _, _, rfl, rfl, by decide, rfl, tw_595, by decide +kernel, (by intro y hy; cases hy)⟩)⟩)⟩
theorem it_14_7 (Ls : Nat) (xs : Nat → Int32) : xPI Ls xs md_14 7 (.inl (xs_i2l 8)) := by
  exact xs_i2l_ok d_14_7
theorem it_14_8 (Ls : Nat) (xs : Nat → Int32) : xPI Ls xs md_14 8 (.inl (xs_las 9)) := by
  exact xs_las_ok d_14_8
theorem it_14_9 (Ls : Nat) (xs : Nat → Int32) : xPI Ls xs md_14 9 (.inl (xs_goto 15)) := by
  exact xs_goto_ok d_14_9 (by decide)
theorem it_14_12 (Ls : Nat) (xs : Nat → Int32) : xPI Ls xs md_14 12 (.inl (xs_as 4 3 13)) := by
  exact xs_astore_n_ok d_14_12 rfl
theorem it_14_13 (Ls : Nat) (xs : Nat → Int32) : xPI Ls xs md_14 13 (.inl (xs_c (1) 14)) := by
  exact xs_iconst_ok d_14_13 (by decide)
theorem it_14_14 (Ls : Nat) (xs : Nat → Int32) : xPI Ls xs md_14 14 (.inr (.inr 1)) := by
  exact ⟨rfl, d_14_14⟩
theorem it_14_15 (Ls : Nat) (xs : Nat → Int32) : xPI Ls xs md_14 15 (.inl (xs_c (0) 16)) := by
  exact xs_iconst_ok d_14_15 (by decide)
theorem it_14_16 (Ls : Nat) (xs : Nat → Int32) : xPI Ls xs md_14 16 (.inr (.inr 1)) := by
  exact ⟨rfl, d_14_16⟩
def K_14 (Ls : Nat) (xs : Nat → Int32) : Nat → Option xK := xbt 8 (xbt 3 (xbt 1 (xlf 0 (.inl (xs_al 2 1))) (xbt 2 (xlf 1 (.inl (xs_c (0) 2))) (xlf 2 (.inl (xs_al 0 3))))) (xbt 4 (xlf 3 (.inl (xs_il 1 4))) (xbt 7 (xlf 4 (.inr (.inl (35, 2, 2, [(2, 12)])))) (xlf 7 (.inl (xs_i2l 8)))))) (xbt 13 (xbt 9 (xlf 8 (.inl (xs_las 9))) (xbt 12 (xlf 9 (.inl (xs_goto 15))) (xlf 12 (.inl (xs_as 4 3 13))))) (xbt 15 (xbt 14 (xlf 13 (.inl (xs_c (1) 14))) (xlf 14 (.inr (.inr 1)))) (xbt 16 (xlf 15 (.inl (xs_c (0) 16))) (xlf 16 (.inr (.inr 1))))))
theorem ok_14 (Ls : Nat) (xs : Nat → Int32) : ∀ pc it, K_14 Ls xs pc = some it → xPI Ls xs md_14 pc it := by
  unfold K_14
  exact xbt_ok (xbt_ok (xbt_ok (xlf_ok (it_14_0 Ls xs)) (xbt_ok (xlf_ok (it_14_1 Ls xs)) (xlf_ok (it_14_2 Ls xs)))) (xbt_ok (xlf_ok (it_14_3 Ls xs)) (xbt_ok (xlf_ok (it_14_4 Ls xs)) (xlf_ok (it_14_7 Ls xs))))) (xbt_ok (xbt_ok (xlf_ok (it_14_8 Ls xs)) (xbt_ok (xlf_ok (it_14_9 Ls xs)) (xlf_ok (it_14_12 Ls xs)))) (xbt_ok (xbt_ok (xlf_ok (it_14_13 Ls xs)) (xlf_ok (it_14_14 Ls xs))) (xbt_ok (xlf_ok (it_14_15 Ls xs)) (xlf_ok (it_14_16 Ls xs)))))
theorem d_15_0 : decode prog_1_method_1_code 0 = .ok (.aload_n 0, 1) := by decide +kernel
theorem d_15_1 : decode prog_1_method_1_code 1 = .ok (.invokespecial 3, 3) := by decide +kernel
theorem d_15_4 : decode prog_1_method_1_code 4 = .ok (.iload_n 1, 1) := by decide +kernel
theorem d_15_5 : decode prog_1_method_1_code 5 = .ok (.iconst (1), 1) := by decide +kernel
theorem d_15_6 : decode prog_1_method_1_code 6 = .ok (.if_icmp .lt (13), 3) := by decide +kernel
theorem d_15_9 : decode prog_1_method_1_code 9 = .ok (.iload_n 1, 1) := by decide +kernel
theorem d_15_10 : decode prog_1_method_1_code 10 = .ok (.bipush (7), 2) := by decide +kernel
theorem d_15_12 : decode prog_1_method_1_code 12 = .ok (.if_icmp .gt (7), 3) := by decide +kernel
theorem d_15_15 : decode prog_1_method_1_code 15 = .ok (.iload_n 1, 1) := by decide +kernel
theorem d_15_16 : decode prog_1_method_1_code 16 = .ok (.goto (4), 3) := by decide +kernel
theorem d_15_19 : decode prog_1_method_1_code 19 = .ok (.iconst (3), 1) := by decide +kernel
theorem d_15_20 : decode prog_1_method_1_code 20 = .ok (.istore_n 3, 1) := by decide +kernel
theorem d_15_21 : decode prog_1_method_1_code 21 = .ok (.iload_n 2, 1) := by decide +kernel
theorem d_15_22 : decode prog_1_method_1_code 22 = .ok (.iconst (1), 1) := by decide +kernel
theorem d_15_23 : decode prog_1_method_1_code 23 = .ok (.if_icmp .lt (13), 3) := by decide +kernel
theorem d_15_26 : decode prog_1_method_1_code 26 = .ok (.iload_n 2, 1) := by decide +kernel
theorem d_15_27 : decode prog_1_method_1_code 27 = .ok (.bipush (6), 2) := by decide +kernel
theorem d_15_29 : decode prog_1_method_1_code 29 = .ok (.if_icmp .gt (7), 3) := by decide +kernel
theorem d_15_32 : decode prog_1_method_1_code 32 = .ok (.iload_n 2, 1) := by decide +kernel
theorem d_15_33 : decode prog_1_method_1_code 33 = .ok (.goto (4), 3) := by decide +kernel
theorem d_15_36 : decode prog_1_method_1_code 36 = .ok (.iconst (2), 1) := by decide +kernel
theorem d_15_37 : decode prog_1_method_1_code 37 = .ok (.istore 4, 2) := by decide +kernel
theorem d_15_39 : decode prog_1_method_1_code 39 = .ok (.aload_n 0, 1) := by decide +kernel
theorem d_15_40 : decode prog_1_method_1_code 40 = .ok (.new 9, 3) := by decide +kernel
theorem d_15_43 : decode prog_1_method_1_code 43 = .ok (.dup, 1) := by decide +kernel
theorem d_15_44 : decode prog_1_method_1_code 44 = .ok (.iload_n 3, 1) := by decide +kernel
theorem d_15_45 : decode prog_1_method_1_code 45 = .ok (.iload 4, 2) := by decide +kernel
theorem d_15_47 : decode prog_1_method_1_code 47 = .ok (.invokespecial 11, 3) := by decide +kernel
theorem d_15_50 : decode prog_1_method_1_code 50 = .ok (.putfield 14, 3) := by decide +kernel
theorem d_15_53 : decode prog_1_method_1_code 53 = .ok (.aload_n 0, 1) := by decide +kernel
theorem d_15_54 : decode prog_1_method_1_code 54 = .ok (.new 18, 3) := by decide +kernel
theorem d_15_57 : decode prog_1_method_1_code 57 = .ok (.dup, 1) := by decide +kernel
theorem d_15_58 : decode prog_1_method_1_code 58 = .ok (.aload_n 0, 1) := by decide +kernel
theorem d_15_59 : decode prog_1_method_1_code 59 = .ok (.getfield 14, 3) := by decide +kernel
theorem d_15_62 : decode prog_1_method_1_code 62 = .ok (.invokespecial 20, 3) := by decide +kernel
theorem d_15_65 : decode prog_1_method_1_code 65 = .ok (.putfield 23, 3) := by decide +kernel
theorem d_15_68 : decode prog_1_method_1_code 68 = .ok (.aload_n 0, 1) := by decide +kernel
theorem d_15_69 : decode prog_1_method_1_code 69 = .ok (.new 27, 3) := by decide +kernel
theorem d_15_72 : decode prog_1_method_1_code 72 = .ok (.dup, 1) := by decide +kernel
theorem d_15_73 : decode prog_1_method_1_code 73 = .ok (.aload_n 0, 1) := by decide +kernel
theorem d_15_74 : decode prog_1_method_1_code 74 = .ok (.getfield 14, 3) := by decide +kernel
theorem d_15_77 : decode prog_1_method_1_code 77 = .ok (.aload_n 0, 1) := by decide +kernel
theorem d_15_78 : decode prog_1_method_1_code 78 = .ok (.getfield 23, 3) := by decide +kernel
theorem d_15_81 : decode prog_1_method_1_code 81 = .ok (.invokespecial 29, 3) := by decide +kernel
theorem d_15_84 : decode prog_1_method_1_code 84 = .ok (.putfield 32, 3) := by decide +kernel
theorem d_15_87 : decode prog_1_method_1_code 87 = .ok (.aload_n 0, 1) := by decide +kernel
theorem d_15_88 : decode prog_1_method_1_code 88 = .ok (.new 36, 3) := by decide +kernel
theorem d_15_91 : decode prog_1_method_1_code 91 = .ok (.dup, 1) := by decide +kernel
theorem d_15_92 : decode prog_1_method_1_code 92 = .ok (.aload_n 0, 1) := by decide +kernel
theorem d_15_93 : decode prog_1_method_1_code 93 = .ok (.getfield 14, 3) := by decide +kernel
theorem d_15_96 : decode prog_1_method_1_code 96 = .ok (.aload_n 0, 1) := by decide +kernel
theorem d_15_97 : decode prog_1_method_1_code 97 = .ok (.getfield 23, 3) := by decide +kernel
theorem d_15_100 : decode prog_1_method_1_code 100 = .ok (.aload_n 0, 1) := by decide +kernel
theorem d_15_101 : decode prog_1_method_1_code 101 = .ok (.getfield 32, 3) := by decide +kernel
theorem d_15_104 : decode prog_1_method_1_code 104 = .ok (.invokespecial 38, 3) := by decide +kernel
theorem d_15_107 : decode prog_1_method_1_code 107 = .ok (.putfield 41, 3) := by decide +kernel
theorem d_15_110 : decode prog_1_method_1_code 110 = .ok (.aload_n 0, 1) := by decide +kernel
theorem d_15_111 : decode prog_1_method_1_code 111 = .ok (.iconst (0), 1) := by decide +kernel
theorem d_15_112 : decode prog_1_method_1_code 112 = .ok (.putfield 45, 3) := by decide +kernel
theorem d_15_115 : decode prog_1_method_1_code 115 = .ok (.return_, 1) := by decide +kernel
theorem it_15_0 (Ls : Nat) (xs : Nat → Int32) : xPI Ls xs md_15 0 (.inl (xs_al 0 1)) := by
  exact xs_aload_n_ok d_15_0 rfl
theorem it_15_1 (Ls : Nat) (xs : Nat → Int32) : xPI Ls xs md_15 1 (.inl (xs_oi 4)) := by
  exact xs_oi_ok d_15_1 tw_24 tw_25 tw_obj
theorem it_15_4 (Ls : Nat) (xs : Nat → Int32) : xPI Ls xs md_15 4 (.inl (xs_il 1 5)) := by
  exact xs_iload_n_ok d_15_4 rfl
theorem it_15_5 (Ls : Nat) (xs : Nat → Int32) : xPI Ls xs md_15 5 (.inl (xs_c (1) 6)) := by
  exact xs_iconst_ok d_15_5 (by decide)
theorem it_15_6 (Ls : Nat) (xs : Nat → Int32) : xPI Ls xs md_15 6 (.inl (xs_ic_lt 19 9)) := by
  exact xs_ic_lt_ok d_15_6 (by decide)
theorem it_15_9 (Ls : Nat) (xs : Nat → Int32) : xPI Ls xs md_15 9 (.inl (xs_il 1 10)) := by
  exact xs_iload_n_ok d_15_9 rfl
theorem it_15_10 (Ls : Nat) (xs : Nat → Int32) : xPI Ls xs md_15 10 (.inl (xs_c (7) 12)) := by
  exact xs_bipush_ok d_15_10 (by decide)
theorem it_15_12 (Ls : Nat) (xs : Nat → Int32) : xPI Ls xs md_15 12 (.inl (xs_ic_gt 19 15)) := by
  exact xs_ic_gt_ok d_15_12 (by decide)
theorem it_15_15 (Ls : Nat) (xs : Nat → Int32) : xPI Ls xs md_15 15 (.inl (xs_il 1 16)) := by
  exact xs_iload_n_ok d_15_15 rfl
theorem it_15_16 (Ls : Nat) (xs : Nat → Int32) : xPI Ls xs md_15 16 (.inl (xs_goto 20)) := by
  exact xs_goto_ok d_15_16 (by decide)
theorem it_15_19 (Ls : Nat) (xs : Nat → Int32) : xPI Ls xs md_15 19 (.inl (xs_c (3) 20)) := by
  exact xs_iconst_ok d_15_19 (by decide)
theorem it_15_20 (Ls : Nat) (xs : Nat → Int32) : xPI Ls xs md_15 20 (.inl (xs_is 5 3 21)) := by
  exact xs_istore_n_ok d_15_20 rfl
theorem it_15_21 (Ls : Nat) (xs : Nat → Int32) : xPI Ls xs md_15 21 (.inl (xs_il 2 22)) := by
  exact xs_iload_n_ok d_15_21 rfl
theorem it_15_22 (Ls : Nat) (xs : Nat → Int32) : xPI Ls xs md_15 22 (.inl (xs_c (1) 23)) := by
  exact xs_iconst_ok d_15_22 (by decide)
theorem it_15_23 (Ls : Nat) (xs : Nat → Int32) : xPI Ls xs md_15 23 (.inl (xs_ic_lt 36 26)) := by
  exact xs_ic_lt_ok d_15_23 (by decide)
theorem it_15_26 (Ls : Nat) (xs : Nat → Int32) : xPI Ls xs md_15 26 (.inl (xs_il 2 27)) := by
  exact xs_iload_n_ok d_15_26 rfl
theorem it_15_27 (Ls : Nat) (xs : Nat → Int32) : xPI Ls xs md_15 27 (.inl (xs_c (6) 29)) := by
  exact xs_bipush_ok d_15_27 (by decide)
theorem it_15_29 (Ls : Nat) (xs : Nat → Int32) : xPI Ls xs md_15 29 (.inl (xs_ic_gt 36 32)) := by
  exact xs_ic_gt_ok d_15_29 (by decide)
theorem it_15_32 (Ls : Nat) (xs : Nat → Int32) : xPI Ls xs md_15 32 (.inl (xs_il 2 33)) := by
  exact xs_iload_n_ok d_15_32 rfl
theorem it_15_33 (Ls : Nat) (xs : Nat → Int32) : xPI Ls xs md_15 33 (.inl (xs_goto 37)) := by
  exact xs_goto_ok d_15_33 (by decide)
theorem it_15_36 (Ls : Nat) (xs : Nat → Int32) : xPI Ls xs md_15 36 (.inl (xs_c (2) 37)) := by
  exact xs_iconst_ok d_15_36 (by decide)
theorem it_15_37 (Ls : Nat) (xs : Nat → Int32) : xPI Ls xs md_15 37 (.inl (xs_is 5 4 39)) := by
  exact xs_istore_ok d_15_37
theorem it_15_39 (Ls : Nat) (xs : Nat → Int32) : xPI Ls xs md_15 39 (.inl (xs_al 0 40)) := by
  exact xs_aload_n_ok d_15_39 rfl
theorem it_15_40 (Ls : Nat) (xs : Nat → Int32) : xPI Ls xs md_15 40 (.inl (xs_nw 600003 7302198 1 8 [.int 0, .int 0, .null, .null, .null, .int 0, .null, .null] 43)) := by
  exact xs_nw_ok d_15_40 (C := R_1) (T := T_1) (ty0 := Y_1) rfl in_1 ty_1 tw_27 tw_28 tw_2 (df_1)
theorem it_15_43 (Ls : Nat) (xs : Nat → Int32) : xPI Ls xs md_15 43 (.inl (xs_dup 44)) := by
  exact xs_dup_ok d_15_43
theorem it_15_44 (Ls : Nat) (xs : Nat → Int32) : xPI Ls xs md_15 44 (.inl (xs_il 3 45)) := by
  exact xs_iload_n_ok d_15_44 rfl
theorem it_15_45 (Ls : Nat) (xs : Nat → Int32) : xPI Ls xs md_15 45 (.inl (xs_il 4 47)) := by
  exact xs_iload_ok d_15_45
theorem it_15_47 (Ls : Nat) (xs : Nat → Int32) : xPI Ls xs md_15 47 (.inr (.inl (37, 3, 1, []))) := by
  exact ⟨md_37, rfl, tw_2, by decide, ⟨by decide, by decide⟩, Or.inr (Or.inl ⟨rfl, rfl, rfl, rfl, rfl, 11, 2, rfl, d_15_47, tw_29, tw_30, by decide +kernel⟩)⟩
theorem it_15_50 (Ls : Nat) (xs : Nat → Int32) : xPI Ls xs md_15 50 (.inl (xs_pf 0 0 2 53)) := by
  exact xs_pf_ok d_15_50 (C := R_0) (T := T_0) (N := N_0) (ty0 := Y_0) rfl in_0 ty_0 nm_0 (by decide) tw_177 (Or.inr ⟨rfl, rfl, rfl⟩) (Or.inl ⟨_, rfl⟩)
theorem it_15_53 (Ls : Nat) (xs : Nat → Int32) : xPI Ls xs md_15 53 (.inl (xs_al 0 54)) := by
  exact xs_aload_n_ok d_15_53 rfl
theorem it_15_54 (Ls : Nat) (xs : Nat → Int32) : xPI Ls xs md_15 54 (.inl (xs_nw 600003 7302198 3 5 [.null, .null, .null, .null, .int 0] 57)) := by
  exact xs_nw_ok d_15_54 (C := R_3) (T := T_3) (ty0 := Y_3) rfl in_3 ty_3 tw_60 tw_61 tw_3 (df_3)
theorem it_15_57 (Ls : Nat) (xs : Nat → Int32) : xPI Ls xs md_15 57 (.inl (xs_dup 58)) := by
  exact xs_dup_ok d_15_57
theorem it_15_58 (Ls : Nat) (xs : Nat → Int32) : xPI Ls xs md_15 58 (.inl (xs_al 0 59)) := by
  exact xs_aload_n_ok d_15_58 rfl
theorem it_15_59 (Ls : Nat) (xs : Nat → Int32) : xPI Ls xs md_15 59 (.inl (xs_gf 0 0 62)) := by
  exact xs_gf_ok d_15_59 (C := R_0) (T := T_0) (N := N_0) rfl in_0 (by decide) tw_177
theorem it_15_62 (Ls : Nat) (xs : Nat → Int32) : xPI Ls xs md_15 62 (.inr (.inl (55, 2, 1, []))) := by
  exact ⟨md_55, rfl, tw_3, by decide, ⟨by decide, by decide⟩, Or.inr (Or.inl ⟨rfl, rfl, rfl, rfl, rfl, 20, 1, rfl, d_15_62, tw_62, tw_63, by decide +kernel⟩)⟩
theorem it_15_65 (Ls : Nat) (xs : Nat → Int32) : xPI Ls xs md_15 65 (.inl (xs_pf 0 1 2 68)) := by
  exact xs_pf_ok d_15_65 (C := R_0) (T := T_0) (N := N_0) (ty0 := Y_0) rfl in_0 ty_0 nm_0 (by decide) tw_178 (Or.inr ⟨rfl, rfl, rfl⟩) (Or.inl ⟨_, rfl⟩)
theorem it_15_68 (Ls : Nat) (xs : Nat → Int32) : xPI Ls xs md_15 68 (.inl (xs_al 0 69)) := by
  exact xs_aload_n_ok d_15_68 rfl
theorem it_15_69 (Ls : Nat) (xs : Nat → Int32) : xPI Ls xs md_15 69 (.inl (xs_nw 600003 7302198 4 5 [.null, .null, .null, .int 0, .int 0] 72)) := by
  exact xs_nw_ok d_15_69 (C := R_4) (T := T_4) (ty0 := Y_4) rfl in_4 ty_4 tw_116 tw_117 tw_5 (df_4)
theorem it_15_72 (Ls : Nat) (xs : Nat → Int32) : xPI Ls xs md_15 72 (.inl (xs_dup 73)) := by
  exact xs_dup_ok d_15_72
theorem it_15_73 (Ls : Nat) (xs : Nat → Int32) : xPI Ls xs md_15 73 (.inl (xs_al 0 74)) := by
  exact xs_aload_n_ok d_15_73 rfl
theorem it_15_74 (Ls : Nat) (xs : Nat → Int32) : xPI Ls xs md_15 74 (.inl (xs_gf 0 0 77)) := by
  exact xs_gf_ok d_15_74 (C := R_0) (T := T_0) (N := N_0) rfl in_0 (by decide) tw_177
theorem it_15_77 (Ls : Nat) (xs : Nat → Int32) : xPI Ls xs md_15 77 (.inl (xs_al 0 78)) := by
  exact xs_aload_n_ok d_15_77 rfl
theorem it_15_78 (Ls : Nat) (xs : Nat → Int32) : xPI Ls xs md_15 78 (.inl (xs_gf 0 1 81)) := by
  exact xs_gf_ok d_15_78 (C := R_0) (T := T_0) (N := N_0) rfl in_0 (by decide) tw_178
theorem it_15_81 (Ls : Nat) (xs : Nat → Int32) : xPI Ls xs md_15 81 (.inr (.inl (56, 3, 1, []))) := by
  exact ⟨md_56, rfl, tw_5, by decide, ⟨by decide, by decide⟩, Or.inr (Or.inl ⟨rfl, rfl, rfl, rfl, rfl, 29, 2, rfl, d_15_81, tw_118, tw_119, by decide +kernel⟩)⟩
theorem it_15_84 (Ls : Nat) (xs : Nat → Int32) : xPI Ls xs md_15 84 (.inl (xs_pf 0 2 2 87)) := by
  exact xs_pf_ok d_15_84 (C := R_0) (T := T_0) (N := N_0) (ty0 := Y_0) rfl in_0 ty_0 nm_0 (by decide) tw_179 (Or.inr ⟨rfl, rfl, rfl⟩) (Or.inl ⟨_, rfl⟩)
theorem it_15_87 (Ls : Nat) (xs : Nat → Int32) : xPI Ls xs md_15 87 (.inl (xs_al 0 88)) := by
  exact xs_aload_n_ok d_15_87 rfl
theorem it_15_88 (Ls : Nat) (xs : Nat → Int32) : xPI Ls xs md_15 88 (.inl (xs_nw 600003 7302198 5 9 [.null, .null, .null, .null, .null, .null, .int 0, .int 0, .int 0] 91)) := by
  exact xs_nw_ok d_15_88 (C := R_5) (T := T_5) (ty0 := Y_5) rfl in_5 ty_5 tw_143 tw_144 tw_6 (df_5)
theorem it_15_91 (Ls : Nat) (xs : Nat → Int32) : xPI Ls xs md_15 91 (.inl (xs_dup 92)) := by
  exact xs_dup_ok d_15_91
theorem it_15_92 (Ls : Nat) (xs : Nat → Int32) : xPI Ls xs md_15 92 (.inl (xs_al 0 93)) := by
  exact xs_aload_n_ok d_15_92 rfl
theorem it_15_93 (Ls : Nat) (xs : Nat → Int32) : xPI Ls xs md_15 93 (.inl (xs_gf 0 0 96)) := by
  exact xs_gf_ok d_15_93 (C := R_0) (T := T_0) (N := N_0) rfl in_0 (by decide) tw_177
theorem it_15_96 (Ls : Nat) (xs : Nat → Int32) : xPI Ls xs md_15 96 (.inl (xs_al 0 97)) := by
  exact xs_aload_n_ok d_15_96 rfl
theorem it_15_97 (Ls : Nat) (xs : Nat → Int32) : xPI Ls xs md_15 97 (.inl (xs_gf 0 1 100)) := by
  exact xs_gf_ok d_15_97 (C := R_0) (T := T_0) (N := N_0) rfl in_0 (by decide) tw_178
theorem it_15_100 (Ls : Nat) (xs : Nat → Int32) : xPI Ls xs md_15 100 (.inl (xs_al 0 101)) := by
  exact xs_aload_n_ok d_15_100 rfl
theorem it_15_101 (Ls : Nat) (xs : Nat → Int32) : xPI Ls xs md_15 101 (.inl (xs_gf 0 2 104)) := by
  exact xs_gf_ok d_15_101 (C := R_0) (T := T_0) (N := N_0) rfl in_0 (by decide) tw_179
theorem it_15_104 (Ls : Nat) (xs : Nat → Int32) : xPI Ls xs md_15 104 (.inr (.inl (60, 4, 1, []))) := by
  exact ⟨md_60, rfl, tw_6, by decide, ⟨by decide, by decide⟩, Or.inr (Or.inl ⟨rfl, rfl, rfl, rfl, rfl, 38, 3, rfl, d_15_104, tw_145, tw_146, by decide +kernel⟩)⟩
theorem it_15_107 (Ls : Nat) (xs : Nat → Int32) : xPI Ls xs md_15 107 (.inl (xs_pf 0 3 2 110)) := by
  exact xs_pf_ok d_15_107 (C := R_0) (T := T_0) (N := N_0) (ty0 := Y_0) rfl in_0 ty_0 nm_0 (by decide) tw_180 (Or.inr ⟨rfl, rfl, rfl⟩) (Or.inl ⟨_, rfl⟩)
theorem it_15_110 (Ls : Nat) (xs : Nat → Int32) : xPI Ls xs md_15 110 (.inl (xs_al 0 111)) := by
  exact xs_aload_n_ok d_15_110 rfl
theorem it_15_111 (Ls : Nat) (xs : Nat → Int32) : xPI Ls xs md_15 111 (.inl (xs_c (0) 112)) := by
  exact xs_iconst_ok d_15_111 (by decide)
theorem it_15_112 (Ls : Nat) (xs : Nat → Int32) : xPI Ls xs md_15 112 (.inl (xs_pf 0 4 1 115)) := by
  exact xs_pf_ok d_15_112 (C := R_0) (T := T_0) (N := N_0) (ty0 := Y_0) rfl in_0 ty_0 nm_0 (by decide) tw_181 (Or.inl rfl) rfl
theorem it_15_115 (Ls : Nat) (xs : Nat → Int32) : xPI Ls xs md_15 115 (.inr (.inr 0)) := by
  exact ⟨rfl, d_15_115⟩
def K_15 (Ls : Nat) (xs : Nat → Int32) : Nat → Option xK := xbt 54 (xbt 26 (xbt 12 (xbt 5 (xbt 1 (xlf 0 (.inl (xs_al 0 1))) (xbt 4 (xlf 1 (.inl (xs_oi 4))) (xlf 4 (.inl (xs_il 1 5))))) (xbt 9 (xbt 6 (xlf 5 (.inl (xs_c (1) 6))) (xlf 6 (.inl (xs_ic_lt 19 9)))) (xbt 10 (xlf 9 (.inl (xs_il 1 10))) (xlf 10 (.inl (xs_c (7) 12)))))) (xbt 20 (xbt 16 (xbt 15 (xlf 12 (.inl (xs_ic_gt 19 15))) (xlf 15 (.inl (xs_il 1 16)))) (xbt 19 (xlf 16 (.inl (xs_goto 20))) (xlf 19 (.inl (xs_c (3) 20))))) (xbt 22 (xbt 21 (xlf 20 (.inl (xs_is 5 3 21))) (xlf 21 (.inl (xs_il 2 22)))) (xbt 23 (xlf 22 (.inl (xs_c (1) 23))) (xlf 23 (.inl (xs_ic_lt 36 26))))))) (xbt 39 (xbt 32 (xbt 27 (xlf 26 (.inl (xs_il 2 27))) (xbt 29 (xlf 27 (.inl (xs_c (6) 29))) (xlf 29 (.inl (xs_ic_gt 36 32))))) (xbt 36 (xbt 33 (xlf 32 (.inl (xs_il 2 33))) (xlf 33 (.inl (xs_goto 37)))) (xbt 37 (xlf 36 (.inl (xs_c (2) 37))) (xlf 37 (.inl (xs_is 5 4 39)))))) (xbt 45 (xbt 43 (xbt 40 (xlf 39 (.inl (xs_al 0 40))) (xlf 40 (.inl (xs_nw 600003 7302198 1 8 [.int 0, .int 0, .null, .null, .null, .int 0, .null, .null] 43)))) (xbt 44 (xlf 43 (.inl (xs_dup 44))) (xlf 44 (.inl (xs_il 3 45))))) (xbt 50 (xbt 47 (xlf 45 (.inl (xs_il 4 47))) (xlf 47 (.inr (.inl (37, 3, 1, []))))) (xbt 53 (xlf 50 (.inl (xs_pf 0 0 2 53))) (xlf 53 (.inl (xs_al 0 54)))))))) (xbt 87 (xbt 69 (xbt 59 (xbt 57 (xlf 54 (.inl (xs_nw 600003 7302198 3 5 [.null, .null, .null, .null, .int 0] 57))) (xbt 58 (xlf 57 (.inl (xs_dup 58))) (xlf 58 (.inl (xs_al 0 59))))) (xbt 65 (xbt 62 (xlf 59 (.inl (xs_gf 0 0 62))) (xlf 62 (.inr (.inl (55, 2, 1, []))))) (xbt 68 (xlf 65 (.inl (xs_pf 0 1 2 68))) (xlf 68 (.inl (xs_al 0 69)))))) (xbt 77 (xbt 73 (xbt 72 (xlf 69 (.inl (xs_nw 600003 7302198 4 5 [.null, .null, .null, .int 0, .int 0] 72))) (xlf 72 (.inl (xs_dup 73)))) (xbt 74 (xlf 73 (.inl (xs_al 0 74))) (xlf 74 (.inl (xs_gf 0 0 77))))) (xbt 81 (xbt 78 (xlf 77 (.inl (xs_al 0 78))) (xlf 78 (.inl (xs_gf 0 1 81)))) (xbt 84 (xlf 81 (.inr (.inl (56, 3, 1, [])))) (xlf 84 (.inl (xs_pf 0 2 2 87))))))) (xbt 100 (xbt 92 (xbt 88 (xlf 87 (.inl (xs_al 0 88))) (xbt 91 (xlf 88 (.inl (xs_nw 600003 7302198 5 9 [.null, .null, .null, .null, .null, .null, .int 0, .int 0, .int 0] 91))) (xlf 91 (.inl (xs_dup 92))))) (xbt 96 (xbt 93 (xlf 92 (.inl (xs_al 0 93))) (xlf 93 (.inl (xs_gf 0 0 96)))) (xbt 97 (xlf 96 (.inl (xs_al 0 97))) (xlf 97 (.inl (xs_gf 0 1 100)))))) (xbt 110 (xbt 104 (xbt 101 (xlf 100 (.inl (xs_al 0 101))) (xlf 101 (.inl (xs_gf 0 2 104)))) (xbt 107 (xlf 104 (.inr (.inl (60, 4, 1, [])))) (xlf 107 (.inl (xs_pf 0 3 2 110))))) (xbt 112 (xbt 111 (xlf 110 (.inl (xs_al 0 111))) (xlf 111 (.inl (xs_c (0) 112)))) (xbt 115 (xlf 112 (.inl (xs_pf 0 4 1 115))) (xlf 115 (.inr (.inr 0))))))))
theorem ok_15 (Ls : Nat) (xs : Nat → Int32) : ∀ pc it, K_15 Ls xs pc = some it → xPI Ls xs md_15 pc it := by
  unfold K_15
  exact xbt_ok (xbt_ok (xbt_ok (xbt_ok (xbt_ok (xlf_ok (it_15_0 Ls xs)) (xbt_ok (xlf_ok (it_15_1 Ls xs)) (xlf_ok (it_15_4 Ls xs)))) (xbt_ok (xbt_ok (xlf_ok (it_15_5 Ls xs)) (xlf_ok (it_15_6 Ls xs))) (xbt_ok (xlf_ok (it_15_9 Ls xs)) (xlf_ok (it_15_10 Ls xs))))) (xbt_ok (xbt_ok (xbt_ok (xlf_ok (it_15_12 Ls xs)) (xlf_ok (it_15_15 Ls xs))) (xbt_ok (xlf_ok (it_15_16 Ls xs)) (xlf_ok (it_15_19 Ls xs)))) (xbt_ok (xbt_ok (xlf_ok (it_15_20 Ls xs)) (xlf_ok (it_15_21 Ls xs))) (xbt_ok (xlf_ok (it_15_22 Ls xs)) (xlf_ok (it_15_23 Ls xs)))))) (xbt_ok (xbt_ok (xbt_ok (xlf_ok (it_15_26 Ls xs)) (xbt_ok (xlf_ok (it_15_27 Ls xs)) (xlf_ok (it_15_29 Ls xs)))) (xbt_ok (xbt_ok (xlf_ok (it_15_32 Ls xs)) (xlf_ok (it_15_33 Ls xs))) (xbt_ok (xlf_ok (it_15_36 Ls xs)) (xlf_ok (it_15_37 Ls xs))))) (xbt_ok (xbt_ok (xbt_ok (xlf_ok (it_15_39 Ls xs)) (xlf_ok (it_15_40 Ls xs))) (xbt_ok (xlf_ok (it_15_43 Ls xs)) (xlf_ok (it_15_44 Ls xs)))) (xbt_ok (xbt_ok (xlf_ok (it_15_45 Ls xs)) (xlf_ok (it_15_47 Ls xs))) (xbt_ok (xlf_ok (it_15_50 Ls xs)) (xlf_ok (it_15_53 Ls xs))))))) (xbt_ok (xbt_ok (xbt_ok (xbt_ok (xlf_ok (it_15_54 Ls xs)) (xbt_ok (xlf_ok (it_15_57 Ls xs)) (xlf_ok (it_15_58 Ls xs)))) (xbt_ok (xbt_ok (xlf_ok (it_15_59 Ls xs)) (xlf_ok (it_15_62 Ls xs))) (xbt_ok (xlf_ok (it_15_65 Ls xs)) (xlf_ok (it_15_68 Ls xs))))) (xbt_ok (xbt_ok (xbt_ok (xlf_ok (it_15_69 Ls xs)) (xlf_ok (it_15_72 Ls xs))) (xbt_ok (xlf_ok (it_15_73 Ls xs)) (xlf_ok (it_15_74 Ls xs)))) (xbt_ok (xbt_ok (xlf_ok (it_15_77 Ls xs)) (xlf_ok (it_15_78 Ls xs))) (xbt_ok (xlf_ok (it_15_81 Ls xs)) (xlf_ok (it_15_84 Ls xs)))))) (xbt_ok (xbt_ok (xbt_ok (xlf_ok (it_15_87 Ls xs)) (xbt_ok (xlf_ok (it_15_88 Ls xs)) (xlf_ok (it_15_91 Ls xs)))) (xbt_ok (xbt_ok (xlf_ok (it_15_92 Ls xs)) (xlf_ok (it_15_93 Ls xs))) (xbt_ok (xlf_ok (it_15_96 Ls xs)) (xlf_ok (it_15_97 Ls xs))))) (xbt_ok (xbt_ok (xbt_ok (xlf_ok (it_15_100 Ls xs)) (xlf_ok (it_15_101 Ls xs))) (xbt_ok (xlf_ok (it_15_104 Ls xs)) (xlf_ok (it_15_107 Ls xs)))) (xbt_ok (xbt_ok (xlf_ok (it_15_110 Ls xs)) (xlf_ok (it_15_111 Ls xs))) (xbt_ok (xlf_ok (it_15_112 Ls xs)) (xlf_ok (it_15_115 Ls xs)))))))
theorem d_16_0 : decode prog_1_method_2_code 0 = .ok (.aload_n 0, 1) := by decide +kernel
theorem d_16_1 : decode prog_1_method_2_code 1 = .ok (.getfield 14, 3) := by decide +kernel
theorem d_16_4 : decode prog_1_method_2_code 4 = .ok (.iload_n 1, 1) := by decide +kernel
theorem d_16_5 : decode prog_1_method_2_code 5 = .ok (.invokevirtual 49, 3) := by decide +kernel
theorem d_16_8 : decode prog_1_method_2_code 8 = .ok (.ifCond .ne (13), 3) := by decide +kernel
theorem d_16_11 : decode prog_1_method_2_code 11 = .ok (.new 53, 3) := by decide +kernel
theorem d_16_14 : decode prog_1_method_2_code 14 = .ok (.dup, 1) := by decide +kernel
theorem d_16_15 : decode prog_1_method_2_code 15 = .ok (.ldc 55, 2) := by decide +kernel
theorem d_16_17 : decode prog_1_method_2_code 17 = .ok (.invokespecial 57, 3) := by decide +kernel
theorem d_16_20 : decode prog_1_method_2_code 20 = .ok (.athrow, 1) := by decide +kernel
theorem d_16_21 : decode prog_1_method_2_code 21 = .ok (.aload_n 0, 1) := by decide +kernel
theorem d_16_22 : decode prog_1_method_2_code 22 = .ok (.getfield 45, 3) := by decide +kernel
theorem d_16_25 : decode prog_1_method_2_code 25 = .ok (.ifCond .ne (13), 3) := by decide +kernel
theorem d_16_28 : decode prog_1_method_2_code 28 = .ok (.aload_n 0, 1) := by decide +kernel
theorem d_16_29 : decode prog_1_method_2_code 29 = .ok (.getfield 14, 3) := by decide +kernel
theorem d_16_32 : decode prog_1_method_2_code 32 = .ok (.invokevirtual 60, 3) := by decide +kernel
theorem d_16_35 : decode prog_1_method_2_code 35 = .ok (.ifCond .ne (13), 3) := by decide +kernel
theorem d_16_38 : decode prog_1_method_2_code 38 = .ok (.new 64, 3) := by decide +kernel
theorem d_16_41 : decode prog_1_method_2_code 41 = .ok (.dup, 1) := by decide +kernel
theorem d_16_42 : decode prog_1_method_2_code 42 = .ok (.ldc 66, 2) := by decide +kernel
theorem d_16_44 : decode prog_1_method_2_code 44 = .ok (.invokespecial 68, 3) := by decide +kernel
theorem d_16_47 : decode prog_1_method_2_code 47 = .ok (.athrow, 1) := by decide +kernel
theorem d_16_48 : decode prog_1_method_2_code 48 = .ok (.aload_n 0, 1) := by decide +kernel
theorem d_16_49 : decode prog_1_method_2_code 49 = .ok (.getfield 32, 3) := by decide +kernel
theorem d_16_52 : decode prog_1_method_2_code 52 = .ok (.invokevirtual 69, 3) := by decide +kernel
theorem d_16_55 : decode prog_1_method_2_code 55 = .ok (.aload_n 0, 1) := by decide +kernel
theorem d_16_56 : decode prog_1_method_2_code 56 = .ok (.getfield 14, 3) := by decide +kernel
theorem d_16_59 : decode prog_1_method_2_code 59 = .ok (.iload_n 1, 1) := by decide +kernel
theorem d_16_60 : decode prog_1_method_2_code 60 = .ok (.invokevirtual 72, 3) := by decide +kernel
theorem d_16_63 : decode prog_1_method_2_code 63 = .ok (.ireturn, 1) := by decide +kernel
theorem it_16_0 (Ls : Nat) (xs : Nat → Int32) : xPI Ls xs md_16 0 (.inl (xs_al 0 1)) := by
  exact xs_aload_n_ok d_16_0 rfl
theorem it_16_1 (Ls : Nat) (xs : Nat → Int32) : xPI Ls xs md_16 1 (.inl (xs_gf 0 0 4)) := by
  exact xs_gf_ok d_16_1 (C := R_0) (T := T_0) (N := N_0) rfl in_0 (by decide) tw_177
theorem it_16_4 (Ls : Nat) (xs : Nat → Int32) : xPI Ls xs md_16 4 (.inl (xs_il 1 5)) := by
  exact xs_iload_n_ok d_16_4 rfl
theorem it_16_5 (Ls : Nat) (xs : Nat → Int32) : xPI Ls xs md_16 5 (.inr (.inl (39, 2, 3, []))) := by
  exact ⟨md_39, rfl, tw_2, by decide, ⟨by decide, by decide⟩, Or.inr (Or.inr ⟨1, R_1, T_1, N_1, 49, 1, rfl, rfl, rfl, rfl, d_16_5, tw_269, tw_270, tw_271, by decide +kernel, (fun x q h => by cases h)⟩)⟩
theorem it_16_8 (Ls : Nat) (xs : Nat → Int32) : xPI Ls xs md_16 8 (.inl (xs_if_ne 21 11)) := by
  exact xs_if_ne_ok d_16_8 (by decide)
theorem it_16_11 (Ls : Nat) (xs : Nat → Int32) : xPI Ls xs md_16 11 (.inr (.inr 3)) := by
  exact ⟨53, 57, 55, ex_ix 0, "no nonterminal", ex_rx 0, ex_nm, rfl, rfl, rfl, d_16_11, d_16_14, d_16_15, d_16_17, d_16_20, ex_0 0 (by decide), ex_1 0 (by decide), ex_2 0 (by decide), ex_5 0 (by decide), ex_f 0 (by decide), ex_n, tw_273, tw_274, tw_11, by decide +kernel, ow_0⟩
theorem it_16_21 (Ls : Nat) (xs : Nat → Int32) : xPI Ls xs md_16 21 (.inl (xs_al 0 22)) := by
  exact xs_aload_n_ok d_16_21 rfl
theorem it_16_22 (Ls : Nat) (xs : Nat → Int32) : xPI Ls xs md_16 22 (.inl (xs_gf 0 4 25)) := by
  exact xs_gf_ok d_16_22 (C := R_0) (T := T_0) (N := N_0) rfl in_0 (by decide) tw_181
theorem it_16_25 (Ls : Nat) (xs : Nat → Int32) : xPI Ls xs md_16 25 (.inl (xs_if_ne 38 28)) := by
  exact xs_if_ne_ok d_16_25 (by decide)
theorem it_16_28 (Ls : Nat) (xs : Nat → Int32) : xPI Ls xs md_16 28 (.inl (xs_al 0 29)) := by
  exact xs_aload_n_ok d_16_28 rfl
theorem it_16_29 (Ls : Nat) (xs : Nat → Int32) : xPI Ls xs md_16 29 (.inl (xs_gf 0 0 32)) := by
  exact xs_gf_ok d_16_29 (C := R_0) (T := T_0) (N := N_0) rfl in_0 (by decide) tw_177
theorem it_16_32 (Ls : Nat) (xs : Nat → Int32) : xPI Ls xs md_16 32 (.inr (.inl (45, 1, 3, []))) := by
  exact ⟨md_45, rfl, tw_2, by decide, ⟨by decide, by decide⟩, Or.inr (Or.inr ⟨1, R_1, T_1, N_1, 60, 0, rfl, rfl, rfl, rfl, d_16_32, tw_343, tw_344, tw_345, by decide +kernel, (fun x q h => by cases h)⟩)⟩
theorem it_16_35 (Ls : Nat) (xs : Nat → Int32) : xPI Ls xs md_16 35 (.inl (xs_if_ne 48 38)) := by
  exact xs_if_ne_ok d_16_35 (by decide)
theorem it_16_38 (Ls : Nat) (xs : Nat → Int32) : xPI Ls xs md_16 38 (.inr (.inr 4)) := by
  exact ⟨64, 68, 66, ex_ix 1, "there is a table, or no room", ex_rx 1, ex_nm, rfl, rfl, rfl, d_16_38, d_16_41, d_16_42, d_16_44, d_16_47, ex_0 1 (by decide), ex_1 1 (by decide), ex_2 1 (by decide), ex_5 1 (by decide), ex_f 1 (by decide), ex_n, tw_347, tw_348, tw_12, by decide +kernel, ow_1⟩
theorem it_16_48 (Ls : Nat) (xs : Nat → Int32) : xPI Ls xs md_16 48 (.inl (xs_al 0 49)) := by
  exact xs_aload_n_ok d_16_48 rfl
theorem it_16_49 (Ls : Nat) (xs : Nat → Int32) : xPI Ls xs md_16 49 (.inl (xs_gf 0 2 52)) := by
  exact xs_gf_ok d_16_49 (C := R_0) (T := T_0) (N := N_0) rfl in_0 (by decide) tw_179
theorem it_16_52 (Ls : Nat) (xs : Nat → Int32) : xPI Ls xs md_16 52 (.inr (.inl (57, 1, 6, []))) := by
  exact ⟨md_57, rfl, tw_5, by decide, ⟨by decide, by decide⟩, Or.inr (Or.inr ⟨4, R_4, T_4, N_4, 69, 0, rfl, rfl, rfl, rfl, d_16_52, tw_205, tw_206, tw_207, by decide +kernel, (fun x q h => by cases h)⟩)⟩
theorem it_16_55 (Ls : Nat) (xs : Nat → Int32) : xPI Ls xs md_16 55 (.inl (xs_al 0 56)) := by
  exact xs_aload_n_ok d_16_55 rfl
theorem it_16_56 (Ls : Nat) (xs : Nat → Int32) : xPI Ls xs md_16 56 (.inl (xs_gf 0 0 59)) := by
  exact xs_gf_ok d_16_56 (C := R_0) (T := T_0) (N := N_0) rfl in_0 (by decide) tw_177
theorem it_16_59 (Ls : Nat) (xs : Nat → Int32) : xPI Ls xs md_16 59 (.inl (xs_il 1 60)) := by
  exact xs_iload_n_ok d_16_59 rfl
theorem it_16_60 (Ls : Nat) (xs : Nat → Int32) : xPI Ls xs md_16 60 (.inr (.inl (47, 2, 3, []))) := by
  exact ⟨md_47, rfl, tw_2, by decide, ⟨by decide, by decide⟩, Or.inr (Or.inr ⟨1, R_1, T_1, N_1, 72, 1, rfl, rfl, rfl, rfl, d_16_60, tw_363, tw_364, tw_365, by decide +kernel, (fun x q h => by cases h)⟩)⟩
theorem it_16_63 (Ls : Nat) (xs : Nat → Int32) : xPI Ls xs md_16 63 (.inr (.inr 1)) := by
  exact ⟨rfl, d_16_63⟩
def K_16 (Ls : Nat) (xs : Nat → Int32) : Nat → Option xK := xbt 32 (xbt 11 (xbt 4 (xbt 1 (xlf 0 (.inl (xs_al 0 1))) (xlf 1 (.inl (xs_gf 0 0 4)))) (xbt 5 (xlf 4 (.inl (xs_il 1 5))) (xbt 8 (xlf 5 (.inr (.inl (39, 2, 3, [])))) (xlf 8 (.inl (xs_if_ne 21 11)))))) (xbt 25 (xbt 21 (xlf 11 (.inr (.inr 3))) (xbt 22 (xlf 21 (.inl (xs_al 0 22))) (xlf 22 (.inl (xs_gf 0 4 25))))) (xbt 28 (xlf 25 (.inl (xs_if_ne 38 28))) (xbt 29 (xlf 28 (.inl (xs_al 0 29))) (xlf 29 (.inl (xs_gf 0 0 32))))))) (xbt 52 (xbt 38 (xbt 35 (xlf 32 (.inr (.inl (45, 1, 3, [])))) (xlf 35 (.inl (xs_if_ne 48 38)))) (xbt 48 (xlf 38 (.inr (.inr 4))) (xbt 49 (xlf 48 (.inl (xs_al 0 49))) (xlf 49 (.inl (xs_gf 0 2 52)))))) (xbt 59 (xbt 55 (xlf 52 (.inr (.inl (57, 1, 6, [])))) (xbt 56 (xlf 55 (.inl (xs_al 0 56))) (xlf 56 (.inl (xs_gf 0 0 59))))) (xbt 60 (xlf 59 (.inl (xs_il 1 60))) (xbt 63 (xlf 60 (.inr (.inl (47, 2, 3, [])))) (xlf 63 (.inr (.inr 1)))))))
theorem ok_16 (Ls : Nat) (xs : Nat → Int32) : ∀ pc it, K_16 Ls xs pc = some it → xPI Ls xs md_16 pc it := by
  unfold K_16
  exact xbt_ok (xbt_ok (xbt_ok (xbt_ok (xlf_ok (it_16_0 Ls xs)) (xlf_ok (it_16_1 Ls xs))) (xbt_ok (xlf_ok (it_16_4 Ls xs)) (xbt_ok (xlf_ok (it_16_5 Ls xs)) (xlf_ok (it_16_8 Ls xs))))) (xbt_ok (xbt_ok (xlf_ok (it_16_11 Ls xs)) (xbt_ok (xlf_ok (it_16_21 Ls xs)) (xlf_ok (it_16_22 Ls xs)))) (xbt_ok (xlf_ok (it_16_25 Ls xs)) (xbt_ok (xlf_ok (it_16_28 Ls xs)) (xlf_ok (it_16_29 Ls xs)))))) (xbt_ok (xbt_ok (xbt_ok (xlf_ok (it_16_32 Ls xs)) (xlf_ok (it_16_35 Ls xs))) (xbt_ok (xlf_ok (it_16_38 Ls xs)) (xbt_ok (xlf_ok (it_16_48 Ls xs)) (xlf_ok (it_16_49 Ls xs))))) (xbt_ok (xbt_ok (xlf_ok (it_16_52 Ls xs)) (xbt_ok (xlf_ok (it_16_55 Ls xs)) (xlf_ok (it_16_56 Ls xs)))) (xbt_ok (xlf_ok (it_16_59 Ls xs)) (xbt_ok (xlf_ok (it_16_60 Ls xs)) (xlf_ok (it_16_63 Ls xs))))))
theorem d_17_0 : decode prog_1_method_3_code 0 = .ok (.aload_n 0, 1) := by decide +kernel
theorem d_17_1 : decode prog_1_method_3_code 1 = .ok (.getfield 14, 3) := by decide +kernel
theorem d_17_4 : decode prog_1_method_3_code 4 = .ok (.iload_n 1, 1) := by decide +kernel
theorem d_17_5 : decode prog_1_method_3_code 5 = .ok (.invokevirtual 76, 3) := by decide +kernel
theorem d_17_8 : decode prog_1_method_3_code 8 = .ok (.ifCond .ne (13), 3) := by decide +kernel
theorem d_17_11 : decode prog_1_method_3_code 11 = .ok (.new 53, 3) := by decide +kernel
theorem d_17_14 : decode prog_1_method_3_code 14 = .ok (.dup, 1) := by decide +kernel
theorem d_17_15 : decode prog_1_method_3_code 15 = .ok (.ldc 79, 2) := by decide +kernel
theorem d_17_17 : decode prog_1_method_3_code 17 = .ok (.invokespecial 57, 3) := by decide +kernel
theorem d_17_20 : decode prog_1_method_3_code 20 = .ok (.athrow, 1) := by decide +kernel
theorem d_17_21 : decode prog_1_method_3_code 21 = .ok (.aload_n 0, 1) := by decide +kernel
theorem d_17_22 : decode prog_1_method_3_code 22 = .ok (.getfield 45, 3) := by decide +kernel
theorem d_17_25 : decode prog_1_method_3_code 25 = .ok (.ifCond .ne (13), 3) := by decide +kernel
theorem d_17_28 : decode prog_1_method_3_code 28 = .ok (.aload_n 0, 1) := by decide +kernel
theorem d_17_29 : decode prog_1_method_3_code 29 = .ok (.getfield 14, 3) := by decide +kernel
theorem d_17_32 : decode prog_1_method_3_code 32 = .ok (.invokevirtual 81, 3) := by decide +kernel
theorem d_17_35 : decode prog_1_method_3_code 35 = .ok (.ifCond .ne (13), 3) := by decide +kernel
theorem d_17_38 : decode prog_1_method_3_code 38 = .ok (.new 64, 3) := by decide +kernel
theorem d_17_41 : decode prog_1_method_3_code 41 = .ok (.dup, 1) := by decide +kernel
theorem d_17_42 : decode prog_1_method_3_code 42 = .ok (.ldc 84, 2) := by decide +kernel
theorem d_17_44 : decode prog_1_method_3_code 44 = .ok (.invokespecial 68, 3) := by decide +kernel
theorem d_17_47 : decode prog_1_method_3_code 47 = .ok (.athrow, 1) := by decide +kernel
theorem d_17_48 : decode prog_1_method_3_code 48 = .ok (.aload_n 0, 1) := by decide +kernel
theorem d_17_49 : decode prog_1_method_3_code 49 = .ok (.getfield 32, 3) := by decide +kernel
theorem d_17_52 : decode prog_1_method_3_code 52 = .ok (.invokevirtual 69, 3) := by decide +kernel
theorem d_17_55 : decode prog_1_method_3_code 55 = .ok (.aload_n 0, 1) := by decide +kernel
theorem d_17_56 : decode prog_1_method_3_code 56 = .ok (.getfield 14, 3) := by decide +kernel
theorem d_17_59 : decode prog_1_method_3_code 59 = .ok (.iload_n 1, 1) := by decide +kernel
theorem d_17_63 : decode prog_1_method_3_code 63 = .ok (.return_, 1) := by decide +kernel
theorem it_17_0 (Ls : Nat) (xs : Nat → Int32) : xPI Ls xs md_17 0 (.inl (xs_al 0 1)) := by
  exact xs_aload_n_ok d_17_0 rfl
theorem it_17_1 (Ls : Nat) (xs : Nat → Int32) : xPI Ls xs md_17 1 (.inl (xs_gf 0 0 4)) := by
  exact xs_gf_ok d_17_1 (C := R_0) (T := T_0) (N := N_0) rfl in_0 (by decide) tw_177
theorem it_17_4 (Ls : Nat) (xs : Nat → Int32) : xPI Ls xs md_17 4 (.inl (xs_il 1 5)) := by
  exact xs_iload_n_ok d_17_4 rfl
theorem it_17_5 (Ls : Nat) (xs : Nat → Int32) : xPI Ls xs md_17 5 (.inr (.inl (40, 2, 3, []))) := by
  exact ⟨md_40, rfl, tw_2, by decide, ⟨by decide, by decide⟩, Or.inr (Or.inr ⟨1, R_1, T_1, N_1, 76, 1, rfl, rfl, rfl, rfl, d_17_5, tw_374, tw_375, tw_376, by decide +kernel, (fun x q h => by cases h)⟩)⟩
theorem it_17_8 (Ls : Nat) (xs : Nat → Int32) : xPI Ls xs md_17 8 (.inl (xs_if_ne 21 11)) := by
  exact xs_if_ne_ok d_17_8 (by decide)
theorem it_17_11 (Ls : Nat) (xs : Nat → Int32) : xPI Ls xs md_17 11 (.inr (.inr 3)) := by
  exact ⟨53, 57, 79, ex_ix 0, "no symbol", ex_rx 0, ex_nm, rfl, rfl, rfl, d_17_11, d_17_14, d_17_15, d_17_17, d_17_20, ex_0 0 (by decide), ex_1 0 (by decide), ex_2 0 (by decide), ex_5 0 (by decide), ex_f 0 (by decide), ex_n, tw_273, tw_274, tw_11, by decide +kernel, ow_0⟩
theorem it_17_21 (Ls : Nat) (xs : Nat → Int32) : xPI Ls xs md_17 21 (.inl (xs_al 0 22)) := by
  exact xs_aload_n_ok d_17_21 rfl
theorem it_17_22 (Ls : Nat) (xs : Nat → Int32) : xPI Ls xs md_17 22 (.inl (xs_gf 0 4 25)) := by
  exact xs_gf_ok d_17_22 (C := R_0) (T := T_0) (N := N_0) rfl in_0 (by decide) tw_181
theorem it_17_25 (Ls : Nat) (xs : Nat → Int32) : xPI Ls xs md_17 25 (.inl (xs_if_ne 38 28)) := by
  exact xs_if_ne_ok d_17_25 (by decide)
theorem it_17_28 (Ls : Nat) (xs : Nat → Int32) : xPI Ls xs md_17 28 (.inl (xs_al 0 29)) := by
  exact xs_aload_n_ok d_17_28 rfl
theorem it_17_29 (Ls : Nat) (xs : Nat → Int32) : xPI Ls xs md_17 29 (.inl (xs_gf 0 0 32)) := by
  exact xs_gf_ok d_17_29 (C := R_0) (T := T_0) (N := N_0) rfl in_0 (by decide) tw_177
theorem it_17_32 (Ls : Nat) (xs : Nat → Int32) : xPI Ls xs md_17 32 (.inr (.inl (46, 1, 3, []))) := by
  exact ⟨md_46, rfl, tw_2, by decide, ⟨by decide, by decide⟩, Or.inr (Or.inr ⟨1, R_1, T_1, N_1, 81, 0, rfl, rfl, rfl, rfl, d_17_32, tw_379, tw_380, tw_381, by decide +kernel, (fun x q h => by cases h)⟩)⟩
theorem it_17_35 (Ls : Nat) (xs : Nat → Int32) : xPI Ls xs md_17 35 (.inl (xs_if_ne 48 38)) := by
  exact xs_if_ne_ok d_17_35 (by decide)
theorem it_17_38 (Ls : Nat) (xs : Nat → Int32) : xPI Ls xs md_17 38 (.inr (.inr 4)) := by
  exact ⟨64, 68, 84, ex_ix 1, "there is a table, no production, or no room", ex_rx 1, ex_nm, rfl, rfl, rfl, d_17_38, d_17_41, d_17_42, d_17_44, d_17_47, ex_0 1 (by decide), ex_1 1 (by decide), ex_2 1 (by decide), ex_5 1 (by decide), ex_f 1 (by decide), ex_n, tw_347, tw_348, tw_12, by decide +kernel, ow_1⟩
theorem it_17_48 (Ls : Nat) (xs : Nat → Int32) : xPI Ls xs md_17 48 (.inl (xs_al 0 49)) := by
  exact xs_aload_n_ok d_17_48 rfl
theorem it_17_49 (Ls : Nat) (xs : Nat → Int32) : xPI Ls xs md_17 49 (.inl (xs_gf 0 2 52)) := by
  exact xs_gf_ok d_17_49 (C := R_0) (T := T_0) (N := N_0) rfl in_0 (by decide) tw_179
theorem it_17_52 (Ls : Nat) (xs : Nat → Int32) : xPI Ls xs md_17 52 (.inr (.inl (57, 1, 6, []))) := by
  exact ⟨md_57, rfl, tw_5, by decide, ⟨by decide, by decide⟩, Or.inr (Or.inr ⟨4, R_4, T_4, N_4, 69, 0, rfl, rfl, rfl, rfl, d_17_52, tw_205, tw_206, tw_207, by decide +kernel, (fun x q h => by cases h)⟩)⟩
theorem it_17_55 (Ls : Nat) (xs : Nat → Int32) : xPI Ls xs md_17 55 (.inl (xs_al 0 56)) := by
  exact xs_aload_n_ok d_17_55 rfl
theorem it_17_56 (Ls : Nat) (xs : Nat → Int32) : xPI Ls xs md_17 56 (.inl (xs_gf 0 0 59)) := by
  exact xs_gf_ok d_17_56 (C := R_0) (T := T_0) (N := N_0) rfl in_0 (by decide) tw_177
theorem it_17_59 (Ls : Nat) (xs : Nat → Int32) : xPI Ls xs md_17 59 (.inl (xs_il 1 60)) := by
  exact xs_iload_n_ok d_17_59 rfl
theorem it_17_63 (Ls : Nat) (xs : Nat → Int32) : xPI Ls xs md_17 63 (.inr (.inr 0)) := by
  exact ⟨rfl, d_17_63⟩
def K_17 (Ls : Nat) (xs : Nat → Int32) : Nat → Option xK := xbt 29 (xbt 11 (xbt 4 (xbt 1 (xlf 0 (.inl (xs_al 0 1))) (xlf 1 (.inl (xs_gf 0 0 4)))) (xbt 5 (xlf 4 (.inl (xs_il 1 5))) (xbt 8 (xlf 5 (.inr (.inl (40, 2, 3, [])))) (xlf 8 (.inl (xs_if_ne 21 11)))))) (xbt 22 (xbt 21 (xlf 11 (.inr (.inr 3))) (xlf 21 (.inl (xs_al 0 22)))) (xbt 25 (xlf 22 (.inl (xs_gf 0 4 25))) (xbt 28 (xlf 25 (.inl (xs_if_ne 38 28))) (xlf 28 (.inl (xs_al 0 29))))))) (xbt 49 (xbt 35 (xbt 32 (xlf 29 (.inl (xs_gf 0 0 32))) (xlf 32 (.inr (.inl (46, 1, 3, []))))) (xbt 38 (xlf 35 (.inl (xs_if_ne 48 38))) (xbt 48 (xlf 38 (.inr (.inr 4))) (xlf 48 (.inl (xs_al 0 49)))))) (xbt 56 (xbt 52 (xlf 49 (.inl (xs_gf 0 2 52))) (xbt 55 (xlf 52 (.inr (.inl (57, 1, 6, [])))) (xlf 55 (.inl (xs_al 0 56))))) (xbt 59 (xlf 56 (.inl (xs_gf 0 0 59))) (xbt 63 (xlf 59 (.inl (xs_il 1 60))) (xlf 63 (.inr (.inr 0)))))))
theorem ok_17 (Ls : Nat) (xs : Nat → Int32) : ∀ pc it, K_17 Ls xs pc = some it → xPI Ls xs md_17 pc it := by
  unfold K_17
  exact xbt_ok (xbt_ok (xbt_ok (xbt_ok (xlf_ok (it_17_0 Ls xs)) (xlf_ok (it_17_1 Ls xs))) (xbt_ok (xlf_ok (it_17_4 Ls xs)) (xbt_ok (xlf_ok (it_17_5 Ls xs)) (xlf_ok (it_17_8 Ls xs))))) (xbt_ok (xbt_ok (xlf_ok (it_17_11 Ls xs)) (xlf_ok (it_17_21 Ls xs))) (xbt_ok (xlf_ok (it_17_22 Ls xs)) (xbt_ok (xlf_ok (it_17_25 Ls xs)) (xlf_ok (it_17_28 Ls xs)))))) (xbt_ok (xbt_ok (xbt_ok (xlf_ok (it_17_29 Ls xs)) (xlf_ok (it_17_32 Ls xs))) (xbt_ok (xlf_ok (it_17_35 Ls xs)) (xbt_ok (xlf_ok (it_17_38 Ls xs)) (xlf_ok (it_17_48 Ls xs))))) (xbt_ok (xbt_ok (xlf_ok (it_17_49 Ls xs)) (xbt_ok (xlf_ok (it_17_52 Ls xs)) (xlf_ok (it_17_55 Ls xs)))) (xbt_ok (xlf_ok (it_17_56 Ls xs)) (xbt_ok (xlf_ok (it_17_59 Ls xs)) (xlf_ok (it_17_63 Ls xs))))))
theorem d_18_0 : decode prog_1_method_4_code 0 = .ok (.aload_n 0, 1) := by decide +kernel
theorem d_18_1 : decode prog_1_method_4_code 1 = .ok (.iconst (0), 1) := by decide +kernel
theorem d_18_2 : decode prog_1_method_4_code 2 = .ok (.putfield 45, 3) := by decide +kernel
theorem d_18_5 : decode prog_1_method_4_code 5 = .ok (.aload_n 0, 1) := by decide +kernel
theorem d_18_6 : decode prog_1_method_4_code 6 = .ok (.getfield 41, 3) := by decide +kernel
theorem d_18_9 : decode prog_1_method_4_code 9 = .ok (.invokevirtual 90, 3) := by decide +kernel
theorem d_18_12 : decode prog_1_method_4_code 12 = .ok (.return_, 1) := by decide +kernel
theorem it_18_0 (Ls : Nat) (xs : Nat → Int32) : xPI Ls xs md_18 0 (.inl (xs_al 0 1)) := by
  exact xs_aload_n_ok d_18_0 rfl
theorem it_18_1 (Ls : Nat) (xs : Nat → Int32) : xPI Ls xs md_18 1 (.inl (xs_c (0) 2)) := by
  exact xs_iconst_ok d_18_1 (by decide)
theorem it_18_2 (Ls : Nat) (xs : Nat → Int32) : xPI Ls xs md_18 2 (.inl (xs_pf 0 4 1 5)) := by
  exact xs_pf_ok d_18_2 (C := R_0) (T := T_0) (N := N_0) (ty0 := Y_0) rfl in_0 ty_0 nm_0 (by decide) tw_181 (Or.inl rfl) rfl
theorem it_18_5 (Ls : Nat) (xs : Nat → Int32) : xPI Ls xs md_18 5 (.inl (xs_al 0 6)) := by
  exact xs_aload_n_ok d_18_5 rfl
theorem it_18_6 (Ls : Nat) (xs : Nat → Int32) : xPI Ls xs md_18 6 (.inl (xs_gf 0 3 9)) := by
  exact xs_gf_ok d_18_6 (C := R_0) (T := T_0) (N := N_0) rfl in_0 (by decide) tw_180
theorem it_18_9 (Ls : Nat) (xs : Nat → Int32) : xPI Ls xs md_18 9 (.inr (.inl (61, 1, 7, []))) := by
  exact ⟨md_61, rfl, tw_6, by decide, ⟨by decide, by decide⟩, Or.inr (Or.inr ⟨5, R_5, T_5, N_5, 90, 0, rfl, rfl, rfl, rfl, d_18_9, tw_197, tw_198, tw_199, by decide +kernel, (fun x q h => by cases h)⟩)⟩
theorem it_18_12 (Ls : Nat) (xs : Nat → Int32) : xPI Ls xs md_18 12 (.inr (.inr 0)) := by
  exact ⟨rfl, d_18_12⟩
def K_18 (Ls : Nat) (xs : Nat → Int32) : Nat → Option xK := xbt 5 (xbt 1 (xlf 0 (.inl (xs_al 0 1))) (xbt 2 (xlf 1 (.inl (xs_c (0) 2))) (xlf 2 (.inl (xs_pf 0 4 1 5))))) (xbt 9 (xbt 6 (xlf 5 (.inl (xs_al 0 6))) (xlf 6 (.inl (xs_gf 0 3 9)))) (xbt 12 (xlf 9 (.inr (.inl (61, 1, 7, [])))) (xlf 12 (.inr (.inr 0)))))
theorem ok_18 (Ls : Nat) (xs : Nat → Int32) : ∀ pc it, K_18 Ls xs pc = some it → xPI Ls xs md_18 pc it := by
  unfold K_18
  exact xbt_ok (xbt_ok (xlf_ok (it_18_0 Ls xs)) (xbt_ok (xlf_ok (it_18_1 Ls xs)) (xlf_ok (it_18_2 Ls xs)))) (xbt_ok (xbt_ok (xlf_ok (it_18_5 Ls xs)) (xlf_ok (it_18_6 Ls xs))) (xbt_ok (xlf_ok (it_18_9 Ls xs)) (xlf_ok (it_18_12 Ls xs))))
theorem d_19_0 : decode prog_1_method_5_code 0 = .ok (.aload_n 0, 1) := by decide +kernel
theorem d_19_1 : decode prog_1_method_5_code 1 = .ok (.iconst (0), 1) := by decide +kernel
theorem d_19_2 : decode prog_1_method_5_code 2 = .ok (.putfield 45, 3) := by decide +kernel
theorem d_19_5 : decode prog_1_method_5_code 5 = .ok (.aload_n 0, 1) := by decide +kernel
theorem d_19_6 : decode prog_1_method_5_code 6 = .ok (.getfield 41, 3) := by decide +kernel
theorem d_19_9 : decode prog_1_method_5_code 9 = .ok (.invokevirtual 90, 3) := by decide +kernel
theorem d_19_12 : decode prog_1_method_5_code 12 = .ok (.aload_n 0, 1) := by decide +kernel
theorem d_19_13 : decode prog_1_method_5_code 13 = .ok (.getfield 32, 3) := by decide +kernel
theorem d_19_16 : decode prog_1_method_5_code 16 = .ok (.invokevirtual 69, 3) := by decide +kernel
theorem d_19_19 : decode prog_1_method_5_code 19 = .ok (.aload_n 0, 1) := by decide +kernel
theorem d_19_20 : decode prog_1_method_5_code 20 = .ok (.getfield 14, 3) := by decide +kernel
theorem d_19_23 : decode prog_1_method_5_code 23 = .ok (.invokevirtual 93, 3) := by decide +kernel
theorem d_19_26 : decode prog_1_method_5_code 26 = .ok (.return_, 1) := by decide +kernel
theorem it_19_0 (Ls : Nat) (xs : Nat → Int32) : xPI Ls xs md_19 0 (.inl (xs_al 0 1)) := by
  exact xs_aload_n_ok d_19_0 rfl
theorem it_19_1 (Ls : Nat) (xs : Nat → Int32) : xPI Ls xs md_19 1 (.inl (xs_c (0) 2)) := by
  exact xs_iconst_ok d_19_1 (by decide)
theorem it_19_2 (Ls : Nat) (xs : Nat → Int32) : xPI Ls xs md_19 2 (.inl (xs_pf 0 4 1 5)) := by
  exact xs_pf_ok d_19_2 (C := R_0) (T := T_0) (N := N_0) (ty0 := Y_0) rfl in_0 ty_0 nm_0 (by decide) tw_181 (Or.inl rfl) rfl
theorem it_19_5 (Ls : Nat) (xs : Nat → Int32) : xPI Ls xs md_19 5 (.inl (xs_al 0 6)) := by
  exact xs_aload_n_ok d_19_5 rfl
theorem it_19_6 (Ls : Nat) (xs : Nat → Int32) : xPI Ls xs md_19 6 (.inl (xs_gf 0 3 9)) := by
  exact xs_gf_ok d_19_6 (C := R_0) (T := T_0) (N := N_0) rfl in_0 (by decide) tw_180
theorem it_19_9 (Ls : Nat) (xs : Nat → Int32) : xPI Ls xs md_19 9 (.inr (.inl (61, 1, 7, []))) := by
  exact ⟨md_61, rfl, tw_6, by decide, ⟨by decide, by decide⟩, Or.inr (Or.inr ⟨5, R_5, T_5, N_5, 90, 0, rfl, rfl, rfl, rfl, d_19_9, tw_197, tw_198, tw_199, by decide +kernel, (fun x q h => by cases h)⟩)⟩
theorem it_19_12 (Ls : Nat) (xs : Nat → Int32) : xPI Ls xs md_19 12 (.inl (xs_al 0 13)) := by
  exact xs_aload_n_ok d_19_12 rfl
theorem it_19_13 (Ls : Nat) (xs : Nat → Int32) : xPI Ls xs md_19 13 (.inl (xs_gf 0 2 16)) := by
  exact xs_gf_ok d_19_13 (C := R_0) (T := T_0) (N := N_0) rfl in_0 (by decide) tw_179
theorem it_19_16 (Ls : Nat) (xs : Nat → Int32) : xPI Ls xs md_19 16 (.inr (.inl (57, 1, 6, []))) := by
  exact ⟨md_57, rfl, tw_5, by decide, ⟨by decide, by decide⟩, Or.inr (Or.inr ⟨4, R_4, T_4, N_4, 69, 0, rfl, rfl, rfl, rfl, d_19_16, tw_205, tw_206, tw_207, by decide +kernel, (fun x q h => by cases h)⟩)⟩
theorem it_19_19 (Ls : Nat) (xs : Nat → Int32) : xPI Ls xs md_19 19 (.inl (xs_al 0 20)) := by
  exact xs_aload_n_ok d_19_19 rfl
theorem it_19_20 (Ls : Nat) (xs : Nat → Int32) : xPI Ls xs md_19 20 (.inl (xs_gf 0 0 23)) := by
  exact xs_gf_ok d_19_20 (C := R_0) (T := T_0) (N := N_0) rfl in_0 (by decide) tw_177
theorem it_19_23 (Ls : Nat) (xs : Nat → Int32) : xPI Ls xs md_19 23 (.inr (.inl (48, 1, 3, []))) := by
  exact ⟨md_48, rfl, tw_2, by decide, ⟨by decide, by decide⟩, Or.inr (Or.inr ⟨1, R_1, T_1, N_1, 93, 0, rfl, rfl, rfl, rfl, d_19_23, tw_209, tw_210, tw_211, by decide +kernel, (fun x q h => by cases h)⟩)⟩
theorem it_19_26 (Ls : Nat) (xs : Nat → Int32) : xPI Ls xs md_19 26 (.inr (.inr 0)) := by
  exact ⟨rfl, d_19_26⟩
def K_19 (Ls : Nat) (xs : Nat → Int32) : Nat → Option xK := xbt 12 (xbt 5 (xbt 1 (xlf 0 (.inl (xs_al 0 1))) (xbt 2 (xlf 1 (.inl (xs_c (0) 2))) (xlf 2 (.inl (xs_pf 0 4 1 5))))) (xbt 6 (xlf 5 (.inl (xs_al 0 6))) (xbt 9 (xlf 6 (.inl (xs_gf 0 3 9))) (xlf 9 (.inr (.inl (61, 1, 7, []))))))) (xbt 19 (xbt 13 (xlf 12 (.inl (xs_al 0 13))) (xbt 16 (xlf 13 (.inl (xs_gf 0 2 16))) (xlf 16 (.inr (.inl (57, 1, 6, [])))))) (xbt 23 (xbt 20 (xlf 19 (.inl (xs_al 0 20))) (xlf 20 (.inl (xs_gf 0 0 23)))) (xbt 26 (xlf 23 (.inr (.inl (48, 1, 3, [])))) (xlf 26 (.inr (.inr 0))))))
theorem ok_19 (Ls : Nat) (xs : Nat → Int32) : ∀ pc it, K_19 Ls xs pc = some it → xPI Ls xs md_19 pc it := by
  unfold K_19
  exact xbt_ok (xbt_ok (xbt_ok (xlf_ok (it_19_0 Ls xs)) (xbt_ok (xlf_ok (it_19_1 Ls xs)) (xlf_ok (it_19_2 Ls xs)))) (xbt_ok (xlf_ok (it_19_5 Ls xs)) (xbt_ok (xlf_ok (it_19_6 Ls xs)) (xlf_ok (it_19_9 Ls xs))))) (xbt_ok (xbt_ok (xlf_ok (it_19_12 Ls xs)) (xbt_ok (xlf_ok (it_19_13 Ls xs)) (xlf_ok (it_19_16 Ls xs)))) (xbt_ok (xbt_ok (xlf_ok (it_19_19 Ls xs)) (xlf_ok (it_19_20 Ls xs))) (xbt_ok (xlf_ok (it_19_23 Ls xs)) (xlf_ok (it_19_26 Ls xs)))))
theorem d_20_0 : decode prog_1_method_6_code 0 = .ok (.aload_n 0, 1) := by decide +kernel
theorem d_20_1 : decode prog_1_method_6_code 1 = .ok (.getfield 45, 3) := by decide +kernel
theorem d_20_4 : decode prog_1_method_6_code 4 = .ok (.ifCond .ne (13), 3) := by decide +kernel
theorem d_20_7 : decode prog_1_method_6_code 7 = .ok (.aload_n 0, 1) := by decide +kernel
theorem d_20_8 : decode prog_1_method_6_code 8 = .ok (.getfield 14, 3) := by decide +kernel
theorem d_20_11 : decode prog_1_method_6_code 11 = .ok (.invokevirtual 96, 3) := by decide +kernel
theorem d_20_14 : decode prog_1_method_6_code 14 = .ok (.ifCond .eq (13), 3) := by decide +kernel
theorem d_20_17 : decode prog_1_method_6_code 17 = .ok (.new 64, 3) := by decide +kernel
theorem d_20_20 : decode prog_1_method_6_code 20 = .ok (.dup, 1) := by decide +kernel
theorem d_20_21 : decode prog_1_method_6_code 21 = .ok (.ldc 99, 2) := by decide +kernel
theorem d_20_23 : decode prog_1_method_6_code 23 = .ok (.invokespecial 68, 3) := by decide +kernel
theorem d_20_26 : decode prog_1_method_6_code 26 = .ok (.athrow, 1) := by decide +kernel
theorem d_20_27 : decode prog_1_method_6_code 27 = .ok (.aload_n 0, 1) := by decide +kernel
theorem d_20_28 : decode prog_1_method_6_code 28 = .ok (.getfield 32, 3) := by decide +kernel
theorem d_20_31 : decode prog_1_method_6_code 31 = .ok (.invokevirtual 69, 3) := by decide +kernel
theorem d_20_34 : decode prog_1_method_6_code 34 = .ok (.aload_n 0, 1) := by decide +kernel
theorem d_20_35 : decode prog_1_method_6_code 35 = .ok (.getfield 23, 3) := by decide +kernel
theorem d_20_41 : decode prog_1_method_6_code 41 = .ok (.ifCond .ne (13), 3) := by decide +kernel
theorem d_20_47 : decode prog_1_method_6_code 47 = .ok (.dup, 1) := by decide +kernel
theorem d_20_54 : decode prog_1_method_6_code 54 = .ok (.aload_n 0, 1) := by decide +kernel
theorem d_20_55 : decode prog_1_method_6_code 55 = .ok (.getfield 32, 3) := by decide +kernel
theorem d_20_61 : decode prog_1_method_6_code 61 = .ok (.ifCond .ne (13), 3) := by decide +kernel
theorem d_20_67 : decode prog_1_method_6_code 67 = .ok (.dup, 1) := by decide +kernel
theorem d_20_74 : decode prog_1_method_6_code 74 = .ok (.aload_n 0, 1) := by decide +kernel
theorem d_20_75 : decode prog_1_method_6_code 75 = .ok (.iconst (1), 1) := by decide +kernel
theorem d_20_76 : decode prog_1_method_6_code 76 = .ok (.putfield 45, 3) := by decide +kernel
theorem d_20_79 : decode prog_1_method_6_code 79 = .ok (.aload_n 0, 1) := by decide +kernel
theorem d_20_80 : decode prog_1_method_6_code 80 = .ok (.getfield 23, 3) := by decide +kernel
theorem d_20_86 : decode prog_1_method_6_code 86 = .ok (.ireturn, 1) := by decide +kernel
theorem it_20_0 (Ls : Nat) (xs : Nat → Int32) : xPI Ls xs md_20 0 (.inl (xs_al 0 1)) := by
  exact xs_aload_n_ok d_20_0 rfl
theorem it_20_1 (Ls : Nat) (xs : Nat → Int32) : xPI Ls xs md_20 1 (.inl (xs_gf 0 4 4)) := by
  exact xs_gf_ok d_20_1 (C := R_0) (T := T_0) (N := N_0) rfl in_0 (by decide) tw_181
theorem it_20_4 (Ls : Nat) (xs : Nat → Int32) : xPI Ls xs md_20 4 (.inl (xs_if_ne 17 7)) := by
  exact xs_if_ne_ok d_20_4 (by decide)
theorem it_20_7 (Ls : Nat) (xs : Nat → Int32) : xPI Ls xs md_20 7 (.inl (xs_al 0 8)) := by
  exact xs_aload_n_ok d_20_7 rfl
theorem it_20_8 (Ls : Nat) (xs : Nat → Int32) : xPI Ls xs md_20 8 (.inl (xs_gf 0 0 11)) := by
  exact xs_gf_ok d_20_8 (C := R_0) (T := T_0) (N := N_0) rfl in_0 (by decide) tw_177
theorem it_20_11 (Ls : Nat) (xs : Nat → Int32) : xPI Ls xs md_20 11 (.inr (.inl (44, 1, 3, []))) := by
  exact ⟨md_44, rfl, tw_2, by decide, ⟨by decide, by decide⟩, Or.inr (Or.inr ⟨1, R_1, T_1, N_1, 96, 0, rfl, rfl, rfl, rfl, d_20_11, tw_397, tw_398, tw_399, by decide +kernel, (fun x q h => by cases h)⟩)⟩
theorem it_20_14 (Ls : Nat) (xs : Nat → Int32) : xPI Ls xs md_20 14 (.inl (xs_if_eq 27 17)) := by
  exact xs_if_eq_ok d_20_14 (by decide)
theorem it_20_17 (Ls : Nat) (xs : Nat → Int32) : xPI Ls xs md_20 17 (.inr (.inr 4)) := by
  exact ⟨64, 68, 99, ex_ix 1, "there is a table, or no production", ex_rx 1, ex_nm, rfl, rfl, rfl, d_20_17, d_20_20, d_20_21, d_20_23, d_20_26, ex_0 1 (by decide), ex_1 1 (by decide), ex_2 1 (by decide), ex_5 1 (by decide), ex_f 1 (by decide), ex_n, tw_347, tw_348, tw_12, by decide +kernel, ow_1⟩
theorem it_20_27 (Ls : Nat) (xs : Nat → Int32) : xPI Ls xs md_20 27 (.inl (xs_al 0 28)) := by
  exact xs_aload_n_ok d_20_27 rfl
theorem it_20_28 (Ls : Nat) (xs : Nat → Int32) : xPI Ls xs md_20 28 (.inl (xs_gf 0 2 31)) := by
  exact xs_gf_ok d_20_28 (C := R_0) (T := T_0) (N := N_0) rfl in_0 (by decide) tw_179
theorem it_20_31 (Ls : Nat) (xs : Nat → Int32) : xPI Ls xs md_20 31 (.inr (.inl (57, 1, 6, []))) := by
  exact ⟨md_57, rfl, tw_5, by decide, ⟨by decide, by decide⟩, Or.inr (Or.inr ⟨4, R_4, T_4, N_4, 69, 0, rfl, rfl, rfl, rfl, d_20_31, tw_205, tw_206, tw_207, by decide +kernel, (fun x q h => by cases h)⟩)⟩
theorem it_20_34 (Ls : Nat) (xs : Nat → Int32) : xPI Ls xs md_20 34 (.inl (xs_al 0 35)) := by
  exact xs_aload_n_ok d_20_34 rfl
theorem it_20_35 (Ls : Nat) (xs : Nat → Int32) : xPI Ls xs md_20 35 (.inl (xs_gf 0 1 38)) := by
  exact xs_gf_ok d_20_35 (C := R_0) (T := T_0) (N := N_0) rfl in_0 (by decide) tw_178
theorem it_20_41 (Ls : Nat) (xs : Nat → Int32) : xPI Ls xs md_20 41 (.inl (xs_if_ne 54 44)) := by
  exact xs_if_ne_ok d_20_41 (by decide)
theorem it_20_47 (Ls : Nat) (xs : Nat → Int32) : xPI Ls xs md_20 47 (.inl (xs_dup 48)) := by
  exact xs_dup_ok d_20_47
theorem it_20_54 (Ls : Nat) (xs : Nat → Int32) : xPI Ls xs md_20 54 (.inl (xs_al 0 55)) := by
  exact xs_aload_n_ok d_20_54 rfl
theorem it_20_55 (Ls : Nat) (xs : Nat → Int32) : xPI Ls xs md_20 55 (.inl (xs_gf 0 2 58)) := by
  exact xs_gf_ok d_20_55 (C := R_0) (T := T_0) (N := N_0) rfl in_0 (by decide) tw_179
theorem it_20_61 (Ls : Nat) (xs : Nat → Int32) : xPI Ls xs md_20 61 (.inl (xs_if_ne 74 64)) := by
  exact xs_if_ne_ok d_20_61 (by decide)
theorem it_20_67 (Ls : Nat) (xs : Nat → Int32) : xPI Ls xs md_20 67 (.inl (xs_dup 68)) := by
  exact xs_dup_ok d_20_67
theorem it_20_74 (Ls : Nat) (xs : Nat → Int32) : xPI Ls xs md_20 74 (.inl (xs_al 0 75)) := by
  exact xs_aload_n_ok d_20_74 rfl
theorem it_20_75 (Ls : Nat) (xs : Nat → Int32) : xPI Ls xs md_20 75 (.inl (xs_c (1) 76)) := by
  exact xs_iconst_ok d_20_75 (by decide)
theorem it_20_76 (Ls : Nat) (xs : Nat → Int32) : xPI Ls xs md_20 76 (.inl (xs_pf 0 4 1 79)) := by
  exact xs_pf_ok d_20_76 (C := R_0) (T := T_0) (N := N_0) (ty0 := Y_0) rfl in_0 ty_0 nm_0 (by decide) tw_181 (Or.inl rfl) rfl
theorem it_20_79 (Ls : Nat) (xs : Nat → Int32) : xPI Ls xs md_20 79 (.inl (xs_al 0 80)) := by
  exact xs_aload_n_ok d_20_79 rfl
theorem it_20_80 (Ls : Nat) (xs : Nat → Int32) : xPI Ls xs md_20 80 (.inl (xs_gf 0 1 83)) := by
  exact xs_gf_ok d_20_80 (C := R_0) (T := T_0) (N := N_0) rfl in_0 (by decide) tw_178
theorem it_20_86 (Ls : Nat) (xs : Nat → Int32) : xPI Ls xs md_20 86 (.inr (.inr 1)) := by
  exact ⟨rfl, d_20_86⟩
def K_20 (Ls : Nat) (xs : Nat → Int32) : Nat → Option xK := xbt 35 (xbt 14 (xbt 7 (xbt 1 (xlf 0 (.inl (xs_al 0 1))) (xbt 4 (xlf 1 (.inl (xs_gf 0 4 4))) (xlf 4 (.inl (xs_if_ne 17 7))))) (xbt 8 (xlf 7 (.inl (xs_al 0 8))) (xbt 11 (xlf 8 (.inl (xs_gf 0 0 11))) (xlf 11 (.inr (.inl (44, 1, 3, []))))))) (xbt 28 (xbt 17 (xlf 14 (.inl (xs_if_eq 27 17))) (xbt 27 (xlf 17 (.inr (.inr 4))) (xlf 27 (.inl (xs_al 0 28))))) (xbt 31 (xlf 28 (.inl (xs_gf 0 2 31))) (xbt 34 (xlf 31 (.inr (.inl (57, 1, 6, [])))) (xlf 34 (.inl (xs_al 0 35))))))) (xbt 67 (xbt 54 (xbt 41 (xlf 35 (.inl (xs_gf 0 1 38))) (xbt 47 (xlf 41 (.inl (xs_if_ne 54 44))) (xlf 47 (.inl (xs_dup 48))))) (xbt 55 (xlf 54 (.inl (xs_al 0 55))) (xbt 61 (xlf 55 (.inl (xs_gf 0 2 58))) (xlf 61 (.inl (xs_if_ne 74 64)))))) (xbt 76 (xbt 74 (xlf 67 (.inl (xs_dup 68))) (xbt 75 (xlf 74 (.inl (xs_al 0 75))) (xlf 75 (.inl (xs_c (1) 76))))) (xbt 80 (xbt 79 (xlf 76 (.inl (xs_pf 0 4 1 79))) (xlf 79 (.inl (xs_al 0 80)))) (xbt 86 (xlf 80 (.inl (xs_gf 0 1 83))) (xlf 86 (.inr (.inr 1)))))))
theorem ok_20 (Ls : Nat) (xs : Nat → Int32) : ∀ pc it, K_20 Ls xs pc = some it → xPI Ls xs md_20 pc it := by
  unfold K_20
  exact xbt_ok (xbt_ok (xbt_ok (xbt_ok (xlf_ok (it_20_0 Ls xs)) (xbt_ok (xlf_ok (it_20_1 Ls xs)) (xlf_ok (it_20_4 Ls xs)))) (xbt_ok (xlf_ok (it_20_7 Ls xs)) (xbt_ok (xlf_ok (it_20_8 Ls xs)) (xlf_ok (it_20_11 Ls xs))))) (xbt_ok (xbt_ok (xlf_ok (it_20_14 Ls xs)) (xbt_ok (xlf_ok (it_20_17 Ls xs)) (xlf_ok (it_20_27 Ls xs)))) (xbt_ok (xlf_ok (it_20_28 Ls xs)) (xbt_ok (xlf_ok (it_20_31 Ls xs)) (xlf_ok (it_20_34 Ls xs)))))) (xbt_ok (xbt_ok (xbt_ok (xlf_ok (it_20_35 Ls xs)) (xbt_ok (xlf_ok (it_20_41 Ls xs)) (xlf_ok (it_20_47 Ls xs)))) (xbt_ok (xlf_ok (it_20_54 Ls xs)) (xbt_ok (xlf_ok (it_20_55 Ls xs)) (xlf_ok (it_20_61 Ls xs))))) (xbt_ok (xbt_ok (xlf_ok (it_20_67 Ls xs)) (xbt_ok (xlf_ok (it_20_74 Ls xs)) (xlf_ok (it_20_75 Ls xs)))) (xbt_ok (xbt_ok (xlf_ok (it_20_76 Ls xs)) (xlf_ok (it_20_79 Ls xs))) (xbt_ok (xlf_ok (it_20_80 Ls xs)) (xlf_ok (it_20_86 Ls xs))))))
theorem d_21_0 : decode prog_1_method_7_code 0 = .ok (.iload_n 1, 1) := by decide +kernel
theorem d_21_1 : decode prog_1_method_7_code 1 = .ok (.ifCond .ne (11), 3) := by decide +kernel
theorem d_21_4 : decode prog_1_method_7_code 4 = .ok (.aload_n 0, 1) := by decide +kernel
theorem d_21_5 : decode prog_1_method_7_code 5 = .ok (.getfield 32, 3) := by decide +kernel
theorem d_21_8 : decode prog_1_method_7_code 8 = .ok (.invokevirtual 121, 3) := by decide +kernel
theorem d_21_11 : decode prog_1_method_7_code 11 = .ok (.ireturn, 1) := by decide +kernel
theorem d_21_12 : decode prog_1_method_7_code 12 = .ok (.iload_n 1, 1) := by decide +kernel
theorem d_21_13 : decode prog_1_method_7_code 13 = .ok (.iconst (1), 1) := by decide +kernel
theorem d_21_14 : decode prog_1_method_7_code 14 = .ok (.if_icmp .ne (13), 3) := by decide +kernel
theorem d_21_17 : decode prog_1_method_7_code 17 = .ok (.aload_n 0, 1) := by decide +kernel
theorem d_21_18 : decode prog_1_method_7_code 18 = .ok (.getfield 32, 3) := by decide +kernel
theorem d_21_21 : decode prog_1_method_7_code 21 = .ok (.invokevirtual 124, 3) := by decide +kernel
theorem d_21_24 : decode prog_1_method_7_code 24 = .ok (.goto (4), 3) := by decide +kernel
theorem d_21_27 : decode prog_1_method_7_code 27 = .ok (.iconst (-1), 1) := by decide +kernel
theorem d_21_28 : decode prog_1_method_7_code 28 = .ok (.ireturn, 1) := by decide +kernel
theorem it_21_0 (Ls : Nat) (xs : Nat → Int32) : xPI Ls xs md_21 0 (.inl (xs_il 1 1)) := by
  exact xs_iload_n_ok d_21_0 rfl
theorem it_21_1 (Ls : Nat) (xs : Nat → Int32) : xPI Ls xs md_21 1 (.inl (xs_if_ne 12 4)) := by
  exact xs_if_ne_ok d_21_1 (by decide)
theorem it_21_4 (Ls : Nat) (xs : Nat → Int32) : xPI Ls xs md_21 4 (.inl (xs_al 0 5)) := by
  exact xs_aload_n_ok d_21_4 rfl
theorem it_21_5 (Ls : Nat) (xs : Nat → Int32) : xPI Ls xs md_21 5 (.inl (xs_gf 0 2 8)) := by
  exact xs_gf_ok d_21_5 (C := R_0) (T := T_0) (N := N_0) rfl in_0 (by decide) tw_179
theorem it_21_8 (Ls : Nat) (xs : Nat → Int32) : xPI Ls xs md_21 8 (.inr (.inl (58, 1, 6, []))) := by
  exact ⟨md_58, rfl, tw_5, by decide, ⟨by decide, by decide⟩, Or.inr (Or.inr ⟨4, R_4, T_4, N_4, 121, 0, rfl, rfl, rfl, rfl, d_21_8, tw_217, tw_218, tw_219, by decide +kernel, (fun x q h => by cases h)⟩)⟩
theorem it_21_11 (Ls : Nat) (xs : Nat → Int32) : xPI Ls xs md_21 11 (.inr (.inr 1)) := by
  exact ⟨rfl, d_21_11⟩
theorem it_21_12 (Ls : Nat) (xs : Nat → Int32) : xPI Ls xs md_21 12 (.inl (xs_il 1 13)) := by
  exact xs_iload_n_ok d_21_12 rfl
theorem it_21_13 (Ls : Nat) (xs : Nat → Int32) : xPI Ls xs md_21 13 (.inl (xs_c (1) 14)) := by
  exact xs_iconst_ok d_21_13 (by decide)
theorem it_21_14 (Ls : Nat) (xs : Nat → Int32) : xPI Ls xs md_21 14 (.inl (xs_ic_ne 27 17)) := by
  exact xs_ic_ne_ok d_21_14 (by decide)
theorem it_21_17 (Ls : Nat) (xs : Nat → Int32) : xPI Ls xs md_21 17 (.inl (xs_al 0 18)) := by
  exact xs_aload_n_ok d_21_17 rfl
theorem it_21_18 (Ls : Nat) (xs : Nat → Int32) : xPI Ls xs md_21 18 (.inl (xs_gf 0 2 21)) := by
  exact xs_gf_ok d_21_18 (C := R_0) (T := T_0) (N := N_0) rfl in_0 (by decide) tw_179
theorem it_21_21 (Ls : Nat) (xs : Nat → Int32) : xPI Ls xs md_21 21 (.inr (.inl (59, 1, 6, []))) := by
  exact ⟨md_59, rfl, tw_5, by decide, ⟨by decide, by decide⟩, Or.inr (Or.inr ⟨4, R_4, T_4, N_4, 124, 0, rfl, rfl, rfl, rfl, d_21_21, tw_221, tw_222, tw_223, by decide +kernel, (fun x q h => by cases h)⟩)⟩
theorem it_21_24 (Ls : Nat) (xs : Nat → Int32) : xPI Ls xs md_21 24 (.inl (xs_goto 28)) := by
  exact xs_goto_ok d_21_24 (by decide)
theorem it_21_27 (Ls : Nat) (xs : Nat → Int32) : xPI Ls xs md_21 27 (.inl (xs_c (-1) 28)) := by
  exact xs_iconst_ok d_21_27 (by decide)
theorem it_21_28 (Ls : Nat) (xs : Nat → Int32) : xPI Ls xs md_21 28 (.inr (.inr 1)) := by
  exact ⟨rfl, d_21_28⟩
def K_21 (Ls : Nat) (xs : Nat → Int32) : Nat → Option xK := xbt 13 (xbt 5 (xbt 1 (xlf 0 (.inl (xs_il 1 1))) (xbt 4 (xlf 1 (.inl (xs_if_ne 12 4))) (xlf 4 (.inl (xs_al 0 5))))) (xbt 11 (xbt 8 (xlf 5 (.inl (xs_gf 0 2 8))) (xlf 8 (.inr (.inl (58, 1, 6, []))))) (xbt 12 (xlf 11 (.inr (.inr 1))) (xlf 12 (.inl (xs_il 1 13)))))) (xbt 21 (xbt 17 (xbt 14 (xlf 13 (.inl (xs_c (1) 14))) (xlf 14 (.inl (xs_ic_ne 27 17)))) (xbt 18 (xlf 17 (.inl (xs_al 0 18))) (xlf 18 (.inl (xs_gf 0 2 21))))) (xbt 27 (xbt 24 (xlf 21 (.inr (.inl (59, 1, 6, [])))) (xlf 24 (.inl (xs_goto 28)))) (xbt 28 (xlf 27 (.inl (xs_c (-1) 28))) (xlf 28 (.inr (.inr 1))))))
theorem ok_21 (Ls : Nat) (xs : Nat → Int32) : ∀ pc it, K_21 Ls xs pc = some it → xPI Ls xs md_21 pc it := by
  unfold K_21
  exact xbt_ok (xbt_ok (xbt_ok (xlf_ok (it_21_0 Ls xs)) (xbt_ok (xlf_ok (it_21_1 Ls xs)) (xlf_ok (it_21_4 Ls xs)))) (xbt_ok (xbt_ok (xlf_ok (it_21_5 Ls xs)) (xlf_ok (it_21_8 Ls xs))) (xbt_ok (xlf_ok (it_21_11 Ls xs)) (xlf_ok (it_21_12 Ls xs))))) (xbt_ok (xbt_ok (xbt_ok (xlf_ok (it_21_13 Ls xs)) (xlf_ok (it_21_14 Ls xs))) (xbt_ok (xlf_ok (it_21_17 Ls xs)) (xlf_ok (it_21_18 Ls xs)))) (xbt_ok (xbt_ok (xlf_ok (it_21_21 Ls xs)) (xlf_ok (it_21_24 Ls xs))) (xbt_ok (xlf_ok (it_21_27 Ls xs)) (xlf_ok (it_21_28 Ls xs)))))
theorem d_22_0 : decode prog_1_method_8_code 0 = .ok (.aload_n 0, 1) := by decide +kernel
theorem d_22_1 : decode prog_1_method_8_code 1 = .ok (.getfield 45, 3) := by decide +kernel
theorem d_22_4 : decode prog_1_method_8_code 4 = .ok (.ifCond .eq (13), 3) := by decide +kernel
theorem d_22_7 : decode prog_1_method_8_code 7 = .ok (.aload_n 0, 1) := by decide +kernel
theorem d_22_8 : decode prog_1_method_8_code 8 = .ok (.getfield 23, 3) := by decide +kernel
theorem d_22_14 : decode prog_1_method_8_code 14 = .ok (.goto (4), 3) := by decide +kernel
theorem d_22_17 : decode prog_1_method_8_code 17 = .ok (.iconst (0), 1) := by decide +kernel
theorem d_22_18 : decode prog_1_method_8_code 18 = .ok (.ireturn, 1) := by decide +kernel
theorem it_22_0 (Ls : Nat) (xs : Nat → Int32) : xPI Ls xs md_22 0 (.inl (xs_al 0 1)) := by
  exact xs_aload_n_ok d_22_0 rfl
theorem it_22_1 (Ls : Nat) (xs : Nat → Int32) : xPI Ls xs md_22 1 (.inl (xs_gf 0 4 4)) := by
  exact xs_gf_ok d_22_1 (C := R_0) (T := T_0) (N := N_0) rfl in_0 (by decide) tw_181
theorem it_22_4 (Ls : Nat) (xs : Nat → Int32) : xPI Ls xs md_22 4 (.inl (xs_if_eq 17 7)) := by
  exact xs_if_eq_ok d_22_4 (by decide)
theorem it_22_7 (Ls : Nat) (xs : Nat → Int32) : xPI Ls xs md_22 7 (.inl (xs_al 0 8)) := by
  exact xs_aload_n_ok d_22_7 rfl
theorem it_22_8 (Ls : Nat) (xs : Nat → Int32) : xPI Ls xs md_22 8 (.inl (xs_gf 0 1 11)) := by
  exact xs_gf_ok d_22_8 (C := R_0) (T := T_0) (N := N_0) rfl in_0 (by decide) tw_178
theorem it_22_14 (Ls : Nat) (xs : Nat → Int32) : xPI Ls xs md_22 14 (.inl (xs_goto 18)) := by
  exact xs_goto_ok d_22_14 (by decide)
theorem it_22_17 (Ls : Nat) (xs : Nat → Int32) : xPI Ls xs md_22 17 (.inl (xs_c (0) 18)) := by
  exact xs_iconst_ok d_22_17 (by decide)
theorem it_22_18 (Ls : Nat) (xs : Nat → Int32) : xPI Ls xs md_22 18 (.inr (.inr 1)) := by
  exact ⟨rfl, d_22_18⟩
def K_22 (Ls : Nat) (xs : Nat → Int32) : Nat → Option xK := xbt 8 (xbt 4 (xbt 1 (xlf 0 (.inl (xs_al 0 1))) (xlf 1 (.inl (xs_gf 0 4 4)))) (xbt 7 (xlf 4 (.inl (xs_if_eq 17 7))) (xlf 7 (.inl (xs_al 0 8))))) (xbt 17 (xbt 14 (xlf 8 (.inl (xs_gf 0 1 11))) (xlf 14 (.inl (xs_goto 18)))) (xbt 18 (xlf 17 (.inl (xs_c (0) 18))) (xlf 18 (.inr (.inr 1)))))
theorem ok_22 (Ls : Nat) (xs : Nat → Int32) : ∀ pc it, K_22 Ls xs pc = some it → xPI Ls xs md_22 pc it := by
  unfold K_22
  exact xbt_ok (xbt_ok (xbt_ok (xlf_ok (it_22_0 Ls xs)) (xlf_ok (it_22_1 Ls xs))) (xbt_ok (xlf_ok (it_22_4 Ls xs)) (xlf_ok (it_22_7 Ls xs)))) (xbt_ok (xbt_ok (xlf_ok (it_22_8 Ls xs)) (xlf_ok (it_22_14 Ls xs))) (xbt_ok (xlf_ok (it_22_17 Ls xs)) (xlf_ok (it_22_18 Ls xs))))
theorem d_23_0 : decode prog_1_method_9_code 0 = .ok (.aload_n 0, 1) := by decide +kernel
theorem d_23_1 : decode prog_1_method_9_code 1 = .ok (.iload_n 1, 1) := by decide +kernel
theorem d_23_2 : decode prog_1_method_9_code 2 = .ok (.invokevirtual 127, 3) := by decide +kernel
theorem d_23_5 : decode prog_1_method_9_code 5 = .ok (.ifCond .ne (13), 3) := by decide +kernel
theorem d_23_8 : decode prog_1_method_9_code 8 = .ok (.new 130, 3) := by decide +kernel
theorem d_23_11 : decode prog_1_method_9_code 11 = .ok (.dup, 1) := by decide +kernel
theorem d_23_12 : decode prog_1_method_9_code 12 = .ok (.ldc 132, 2) := by decide +kernel
theorem d_23_14 : decode prog_1_method_9_code 14 = .ok (.invokespecial 134, 3) := by decide +kernel
theorem d_23_17 : decode prog_1_method_9_code 17 = .ok (.athrow, 1) := by decide +kernel
theorem d_23_18 : decode prog_1_method_9_code 18 = .ok (.aload_n 0, 1) := by decide +kernel
theorem d_23_19 : decode prog_1_method_9_code 19 = .ok (.getfield 23, 3) := by decide +kernel
theorem d_23_22 : decode prog_1_method_9_code 22 = .ok (.iload_n 1, 1) := by decide +kernel
theorem d_23_26 : decode prog_1_method_9_code 26 = .ok (.ireturn, 1) := by decide +kernel
theorem it_23_0 (Ls : Nat) (xs : Nat → Int32) : xPI Ls xs md_23 0 (.inl (xs_al 0 1)) := by
  exact xs_aload_n_ok d_23_0 rfl
theorem it_23_1 (Ls : Nat) (xs : Nat → Int32) : xPI Ls xs md_23 1 (.inl (xs_il 1 2)) := by
  exact xs_iload_n_ok d_23_1 rfl
theorem it_23_2 (Ls : Nat) (xs : Nat → Int32) : xPI Ls xs md_23 2 (.inr (.inl (36, 2, 2, []))) := by
  exact ⟨md_36, rfl, tw_1, by decide, ⟨by decide, by decide⟩, Or.inr (Or.inr ⟨0, R_0, T_0, N_0, 127, 1, rfl, rfl, rfl, rfl, d_23_2, tw_600, tw_602, ts_TableMaker_isState, by decide +kernel, (fun x q h => by cases h)⟩)⟩
theorem it_23_5 (Ls : Nat) (xs : Nat → Int32) : xPI Ls xs md_23 5 (.inl (xs_if_ne 18 8)) := by
  exact xs_if_ne_ok d_23_5 (by decide)
theorem it_23_8 (Ls : Nat) (xs : Nat → Int32) : xPI Ls xs md_23 8 (.inr (.inr 5)) := by
  exact ⟨130, 134, 132, ex_ix 2, "no such state", ex_rx 2, ex_nm, rfl, rfl, rfl, d_23_8, d_23_11, d_23_12, d_23_14, d_23_17, ex_0 2 (by decide), ex_1 2 (by decide), ex_2 2 (by decide), ex_5 2 (by decide), ex_f 2 (by decide), ex_n, tw_604, tw_605, tw_17, by decide +kernel, ow_2⟩
theorem it_23_18 (Ls : Nat) (xs : Nat → Int32) : xPI Ls xs md_23 18 (.inl (xs_al 0 19)) := by
  exact xs_aload_n_ok d_23_18 rfl
theorem it_23_19 (Ls : Nat) (xs : Nat → Int32) : xPI Ls xs md_23 19 (.inl (xs_gf 0 1 22)) := by
  exact xs_gf_ok d_23_19 (C := R_0) (T := T_0) (N := N_0) rfl in_0 (by decide) tw_178
theorem it_23_22 (Ls : Nat) (xs : Nat → Int32) : xPI Ls xs md_23 22 (.inl (xs_il 1 23)) := by
  exact xs_iload_n_ok d_23_22 rfl
theorem it_23_26 (Ls : Nat) (xs : Nat → Int32) : xPI Ls xs md_23 26 (.inr (.inr 1)) := by
  exact ⟨rfl, d_23_26⟩
def K_23 (Ls : Nat) (xs : Nat → Int32) : Nat → Option xK := xbt 8 (xbt 2 (xbt 1 (xlf 0 (.inl (xs_al 0 1))) (xlf 1 (.inl (xs_il 1 2)))) (xbt 5 (xlf 2 (.inr (.inl (36, 2, 2, [])))) (xlf 5 (.inl (xs_if_ne 18 8))))) (xbt 19 (xbt 18 (xlf 8 (.inr (.inr 5))) (xlf 18 (.inl (xs_al 0 19)))) (xbt 22 (xlf 19 (.inl (xs_gf 0 1 22))) (xbt 26 (xlf 22 (.inl (xs_il 1 23))) (xlf 26 (.inr (.inr 1))))))
theorem ok_23 (Ls : Nat) (xs : Nat → Int32) : ∀ pc it, K_23 Ls xs pc = some it → xPI Ls xs md_23 pc it := by
  unfold K_23
  exact xbt_ok (xbt_ok (xbt_ok (xlf_ok (it_23_0 Ls xs)) (xlf_ok (it_23_1 Ls xs))) (xbt_ok (xlf_ok (it_23_2 Ls xs)) (xlf_ok (it_23_5 Ls xs)))) (xbt_ok (xbt_ok (xlf_ok (it_23_8 Ls xs)) (xlf_ok (it_23_18 Ls xs))) (xbt_ok (xlf_ok (it_23_19 Ls xs)) (xbt_ok (xlf_ok (it_23_22 Ls xs)) (xlf_ok (it_23_26 Ls xs)))))
theorem d_24_0 : decode prog_1_method_10_code 0 = .ok (.aload_n 0, 1) := by decide +kernel
theorem d_24_1 : decode prog_1_method_10_code 1 = .ok (.iload_n 1, 1) := by decide +kernel
theorem d_24_2 : decode prog_1_method_10_code 2 = .ok (.invokevirtual 127, 3) := by decide +kernel
theorem d_24_5 : decode prog_1_method_10_code 5 = .ok (.ifCond .eq (19), 3) := by decide +kernel
theorem d_24_8 : decode prog_1_method_10_code 8 = .ok (.iload_n 2, 1) := by decide +kernel
theorem d_24_9 : decode prog_1_method_10_code 9 = .ok (.ifCond .lt (15), 3) := by decide +kernel
theorem d_24_12 : decode prog_1_method_10_code 12 = .ok (.iload_n 2, 1) := by decide +kernel
theorem d_24_13 : decode prog_1_method_10_code 13 = .ok (.aload_n 0, 1) := by decide +kernel
theorem d_24_14 : decode prog_1_method_10_code 14 = .ok (.getfield 23, 3) := by decide +kernel
theorem d_24_17 : decode prog_1_method_10_code 17 = .ok (.iload_n 1, 1) := by decide +kernel
theorem d_24_21 : decode prog_1_method_10_code 21 = .ok (.if_icmp .lt (13), 3) := by decide +kernel
theorem d_24_24 : decode prog_1_method_10_code 24 = .ok (.new 130, 3) := by decide +kernel
theorem d_24_27 : decode prog_1_method_10_code 27 = .ok (.dup, 1) := by decide +kernel
theorem d_24_28 : decode prog_1_method_10_code 28 = .ok (.ldc 138, 2) := by decide +kernel
theorem d_24_30 : decode prog_1_method_10_code 30 = .ok (.invokespecial 134, 3) := by decide +kernel
theorem d_24_33 : decode prog_1_method_10_code 33 = .ok (.athrow, 1) := by decide +kernel
theorem d_24_34 : decode prog_1_method_10_code 34 = .ok (.iload_n 3, 1) := by decide +kernel
theorem d_24_35 : decode prog_1_method_10_code 35 = .ok (.ifCond .lt (8), 3) := by decide +kernel
theorem d_24_38 : decode prog_1_method_10_code 38 = .ok (.iload_n 3, 1) := by decide +kernel
theorem d_24_39 : decode prog_1_method_10_code 39 = .ok (.iconst (2), 1) := by decide +kernel
theorem d_24_40 : decode prog_1_method_10_code 40 = .ok (.if_icmp .le (13), 3) := by decide +kernel
theorem d_24_43 : decode prog_1_method_10_code 43 = .ok (.new 130, 3) := by decide +kernel
theorem d_24_46 : decode prog_1_method_10_code 46 = .ok (.dup, 1) := by decide +kernel
theorem d_24_47 : decode prog_1_method_10_code 47 = .ok (.ldc 140, 2) := by decide +kernel
theorem d_24_49 : decode prog_1_method_10_code 49 = .ok (.invokespecial 134, 3) := by decide +kernel
theorem d_24_52 : decode prog_1_method_10_code 52 = .ok (.athrow, 1) := by decide +kernel
theorem d_24_53 : decode prog_1_method_10_code 53 = .ok (.aload_n 0, 1) := by decide +kernel
theorem d_24_54 : decode prog_1_method_10_code 54 = .ok (.getfield 23, 3) := by decide +kernel
theorem d_24_57 : decode prog_1_method_10_code 57 = .ok (.iload_n 1, 1) := by decide +kernel
theorem d_24_58 : decode prog_1_method_10_code 58 = .ok (.iload_n 2, 1) := by decide +kernel
theorem d_24_59 : decode prog_1_method_10_code 59 = .ok (.iload_n 3, 1) := by decide +kernel
theorem d_24_63 : decode prog_1_method_10_code 63 = .ok (.ireturn, 1) := by decide +kernel
theorem it_24_0 (Ls : Nat) (xs : Nat → Int32) : xPI Ls xs md_24 0 (.inl (xs_al 0 1)) := by
  exact xs_aload_n_ok d_24_0 rfl
theorem it_24_1 (Ls : Nat) (xs : Nat → Int32) : xPI Ls xs md_24 1 (.inl (xs_il 1 2)) := by
  exact xs_iload_n_ok d_24_1 rfl
theorem it_24_2 (Ls : Nat) (xs : Nat → Int32) : xPI Ls xs md_24 2 (.inr (.inl (36, 2, 2, []))) := by
  exact ⟨md_36, rfl, tw_1, by decide, ⟨by decide, by decide⟩, Or.inr (Or.inr ⟨0, R_0, T_0, N_0, 127, 1, rfl, rfl, rfl, rfl, d_24_2, tw_600, tw_602, ts_TableMaker_isState, by decide +kernel, (fun x q h => by cases h)⟩)⟩
theorem it_24_5 (Ls : Nat) (xs : Nat → Int32) : xPI Ls xs md_24 5 (.inl (xs_if_eq 24 8)) := by
  exact xs_if_eq_ok d_24_5 (by decide)
theorem it_24_8 (Ls : Nat) (xs : Nat → Int32) : xPI Ls xs md_24 8 (.inl (xs_il 2 9)) := by
  exact xs_iload_n_ok d_24_8 rfl
theorem it_24_9 (Ls : Nat) (xs : Nat → Int32) : xPI Ls xs md_24 9 (.inl (xs_if_lt 24 12)) := by
  exact xs_if_lt_ok d_24_9 (by decide)
theorem it_24_12 (Ls : Nat) (xs : Nat → Int32) : xPI Ls xs md_24 12 (.inl (xs_il 2 13)) := by
  exact xs_iload_n_ok d_24_12 rfl
theorem it_24_13 (Ls : Nat) (xs : Nat → Int32) : xPI Ls xs md_24 13 (.inl (xs_al 0 14)) := by
  exact xs_aload_n_ok d_24_13 rfl
theorem it_24_14 (Ls : Nat) (xs : Nat → Int32) : xPI Ls xs md_24 14 (.inl (xs_gf 0 1 17)) := by
  exact xs_gf_ok d_24_14 (C := R_0) (T := T_0) (N := N_0) rfl in_0 (by decide) tw_178
theorem it_24_17 (Ls : Nat) (xs : Nat → Int32) : xPI Ls xs md_24 17 (.inl (xs_il 1 18)) := by
  exact xs_iload_n_ok d_24_17 rfl
theorem it_24_21 (Ls : Nat) (xs : Nat → Int32) : xPI Ls xs md_24 21 (.inl (xs_ic_lt 34 24)) := by
  exact xs_ic_lt_ok d_24_21 (by decide)
theorem it_24_24 (Ls : Nat) (xs : Nat → Int32) : xPI Ls xs md_24 24 (.inr (.inr 5)) := by
  exact ⟨130, 134, 138, ex_ix 2, "no such item", ex_rx 2, ex_nm, rfl, rfl, rfl, d_24_24, d_24_27, d_24_28, d_24_30, d_24_33, ex_0 2 (by decide), ex_1 2 (by decide), ex_2 2 (by decide), ex_5 2 (by decide), ex_f 2 (by decide), ex_n, tw_604, tw_605, tw_17, by decide +kernel, ow_2⟩
theorem it_24_34 (Ls : Nat) (xs : Nat → Int32) : xPI Ls xs md_24 34 (.inl (xs_il 3 35)) := by
  exact xs_iload_n_ok d_24_34 rfl
theorem it_24_35 (Ls : Nat) (xs : Nat → Int32) : xPI Ls xs md_24 35 (.inl (xs_if_lt 43 38)) := by
  exact xs_if_lt_ok d_24_35 (by decide)
theorem it_24_38 (Ls : Nat) (xs : Nat → Int32) : xPI Ls xs md_24 38 (.inl (xs_il 3 39)) := by
  exact xs_iload_n_ok d_24_38 rfl
theorem it_24_39 (Ls : Nat) (xs : Nat → Int32) : xPI Ls xs md_24 39 (.inl (xs_c (2) 40)) := by
  exact xs_iconst_ok d_24_39 (by decide)
theorem it_24_40 (Ls : Nat) (xs : Nat → Int32) : xPI Ls xs md_24 40 (.inl (xs_ic_le 53 43)) := by
  exact xs_ic_le_ok d_24_40 (by decide)
theorem it_24_43 (Ls : Nat) (xs : Nat → Int32) : xPI Ls xs md_24 43 (.inr (.inr 5)) := by
  exact ⟨130, 134, 140, ex_ix 2, "no such part of an item", ex_rx 2, ex_nm, rfl, rfl, rfl, d_24_43, d_24_46, d_24_47, d_24_49, d_24_52, ex_0 2 (by decide), ex_1 2 (by decide), ex_2 2 (by decide), ex_5 2 (by decide), ex_f 2 (by decide), ex_n, tw_604, tw_605, tw_17, by decide +kernel, ow_2⟩
theorem it_24_53 (Ls : Nat) (xs : Nat → Int32) : xPI Ls xs md_24 53 (.inl (xs_al 0 54)) := by
  exact xs_aload_n_ok d_24_53 rfl
theorem it_24_54 (Ls : Nat) (xs : Nat → Int32) : xPI Ls xs md_24 54 (.inl (xs_gf 0 1 57)) := by
  exact xs_gf_ok d_24_54 (C := R_0) (T := T_0) (N := N_0) rfl in_0 (by decide) tw_178
theorem it_24_57 (Ls : Nat) (xs : Nat → Int32) : xPI Ls xs md_24 57 (.inl (xs_il 1 58)) := by
  exact xs_iload_n_ok d_24_57 rfl
theorem it_24_58 (Ls : Nat) (xs : Nat → Int32) : xPI Ls xs md_24 58 (.inl (xs_il 2 59)) := by
  exact xs_iload_n_ok d_24_58 rfl
theorem it_24_59 (Ls : Nat) (xs : Nat → Int32) : xPI Ls xs md_24 59 (.inl (xs_il 3 60)) := by
  exact xs_iload_n_ok d_24_59 rfl
theorem it_24_63 (Ls : Nat) (xs : Nat → Int32) : xPI Ls xs md_24 63 (.inr (.inr 1)) := by
  exact ⟨rfl, d_24_63⟩
def K_24 (Ls : Nat) (xs : Nat → Int32) : Nat → Option xK := xbt 34 (xbt 12 (xbt 5 (xbt 1 (xlf 0 (.inl (xs_al 0 1))) (xbt 2 (xlf 1 (.inl (xs_il 1 2))) (xlf 2 (.inr (.inl (36, 2, 2, [])))))) (xbt 8 (xlf 5 (.inl (xs_if_eq 24 8))) (xbt 9 (xlf 8 (.inl (xs_il 2 9))) (xlf 9 (.inl (xs_if_lt 24 12)))))) (xbt 17 (xbt 13 (xlf 12 (.inl (xs_il 2 13))) (xbt 14 (xlf 13 (.inl (xs_al 0 14))) (xlf 14 (.inl (xs_gf 0 1 17))))) (xbt 21 (xlf 17 (.inl (xs_il 1 18))) (xbt 24 (xlf 21 (.inl (xs_ic_lt 34 24))) (xlf 24 (.inr (.inr 5))))))) (xbt 53 (xbt 39 (xbt 35 (xlf 34 (.inl (xs_il 3 35))) (xbt 38 (xlf 35 (.inl (xs_if_lt 43 38))) (xlf 38 (.inl (xs_il 3 39))))) (xbt 40 (xlf 39 (.inl (xs_c (2) 40))) (xbt 43 (xlf 40 (.inl (xs_ic_le 53 43))) (xlf 43 (.inr (.inr 5)))))) (xbt 58 (xbt 54 (xlf 53 (.inl (xs_al 0 54))) (xbt 57 (xlf 54 (.inl (xs_gf 0 1 57))) (xlf 57 (.inl (xs_il 1 58))))) (xbt 59 (xlf 58 (.inl (xs_il 2 59))) (xbt 63 (xlf 59 (.inl (xs_il 3 60))) (xlf 63 (.inr (.inr 1)))))))
theorem ok_24 (Ls : Nat) (xs : Nat → Int32) : ∀ pc it, K_24 Ls xs pc = some it → xPI Ls xs md_24 pc it := by
  unfold K_24
  exact xbt_ok (xbt_ok (xbt_ok (xbt_ok (xlf_ok (it_24_0 Ls xs)) (xbt_ok (xlf_ok (it_24_1 Ls xs)) (xlf_ok (it_24_2 Ls xs)))) (xbt_ok (xlf_ok (it_24_5 Ls xs)) (xbt_ok (xlf_ok (it_24_8 Ls xs)) (xlf_ok (it_24_9 Ls xs))))) (xbt_ok (xbt_ok (xlf_ok (it_24_12 Ls xs)) (xbt_ok (xlf_ok (it_24_13 Ls xs)) (xlf_ok (it_24_14 Ls xs)))) (xbt_ok (xlf_ok (it_24_17 Ls xs)) (xbt_ok (xlf_ok (it_24_21 Ls xs)) (xlf_ok (it_24_24 Ls xs)))))) (xbt_ok (xbt_ok (xbt_ok (xlf_ok (it_24_34 Ls xs)) (xbt_ok (xlf_ok (it_24_35 Ls xs)) (xlf_ok (it_24_38 Ls xs)))) (xbt_ok (xlf_ok (it_24_39 Ls xs)) (xbt_ok (xlf_ok (it_24_40 Ls xs)) (xlf_ok (it_24_43 Ls xs))))) (xbt_ok (xbt_ok (xlf_ok (it_24_53 Ls xs)) (xbt_ok (xlf_ok (it_24_54 Ls xs)) (xlf_ok (it_24_57 Ls xs)))) (xbt_ok (xlf_ok (it_24_58 Ls xs)) (xbt_ok (xlf_ok (it_24_59 Ls xs)) (xlf_ok (it_24_63 Ls xs))))))
theorem d_25_0 : decode prog_1_method_11_code 0 = .ok (.aload_n 0, 1) := by decide +kernel
theorem d_25_1 : decode prog_1_method_11_code 1 = .ok (.getfield 14, 3) := by decide +kernel
theorem d_25_4 : decode prog_1_method_11_code 4 = .ok (.iload_n 2, 1) := by decide +kernel
theorem d_25_5 : decode prog_1_method_11_code 5 = .ok (.invokevirtual 146, 3) := by decide +kernel
theorem d_25_8 : decode prog_1_method_11_code 8 = .ok (.istore_n 3, 1) := by decide +kernel
theorem d_25_9 : decode prog_1_method_11_code 9 = .ok (.aload_n 0, 1) := by decide +kernel
theorem d_25_10 : decode prog_1_method_11_code 10 = .ok (.iload_n 1, 1) := by decide +kernel
theorem d_25_11 : decode prog_1_method_11_code 11 = .ok (.invokevirtual 127, 3) := by decide +kernel
theorem d_25_14 : decode prog_1_method_11_code 14 = .ok (.ifCond .eq (8), 3) := by decide +kernel
theorem d_25_17 : decode prog_1_method_11_code 17 = .ok (.iload_n 3, 1) := by decide +kernel
theorem d_25_18 : decode prog_1_method_11_code 18 = .ok (.iconst (-1), 1) := by decide +kernel
theorem d_25_19 : decode prog_1_method_11_code 19 = .ok (.if_icmp .ne (13), 3) := by decide +kernel
theorem d_25_22 : decode prog_1_method_11_code 22 = .ok (.new 130, 3) := by decide +kernel
theorem d_25_25 : decode prog_1_method_11_code 25 = .ok (.dup, 1) := by decide +kernel
theorem d_25_26 : decode prog_1_method_11_code 26 = .ok (.ldc 149, 2) := by decide +kernel
theorem d_25_28 : decode prog_1_method_11_code 28 = .ok (.invokespecial 134, 3) := by decide +kernel
theorem d_25_31 : decode prog_1_method_11_code 31 = .ok (.athrow, 1) := by decide +kernel
theorem d_25_32 : decode prog_1_method_11_code 32 = .ok (.aload_n 0, 1) := by decide +kernel
theorem d_25_33 : decode prog_1_method_11_code 33 = .ok (.getfield 32, 3) := by decide +kernel
theorem d_25_36 : decode prog_1_method_11_code 36 = .ok (.iload_n 1, 1) := by decide +kernel
theorem d_25_37 : decode prog_1_method_11_code 37 = .ok (.iload_n 3, 1) := by decide +kernel
theorem d_25_41 : decode prog_1_method_11_code 41 = .ok (.ireturn, 1) := by decide +kernel
theorem it_25_0 (Ls : Nat) (xs : Nat → Int32) : xPI Ls xs md_25 0 (.inl (xs_al 0 1)) := by
  exact xs_aload_n_ok d_25_0 rfl
theorem it_25_1 (Ls : Nat) (xs : Nat → Int32) : xPI Ls xs md_25 1 (.inl (xs_gf 0 0 4)) := by
  exact xs_gf_ok d_25_1 (C := R_0) (T := T_0) (N := N_0) rfl in_0 (by decide) tw_177
theorem it_25_4 (Ls : Nat) (xs : Nat → Int32) : xPI Ls xs md_25 4 (.inl (xs_il 2 5)) := by
  exact xs_iload_n_ok d_25_4 rfl
theorem it_25_5 (Ls : Nat) (xs : Nat → Int32) : xPI Ls xs md_25 5 (.inr (.inl (43, 2, 3, []))) := by
  exact ⟨md_43, rfl, tw_2, by decide, ⟨by decide, by decide⟩, Or.inr (Or.inr ⟨1, R_1, T_1, N_1, 146, 1, rfl, rfl, rfl, rfl, d_25_5, tw_662, tw_663, tw_664, by decide +kernel, (fun x q h => by cases h)⟩)⟩
theorem it_25_8 (Ls : Nat) (xs : Nat → Int32) : xPI Ls xs md_25 8 (.inl (xs_is 4 3 9)) := by
  exact xs_istore_n_ok d_25_8 rfl
theorem it_25_9 (Ls : Nat) (xs : Nat → Int32) : xPI Ls xs md_25 9 (.inl (xs_al 0 10)) := by
  exact xs_aload_n_ok d_25_9 rfl
theorem it_25_10 (Ls : Nat) (xs : Nat → Int32) : xPI Ls xs md_25 10 (.inl (xs_il 1 11)) := by
  exact xs_iload_n_ok d_25_10 rfl
theorem it_25_11 (Ls : Nat) (xs : Nat → Int32) : xPI Ls xs md_25 11 (.inr (.inl (36, 2, 2, []))) := by
  exact ⟨md_36, rfl, tw_1, by decide, ⟨by decide, by decide⟩, Or.inr (Or.inr ⟨0, R_0, T_0, N_0, 127, 1, rfl, rfl, rfl, rfl, d_25_11, tw_600, tw_602, ts_TableMaker_isState, by decide +kernel, (fun x q h => by cases h)⟩)⟩
theorem it_25_14 (Ls : Nat) (xs : Nat → Int32) : xPI Ls xs md_25 14 (.inl (xs_if_eq 22 17)) := by
  exact xs_if_eq_ok d_25_14 (by decide)
theorem it_25_17 (Ls : Nat) (xs : Nat → Int32) : xPI Ls xs md_25 17 (.inl (xs_il 3 18)) := by
  exact xs_iload_n_ok d_25_17 rfl
theorem it_25_18 (Ls : Nat) (xs : Nat → Int32) : xPI Ls xs md_25 18 (.inl (xs_c (-1) 19)) := by
  exact xs_iconst_ok d_25_18 (by decide)
theorem it_25_19 (Ls : Nat) (xs : Nat → Int32) : xPI Ls xs md_25 19 (.inl (xs_ic_ne 32 22)) := by
  exact xs_ic_ne_ok d_25_19 (by decide)
theorem it_25_22 (Ls : Nat) (xs : Nat → Int32) : xPI Ls xs md_25 22 (.inr (.inr 5)) := by
  exact ⟨130, 134, 149, ex_ix 2, "no such state or symbol", ex_rx 2, ex_nm, rfl, rfl, rfl, d_25_22, d_25_25, d_25_26, d_25_28, d_25_31, ex_0 2 (by decide), ex_1 2 (by decide), ex_2 2 (by decide), ex_5 2 (by decide), ex_f 2 (by decide), ex_n, tw_604, tw_605, tw_17, by decide +kernel, ow_2⟩
theorem it_25_32 (Ls : Nat) (xs : Nat → Int32) : xPI Ls xs md_25 32 (.inl (xs_al 0 33)) := by
  exact xs_aload_n_ok d_25_32 rfl
theorem it_25_33 (Ls : Nat) (xs : Nat → Int32) : xPI Ls xs md_25 33 (.inl (xs_gf 0 2 36)) := by
  exact xs_gf_ok d_25_33 (C := R_0) (T := T_0) (N := N_0) rfl in_0 (by decide) tw_179
theorem it_25_36 (Ls : Nat) (xs : Nat → Int32) : xPI Ls xs md_25 36 (.inl (xs_il 1 37)) := by
  exact xs_iload_n_ok d_25_36 rfl
theorem it_25_37 (Ls : Nat) (xs : Nat → Int32) : xPI Ls xs md_25 37 (.inl (xs_il 3 38)) := by
  exact xs_iload_n_ok d_25_37 rfl
theorem it_25_41 (Ls : Nat) (xs : Nat → Int32) : xPI Ls xs md_25 41 (.inr (.inr 1)) := by
  exact ⟨rfl, d_25_41⟩
def K_25 (Ls : Nat) (xs : Nat → Int32) : Nat → Option xK := xbt 17 (xbt 8 (xbt 4 (xbt 1 (xlf 0 (.inl (xs_al 0 1))) (xlf 1 (.inl (xs_gf 0 0 4)))) (xbt 5 (xlf 4 (.inl (xs_il 2 5))) (xlf 5 (.inr (.inl (43, 2, 3, [])))))) (xbt 10 (xbt 9 (xlf 8 (.inl (xs_is 4 3 9))) (xlf 9 (.inl (xs_al 0 10)))) (xbt 11 (xlf 10 (.inl (xs_il 1 11))) (xbt 14 (xlf 11 (.inr (.inl (36, 2, 2, [])))) (xlf 14 (.inl (xs_if_eq 22 17))))))) (xbt 32 (xbt 19 (xbt 18 (xlf 17 (.inl (xs_il 3 18))) (xlf 18 (.inl (xs_c (-1) 19)))) (xbt 22 (xlf 19 (.inl (xs_ic_ne 32 22))) (xlf 22 (.inr (.inr 5))))) (xbt 36 (xbt 33 (xlf 32 (.inl (xs_al 0 33))) (xlf 33 (.inl (xs_gf 0 2 36)))) (xbt 37 (xlf 36 (.inl (xs_il 1 37))) (xbt 41 (xlf 37 (.inl (xs_il 3 38))) (xlf 41 (.inr (.inr 1)))))))
theorem ok_25 (Ls : Nat) (xs : Nat → Int32) : ∀ pc it, K_25 Ls xs pc = some it → xPI Ls xs md_25 pc it := by
  unfold K_25
  exact xbt_ok (xbt_ok (xbt_ok (xbt_ok (xlf_ok (it_25_0 Ls xs)) (xlf_ok (it_25_1 Ls xs))) (xbt_ok (xlf_ok (it_25_4 Ls xs)) (xlf_ok (it_25_5 Ls xs)))) (xbt_ok (xbt_ok (xlf_ok (it_25_8 Ls xs)) (xlf_ok (it_25_9 Ls xs))) (xbt_ok (xlf_ok (it_25_10 Ls xs)) (xbt_ok (xlf_ok (it_25_11 Ls xs)) (xlf_ok (it_25_14 Ls xs)))))) (xbt_ok (xbt_ok (xbt_ok (xlf_ok (it_25_17 Ls xs)) (xlf_ok (it_25_18 Ls xs))) (xbt_ok (xlf_ok (it_25_19 Ls xs)) (xlf_ok (it_25_22 Ls xs)))) (xbt_ok (xbt_ok (xlf_ok (it_25_32 Ls xs)) (xlf_ok (it_25_33 Ls xs))) (xbt_ok (xlf_ok (it_25_36 Ls xs)) (xbt_ok (xlf_ok (it_25_37 Ls xs)) (xlf_ok (it_25_41 Ls xs))))))
theorem d_26_0 : decode prog_1_method_12_code 0 = .ok (.aload_n 0, 1) := by decide +kernel
theorem d_26_1 : decode prog_1_method_12_code 1 = .ok (.iload_n 1, 1) := by decide +kernel
theorem d_26_2 : decode prog_1_method_12_code 2 = .ok (.invokevirtual 127, 3) := by decide +kernel
theorem d_26_5 : decode prog_1_method_12_code 5 = .ok (.ifCond .eq (14), 3) := by decide +kernel
theorem d_26_8 : decode prog_1_method_12_code 8 = .ok (.aload_n 0, 1) := by decide +kernel
theorem d_26_9 : decode prog_1_method_12_code 9 = .ok (.getfield 14, 3) := by decide +kernel
theorem d_26_12 : decode prog_1_method_12_code 12 = .ok (.iload_n 2, 1) := by decide +kernel
theorem d_26_13 : decode prog_1_method_12_code 13 = .ok (.invokevirtual 49, 3) := by decide +kernel
theorem d_26_16 : decode prog_1_method_12_code 16 = .ok (.ifCond .ne (13), 3) := by decide +kernel
theorem d_26_19 : decode prog_1_method_12_code 19 = .ok (.new 130, 3) := by decide +kernel
theorem d_26_22 : decode prog_1_method_12_code 22 = .ok (.dup, 1) := by decide +kernel
theorem d_26_23 : decode prog_1_method_12_code 23 = .ok (.ldc 149, 2) := by decide +kernel
theorem d_26_25 : decode prog_1_method_12_code 25 = .ok (.invokespecial 134, 3) := by decide +kernel
theorem d_26_28 : decode prog_1_method_12_code 28 = .ok (.athrow, 1) := by decide +kernel
theorem d_26_29 : decode prog_1_method_12_code 29 = .ok (.aload_n 0, 1) := by decide +kernel
theorem d_26_30 : decode prog_1_method_12_code 30 = .ok (.getfield 23, 3) := by decide +kernel
theorem d_26_33 : decode prog_1_method_12_code 33 = .ok (.iload_n 1, 1) := by decide +kernel
theorem d_26_34 : decode prog_1_method_12_code 34 = .ok (.iload_n 2, 1) := by decide +kernel
theorem d_26_38 : decode prog_1_method_12_code 38 = .ok (.ireturn, 1) := by decide +kernel
theorem it_26_0 (Ls : Nat) (xs : Nat → Int32) : xPI Ls xs md_26 0 (.inl (xs_al 0 1)) := by
  exact xs_aload_n_ok d_26_0 rfl
theorem it_26_1 (Ls : Nat) (xs : Nat → Int32) : xPI Ls xs md_26 1 (.inl (xs_il 1 2)) := by
  exact xs_iload_n_ok d_26_1 rfl
theorem it_26_2 (Ls : Nat) (xs : Nat → Int32) : xPI Ls xs md_26 2 (.inr (.inl (36, 2, 2, []))) := by
  exact ⟨md_36, rfl, tw_1, by decide, ⟨by decide, by decide⟩, Or.inr (Or.inr ⟨0, R_0, T_0, N_0, 127, 1, rfl, rfl, rfl, rfl, d_26_2, tw_600, tw_602, ts_TableMaker_isState, by decide +kernel, (fun x q h => by cases h)⟩)⟩
theorem it_26_5 (Ls : Nat) (xs : Nat → Int32) : xPI Ls xs md_26 5 (.inl (xs_if_eq 19 8)) := by
  exact xs_if_eq_ok d_26_5 (by decide)
theorem it_26_8 (Ls : Nat) (xs : Nat → Int32) : xPI Ls xs md_26 8 (.inl (xs_al 0 9)) := by
  exact xs_aload_n_ok d_26_8 rfl
theorem it_26_9 (Ls : Nat) (xs : Nat → Int32) : xPI Ls xs md_26 9 (.inl (xs_gf 0 0 12)) := by
  exact xs_gf_ok d_26_9 (C := R_0) (T := T_0) (N := N_0) rfl in_0 (by decide) tw_177
theorem it_26_12 (Ls : Nat) (xs : Nat → Int32) : xPI Ls xs md_26 12 (.inl (xs_il 2 13)) := by
  exact xs_iload_n_ok d_26_12 rfl
theorem it_26_13 (Ls : Nat) (xs : Nat → Int32) : xPI Ls xs md_26 13 (.inr (.inl (39, 2, 3, []))) := by
  exact ⟨md_39, rfl, tw_2, by decide, ⟨by decide, by decide⟩, Or.inr (Or.inr ⟨1, R_1, T_1, N_1, 49, 1, rfl, rfl, rfl, rfl, d_26_13, tw_269, tw_270, tw_271, by decide +kernel, (fun x q h => by cases h)⟩)⟩
theorem it_26_16 (Ls : Nat) (xs : Nat → Int32) : xPI Ls xs md_26 16 (.inl (xs_if_ne 29 19)) := by
  exact xs_if_ne_ok d_26_16 (by decide)
theorem it_26_19 (Ls : Nat) (xs : Nat → Int32) : xPI Ls xs md_26 19 (.inr (.inr 5)) := by
  exact ⟨130, 134, 149, ex_ix 2, "no such state or symbol", ex_rx 2, ex_nm, rfl, rfl, rfl, d_26_19, d_26_22, d_26_23, d_26_25, d_26_28, ex_0 2 (by decide), ex_1 2 (by decide), ex_2 2 (by decide), ex_5 2 (by decide), ex_f 2 (by decide), ex_n, tw_604, tw_605, tw_17, by decide +kernel, ow_2⟩
theorem it_26_29 (Ls : Nat) (xs : Nat → Int32) : xPI Ls xs md_26 29 (.inl (xs_al 0 30)) := by
  exact xs_aload_n_ok d_26_29 rfl
theorem it_26_30 (Ls : Nat) (xs : Nat → Int32) : xPI Ls xs md_26 30 (.inl (xs_gf 0 1 33)) := by
  exact xs_gf_ok d_26_30 (C := R_0) (T := T_0) (N := N_0) rfl in_0 (by decide) tw_178
theorem it_26_33 (Ls : Nat) (xs : Nat → Int32) : xPI Ls xs md_26 33 (.inl (xs_il 1 34)) := by
  exact xs_iload_n_ok d_26_33 rfl
theorem it_26_34 (Ls : Nat) (xs : Nat → Int32) : xPI Ls xs md_26 34 (.inl (xs_il 2 35)) := by
  exact xs_iload_n_ok d_26_34 rfl
theorem it_26_38 (Ls : Nat) (xs : Nat → Int32) : xPI Ls xs md_26 38 (.inr (.inr 1)) := by
  exact ⟨rfl, d_26_38⟩
def K_26 (Ls : Nat) (xs : Nat → Int32) : Nat → Option xK := xbt 13 (xbt 5 (xbt 1 (xlf 0 (.inl (xs_al 0 1))) (xbt 2 (xlf 1 (.inl (xs_il 1 2))) (xlf 2 (.inr (.inl (36, 2, 2, [])))))) (xbt 9 (xbt 8 (xlf 5 (.inl (xs_if_eq 19 8))) (xlf 8 (.inl (xs_al 0 9)))) (xbt 12 (xlf 9 (.inl (xs_gf 0 0 12))) (xlf 12 (.inl (xs_il 2 13)))))) (xbt 30 (xbt 19 (xbt 16 (xlf 13 (.inr (.inl (39, 2, 3, [])))) (xlf 16 (.inl (xs_if_ne 29 19)))) (xbt 29 (xlf 19 (.inr (.inr 5))) (xlf 29 (.inl (xs_al 0 30))))) (xbt 34 (xbt 33 (xlf 30 (.inl (xs_gf 0 1 33))) (xlf 33 (.inl (xs_il 1 34)))) (xbt 38 (xlf 34 (.inl (xs_il 2 35))) (xlf 38 (.inr (.inr 1))))))
theorem ok_26 (Ls : Nat) (xs : Nat → Int32) : ∀ pc it, K_26 Ls xs pc = some it → xPI Ls xs md_26 pc it := by
  unfold K_26
  exact xbt_ok (xbt_ok (xbt_ok (xlf_ok (it_26_0 Ls xs)) (xbt_ok (xlf_ok (it_26_1 Ls xs)) (xlf_ok (it_26_2 Ls xs)))) (xbt_ok (xbt_ok (xlf_ok (it_26_5 Ls xs)) (xlf_ok (it_26_8 Ls xs))) (xbt_ok (xlf_ok (it_26_9 Ls xs)) (xlf_ok (it_26_12 Ls xs))))) (xbt_ok (xbt_ok (xbt_ok (xlf_ok (it_26_13 Ls xs)) (xlf_ok (it_26_16 Ls xs))) (xbt_ok (xlf_ok (it_26_19 Ls xs)) (xlf_ok (it_26_29 Ls xs)))) (xbt_ok (xbt_ok (xlf_ok (it_26_30 Ls xs)) (xlf_ok (it_26_33 Ls xs))) (xbt_ok (xlf_ok (it_26_34 Ls xs)) (xlf_ok (it_26_38 Ls xs)))))
theorem d_27_0 : decode prog_1_method_13_code 0 = .ok (.aload_n 0, 1) := by decide +kernel
theorem d_27_1 : decode prog_1_method_13_code 1 = .ok (.getfield 14, 3) := by decide +kernel
theorem d_27_4 : decode prog_1_method_13_code 4 = .ok (.iload_n 1, 1) := by decide +kernel
theorem d_27_5 : decode prog_1_method_13_code 5 = .ok (.invokevirtual 49, 3) := by decide +kernel
theorem d_27_8 : decode prog_1_method_13_code 8 = .ok (.ifCond .ne (13), 3) := by decide +kernel
theorem d_27_11 : decode prog_1_method_13_code 11 = .ok (.new 53, 3) := by decide +kernel
theorem d_27_14 : decode prog_1_method_13_code 14 = .ok (.dup, 1) := by decide +kernel
theorem d_27_15 : decode prog_1_method_13_code 15 = .ok (.ldc 55, 2) := by decide +kernel
theorem d_27_17 : decode prog_1_method_13_code 17 = .ok (.invokespecial 57, 3) := by decide +kernel
theorem d_27_20 : decode prog_1_method_13_code 20 = .ok (.athrow, 1) := by decide +kernel
theorem d_27_21 : decode prog_1_method_13_code 21 = .ok (.aload_n 0, 1) := by decide +kernel
theorem d_27_22 : decode prog_1_method_13_code 22 = .ok (.getfield 14, 3) := by decide +kernel
theorem d_27_25 : decode prog_1_method_13_code 25 = .ok (.invokevirtual 158, 3) := by decide +kernel
theorem d_27_28 : decode prog_1_method_13_code 28 = .ok (.aload_n 0, 1) := by decide +kernel
theorem d_27_29 : decode prog_1_method_13_code 29 = .ok (.getfield 14, 3) := by decide +kernel
theorem d_27_32 : decode prog_1_method_13_code 32 = .ok (.iload_n 1, 1) := by decide +kernel
theorem d_27_33 : decode prog_1_method_13_code 33 = .ok (.invokevirtual 161, 3) := by decide +kernel
theorem d_27_36 : decode prog_1_method_13_code 36 = .ok (.ireturn, 1) := by decide +kernel
theorem it_27_0 (Ls : Nat) (xs : Nat → Int32) : xPI Ls xs md_27 0 (.inl (xs_al 0 1)) := by
  exact xs_aload_n_ok d_27_0 rfl
theorem it_27_1 (Ls : Nat) (xs : Nat → Int32) : xPI Ls xs md_27 1 (.inl (xs_gf 0 0 4)) := by
  exact xs_gf_ok d_27_1 (C := R_0) (T := T_0) (N := N_0) rfl in_0 (by decide) tw_177
theorem it_27_4 (Ls : Nat) (xs : Nat → Int32) : xPI Ls xs md_27 4 (.inl (xs_il 1 5)) := by
  exact xs_iload_n_ok d_27_4 rfl
theorem it_27_5 (Ls : Nat) (xs : Nat → Int32) : xPI Ls xs md_27 5 (.inr (.inl (39, 2, 3, []))) := by
  exact ⟨md_39, rfl, tw_2, by decide, ⟨by decide, by decide⟩, Or.inr (Or.inr ⟨1, R_1, T_1, N_1, 49, 1, rfl, rfl, rfl, rfl, d_27_5, tw_269, tw_270, tw_271, by decide +kernel, (fun x q h => by cases h)⟩)⟩
theorem it_27_8 (Ls : Nat) (xs : Nat → Int32) : xPI Ls xs md_27 8 (.inl (xs_if_ne 21 11)) := by
  exact xs_if_ne_ok d_27_8 (by decide)
theorem it_27_11 (Ls : Nat) (xs : Nat → Int32) : xPI Ls xs md_27 11 (.inr (.inr 3)) := by
  exact ⟨53, 57, 55, ex_ix 0, "no nonterminal", ex_rx 0, ex_nm, rfl, rfl, rfl, d_27_11, d_27_14, d_27_15, d_27_17, d_27_20, ex_0 0 (by decide), ex_1 0 (by decide), ex_2 0 (by decide), ex_5 0 (by decide), ex_f 0 (by decide), ex_n, tw_273, tw_274, tw_11, by decide +kernel, ow_0⟩
theorem it_27_21 (Ls : Nat) (xs : Nat → Int32) : xPI Ls xs md_27 21 (.inl (xs_al 0 22)) := by
  exact xs_aload_n_ok d_27_21 rfl
theorem it_27_22 (Ls : Nat) (xs : Nat → Int32) : xPI Ls xs md_27 22 (.inl (xs_gf 0 0 25)) := by
  exact xs_gf_ok d_27_22 (C := R_0) (T := T_0) (N := N_0) rfl in_0 (by decide) tw_177
theorem it_27_25 (Ls : Nat) (xs : Nat → Int32) : xPI Ls xs md_27 25 (.inr (.inl (49, 1, 3, []))) := by
  exact ⟨md_49, rfl, tw_2, by decide, ⟨by decide, by decide⟩, Or.inr (Or.inr ⟨1, R_1, T_1, N_1, 158, 0, rfl, rfl, rfl, rfl, d_27_25, tw_690, tw_407, tw_408, by decide +kernel, (fun x q h => by cases h)⟩)⟩
theorem it_27_28 (Ls : Nat) (xs : Nat → Int32) : xPI Ls xs md_27 28 (.inl (xs_al 0 29)) := by
  exact xs_aload_n_ok d_27_28 rfl
theorem it_27_29 (Ls : Nat) (xs : Nat → Int32) : xPI Ls xs md_27 29 (.inl (xs_gf 0 0 32)) := by
  exact xs_gf_ok d_27_29 (C := R_0) (T := T_0) (N := N_0) rfl in_0 (by decide) tw_177
theorem it_27_32 (Ls : Nat) (xs : Nat → Int32) : xPI Ls xs md_27 32 (.inl (xs_il 1 33)) := by
  exact xs_iload_n_ok d_27_32 rfl
theorem it_27_33 (Ls : Nat) (xs : Nat → Int32) : xPI Ls xs md_27 33 (.inr (.inl (52, 2, 3, []))) := by
  exact ⟨md_52, rfl, tw_2, by decide, ⟨by decide, by decide⟩, Or.inr (Or.inr ⟨1, R_1, T_1, N_1, 161, 1, rfl, rfl, rfl, rfl, d_27_33, tw_691, tw_430, tw_431, by decide +kernel, (fun x q h => by cases h)⟩)⟩
theorem it_27_36 (Ls : Nat) (xs : Nat → Int32) : xPI Ls xs md_27 36 (.inr (.inr 2)) := by
  exact ⟨rfl, d_27_36⟩
def K_27 (Ls : Nat) (xs : Nat → Int32) : Nat → Option xK := xbt 22 (xbt 5 (xbt 1 (xlf 0 (.inl (xs_al 0 1))) (xbt 4 (xlf 1 (.inl (xs_gf 0 0 4))) (xlf 4 (.inl (xs_il 1 5))))) (xbt 11 (xbt 8 (xlf 5 (.inr (.inl (39, 2, 3, [])))) (xlf 8 (.inl (xs_if_ne 21 11)))) (xbt 21 (xlf 11 (.inr (.inr 3))) (xlf 21 (.inl (xs_al 0 22)))))) (xbt 29 (xbt 25 (xlf 22 (.inl (xs_gf 0 0 25))) (xbt 28 (xlf 25 (.inr (.inl (49, 1, 3, [])))) (xlf 28 (.inl (xs_al 0 29))))) (xbt 33 (xbt 32 (xlf 29 (.inl (xs_gf 0 0 32))) (xlf 32 (.inl (xs_il 1 33)))) (xbt 36 (xlf 33 (.inr (.inl (52, 2, 3, [])))) (xlf 36 (.inr (.inr 2))))))
theorem ok_27 (Ls : Nat) (xs : Nat → Int32) : ∀ pc it, K_27 Ls xs pc = some it → xPI Ls xs md_27 pc it := by
  unfold K_27
  exact xbt_ok (xbt_ok (xbt_ok (xlf_ok (it_27_0 Ls xs)) (xbt_ok (xlf_ok (it_27_1 Ls xs)) (xlf_ok (it_27_4 Ls xs)))) (xbt_ok (xbt_ok (xlf_ok (it_27_5 Ls xs)) (xlf_ok (it_27_8 Ls xs))) (xbt_ok (xlf_ok (it_27_11 Ls xs)) (xlf_ok (it_27_21 Ls xs))))) (xbt_ok (xbt_ok (xlf_ok (it_27_22 Ls xs)) (xbt_ok (xlf_ok (it_27_25 Ls xs)) (xlf_ok (it_27_28 Ls xs)))) (xbt_ok (xbt_ok (xlf_ok (it_27_29 Ls xs)) (xlf_ok (it_27_32 Ls xs))) (xbt_ok (xlf_ok (it_27_33 Ls xs)) (xlf_ok (it_27_36 Ls xs)))))
theorem d_28_0 : decode prog_1_method_14_code 0 = .ok (.aload_n 0, 1) := by decide +kernel
theorem d_28_1 : decode prog_1_method_14_code 1 = .ok (.getfield 14, 3) := by decide +kernel
theorem d_28_4 : decode prog_1_method_14_code 4 = .ok (.iload_n 1, 1) := by decide +kernel
theorem d_28_5 : decode prog_1_method_14_code 5 = .ok (.invokevirtual 49, 3) := by decide +kernel
theorem d_28_8 : decode prog_1_method_14_code 8 = .ok (.ifCond .ne (13), 3) := by decide +kernel
theorem d_28_11 : decode prog_1_method_14_code 11 = .ok (.new 53, 3) := by decide +kernel
theorem d_28_14 : decode prog_1_method_14_code 14 = .ok (.dup, 1) := by decide +kernel
theorem d_28_15 : decode prog_1_method_14_code 15 = .ok (.ldc 55, 2) := by decide +kernel
theorem d_28_17 : decode prog_1_method_14_code 17 = .ok (.invokespecial 57, 3) := by decide +kernel
theorem d_28_20 : decode prog_1_method_14_code 20 = .ok (.athrow, 1) := by decide +kernel
theorem d_28_21 : decode prog_1_method_14_code 21 = .ok (.aload_n 0, 1) := by decide +kernel
theorem d_28_22 : decode prog_1_method_14_code 22 = .ok (.getfield 14, 3) := by decide +kernel
theorem d_28_25 : decode prog_1_method_14_code 25 = .ok (.invokevirtual 158, 3) := by decide +kernel
theorem d_28_28 : decode prog_1_method_14_code 28 = .ok (.aload_n 0, 1) := by decide +kernel
theorem d_28_29 : decode prog_1_method_14_code 29 = .ok (.getfield 14, 3) := by decide +kernel
theorem d_28_32 : decode prog_1_method_14_code 32 = .ok (.iload_n 1, 1) := by decide +kernel
theorem d_28_33 : decode prog_1_method_14_code 33 = .ok (.invokevirtual 164, 3) := by decide +kernel
theorem d_28_36 : decode prog_1_method_14_code 36 = .ok (.ireturn, 1) := by decide +kernel
theorem it_28_0 (Ls : Nat) (xs : Nat → Int32) : xPI Ls xs md_28 0 (.inl (xs_al 0 1)) := by
  exact xs_aload_n_ok d_28_0 rfl
theorem it_28_1 (Ls : Nat) (xs : Nat → Int32) : xPI Ls xs md_28 1 (.inl (xs_gf 0 0 4)) := by
  exact xs_gf_ok d_28_1 (C := R_0) (T := T_0) (N := N_0) rfl in_0 (by decide) tw_177
theorem it_28_4 (Ls : Nat) (xs : Nat → Int32) : xPI Ls xs md_28 4 (.inl (xs_il 1 5)) := by
  exact xs_iload_n_ok d_28_4 rfl
theorem it_28_5 (Ls : Nat) (xs : Nat → Int32) : xPI Ls xs md_28 5 (.inr (.inl (39, 2, 3, []))) := by
  exact ⟨md_39, rfl, tw_2, by decide, ⟨by decide, by decide⟩, Or.inr (Or.inr ⟨1, R_1, T_1, N_1, 49, 1, rfl, rfl, rfl, rfl, d_28_5, tw_269, tw_270, tw_271, by decide +kernel, (fun x q h => by cases h)⟩)⟩
theorem it_28_8 (Ls : Nat) (xs : Nat → Int32) : xPI Ls xs md_28 8 (.inl (xs_if_ne 21 11)) := by
  exact xs_if_ne_ok d_28_8 (by decide)
theorem it_28_11 (Ls : Nat) (xs : Nat → Int32) : xPI Ls xs md_28 11 (.inr (.inr 3)) := by
  exact ⟨53, 57, 55, ex_ix 0, "no nonterminal", ex_rx 0, ex_nm, rfl, rfl, rfl, d_28_11, d_28_14, d_28_15, d_28_17, d_28_20, ex_0 0 (by decide), ex_1 0 (by decide), ex_2 0 (by decide), ex_5 0 (by decide), ex_f 0 (by decide), ex_n, tw_273, tw_274, tw_11, by decide +kernel, ow_0⟩
theorem it_28_21 (Ls : Nat) (xs : Nat → Int32) : xPI Ls xs md_28 21 (.inl (xs_al 0 22)) := by
  exact xs_aload_n_ok d_28_21 rfl
theorem it_28_22 (Ls : Nat) (xs : Nat → Int32) : xPI Ls xs md_28 22 (.inl (xs_gf 0 0 25)) := by
  exact xs_gf_ok d_28_22 (C := R_0) (T := T_0) (N := N_0) rfl in_0 (by decide) tw_177
theorem it_28_25 (Ls : Nat) (xs : Nat → Int32) : xPI Ls xs md_28 25 (.inr (.inl (49, 1, 3, []))) := by
  exact ⟨md_49, rfl, tw_2, by decide, ⟨by decide, by decide⟩, Or.inr (Or.inr ⟨1, R_1, T_1, N_1, 158, 0, rfl, rfl, rfl, rfl, d_28_25, tw_690, tw_407, tw_408, by decide +kernel, (fun x q h => by cases h)⟩)⟩
theorem it_28_28 (Ls : Nat) (xs : Nat → Int32) : xPI Ls xs md_28 28 (.inl (xs_al 0 29)) := by
  exact xs_aload_n_ok d_28_28 rfl
theorem it_28_29 (Ls : Nat) (xs : Nat → Int32) : xPI Ls xs md_28 29 (.inl (xs_gf 0 0 32)) := by
  exact xs_gf_ok d_28_29 (C := R_0) (T := T_0) (N := N_0) rfl in_0 (by decide) tw_177
theorem it_28_32 (Ls : Nat) (xs : Nat → Int32) : xPI Ls xs md_28 32 (.inl (xs_il 1 33)) := by
  exact xs_iload_n_ok d_28_32 rfl
theorem it_28_33 (Ls : Nat) (xs : Nat → Int32) : xPI Ls xs md_28 33 (.inr (.inl (53, 2, 3, []))) := by
  exact ⟨md_53, rfl, tw_2, by decide, ⟨by decide, by decide⟩, Or.inr (Or.inr ⟨1, R_1, T_1, N_1, 164, 1, rfl, rfl, rfl, rfl, d_28_33, tw_699, tw_443, tw_444, by decide +kernel, (fun x q h => by cases h)⟩)⟩
theorem it_28_36 (Ls : Nat) (xs : Nat → Int32) : xPI Ls xs md_28 36 (.inr (.inr 1)) := by
  exact ⟨rfl, d_28_36⟩
def K_28 (Ls : Nat) (xs : Nat → Int32) : Nat → Option xK := xbt 22 (xbt 5 (xbt 1 (xlf 0 (.inl (xs_al 0 1))) (xbt 4 (xlf 1 (.inl (xs_gf 0 0 4))) (xlf 4 (.inl (xs_il 1 5))))) (xbt 11 (xbt 8 (xlf 5 (.inr (.inl (39, 2, 3, [])))) (xlf 8 (.inl (xs_if_ne 21 11)))) (xbt 21 (xlf 11 (.inr (.inr 3))) (xlf 21 (.inl (xs_al 0 22)))))) (xbt 29 (xbt 25 (xlf 22 (.inl (xs_gf 0 0 25))) (xbt 28 (xlf 25 (.inr (.inl (49, 1, 3, [])))) (xlf 28 (.inl (xs_al 0 29))))) (xbt 33 (xbt 32 (xlf 29 (.inl (xs_gf 0 0 32))) (xlf 32 (.inl (xs_il 1 33)))) (xbt 36 (xlf 33 (.inr (.inl (53, 2, 3, [])))) (xlf 36 (.inr (.inr 1))))))
theorem ok_28 (Ls : Nat) (xs : Nat → Int32) : ∀ pc it, K_28 Ls xs pc = some it → xPI Ls xs md_28 pc it := by
  unfold K_28
  exact xbt_ok (xbt_ok (xbt_ok (xlf_ok (it_28_0 Ls xs)) (xbt_ok (xlf_ok (it_28_1 Ls xs)) (xlf_ok (it_28_4 Ls xs)))) (xbt_ok (xbt_ok (xlf_ok (it_28_5 Ls xs)) (xlf_ok (it_28_8 Ls xs))) (xbt_ok (xlf_ok (it_28_11 Ls xs)) (xlf_ok (it_28_21 Ls xs))))) (xbt_ok (xbt_ok (xlf_ok (it_28_22 Ls xs)) (xbt_ok (xlf_ok (it_28_25 Ls xs)) (xlf_ok (it_28_28 Ls xs)))) (xbt_ok (xbt_ok (xlf_ok (it_28_29 Ls xs)) (xlf_ok (it_28_32 Ls xs))) (xbt_ok (xlf_ok (it_28_33 Ls xs)) (xlf_ok (it_28_36 Ls xs)))))
theorem d_29_0 : decode prog_1_method_15_code 0 = .ok (.aload_n 0, 1) := by decide +kernel
theorem d_29_1 : decode prog_1_method_15_code 1 = .ok (.getfield 45, 3) := by decide +kernel
theorem d_29_4 : decode prog_1_method_15_code 4 = .ok (.ifCond .ne (13), 3) := by decide +kernel
theorem d_29_7 : decode prog_1_method_15_code 7 = .ok (.new 64, 3) := by decide +kernel
theorem d_29_10 : decode prog_1_method_15_code 10 = .ok (.dup, 1) := by decide +kernel
theorem d_29_11 : decode prog_1_method_15_code 11 = .ok (.ldc 167, 2) := by decide +kernel
theorem d_29_13 : decode prog_1_method_15_code 13 = .ok (.invokespecial 68, 3) := by decide +kernel
theorem d_29_16 : decode prog_1_method_15_code 16 = .ok (.athrow, 1) := by decide +kernel
theorem d_29_17 : decode prog_1_method_15_code 17 = .ok (.aload_n 0, 1) := by decide +kernel
theorem d_29_18 : decode prog_1_method_15_code 18 = .ok (.getfield 41, 3) := by decide +kernel
theorem d_29_24 : decode prog_1_method_15_code 24 = .ok (.return_, 1) := by decide +kernel
theorem it_29_0 (Ls : Nat) (xs : Nat → Int32) : xPI Ls xs md_29 0 (.inl (xs_al 0 1)) := by
  exact xs_aload_n_ok d_29_0 rfl
theorem it_29_1 (Ls : Nat) (xs : Nat → Int32) : xPI Ls xs md_29 1 (.inl (xs_gf 0 4 4)) := by
  exact xs_gf_ok d_29_1 (C := R_0) (T := T_0) (N := N_0) rfl in_0 (by decide) tw_181
theorem it_29_4 (Ls : Nat) (xs : Nat → Int32) : xPI Ls xs md_29 4 (.inl (xs_if_ne 17 7)) := by
  exact xs_if_ne_ok d_29_4 (by decide)
theorem it_29_7 (Ls : Nat) (xs : Nat → Int32) : xPI Ls xs md_29 7 (.inr (.inr 4)) := by
  exact ⟨64, 68, 167, ex_ix 1, "no table", ex_rx 1, ex_nm, rfl, rfl, rfl, d_29_7, d_29_10, d_29_11, d_29_13, d_29_16, ex_0 1 (by decide), ex_1 1 (by decide), ex_2 1 (by decide), ex_5 1 (by decide), ex_f 1 (by decide), ex_n, tw_347, tw_348, tw_12, by decide +kernel, ow_1⟩
theorem it_29_17 (Ls : Nat) (xs : Nat → Int32) : xPI Ls xs md_29 17 (.inl (xs_al 0 18)) := by
  exact xs_aload_n_ok d_29_17 rfl
theorem it_29_18 (Ls : Nat) (xs : Nat → Int32) : xPI Ls xs md_29 18 (.inl (xs_gf 0 3 21)) := by
  exact xs_gf_ok d_29_18 (C := R_0) (T := T_0) (N := N_0) rfl in_0 (by decide) tw_180
theorem it_29_24 (Ls : Nat) (xs : Nat → Int32) : xPI Ls xs md_29 24 (.inr (.inr 0)) := by
  exact ⟨rfl, d_29_24⟩
def K_29 (Ls : Nat) (xs : Nat → Int32) : Nat → Option xK := xbt 7 (xbt 1 (xlf 0 (.inl (xs_al 0 1))) (xbt 4 (xlf 1 (.inl (xs_gf 0 4 4))) (xlf 4 (.inl (xs_if_ne 17 7))))) (xbt 18 (xbt 17 (xlf 7 (.inr (.inr 4))) (xlf 17 (.inl (xs_al 0 18)))) (xbt 24 (xlf 18 (.inl (xs_gf 0 3 21))) (xlf 24 (.inr (.inr 0)))))
theorem ok_29 (Ls : Nat) (xs : Nat → Int32) : ∀ pc it, K_29 Ls xs pc = some it → xPI Ls xs md_29 pc it := by
  unfold K_29
  exact xbt_ok (xbt_ok (xlf_ok (it_29_0 Ls xs)) (xbt_ok (xlf_ok (it_29_1 Ls xs)) (xlf_ok (it_29_4 Ls xs)))) (xbt_ok (xbt_ok (xlf_ok (it_29_7 Ls xs)) (xlf_ok (it_29_17 Ls xs))) (xbt_ok (xlf_ok (it_29_18 Ls xs)) (xlf_ok (it_29_24 Ls xs))))
theorem d_30_0 : decode prog_1_method_16_code 0 = .ok (.aload_n 0, 1) := by decide +kernel
theorem d_30_1 : decode prog_1_method_16_code 1 = .ok (.getfield 14, 3) := by decide +kernel
theorem d_30_4 : decode prog_1_method_16_code 4 = .ok (.iload_n 1, 1) := by decide +kernel
theorem d_30_5 : decode prog_1_method_16_code 5 = .ok (.invokevirtual 172, 3) := by decide +kernel
theorem d_30_8 : decode prog_1_method_16_code 8 = .ok (.ifCond .ne (13), 3) := by decide +kernel
theorem d_30_11 : decode prog_1_method_16_code 11 = .ok (.new 53, 3) := by decide +kernel
theorem d_30_14 : decode prog_1_method_16_code 14 = .ok (.dup, 1) := by decide +kernel
theorem d_30_15 : decode prog_1_method_16_code 15 = .ok (.ldc 175, 2) := by decide +kernel
theorem d_30_17 : decode prog_1_method_16_code 17 = .ok (.invokespecial 57, 3) := by decide +kernel
theorem d_30_20 : decode prog_1_method_16_code 20 = .ok (.athrow, 1) := by decide +kernel
theorem d_30_21 : decode prog_1_method_16_code 21 = .ok (.aload_n 0, 1) := by decide +kernel
theorem d_30_22 : decode prog_1_method_16_code 22 = .ok (.getfield 41, 3) := by decide +kernel
theorem d_30_25 : decode prog_1_method_16_code 25 = .ok (.invokevirtual 177, 3) := by decide +kernel
theorem d_30_28 : decode prog_1_method_16_code 28 = .ok (.iconst (1), 1) := by decide +kernel
theorem d_30_29 : decode prog_1_method_16_code 29 = .ok (.if_icmp .ne (15), 3) := by decide +kernel
theorem d_30_32 : decode prog_1_method_16_code 32 = .ok (.aload_n 0, 1) := by decide +kernel
theorem d_30_33 : decode prog_1_method_16_code 33 = .ok (.getfield 41, 3) := by decide +kernel
theorem d_30_36 : decode prog_1_method_16_code 36 = .ok (.invokevirtual 180, 3) := by decide +kernel
theorem d_30_39 : decode prog_1_method_16_code 39 = .ok (.bipush (60), 2) := by decide +kernel
theorem d_30_41 : decode prog_1_method_16_code 41 = .ok (.if_icmp .lt (13), 3) := by decide +kernel
theorem d_30_44 : decode prog_1_method_16_code 44 = .ok (.new 64, 3) := by decide +kernel
theorem d_30_47 : decode prog_1_method_16_code 47 = .ok (.dup, 1) := by decide +kernel
theorem d_30_48 : decode prog_1_method_16_code 48 = .ok (.ldc 183, 2) := by decide +kernel
theorem d_30_50 : decode prog_1_method_16_code 50 = .ok (.invokespecial 68, 3) := by decide +kernel
theorem d_30_53 : decode prog_1_method_16_code 53 = .ok (.athrow, 1) := by decide +kernel
theorem d_30_54 : decode prog_1_method_16_code 54 = .ok (.aload_n 0, 1) := by decide +kernel
theorem d_30_55 : decode prog_1_method_16_code 55 = .ok (.getfield 41, 3) := by decide +kernel
theorem d_30_58 : decode prog_1_method_16_code 58 = .ok (.aload_n 0, 1) := by decide +kernel
theorem d_30_59 : decode prog_1_method_16_code 59 = .ok (.getfield 14, 3) := by decide +kernel
theorem d_30_62 : decode prog_1_method_16_code 62 = .ok (.iload_n 1, 1) := by decide +kernel
theorem d_30_63 : decode prog_1_method_16_code 63 = .ok (.invokevirtual 146, 3) := by decide +kernel
theorem d_30_69 : decode prog_1_method_16_code 69 = .ok (.ireturn, 1) := by decide +kernel
theorem it_30_0 (Ls : Nat) (xs : Nat → Int32) : xPI Ls xs md_30 0 (.inl (xs_al 0 1)) := by
  exact xs_aload_n_ok d_30_0 rfl
theorem it_30_1 (Ls : Nat) (xs : Nat → Int32) : xPI Ls xs md_30 1 (.inl (xs_gf 0 0 4)) := by
  exact xs_gf_ok d_30_1 (C := R_0) (T := T_0) (N := N_0) rfl in_0 (by decide) tw_177
theorem it_30_4 (Ls : Nat) (xs : Nat → Int32) : xPI Ls xs md_30 4 (.inl (xs_il 1 5)) := by
  exact xs_iload_n_ok d_30_4 rfl
theorem it_30_5 (Ls : Nat) (xs : Nat → Int32) : xPI Ls xs md_30 5 (.inr (.inl (38, 2, 3, []))) := by
  exact ⟨md_38, rfl, tw_2, by decide, ⟨by decide, by decide⟩, Or.inr (Or.inr ⟨1, R_1, T_1, N_1, 172, 1, rfl, rfl, rfl, rfl, d_30_5, tw_719, tw_667, tw_668, by decide +kernel, (fun x q h => by cases h)⟩)⟩
theorem it_30_8 (Ls : Nat) (xs : Nat → Int32) : xPI Ls xs md_30 8 (.inl (xs_if_ne 21 11)) := by
  exact xs_if_ne_ok d_30_8 (by decide)
theorem it_30_11 (Ls : Nat) (xs : Nat → Int32) : xPI Ls xs md_30 11 (.inr (.inr 3)) := by
  exact ⟨53, 57, 175, ex_ix 0, "no terminal", ex_rx 0, ex_nm, rfl, rfl, rfl, d_30_11, d_30_14, d_30_15, d_30_17, d_30_20, ex_0 0 (by decide), ex_1 0 (by decide), ex_2 0 (by decide), ex_5 0 (by decide), ex_f 0 (by decide), ex_n, tw_273, tw_274, tw_11, by decide +kernel, ow_0⟩
theorem it_30_21 (Ls : Nat) (xs : Nat → Int32) : xPI Ls xs md_30 21 (.inl (xs_al 0 22)) := by
  exact xs_aload_n_ok d_30_21 rfl
theorem it_30_22 (Ls : Nat) (xs : Nat → Int32) : xPI Ls xs md_30 22 (.inl (xs_gf 0 3 25)) := by
  exact xs_gf_ok d_30_22 (C := R_0) (T := T_0) (N := N_0) rfl in_0 (by decide) tw_180
theorem it_30_25 (Ls : Nat) (xs : Nat → Int32) : xPI Ls xs md_30 25 (.inr (.inl (62, 1, 7, []))) := by
  exact ⟨md_62, rfl, tw_6, by decide, ⟨by decide, by decide⟩, Or.inr (Or.inr ⟨5, R_5, T_5, N_5, 177, 0, rfl, rfl, rfl, rfl, d_30_25, tw_237, tw_238, tw_239, by decide +kernel, (fun x q h => by cases h)⟩)⟩
theorem it_30_28 (Ls : Nat) (xs : Nat → Int32) : xPI Ls xs md_30 28 (.inl (xs_c (1) 29)) := by
  exact xs_iconst_ok d_30_28 (by decide)
theorem it_30_29 (Ls : Nat) (xs : Nat → Int32) : xPI Ls xs md_30 29 (.inl (xs_ic_ne 44 32)) := by
  exact xs_ic_ne_ok d_30_29 (by decide)
theorem it_30_32 (Ls : Nat) (xs : Nat → Int32) : xPI Ls xs md_30 32 (.inl (xs_al 0 33)) := by
  exact xs_aload_n_ok d_30_32 rfl
theorem it_30_33 (Ls : Nat) (xs : Nat → Int32) : xPI Ls xs md_30 33 (.inl (xs_gf 0 3 36)) := by
  exact xs_gf_ok d_30_33 (C := R_0) (T := T_0) (N := N_0) rfl in_0 (by decide) tw_180
theorem it_30_36 (Ls : Nat) (xs : Nat → Int32) : xPI Ls xs md_30 36 (.inr (.inl (63, 1, 7, []))) := by
  exact ⟨md_63, rfl, tw_6, by decide, ⟨by decide, by decide⟩, Or.inr (Or.inr ⟨5, R_5, T_5, N_5, 180, 0, rfl, rfl, rfl, rfl, d_30_36, tw_245, tw_246, tw_247, by decide +kernel, (fun x q h => by cases h)⟩)⟩
theorem it_30_39 (Ls : Nat) (xs : Nat → Int32) : xPI Ls xs md_30 39 (.inl (xs_c (60) 41)) := by
  exact xs_bipush_ok d_30_39 (by decide)
theorem it_30_41 (Ls : Nat) (xs : Nat → Int32) : xPI Ls xs md_30 41 (.inl (xs_ic_lt 54 44)) := by
  exact xs_ic_lt_ok d_30_41 (by decide)
theorem it_30_44 (Ls : Nat) (xs : Nat → Int32) : xPI Ls xs md_30 44 (.inr (.inr 4)) := by
  exact ⟨64, 68, 183, ex_ix 1, "no row goes on, or the stack is full", ex_rx 1, ex_nm, rfl, rfl, rfl, d_30_44, d_30_47, d_30_48, d_30_50, d_30_53, ex_0 1 (by decide), ex_1 1 (by decide), ex_2 1 (by decide), ex_5 1 (by decide), ex_f 1 (by decide), ex_n, tw_347, tw_348, tw_12, by decide +kernel, ow_1⟩
theorem it_30_54 (Ls : Nat) (xs : Nat → Int32) : xPI Ls xs md_30 54 (.inl (xs_al 0 55)) := by
  exact xs_aload_n_ok d_30_54 rfl
theorem it_30_55 (Ls : Nat) (xs : Nat → Int32) : xPI Ls xs md_30 55 (.inl (xs_gf 0 3 58)) := by
  exact xs_gf_ok d_30_55 (C := R_0) (T := T_0) (N := N_0) rfl in_0 (by decide) tw_180
theorem it_30_58 (Ls : Nat) (xs : Nat → Int32) : xPI Ls xs md_30 58 (.inl (xs_al 0 59)) := by
  exact xs_aload_n_ok d_30_58 rfl
theorem it_30_59 (Ls : Nat) (xs : Nat → Int32) : xPI Ls xs md_30 59 (.inl (xs_gf 0 0 62)) := by
  exact xs_gf_ok d_30_59 (C := R_0) (T := T_0) (N := N_0) rfl in_0 (by decide) tw_177
theorem it_30_62 (Ls : Nat) (xs : Nat → Int32) : xPI Ls xs md_30 62 (.inl (xs_il 1 63)) := by
  exact xs_iload_n_ok d_30_62 rfl
theorem it_30_63 (Ls : Nat) (xs : Nat → Int32) : xPI Ls xs md_30 63 (.inr (.inl (43, 2, 3, []))) := by
  exact ⟨md_43, rfl, tw_2, by decide, ⟨by decide, by decide⟩, Or.inr (Or.inr ⟨1, R_1, T_1, N_1, 146, 1, rfl, rfl, rfl, rfl, d_30_63, tw_662, tw_663, tw_664, by decide +kernel, (fun x q h => by cases h)⟩)⟩
theorem it_30_69 (Ls : Nat) (xs : Nat → Int32) : xPI Ls xs md_30 69 (.inr (.inr 2)) := by
  exact ⟨rfl, d_30_69⟩
def K_30 (Ls : Nat) (xs : Nat → Int32) : Nat → Option xK := xbt 33 (xbt 21 (xbt 5 (xbt 1 (xlf 0 (.inl (xs_al 0 1))) (xbt 4 (xlf 1 (.inl (xs_gf 0 0 4))) (xlf 4 (.inl (xs_il 1 5))))) (xbt 8 (xlf 5 (.inr (.inl (38, 2, 3, [])))) (xbt 11 (xlf 8 (.inl (xs_if_ne 21 11))) (xlf 11 (.inr (.inr 3)))))) (xbt 28 (xbt 22 (xlf 21 (.inl (xs_al 0 22))) (xbt 25 (xlf 22 (.inl (xs_gf 0 3 25))) (xlf 25 (.inr (.inl (62, 1, 7, [])))))) (xbt 29 (xlf 28 (.inl (xs_c (1) 29))) (xbt 32 (xlf 29 (.inl (xs_ic_ne 44 32))) (xlf 32 (.inl (xs_al 0 33))))))) (xbt 55 (xbt 41 (xbt 36 (xlf 33 (.inl (xs_gf 0 3 36))) (xbt 39 (xlf 36 (.inr (.inl (63, 1, 7, [])))) (xlf 39 (.inl (xs_c (60) 41))))) (xbt 44 (xlf 41 (.inl (xs_ic_lt 54 44))) (xbt 54 (xlf 44 (.inr (.inr 4))) (xlf 54 (.inl (xs_al 0 55)))))) (xbt 62 (xbt 58 (xlf 55 (.inl (xs_gf 0 3 58))) (xbt 59 (xlf 58 (.inl (xs_al 0 59))) (xlf 59 (.inl (xs_gf 0 0 62))))) (xbt 63 (xlf 62 (.inl (xs_il 1 63))) (xbt 69 (xlf 63 (.inr (.inl (43, 2, 3, [])))) (xlf 69 (.inr (.inr 2)))))))
theorem ok_30 (Ls : Nat) (xs : Nat → Int32) : ∀ pc it, K_30 Ls xs pc = some it → xPI Ls xs md_30 pc it := by
  unfold K_30
  exact xbt_ok (xbt_ok (xbt_ok (xbt_ok (xlf_ok (it_30_0 Ls xs)) (xbt_ok (xlf_ok (it_30_1 Ls xs)) (xlf_ok (it_30_4 Ls xs)))) (xbt_ok (xlf_ok (it_30_5 Ls xs)) (xbt_ok (xlf_ok (it_30_8 Ls xs)) (xlf_ok (it_30_11 Ls xs))))) (xbt_ok (xbt_ok (xlf_ok (it_30_21 Ls xs)) (xbt_ok (xlf_ok (it_30_22 Ls xs)) (xlf_ok (it_30_25 Ls xs)))) (xbt_ok (xlf_ok (it_30_28 Ls xs)) (xbt_ok (xlf_ok (it_30_29 Ls xs)) (xlf_ok (it_30_32 Ls xs)))))) (xbt_ok (xbt_ok (xbt_ok (xlf_ok (it_30_33 Ls xs)) (xbt_ok (xlf_ok (it_30_36 Ls xs)) (xlf_ok (it_30_39 Ls xs)))) (xbt_ok (xlf_ok (it_30_41 Ls xs)) (xbt_ok (xlf_ok (it_30_44 Ls xs)) (xlf_ok (it_30_54 Ls xs))))) (xbt_ok (xbt_ok (xlf_ok (it_30_55 Ls xs)) (xbt_ok (xlf_ok (it_30_58 Ls xs)) (xlf_ok (it_30_59 Ls xs)))) (xbt_ok (xlf_ok (it_30_62 Ls xs)) (xbt_ok (xlf_ok (it_30_63 Ls xs)) (xlf_ok (it_30_69 Ls xs))))))
theorem d_31_0 : decode prog_1_method_17_code 0 = .ok (.aload_n 0, 1) := by decide +kernel
theorem d_31_1 : decode prog_1_method_17_code 1 = .ok (.getfield 41, 3) := by decide +kernel
theorem d_31_4 : decode prog_1_method_17_code 4 = .ok (.invokevirtual 177, 3) := by decide +kernel
theorem d_31_7 : decode prog_1_method_17_code 7 = .ok (.iconst (1), 1) := by decide +kernel
theorem d_31_8 : decode prog_1_method_17_code 8 = .ok (.if_icmp .eq (13), 3) := by decide +kernel
theorem d_31_11 : decode prog_1_method_17_code 11 = .ok (.new 64, 3) := by decide +kernel
theorem d_31_14 : decode prog_1_method_17_code 14 = .ok (.dup, 1) := by decide +kernel
theorem d_31_15 : decode prog_1_method_17_code 15 = .ok (.ldc 188, 2) := by decide +kernel
theorem d_31_17 : decode prog_1_method_17_code 17 = .ok (.invokespecial 68, 3) := by decide +kernel
theorem d_31_20 : decode prog_1_method_17_code 20 = .ok (.athrow, 1) := by decide +kernel
theorem d_31_21 : decode prog_1_method_17_code 21 = .ok (.aload_n 0, 1) := by decide +kernel
theorem d_31_22 : decode prog_1_method_17_code 22 = .ok (.getfield 41, 3) := by decide +kernel
theorem d_31_25 : decode prog_1_method_17_code 25 = .ok (.aload_n 0, 1) := by decide +kernel
theorem d_31_26 : decode prog_1_method_17_code 26 = .ok (.getfield 14, 3) := by decide +kernel
theorem d_31_29 : decode prog_1_method_17_code 29 = .ok (.invokevirtual 190, 3) := by decide +kernel
theorem d_31_35 : decode prog_1_method_17_code 35 = .ok (.ireturn, 1) := by decide +kernel
theorem it_31_0 (Ls : Nat) (xs : Nat → Int32) : xPI Ls xs md_31 0 (.inl (xs_al 0 1)) := by
  exact xs_aload_n_ok d_31_0 rfl
theorem it_31_1 (Ls : Nat) (xs : Nat → Int32) : xPI Ls xs md_31 1 (.inl (xs_gf 0 3 4)) := by
  exact xs_gf_ok d_31_1 (C := R_0) (T := T_0) (N := N_0) rfl in_0 (by decide) tw_180
theorem it_31_4 (Ls : Nat) (xs : Nat → Int32) : xPI Ls xs md_31 4 (.inr (.inl (62, 1, 7, []))) := by
  exact ⟨md_62, rfl, tw_6, by decide, ⟨by decide, by decide⟩, Or.inr (Or.inr ⟨5, R_5, T_5, N_5, 177, 0, rfl, rfl, rfl, rfl, d_31_4, tw_237, tw_238, tw_239, by decide +kernel, (fun x q h => by cases h)⟩)⟩
theorem it_31_7 (Ls : Nat) (xs : Nat → Int32) : xPI Ls xs md_31 7 (.inl (xs_c (1) 8)) := by
  exact xs_iconst_ok d_31_7 (by decide)
theorem it_31_8 (Ls : Nat) (xs : Nat → Int32) : xPI Ls xs md_31 8 (.inl (xs_ic_eq 21 11)) := by
  exact xs_ic_eq_ok d_31_8 (by decide)
theorem it_31_11 (Ls : Nat) (xs : Nat → Int32) : xPI Ls xs md_31 11 (.inr (.inr 4)) := by
  exact ⟨64, 68, 188, ex_ix 1, "no row goes on", ex_rx 1, ex_nm, rfl, rfl, rfl, d_31_11, d_31_14, d_31_15, d_31_17, d_31_20, ex_0 1 (by decide), ex_1 1 (by decide), ex_2 1 (by decide), ex_5 1 (by decide), ex_f 1 (by decide), ex_n, tw_347, tw_348, tw_12, by decide +kernel, ow_1⟩
theorem it_31_21 (Ls : Nat) (xs : Nat → Int32) : xPI Ls xs md_31 21 (.inl (xs_al 0 22)) := by
  exact xs_aload_n_ok d_31_21 rfl
theorem it_31_22 (Ls : Nat) (xs : Nat → Int32) : xPI Ls xs md_31 22 (.inl (xs_gf 0 3 25)) := by
  exact xs_gf_ok d_31_22 (C := R_0) (T := T_0) (N := N_0) rfl in_0 (by decide) tw_180
theorem it_31_25 (Ls : Nat) (xs : Nat → Int32) : xPI Ls xs md_31 25 (.inl (xs_al 0 26)) := by
  exact xs_aload_n_ok d_31_25 rfl
theorem it_31_26 (Ls : Nat) (xs : Nat → Int32) : xPI Ls xs md_31 26 (.inl (xs_gf 0 0 29)) := by
  exact xs_gf_ok d_31_26 (C := R_0) (T := T_0) (N := N_0) rfl in_0 (by decide) tw_177
theorem it_31_29 (Ls : Nat) (xs : Nat → Int32) : xPI Ls xs md_31 29 (.inr (.inl (42, 1, 3, []))) := by
  exact ⟨md_42, rfl, tw_2, by decide, ⟨by decide, by decide⟩, Or.inr (Or.inr ⟨1, R_1, T_1, N_1, 190, 0, rfl, rfl, rfl, rfl, d_31_29, tw_761, tw_123, tw_124, by decide +kernel, (fun x q h => by cases h)⟩)⟩
theorem it_31_35 (Ls : Nat) (xs : Nat → Int32) : xPI Ls xs md_31 35 (.inr (.inr 2)) := by
  exact ⟨rfl, d_31_35⟩
def K_31 (Ls : Nat) (xs : Nat → Int32) : Nat → Option xK := xbt 21 (xbt 7 (xbt 1 (xlf 0 (.inl (xs_al 0 1))) (xbt 4 (xlf 1 (.inl (xs_gf 0 3 4))) (xlf 4 (.inr (.inl (62, 1, 7, [])))))) (xbt 8 (xlf 7 (.inl (xs_c (1) 8))) (xbt 11 (xlf 8 (.inl (xs_ic_eq 21 11))) (xlf 11 (.inr (.inr 4)))))) (xbt 26 (xbt 22 (xlf 21 (.inl (xs_al 0 22))) (xbt 25 (xlf 22 (.inl (xs_gf 0 3 25))) (xlf 25 (.inl (xs_al 0 26))))) (xbt 29 (xlf 26 (.inl (xs_gf 0 0 29))) (xbt 35 (xlf 29 (.inr (.inl (42, 1, 3, [])))) (xlf 35 (.inr (.inr 2))))))
theorem ok_31 (Ls : Nat) (xs : Nat → Int32) : ∀ pc it, K_31 Ls xs pc = some it → xPI Ls xs md_31 pc it := by
  unfold K_31
  exact xbt_ok (xbt_ok (xbt_ok (xlf_ok (it_31_0 Ls xs)) (xbt_ok (xlf_ok (it_31_1 Ls xs)) (xlf_ok (it_31_4 Ls xs)))) (xbt_ok (xlf_ok (it_31_7 Ls xs)) (xbt_ok (xlf_ok (it_31_8 Ls xs)) (xlf_ok (it_31_11 Ls xs))))) (xbt_ok (xbt_ok (xlf_ok (it_31_21 Ls xs)) (xbt_ok (xlf_ok (it_31_22 Ls xs)) (xlf_ok (it_31_25 Ls xs)))) (xbt_ok (xlf_ok (it_31_26 Ls xs)) (xbt_ok (xlf_ok (it_31_29 Ls xs)) (xlf_ok (it_31_35 Ls xs)))))
theorem d_32_0 : decode prog_1_method_18_code 0 = .ok (.aload_n 0, 1) := by decide +kernel
theorem d_32_1 : decode prog_1_method_18_code 1 = .ok (.getfield 41, 3) := by decide +kernel
theorem d_32_4 : decode prog_1_method_18_code 4 = .ok (.invokevirtual 177, 3) := by decide +kernel
theorem d_32_7 : decode prog_1_method_18_code 7 = .ok (.ireturn, 1) := by decide +kernel
theorem it_32_0 (Ls : Nat) (xs : Nat → Int32) : xPI Ls xs md_32 0 (.inl (xs_al 0 1)) := by
  exact xs_aload_n_ok d_32_0 rfl
theorem it_32_1 (Ls : Nat) (xs : Nat → Int32) : xPI Ls xs md_32 1 (.inl (xs_gf 0 3 4)) := by
  exact xs_gf_ok d_32_1 (C := R_0) (T := T_0) (N := N_0) rfl in_0 (by decide) tw_180
theorem it_32_4 (Ls : Nat) (xs : Nat → Int32) : xPI Ls xs md_32 4 (.inr (.inl (62, 1, 7, []))) := by
  exact ⟨md_62, rfl, tw_6, by decide, ⟨by decide, by decide⟩, Or.inr (Or.inr ⟨5, R_5, T_5, N_5, 177, 0, rfl, rfl, rfl, rfl, d_32_4, tw_237, tw_238, tw_239, by decide +kernel, (fun x q h => by cases h)⟩)⟩
theorem it_32_7 (Ls : Nat) (xs : Nat → Int32) : xPI Ls xs md_32 7 (.inr (.inr 1)) := by
  exact ⟨rfl, d_32_7⟩
def K_32 (Ls : Nat) (xs : Nat → Int32) : Nat → Option xK := xbt 4 (xbt 1 (xlf 0 (.inl (xs_al 0 1))) (xlf 1 (.inl (xs_gf 0 3 4)))) (xbt 7 (xlf 4 (.inr (.inl (62, 1, 7, [])))) (xlf 7 (.inr (.inr 1))))
theorem ok_32 (Ls : Nat) (xs : Nat → Int32) : ∀ pc it, K_32 Ls xs pc = some it → xPI Ls xs md_32 pc it := by
  unfold K_32
  exact xbt_ok (xbt_ok (xlf_ok (it_32_0 Ls xs)) (xlf_ok (it_32_1 Ls xs))) (xbt_ok (xlf_ok (it_32_4 Ls xs)) (xlf_ok (it_32_7 Ls xs)))
theorem d_33_0 : decode prog_1_method_19_code 0 = .ok (.aload_n 0, 1) := by decide +kernel
theorem d_33_1 : decode prog_1_method_19_code 1 = .ok (.getfield 41, 3) := by decide +kernel
theorem d_33_4 : decode prog_1_method_19_code 4 = .ok (.invokevirtual 180, 3) := by decide +kernel
theorem d_33_7 : decode prog_1_method_19_code 7 = .ok (.ireturn, 1) := by decide +kernel
theorem it_33_0 (Ls : Nat) (xs : Nat → Int32) : xPI Ls xs md_33 0 (.inl (xs_al 0 1)) := by
  exact xs_aload_n_ok d_33_0 rfl
theorem it_33_1 (Ls : Nat) (xs : Nat → Int32) : xPI Ls xs md_33 1 (.inl (xs_gf 0 3 4)) := by
  exact xs_gf_ok d_33_1 (C := R_0) (T := T_0) (N := N_0) rfl in_0 (by decide) tw_180
theorem it_33_4 (Ls : Nat) (xs : Nat → Int32) : xPI Ls xs md_33 4 (.inr (.inl (63, 1, 7, []))) := by
  exact ⟨md_63, rfl, tw_6, by decide, ⟨by decide, by decide⟩, Or.inr (Or.inr ⟨5, R_5, T_5, N_5, 180, 0, rfl, rfl, rfl, rfl, d_33_4, tw_245, tw_246, tw_247, by decide +kernel, (fun x q h => by cases h)⟩)⟩
theorem it_33_7 (Ls : Nat) (xs : Nat → Int32) : xPI Ls xs md_33 7 (.inr (.inr 1)) := by
  exact ⟨rfl, d_33_7⟩
def K_33 (Ls : Nat) (xs : Nat → Int32) : Nat → Option xK := xbt 4 (xbt 1 (xlf 0 (.inl (xs_al 0 1))) (xlf 1 (.inl (xs_gf 0 3 4)))) (xbt 7 (xlf 4 (.inr (.inl (63, 1, 7, [])))) (xlf 7 (.inr (.inr 1))))
theorem ok_33 (Ls : Nat) (xs : Nat → Int32) : ∀ pc it, K_33 Ls xs pc = some it → xPI Ls xs md_33 pc it := by
  unfold K_33
  exact xbt_ok (xbt_ok (xlf_ok (it_33_0 Ls xs)) (xlf_ok (it_33_1 Ls xs))) (xbt_ok (xlf_ok (it_33_4 Ls xs)) (xlf_ok (it_33_7 Ls xs)))
theorem d_34_0 : decode prog_1_method_20_code 0 = .ok (.aload_n 0, 1) := by decide +kernel
theorem d_34_1 : decode prog_1_method_20_code 1 = .ok (.getfield 41, 3) := by decide +kernel
theorem d_34_4 : decode prog_1_method_20_code 4 = .ok (.invokevirtual 193, 3) := by decide +kernel
theorem d_34_7 : decode prog_1_method_20_code 7 = .ok (.ireturn, 1) := by decide +kernel
theorem it_34_0 (Ls : Nat) (xs : Nat → Int32) : xPI Ls xs md_34 0 (.inl (xs_al 0 1)) := by
  exact xs_aload_n_ok d_34_0 rfl
theorem it_34_1 (Ls : Nat) (xs : Nat → Int32) : xPI Ls xs md_34 1 (.inl (xs_gf 0 3 4)) := by
  exact xs_gf_ok d_34_1 (C := R_0) (T := T_0) (N := N_0) rfl in_0 (by decide) tw_180
theorem it_34_4 (Ls : Nat) (xs : Nat → Int32) : xPI Ls xs md_34 4 (.inr (.inl (64, 1, 7, []))) := by
  exact ⟨md_64, rfl, tw_6, by decide, ⟨by decide, by decide⟩, Or.inr (Or.inr ⟨5, R_5, T_5, N_5, 193, 0, rfl, rfl, rfl, rfl, d_34_4, tw_253, tw_254, tw_255, by decide +kernel, (fun x q h => by cases h)⟩)⟩
theorem it_34_7 (Ls : Nat) (xs : Nat → Int32) : xPI Ls xs md_34 7 (.inr (.inr 1)) := by
  exact ⟨rfl, d_34_7⟩
def K_34 (Ls : Nat) (xs : Nat → Int32) : Nat → Option xK := xbt 4 (xbt 1 (xlf 0 (.inl (xs_al 0 1))) (xlf 1 (.inl (xs_gf 0 3 4)))) (xbt 7 (xlf 4 (.inr (.inl (64, 1, 7, [])))) (xlf 7 (.inr (.inr 1))))
theorem ok_34 (Ls : Nat) (xs : Nat → Int32) : ∀ pc it, K_34 Ls xs pc = some it → xPI Ls xs md_34 pc it := by
  unfold K_34
  exact xbt_ok (xbt_ok (xlf_ok (it_34_0 Ls xs)) (xlf_ok (it_34_1 Ls xs))) (xbt_ok (xlf_ok (it_34_4 Ls xs)) (xlf_ok (it_34_7 Ls xs)))
theorem d_35_0 : decode prog_1_method_21_code 0 = .ok (.iload_n 1, 1) := by decide +kernel
theorem d_35_1 : decode prog_1_method_21_code 1 = .ok (.ifCond .lt (14), 3) := by decide +kernel
theorem d_35_4 : decode prog_1_method_21_code 4 = .ok (.iload_n 1, 1) := by decide +kernel
theorem d_35_5 : decode prog_1_method_21_code 5 = .ok (.aload_n 0, 1) := by decide +kernel
theorem d_35_6 : decode prog_1_method_21_code 6 = .ok (.getfield 41, 3) := by decide +kernel
theorem d_35_9 : decode prog_1_method_21_code 9 = .ok (.invokevirtual 196, 3) := by decide +kernel
theorem d_35_12 : decode prog_1_method_21_code 12 = .ok (.if_icmp .lt (13), 3) := by decide +kernel
theorem d_35_15 : decode prog_1_method_21_code 15 = .ok (.new 130, 3) := by decide +kernel
theorem d_35_18 : decode prog_1_method_21_code 18 = .ok (.dup, 1) := by decide +kernel
theorem d_35_19 : decode prog_1_method_21_code 19 = .ok (.ldc 199, 2) := by decide +kernel
theorem d_35_21 : decode prog_1_method_21_code 21 = .ok (.invokespecial 134, 3) := by decide +kernel
theorem d_35_24 : decode prog_1_method_21_code 24 = .ok (.athrow, 1) := by decide +kernel
theorem d_35_25 : decode prog_1_method_21_code 25 = .ok (.aload_n 0, 1) := by decide +kernel
theorem d_35_26 : decode prog_1_method_21_code 26 = .ok (.getfield 41, 3) := by decide +kernel
theorem d_35_29 : decode prog_1_method_21_code 29 = .ok (.iload_n 1, 1) := by decide +kernel
theorem d_35_33 : decode prog_1_method_21_code 33 = .ok (.ireturn, 1) := by decide +kernel
theorem it_35_0 (Ls : Nat) (xs : Nat → Int32) : xPI Ls xs md_35 0 (.inl (xs_il 1 1)) := by
  exact xs_iload_n_ok d_35_0 rfl
theorem it_35_1 (Ls : Nat) (xs : Nat → Int32) : xPI Ls xs md_35 1 (.inl (xs_if_lt 15 4)) := by
  exact xs_if_lt_ok d_35_1 (by decide)
theorem it_35_4 (Ls : Nat) (xs : Nat → Int32) : xPI Ls xs md_35 4 (.inl (xs_il 1 5)) := by
  exact xs_iload_n_ok d_35_4 rfl
theorem it_35_5 (Ls : Nat) (xs : Nat → Int32) : xPI Ls xs md_35 5 (.inl (xs_al 0 6)) := by
  exact xs_aload_n_ok d_35_5 rfl
theorem it_35_6 (Ls : Nat) (xs : Nat → Int32) : xPI Ls xs md_35 6 (.inl (xs_gf 0 3 9)) := by
  exact xs_gf_ok d_35_6 (C := R_0) (T := T_0) (N := N_0) rfl in_0 (by decide) tw_180
theorem it_35_9 (Ls : Nat) (xs : Nat → Int32) : xPI Ls xs md_35 9 (.inr (.inl (65, 1, 7, []))) := by
  exact ⟨md_65, rfl, tw_6, by decide, ⟨by decide, by decide⟩, Or.inr (Or.inr ⟨5, R_5, T_5, N_5, 196, 0, rfl, rfl, rfl, rfl, d_35_9, tw_769, tw_770, tw_771, by decide +kernel, (fun x q h => by cases h)⟩)⟩
theorem it_35_12 (Ls : Nat) (xs : Nat → Int32) : xPI Ls xs md_35 12 (.inl (xs_ic_lt 25 15)) := by
  exact xs_ic_lt_ok d_35_12 (by decide)
theorem it_35_15 (Ls : Nat) (xs : Nat → Int32) : xPI Ls xs md_35 15 (.inr (.inr 5)) := by
  exact ⟨130, 134, 199, ex_ix 2, "no such production", ex_rx 2, ex_nm, rfl, rfl, rfl, d_35_15, d_35_18, d_35_19, d_35_21, d_35_24, ex_0 2 (by decide), ex_1 2 (by decide), ex_2 2 (by decide), ex_5 2 (by decide), ex_f 2 (by decide), ex_n, tw_604, tw_605, tw_17, by decide +kernel, ow_2⟩
theorem it_35_25 (Ls : Nat) (xs : Nat → Int32) : xPI Ls xs md_35 25 (.inl (xs_al 0 26)) := by
  exact xs_aload_n_ok d_35_25 rfl
theorem it_35_26 (Ls : Nat) (xs : Nat → Int32) : xPI Ls xs md_35 26 (.inl (xs_gf 0 3 29)) := by
  exact xs_gf_ok d_35_26 (C := R_0) (T := T_0) (N := N_0) rfl in_0 (by decide) tw_180
theorem it_35_29 (Ls : Nat) (xs : Nat → Int32) : xPI Ls xs md_35 29 (.inl (xs_il 1 30)) := by
  exact xs_iload_n_ok d_35_29 rfl
theorem it_35_33 (Ls : Nat) (xs : Nat → Int32) : xPI Ls xs md_35 33 (.inr (.inr 1)) := by
  exact ⟨rfl, d_35_33⟩
def K_35 (Ls : Nat) (xs : Nat → Int32) : Nat → Option xK := xbt 12 (xbt 5 (xbt 1 (xlf 0 (.inl (xs_il 1 1))) (xbt 4 (xlf 1 (.inl (xs_if_lt 15 4))) (xlf 4 (.inl (xs_il 1 5))))) (xbt 6 (xlf 5 (.inl (xs_al 0 6))) (xbt 9 (xlf 6 (.inl (xs_gf 0 3 9))) (xlf 9 (.inr (.inl (65, 1, 7, []))))))) (xbt 26 (xbt 15 (xlf 12 (.inl (xs_ic_lt 25 15))) (xbt 25 (xlf 15 (.inr (.inr 5))) (xlf 25 (.inl (xs_al 0 26))))) (xbt 29 (xlf 26 (.inl (xs_gf 0 3 29))) (xbt 33 (xlf 29 (.inl (xs_il 1 30))) (xlf 33 (.inr (.inr 1))))))
theorem ok_35 (Ls : Nat) (xs : Nat → Int32) : ∀ pc it, K_35 Ls xs pc = some it → xPI Ls xs md_35 pc it := by
  unfold K_35
  exact xbt_ok (xbt_ok (xbt_ok (xlf_ok (it_35_0 Ls xs)) (xbt_ok (xlf_ok (it_35_1 Ls xs)) (xlf_ok (it_35_4 Ls xs)))) (xbt_ok (xlf_ok (it_35_5 Ls xs)) (xbt_ok (xlf_ok (it_35_6 Ls xs)) (xlf_ok (it_35_9 Ls xs))))) (xbt_ok (xbt_ok (xlf_ok (it_35_12 Ls xs)) (xbt_ok (xlf_ok (it_35_15 Ls xs)) (xlf_ok (it_35_25 Ls xs)))) (xbt_ok (xlf_ok (it_35_26 Ls xs)) (xbt_ok (xlf_ok (it_35_29 Ls xs)) (xlf_ok (it_35_33 Ls xs)))))
theorem d_36_0 : decode prog_1_method_22_code 0 = .ok (.aload_n 0, 1) := by decide +kernel
theorem d_36_1 : decode prog_1_method_22_code 1 = .ok (.getfield 45, 3) := by decide +kernel
theorem d_36_4 : decode prog_1_method_22_code 4 = .ok (.ifCond .eq (22), 3) := by decide +kernel
theorem d_36_7 : decode prog_1_method_22_code 7 = .ok (.iload_n 1, 1) := by decide +kernel
theorem d_36_8 : decode prog_1_method_22_code 8 = .ok (.ifCond .lt (18), 3) := by decide +kernel
theorem d_36_11 : decode prog_1_method_22_code 11 = .ok (.iload_n 1, 1) := by decide +kernel
theorem d_36_12 : decode prog_1_method_22_code 12 = .ok (.aload_n 0, 1) := by decide +kernel
theorem d_36_13 : decode prog_1_method_22_code 13 = .ok (.getfield 23, 3) := by decide +kernel
theorem d_36_19 : decode prog_1_method_22_code 19 = .ok (.if_icmp .ge (7), 3) := by decide +kernel
theorem d_36_22 : decode prog_1_method_22_code 22 = .ok (.iconst (1), 1) := by decide +kernel
theorem d_36_23 : decode prog_1_method_22_code 23 = .ok (.goto (4), 3) := by decide +kernel
theorem d_36_26 : decode prog_1_method_22_code 26 = .ok (.iconst (0), 1) := by decide +kernel
theorem d_36_27 : decode prog_1_method_22_code 27 = .ok (.ireturn, 1) := by decide +kernel
theorem it_36_0 (Ls : Nat) (xs : Nat → Int32) : xPI Ls xs md_36 0 (.inl (xs_al 0 1)) := by
  exact xs_aload_n_ok d_36_0 rfl
theorem it_36_1 (Ls : Nat) (xs : Nat → Int32) : xPI Ls xs md_36 1 (.inl (xs_gf 0 4 4)) := by
  exact xs_gf_ok d_36_1 (C := R_0) (T := T_0) (N := N_0) rfl in_0 (by decide) tw_181
theorem it_36_4 (Ls : Nat) (xs : Nat → Int32) : xPI Ls xs md_36 4 (.inl (xs_if_eq 26 7)) := by
  exact xs_if_eq_ok d_36_4 (by decide)
theorem it_36_7 (Ls : Nat) (xs : Nat → Int32) : xPI Ls xs md_36 7 (.inl (xs_il 1 8)) := by
  exact xs_iload_n_ok d_36_7 rfl
theorem it_36_8 (Ls : Nat) (xs : Nat → Int32) : xPI Ls xs md_36 8 (.inl (xs_if_lt 26 11)) := by
  exact xs_if_lt_ok d_36_8 (by decide)
theorem it_36_11 (Ls : Nat) (xs : Nat → Int32) : xPI Ls xs md_36 11 (.inl (xs_il 1 12)) := by
  exact xs_iload_n_ok d_36_11 rfl
theorem it_36_12 (Ls : Nat) (xs : Nat → Int32) : xPI Ls xs md_36 12 (.inl (xs_al 0 13)) := by
  exact xs_aload_n_ok d_36_12 rfl
theorem it_36_13 (Ls : Nat) (xs : Nat → Int32) : xPI Ls xs md_36 13 (.inl (xs_gf 0 1 16)) := by
  exact xs_gf_ok d_36_13 (C := R_0) (T := T_0) (N := N_0) rfl in_0 (by decide) tw_178
theorem it_36_19 (Ls : Nat) (xs : Nat → Int32) : xPI Ls xs md_36 19 (.inl (xs_ic_ge 26 22)) := by
  exact xs_ic_ge_ok d_36_19 (by decide)
theorem it_36_22 (Ls : Nat) (xs : Nat → Int32) : xPI Ls xs md_36 22 (.inl (xs_c (1) 23)) := by
  exact xs_iconst_ok d_36_22 (by decide)
theorem it_36_23 (Ls : Nat) (xs : Nat → Int32) : xPI Ls xs md_36 23 (.inl (xs_goto 27)) := by
  exact xs_goto_ok d_36_23 (by decide)
theorem it_36_26 (Ls : Nat) (xs : Nat → Int32) : xPI Ls xs md_36 26 (.inl (xs_c (0) 27)) := by
  exact xs_iconst_ok d_36_26 (by decide)
theorem it_36_27 (Ls : Nat) (xs : Nat → Int32) : xPI Ls xs md_36 27 (.inr (.inr 2)) := by
  exact ⟨rfl, d_36_27⟩
def K_36 (Ls : Nat) (xs : Nat → Int32) : Nat → Option xK := xbt 12 (xbt 7 (xbt 1 (xlf 0 (.inl (xs_al 0 1))) (xbt 4 (xlf 1 (.inl (xs_gf 0 4 4))) (xlf 4 (.inl (xs_if_eq 26 7))))) (xbt 8 (xlf 7 (.inl (xs_il 1 8))) (xbt 11 (xlf 8 (.inl (xs_if_lt 26 11))) (xlf 11 (.inl (xs_il 1 12)))))) (xbt 22 (xbt 13 (xlf 12 (.inl (xs_al 0 13))) (xbt 19 (xlf 13 (.inl (xs_gf 0 1 16))) (xlf 19 (.inl (xs_ic_ge 26 22))))) (xbt 26 (xbt 23 (xlf 22 (.inl (xs_c (1) 23))) (xlf 23 (.inl (xs_goto 27)))) (xbt 27 (xlf 26 (.inl (xs_c (0) 27))) (xlf 27 (.inr (.inr 2))))))
theorem ok_36 (Ls : Nat) (xs : Nat → Int32) : ∀ pc it, K_36 Ls xs pc = some it → xPI Ls xs md_36 pc it := by
  unfold K_36
  exact xbt_ok (xbt_ok (xbt_ok (xlf_ok (it_36_0 Ls xs)) (xbt_ok (xlf_ok (it_36_1 Ls xs)) (xlf_ok (it_36_4 Ls xs)))) (xbt_ok (xlf_ok (it_36_7 Ls xs)) (xbt_ok (xlf_ok (it_36_8 Ls xs)) (xlf_ok (it_36_11 Ls xs))))) (xbt_ok (xbt_ok (xlf_ok (it_36_12 Ls xs)) (xbt_ok (xlf_ok (it_36_13 Ls xs)) (xlf_ok (it_36_19 Ls xs)))) (xbt_ok (xbt_ok (xlf_ok (it_36_22 Ls xs)) (xlf_ok (it_36_23 Ls xs))) (xbt_ok (xlf_ok (it_36_26 Ls xs)) (xlf_ok (it_36_27 Ls xs)))))
