theorem d_37_0 : decode prog_4_method_1_code 0 = .ok (.aload_n 0, 1) := by decide +kernel
theorem d_37_1 : decode prog_4_method_1_code 1 = .ok (.invokespecial 3, 3) := by decide +kernel
theorem d_37_4 : decode prog_4_method_1_code 4 = .ok (.aload_n 0, 1) := by decide +kernel
theorem d_37_5 : decode prog_4_method_1_code 5 = .ok (.iload_n 1, 1) := by decide +kernel
theorem d_37_6 : decode prog_4_method_1_code 6 = .ok (.putfield 9, 3) := by decide +kernel
theorem d_37_9 : decode prog_4_method_1_code 9 = .ok (.aload_n 0, 1) := by decide +kernel
theorem d_37_10 : decode prog_4_method_1_code 10 = .ok (.iload_n 2, 1) := by decide +kernel
theorem d_37_11 : decode prog_4_method_1_code 11 = .ok (.putfield 15, 3) := by decide +kernel
theorem d_37_14 : decode prog_4_method_1_code 14 = .ok (.aload_n 0, 1) := by decide +kernel
theorem d_37_15 : decode prog_4_method_1_code 15 = .ok (.bipush (14), 2) := by decide +kernel
theorem d_37_17 : decode prog_4_method_1_code 17 = .ok (.newarray .int, 2) := by decide +kernel
theorem d_37_19 : decode prog_4_method_1_code 19 = .ok (.putfield 18, 3) := by decide +kernel
theorem d_37_22 : decode prog_4_method_1_code 22 = .ok (.aload_n 0, 1) := by decide +kernel
theorem d_37_23 : decode prog_4_method_1_code 23 = .ok (.bipush (15), 2) := by decide +kernel
theorem d_37_25 : decode prog_4_method_1_code 25 = .ok (.newarray .int, 2) := by decide +kernel
theorem d_37_27 : decode prog_4_method_1_code 27 = .ok (.putfield 22, 3) := by decide +kernel
theorem d_37_30 : decode prog_4_method_1_code 30 = .ok (.aload_n 0, 1) := by decide +kernel
theorem d_37_31 : decode prog_4_method_1_code 31 = .ok (.bipush (40), 2) := by decide +kernel
theorem d_37_33 : decode prog_4_method_1_code 33 = .ok (.newarray .int, 2) := by decide +kernel
theorem d_37_35 : decode prog_4_method_1_code 35 = .ok (.putfield 25, 3) := by decide +kernel
theorem d_37_38 : decode prog_4_method_1_code 38 = .ok (.aload_n 0, 1) := by decide +kernel
theorem d_37_39 : decode prog_4_method_1_code 39 = .ok (.iconst (0), 1) := by decide +kernel
theorem d_37_40 : decode prog_4_method_1_code 40 = .ok (.putfield 28, 3) := by decide +kernel
theorem d_37_43 : decode prog_4_method_1_code 43 = .ok (.aload_n 0, 1) := by decide +kernel
theorem d_37_44 : decode prog_4_method_1_code 44 = .ok (.iload_n 2, 1) := by decide +kernel
theorem d_37_45 : decode prog_4_method_1_code 45 = .ok (.newarray .boolean, 2) := by decide +kernel
theorem d_37_47 : decode prog_4_method_1_code 47 = .ok (.putfield 31, 3) := by decide +kernel
theorem d_37_50 : decode prog_4_method_1_code 50 = .ok (.aload_n 0, 1) := by decide +kernel
theorem d_37_51 : decode prog_4_method_1_code 51 = .ok (.iload_n 2, 1) := by decide +kernel
theorem d_37_52 : decode prog_4_method_1_code 52 = .ok (.newarray .int, 2) := by decide +kernel
theorem d_37_54 : decode prog_4_method_1_code 54 = .ok (.putfield 35, 3) := by decide +kernel
theorem d_37_57 : decode prog_4_method_1_code 57 = .ok (.return_, 1) := by decide +kernel
theorem it_37_0 (Ls : Nat) (xs : Nat → Int32) : xPI Ls xs md_37 0 (.inl (xs_al 0 1)) := by
  exact xs_aload_n_ok d_37_0 rfl
theorem it_37_1 (Ls : Nat) (xs : Nat → Int32) : xPI Ls xs md_37 1 (.inl (xs_oi 4)) := by
  exact xs_oi_ok d_37_1 tw_32 tw_25 tw_obj
theorem it_37_4 (Ls : Nat) (xs : Nat → Int32) : xPI Ls xs md_37 4 (.inl (xs_al 0 5)) := by
  exact xs_aload_n_ok d_37_4 rfl
theorem it_37_5 (Ls : Nat) (xs : Nat → Int32) : xPI Ls xs md_37 5 (.inl (xs_il 1 6)) := by
  exact xs_iload_n_ok d_37_5 rfl
theorem it_37_6 (Ls : Nat) (xs : Nat → Int32) : xPI Ls xs md_37 6 (.inl (xs_pf 1 0 0 9)) := by
  exact xs_pf_ok d_37_6 (C := R_1) (T := T_1) (N := N_1) (ty0 := Y_1) rfl in_1 ty_1 nm_1 (by decide) tw_33 (Or.inr ⟨rfl, rfl, rfl⟩) rfl
theorem it_37_9 (Ls : Nat) (xs : Nat → Int32) : xPI Ls xs md_37 9 (.inl (xs_al 0 10)) := by
  exact xs_aload_n_ok d_37_9 rfl
theorem it_37_10 (Ls : Nat) (xs : Nat → Int32) : xPI Ls xs md_37 10 (.inl (xs_il 2 11)) := by
  exact xs_iload_n_ok d_37_10 rfl
theorem it_37_11 (Ls : Nat) (xs : Nat → Int32) : xPI Ls xs md_37 11 (.inl (xs_pf 1 1 0 14)) := by
  exact xs_pf_ok d_37_11 (C := R_1) (T := T_1) (N := N_1) (ty0 := Y_1) rfl in_1 ty_1 nm_1 (by decide) tw_34 (Or.inr ⟨rfl, rfl, rfl⟩) rfl
theorem it_37_14 (Ls : Nat) (xs : Nat → Int32) : xPI Ls xs md_37 14 (.inl (xs_al 0 15)) := by
  exact xs_aload_n_ok d_37_14 rfl
theorem it_37_15 (Ls : Nat) (xs : Nat → Int32) : xPI Ls xs md_37 15 (.inl (xs_c (14) 17)) := by
  exact xs_bipush_ok d_37_15 (by decide)
theorem it_37_17 (Ls : Nat) (xs : Nat → Int32) : xPI Ls xs md_37 17 (.inl (xs_nai 600003 7302198 19)) := by
  exact xs_nai_ok d_37_17 tw_58
theorem it_37_19 (Ls : Nat) (xs : Nat → Int32) : xPI Ls xs md_37 19 (.inl (xs_pf 1 2 2 22)) := by
  exact xs_pf_ok d_37_19 (C := R_1) (T := T_1) (N := N_1) (ty0 := Y_1) rfl in_1 ty_1 nm_1 (by decide) tw_35 (Or.inr ⟨rfl, rfl, rfl⟩) (Or.inr ⟨_, rfl⟩)
theorem it_37_22 (Ls : Nat) (xs : Nat → Int32) : xPI Ls xs md_37 22 (.inl (xs_al 0 23)) := by
  exact xs_aload_n_ok d_37_22 rfl
theorem it_37_23 (Ls : Nat) (xs : Nat → Int32) : xPI Ls xs md_37 23 (.inl (xs_c (15) 25)) := by
  exact xs_bipush_ok d_37_23 (by decide)
theorem it_37_25 (Ls : Nat) (xs : Nat → Int32) : xPI Ls xs md_37 25 (.inl (xs_nai 600003 7302198 27)) := by
  exact xs_nai_ok d_37_25 tw_58
theorem it_37_27 (Ls : Nat) (xs : Nat → Int32) : xPI Ls xs md_37 27 (.inl (xs_pf 1 3 2 30)) := by
  exact xs_pf_ok d_37_27 (C := R_1) (T := T_1) (N := N_1) (ty0 := Y_1) rfl in_1 ty_1 nm_1 (by decide) tw_36 (Or.inr ⟨rfl, rfl, rfl⟩) (Or.inr ⟨_, rfl⟩)
theorem it_37_30 (Ls : Nat) (xs : Nat → Int32) : xPI Ls xs md_37 30 (.inl (xs_al 0 31)) := by
  exact xs_aload_n_ok d_37_30 rfl
theorem it_37_31 (Ls : Nat) (xs : Nat → Int32) : xPI Ls xs md_37 31 (.inl (xs_c (40) 33)) := by
  exact xs_bipush_ok d_37_31 (by decide)
theorem it_37_33 (Ls : Nat) (xs : Nat → Int32) : xPI Ls xs md_37 33 (.inl (xs_nai 600003 7302198 35)) := by
  exact xs_nai_ok d_37_33 tw_58
theorem it_37_35 (Ls : Nat) (xs : Nat → Int32) : xPI Ls xs md_37 35 (.inl (xs_pf 1 4 2 38)) := by
  exact xs_pf_ok d_37_35 (C := R_1) (T := T_1) (N := N_1) (ty0 := Y_1) rfl in_1 ty_1 nm_1 (by decide) tw_37 (Or.inr ⟨rfl, rfl, rfl⟩) (Or.inr ⟨_, rfl⟩)
theorem it_37_38 (Ls : Nat) (xs : Nat → Int32) : xPI Ls xs md_37 38 (.inl (xs_al 0 39)) := by
  exact xs_aload_n_ok d_37_38 rfl
theorem it_37_39 (Ls : Nat) (xs : Nat → Int32) : xPI Ls xs md_37 39 (.inl (xs_c (0) 40)) := by
  exact xs_iconst_ok d_37_39 (by decide)
theorem it_37_40 (Ls : Nat) (xs : Nat → Int32) : xPI Ls xs md_37 40 (.inl (xs_pf 1 5 0 43)) := by
  exact xs_pf_ok d_37_40 (C := R_1) (T := T_1) (N := N_1) (ty0 := Y_1) rfl in_1 ty_1 nm_1 (by decide) tw_38 (Or.inl rfl) rfl
theorem it_37_43 (Ls : Nat) (xs : Nat → Int32) : xPI Ls xs md_37 43 (.inl (xs_al 0 44)) := by
  exact xs_aload_n_ok d_37_43 rfl
theorem it_37_44 (Ls : Nat) (xs : Nat → Int32) : xPI Ls xs md_37 44 (.inl (xs_il 2 45)) := by
  exact xs_iload_n_ok d_37_44 rfl
theorem it_37_45 (Ls : Nat) (xs : Nat → Int32) : xPI Ls xs md_37 45 (.inl (xs_naz 600003 7302198 47)) := by
  exact xs_naz_ok d_37_45 tw_59
theorem it_37_47 (Ls : Nat) (xs : Nat → Int32) : xPI Ls xs md_37 47 (.inl (xs_pf 1 6 2 50)) := by
  exact xs_pf_ok d_37_47 (C := R_1) (T := T_1) (N := N_1) (ty0 := Y_1) rfl in_1 ty_1 nm_1 (by decide) tw_39 (Or.inr ⟨rfl, rfl, rfl⟩) (Or.inr ⟨_, rfl⟩)
theorem it_37_50 (Ls : Nat) (xs : Nat → Int32) : xPI Ls xs md_37 50 (.inl (xs_al 0 51)) := by
  exact xs_aload_n_ok d_37_50 rfl
theorem it_37_51 (Ls : Nat) (xs : Nat → Int32) : xPI Ls xs md_37 51 (.inl (xs_il 2 52)) := by
  exact xs_iload_n_ok d_37_51 rfl
theorem it_37_52 (Ls : Nat) (xs : Nat → Int32) : xPI Ls xs md_37 52 (.inl (xs_nai 600003 7302198 54)) := by
  exact xs_nai_ok d_37_52 tw_58
theorem it_37_54 (Ls : Nat) (xs : Nat → Int32) : xPI Ls xs md_37 54 (.inl (xs_pf 1 7 2 57)) := by
  exact xs_pf_ok d_37_54 (C := R_1) (T := T_1) (N := N_1) (ty0 := Y_1) rfl in_1 ty_1 nm_1 (by decide) tw_40 (Or.inr ⟨rfl, rfl, rfl⟩) (Or.inr ⟨_, rfl⟩)
theorem it_37_57 (Ls : Nat) (xs : Nat → Int32) : xPI Ls xs md_37 57 (.inr (.inr 0)) := by
  exact ⟨rfl, d_37_57⟩
def K_37 (Ls : Nat) (xs : Nat → Int32) : Nat → Option xK := xbt 30 (xbt 14 (xbt 6 (xbt 4 (xbt 1 (xlf 0 (.inl (xs_al 0 1))) (xlf 1 (.inl (xs_oi 4)))) (xbt 5 (xlf 4 (.inl (xs_al 0 5))) (xlf 5 (.inl (xs_il 1 6))))) (xbt 10 (xbt 9 (xlf 6 (.inl (xs_pf 1 0 0 9))) (xlf 9 (.inl (xs_al 0 10)))) (xbt 11 (xlf 10 (.inl (xs_il 2 11))) (xlf 11 (.inl (xs_pf 1 1 0 14)))))) (xbt 22 (xbt 17 (xbt 15 (xlf 14 (.inl (xs_al 0 15))) (xlf 15 (.inl (xs_c (14) 17)))) (xbt 19 (xlf 17 (.inl (xs_nai 600003 7302198 19))) (xlf 19 (.inl (xs_pf 1 2 2 22))))) (xbt 25 (xbt 23 (xlf 22 (.inl (xs_al 0 23))) (xlf 23 (.inl (xs_c (15) 25)))) (xbt 27 (xlf 25 (.inl (xs_nai 600003 7302198 27))) (xlf 27 (.inl (xs_pf 1 3 2 30))))))) (xbt 44 (xbt 38 (xbt 33 (xbt 31 (xlf 30 (.inl (xs_al 0 31))) (xlf 31 (.inl (xs_c (40) 33)))) (xbt 35 (xlf 33 (.inl (xs_nai 600003 7302198 35))) (xlf 35 (.inl (xs_pf 1 4 2 38))))) (xbt 40 (xbt 39 (xlf 38 (.inl (xs_al 0 39))) (xlf 39 (.inl (xs_c (0) 40)))) (xbt 43 (xlf 40 (.inl (xs_pf 1 5 0 43))) (xlf 43 (.inl (xs_al 0 44)))))) (xbt 51 (xbt 47 (xbt 45 (xlf 44 (.inl (xs_il 2 45))) (xlf 45 (.inl (xs_naz 600003 7302198 47)))) (xbt 50 (xlf 47 (.inl (xs_pf 1 6 2 50))) (xlf 50 (.inl (xs_al 0 51))))) (xbt 54 (xbt 52 (xlf 51 (.inl (xs_il 2 52))) (xlf 52 (.inl (xs_nai 600003 7302198 54)))) (xbt 57 (xlf 54 (.inl (xs_pf 1 7 2 57))) (xlf 57 (.inr (.inr 0)))))))
theorem ok_37 (Ls : Nat) (xs : Nat → Int32) : ∀ pc it, K_37 Ls xs pc = some it → xPI Ls xs md_37 pc it := by
  unfold K_37
  exact xbt_ok (xbt_ok (xbt_ok (xbt_ok (xbt_ok (xlf_ok (it_37_0 Ls xs)) (xlf_ok (it_37_1 Ls xs))) (xbt_ok (xlf_ok (it_37_4 Ls xs)) (xlf_ok (it_37_5 Ls xs)))) (xbt_ok (xbt_ok (xlf_ok (it_37_6 Ls xs)) (xlf_ok (it_37_9 Ls xs))) (xbt_ok (xlf_ok (it_37_10 Ls xs)) (xlf_ok (it_37_11 Ls xs))))) (xbt_ok (xbt_ok (xbt_ok (xlf_ok (it_37_14 Ls xs)) (xlf_ok (it_37_15 Ls xs))) (xbt_ok (xlf_ok (it_37_17 Ls xs)) (xlf_ok (it_37_19 Ls xs)))) (xbt_ok (xbt_ok (xlf_ok (it_37_22 Ls xs)) (xlf_ok (it_37_23 Ls xs))) (xbt_ok (xlf_ok (it_37_25 Ls xs)) (xlf_ok (it_37_27 Ls xs)))))) (xbt_ok (xbt_ok (xbt_ok (xbt_ok (xlf_ok (it_37_30 Ls xs)) (xlf_ok (it_37_31 Ls xs))) (xbt_ok (xlf_ok (it_37_33 Ls xs)) (xlf_ok (it_37_35 Ls xs)))) (xbt_ok (xbt_ok (xlf_ok (it_37_38 Ls xs)) (xlf_ok (it_37_39 Ls xs))) (xbt_ok (xlf_ok (it_37_40 Ls xs)) (xlf_ok (it_37_43 Ls xs))))) (xbt_ok (xbt_ok (xbt_ok (xlf_ok (it_37_44 Ls xs)) (xlf_ok (it_37_45 Ls xs))) (xbt_ok (xlf_ok (it_37_47 Ls xs)) (xlf_ok (it_37_50 Ls xs)))) (xbt_ok (xbt_ok (xlf_ok (it_37_51 Ls xs)) (xlf_ok (it_37_52 Ls xs))) (xbt_ok (xlf_ok (it_37_54 Ls xs)) (xlf_ok (it_37_57 Ls xs))))))
theorem d_38_0 : decode prog_4_method_2_code 0 = .ok (.iload_n 1, 1) := by decide +kernel
theorem d_38_1 : decode prog_4_method_2_code 1 = .ok (.ifCond .lt (15), 3) := by decide +kernel
theorem d_38_4 : decode prog_4_method_2_code 4 = .ok (.iload_n 1, 1) := by decide +kernel
theorem d_38_5 : decode prog_4_method_2_code 5 = .ok (.aload_n 0, 1) := by decide +kernel
theorem d_38_6 : decode prog_4_method_2_code 6 = .ok (.getfield 9, 3) := by decide +kernel
theorem d_38_9 : decode prog_4_method_2_code 9 = .ok (.if_icmp .ge (7), 3) := by decide +kernel
theorem d_38_12 : decode prog_4_method_2_code 12 = .ok (.iconst (1), 1) := by decide +kernel
theorem d_38_13 : decode prog_4_method_2_code 13 = .ok (.goto (4), 3) := by decide +kernel
theorem d_38_16 : decode prog_4_method_2_code 16 = .ok (.iconst (0), 1) := by decide +kernel
theorem d_38_17 : decode prog_4_method_2_code 17 = .ok (.ireturn, 1) := by decide +kernel
theorem it_38_0 (Ls : Nat) (xs : Nat → Int32) : xPI Ls xs md_38 0 (.inl (xs_il 1 1)) := by
  exact xs_iload_n_ok d_38_0 rfl
theorem it_38_1 (Ls : Nat) (xs : Nat → Int32) : xPI Ls xs md_38 1 (.inl (xs_if_lt 16 4)) := by
  exact xs_if_lt_ok d_38_1 (by decide)
theorem it_38_4 (Ls : Nat) (xs : Nat → Int32) : xPI Ls xs md_38 4 (.inl (xs_il 1 5)) := by
  exact xs_iload_n_ok d_38_4 rfl
theorem it_38_5 (Ls : Nat) (xs : Nat → Int32) : xPI Ls xs md_38 5 (.inl (xs_al 0 6)) := by
  exact xs_aload_n_ok d_38_5 rfl
theorem it_38_6 (Ls : Nat) (xs : Nat → Int32) : xPI Ls xs md_38 6 (.inl (xs_gf 1 0 9)) := by
  exact xs_gf_ok d_38_6 (C := R_1) (T := T_1) (N := N_1) rfl in_1 (by decide) tw_33
theorem it_38_9 (Ls : Nat) (xs : Nat → Int32) : xPI Ls xs md_38 9 (.inl (xs_ic_ge 16 12)) := by
  exact xs_ic_ge_ok d_38_9 (by decide)
theorem it_38_12 (Ls : Nat) (xs : Nat → Int32) : xPI Ls xs md_38 12 (.inl (xs_c (1) 13)) := by
  exact xs_iconst_ok d_38_12 (by decide)
theorem it_38_13 (Ls : Nat) (xs : Nat → Int32) : xPI Ls xs md_38 13 (.inl (xs_goto 17)) := by
  exact xs_goto_ok d_38_13 (by decide)
theorem it_38_16 (Ls : Nat) (xs : Nat → Int32) : xPI Ls xs md_38 16 (.inl (xs_c (0) 17)) := by
  exact xs_iconst_ok d_38_16 (by decide)
theorem it_38_17 (Ls : Nat) (xs : Nat → Int32) : xPI Ls xs md_38 17 (.inr (.inr 2)) := by
  exact ⟨rfl, d_38_17⟩
def K_38 (Ls : Nat) (xs : Nat → Int32) : Nat → Option xK := xbt 9 (xbt 4 (xbt 1 (xlf 0 (.inl (xs_il 1 1))) (xlf 1 (.inl (xs_if_lt 16 4)))) (xbt 5 (xlf 4 (.inl (xs_il 1 5))) (xbt 6 (xlf 5 (.inl (xs_al 0 6))) (xlf 6 (.inl (xs_gf 1 0 9)))))) (xbt 13 (xbt 12 (xlf 9 (.inl (xs_ic_ge 16 12))) (xlf 12 (.inl (xs_c (1) 13)))) (xbt 16 (xlf 13 (.inl (xs_goto 17))) (xbt 17 (xlf 16 (.inl (xs_c (0) 17))) (xlf 17 (.inr (.inr 2))))))
theorem ok_38 (Ls : Nat) (xs : Nat → Int32) : ∀ pc it, K_38 Ls xs pc = some it → xPI Ls xs md_38 pc it := by
  unfold K_38
  exact xbt_ok (xbt_ok (xbt_ok (xlf_ok (it_38_0 Ls xs)) (xlf_ok (it_38_1 Ls xs))) (xbt_ok (xlf_ok (it_38_4 Ls xs)) (xbt_ok (xlf_ok (it_38_5 Ls xs)) (xlf_ok (it_38_6 Ls xs))))) (xbt_ok (xbt_ok (xlf_ok (it_38_9 Ls xs)) (xlf_ok (it_38_12 Ls xs))) (xbt_ok (xlf_ok (it_38_13 Ls xs)) (xbt_ok (xlf_ok (it_38_16 Ls xs)) (xlf_ok (it_38_17 Ls xs)))))
theorem d_39_0 : decode prog_4_method_3_code 0 = .ok (.iload_n 1, 1) := by decide +kernel
theorem d_39_1 : decode prog_4_method_3_code 1 = .ok (.aload_n 0, 1) := by decide +kernel
theorem d_39_2 : decode prog_4_method_3_code 2 = .ok (.getfield 9, 3) := by decide +kernel
theorem d_39_5 : decode prog_4_method_3_code 5 = .ok (.if_icmp .lt (20), 3) := by decide +kernel
theorem d_39_8 : decode prog_4_method_3_code 8 = .ok (.iload_n 1, 1) := by decide +kernel
theorem d_39_9 : decode prog_4_method_3_code 9 = .ok (.aload_n 0, 1) := by decide +kernel
theorem d_39_10 : decode prog_4_method_3_code 10 = .ok (.getfield 9, 3) := by decide +kernel
theorem d_39_13 : decode prog_4_method_3_code 13 = .ok (.aload_n 0, 1) := by decide +kernel
theorem d_39_14 : decode prog_4_method_3_code 14 = .ok (.getfield 15, 3) := by decide +kernel
theorem d_39_17 : decode prog_4_method_3_code 17 = .ok (.iadd, 1) := by decide +kernel
theorem d_39_18 : decode prog_4_method_3_code 18 = .ok (.if_icmp .ge (7), 3) := by decide +kernel
theorem d_39_21 : decode prog_4_method_3_code 21 = .ok (.iconst (1), 1) := by decide +kernel
theorem d_39_22 : decode prog_4_method_3_code 22 = .ok (.goto (4), 3) := by decide +kernel
theorem d_39_25 : decode prog_4_method_3_code 25 = .ok (.iconst (0), 1) := by decide +kernel
theorem d_39_26 : decode prog_4_method_3_code 26 = .ok (.ireturn, 1) := by decide +kernel
theorem it_39_0 (Ls : Nat) (xs : Nat → Int32) : xPI Ls xs md_39 0 (.inl (xs_il 1 1)) := by
  exact xs_iload_n_ok d_39_0 rfl
theorem it_39_1 (Ls : Nat) (xs : Nat → Int32) : xPI Ls xs md_39 1 (.inl (xs_al 0 2)) := by
  exact xs_aload_n_ok d_39_1 rfl
theorem it_39_2 (Ls : Nat) (xs : Nat → Int32) : xPI Ls xs md_39 2 (.inl (xs_gf 1 0 5)) := by
  exact xs_gf_ok d_39_2 (C := R_1) (T := T_1) (N := N_1) rfl in_1 (by decide) tw_33
theorem it_39_5 (Ls : Nat) (xs : Nat → Int32) : xPI Ls xs md_39 5 (.inl (xs_ic_lt 25 8)) := by
  exact xs_ic_lt_ok d_39_5 (by decide)
theorem it_39_8 (Ls : Nat) (xs : Nat → Int32) : xPI Ls xs md_39 8 (.inl (xs_il 1 9)) := by
  exact xs_iload_n_ok d_39_8 rfl
theorem it_39_9 (Ls : Nat) (xs : Nat → Int32) : xPI Ls xs md_39 9 (.inl (xs_al 0 10)) := by
  exact xs_aload_n_ok d_39_9 rfl
theorem it_39_10 (Ls : Nat) (xs : Nat → Int32) : xPI Ls xs md_39 10 (.inl (xs_gf 1 0 13)) := by
  exact xs_gf_ok d_39_10 (C := R_1) (T := T_1) (N := N_1) rfl in_1 (by decide) tw_33
theorem it_39_13 (Ls : Nat) (xs : Nat → Int32) : xPI Ls xs md_39 13 (.inl (xs_al 0 14)) := by
  exact xs_aload_n_ok d_39_13 rfl
theorem it_39_14 (Ls : Nat) (xs : Nat → Int32) : xPI Ls xs md_39 14 (.inl (xs_gf 1 1 17)) := by
  exact xs_gf_ok d_39_14 (C := R_1) (T := T_1) (N := N_1) rfl in_1 (by decide) tw_34
theorem it_39_17 (Ls : Nat) (xs : Nat → Int32) : xPI Ls xs md_39 17 (.inl (xs_iadd 18)) := by
  exact xs_iadd_ok d_39_17
theorem it_39_18 (Ls : Nat) (xs : Nat → Int32) : xPI Ls xs md_39 18 (.inl (xs_ic_ge 25 21)) := by
  exact xs_ic_ge_ok d_39_18 (by decide)
theorem it_39_21 (Ls : Nat) (xs : Nat → Int32) : xPI Ls xs md_39 21 (.inl (xs_c (1) 22)) := by
  exact xs_iconst_ok d_39_21 (by decide)
theorem it_39_22 (Ls : Nat) (xs : Nat → Int32) : xPI Ls xs md_39 22 (.inl (xs_goto 26)) := by
  exact xs_goto_ok d_39_22 (by decide)
theorem it_39_25 (Ls : Nat) (xs : Nat → Int32) : xPI Ls xs md_39 25 (.inl (xs_c (0) 26)) := by
  exact xs_iconst_ok d_39_25 (by decide)
theorem it_39_26 (Ls : Nat) (xs : Nat → Int32) : xPI Ls xs md_39 26 (.inr (.inr 2)) := by
  exact ⟨rfl, d_39_26⟩
def K_39 (Ls : Nat) (xs : Nat → Int32) : Nat → Option xK := xbt 13 (xbt 5 (xbt 1 (xlf 0 (.inl (xs_il 1 1))) (xbt 2 (xlf 1 (.inl (xs_al 0 2))) (xlf 2 (.inl (xs_gf 1 0 5))))) (xbt 9 (xbt 8 (xlf 5 (.inl (xs_ic_lt 25 8))) (xlf 8 (.inl (xs_il 1 9)))) (xbt 10 (xlf 9 (.inl (xs_al 0 10))) (xlf 10 (.inl (xs_gf 1 0 13)))))) (xbt 21 (xbt 17 (xbt 14 (xlf 13 (.inl (xs_al 0 14))) (xlf 14 (.inl (xs_gf 1 1 17)))) (xbt 18 (xlf 17 (.inl (xs_iadd 18))) (xlf 18 (.inl (xs_ic_ge 25 21))))) (xbt 25 (xbt 22 (xlf 21 (.inl (xs_c (1) 22))) (xlf 22 (.inl (xs_goto 26)))) (xbt 26 (xlf 25 (.inl (xs_c (0) 26))) (xlf 26 (.inr (.inr 2))))))
theorem ok_39 (Ls : Nat) (xs : Nat → Int32) : ∀ pc it, K_39 Ls xs pc = some it → xPI Ls xs md_39 pc it := by
  unfold K_39
  exact xbt_ok (xbt_ok (xbt_ok (xlf_ok (it_39_0 Ls xs)) (xbt_ok (xlf_ok (it_39_1 Ls xs)) (xlf_ok (it_39_2 Ls xs)))) (xbt_ok (xbt_ok (xlf_ok (it_39_5 Ls xs)) (xlf_ok (it_39_8 Ls xs))) (xbt_ok (xlf_ok (it_39_9 Ls xs)) (xlf_ok (it_39_10 Ls xs))))) (xbt_ok (xbt_ok (xbt_ok (xlf_ok (it_39_13 Ls xs)) (xlf_ok (it_39_14 Ls xs))) (xbt_ok (xlf_ok (it_39_17 Ls xs)) (xlf_ok (it_39_18 Ls xs)))) (xbt_ok (xbt_ok (xlf_ok (it_39_21 Ls xs)) (xlf_ok (it_39_22 Ls xs))) (xbt_ok (xlf_ok (it_39_25 Ls xs)) (xlf_ok (it_39_26 Ls xs)))))
theorem d_40_0 : decode prog_4_method_4_code 0 = .ok (.iload_n 1, 1) := by decide +kernel
theorem d_40_1 : decode prog_4_method_4_code 1 = .ok (.ifCond .lt (20), 3) := by decide +kernel
theorem d_40_4 : decode prog_4_method_4_code 4 = .ok (.iload_n 1, 1) := by decide +kernel
theorem d_40_5 : decode prog_4_method_4_code 5 = .ok (.aload_n 0, 1) := by decide +kernel
theorem d_40_6 : decode prog_4_method_4_code 6 = .ok (.getfield 9, 3) := by decide +kernel
theorem d_40_9 : decode prog_4_method_4_code 9 = .ok (.aload_n 0, 1) := by decide +kernel
theorem d_40_10 : decode prog_4_method_4_code 10 = .ok (.getfield 15, 3) := by decide +kernel
theorem d_40_13 : decode prog_4_method_4_code 13 = .ok (.iadd, 1) := by decide +kernel
theorem d_40_14 : decode prog_4_method_4_code 14 = .ok (.if_icmp .ge (7), 3) := by decide +kernel
theorem d_40_17 : decode prog_4_method_4_code 17 = .ok (.iconst (1), 1) := by decide +kernel
theorem d_40_18 : decode prog_4_method_4_code 18 = .ok (.goto (4), 3) := by decide +kernel
theorem d_40_21 : decode prog_4_method_4_code 21 = .ok (.iconst (0), 1) := by decide +kernel
theorem d_40_22 : decode prog_4_method_4_code 22 = .ok (.ireturn, 1) := by decide +kernel
theorem it_40_0 (Ls : Nat) (xs : Nat → Int32) : xPI Ls xs md_40 0 (.inl (xs_il 1 1)) := by
  exact xs_iload_n_ok d_40_0 rfl
theorem it_40_1 (Ls : Nat) (xs : Nat → Int32) : xPI Ls xs md_40 1 (.inl (xs_if_lt 21 4)) := by
  exact xs_if_lt_ok d_40_1 (by decide)
theorem it_40_4 (Ls : Nat) (xs : Nat → Int32) : xPI Ls xs md_40 4 (.inl (xs_il 1 5)) := by
  exact xs_iload_n_ok d_40_4 rfl
theorem it_40_5 (Ls : Nat) (xs : Nat → Int32) : xPI Ls xs md_40 5 (.inl (xs_al 0 6)) := by
  exact xs_aload_n_ok d_40_5 rfl
theorem it_40_6 (Ls : Nat) (xs : Nat → Int32) : xPI Ls xs md_40 6 (.inl (xs_gf 1 0 9)) := by
  exact xs_gf_ok d_40_6 (C := R_1) (T := T_1) (N := N_1) rfl in_1 (by decide) tw_33
theorem it_40_9 (Ls : Nat) (xs : Nat → Int32) : xPI Ls xs md_40 9 (.inl (xs_al 0 10)) := by
  exact xs_aload_n_ok d_40_9 rfl
theorem it_40_10 (Ls : Nat) (xs : Nat → Int32) : xPI Ls xs md_40 10 (.inl (xs_gf 1 1 13)) := by
  exact xs_gf_ok d_40_10 (C := R_1) (T := T_1) (N := N_1) rfl in_1 (by decide) tw_34
theorem it_40_13 (Ls : Nat) (xs : Nat → Int32) : xPI Ls xs md_40 13 (.inl (xs_iadd 14)) := by
  exact xs_iadd_ok d_40_13
theorem it_40_14 (Ls : Nat) (xs : Nat → Int32) : xPI Ls xs md_40 14 (.inl (xs_ic_ge 21 17)) := by
  exact xs_ic_ge_ok d_40_14 (by decide)
theorem it_40_17 (Ls : Nat) (xs : Nat → Int32) : xPI Ls xs md_40 17 (.inl (xs_c (1) 18)) := by
  exact xs_iconst_ok d_40_17 (by decide)
theorem it_40_18 (Ls : Nat) (xs : Nat → Int32) : xPI Ls xs md_40 18 (.inl (xs_goto 22)) := by
  exact xs_goto_ok d_40_18 (by decide)
theorem it_40_21 (Ls : Nat) (xs : Nat → Int32) : xPI Ls xs md_40 21 (.inl (xs_c (0) 22)) := by
  exact xs_iconst_ok d_40_21 (by decide)
theorem it_40_22 (Ls : Nat) (xs : Nat → Int32) : xPI Ls xs md_40 22 (.inr (.inr 2)) := by
  exact ⟨rfl, d_40_22⟩
def K_40 (Ls : Nat) (xs : Nat → Int32) : Nat → Option xK := xbt 10 (xbt 5 (xbt 1 (xlf 0 (.inl (xs_il 1 1))) (xbt 4 (xlf 1 (.inl (xs_if_lt 21 4))) (xlf 4 (.inl (xs_il 1 5))))) (xbt 6 (xlf 5 (.inl (xs_al 0 6))) (xbt 9 (xlf 6 (.inl (xs_gf 1 0 9))) (xlf 9 (.inl (xs_al 0 10)))))) (xbt 17 (xbt 13 (xlf 10 (.inl (xs_gf 1 1 13))) (xbt 14 (xlf 13 (.inl (xs_iadd 14))) (xlf 14 (.inl (xs_ic_ge 21 17))))) (xbt 21 (xbt 18 (xlf 17 (.inl (xs_c (1) 18))) (xlf 18 (.inl (xs_goto 22)))) (xbt 22 (xlf 21 (.inl (xs_c (0) 22))) (xlf 22 (.inr (.inr 2))))))
theorem ok_40 (Ls : Nat) (xs : Nat → Int32) : ∀ pc it, K_40 Ls xs pc = some it → xPI Ls xs md_40 pc it := by
  unfold K_40
  exact xbt_ok (xbt_ok (xbt_ok (xlf_ok (it_40_0 Ls xs)) (xbt_ok (xlf_ok (it_40_1 Ls xs)) (xlf_ok (it_40_4 Ls xs)))) (xbt_ok (xlf_ok (it_40_5 Ls xs)) (xbt_ok (xlf_ok (it_40_6 Ls xs)) (xlf_ok (it_40_9 Ls xs))))) (xbt_ok (xbt_ok (xlf_ok (it_40_10 Ls xs)) (xbt_ok (xlf_ok (it_40_13 Ls xs)) (xlf_ok (it_40_14 Ls xs)))) (xbt_ok (xbt_ok (xlf_ok (it_40_17 Ls xs)) (xlf_ok (it_40_18 Ls xs))) (xbt_ok (xlf_ok (it_40_21 Ls xs)) (xlf_ok (it_40_22 Ls xs)))))
theorem d_41_0 : decode prog_4_method_5_code 0 = .ok (.aload_n 0, 1) := by decide +kernel
theorem d_41_1 : decode prog_4_method_5_code 1 = .ok (.getfield 9, 3) := by decide +kernel
theorem d_41_4 : decode prog_4_method_5_code 4 = .ok (.aload_n 0, 1) := by decide +kernel
theorem d_41_5 : decode prog_4_method_5_code 5 = .ok (.getfield 15, 3) := by decide +kernel
theorem d_41_8 : decode prog_4_method_5_code 8 = .ok (.iadd, 1) := by decide +kernel
theorem d_41_9 : decode prog_4_method_5_code 9 = .ok (.ireturn, 1) := by decide +kernel
theorem it_41_0 (Ls : Nat) (xs : Nat → Int32) : xPI Ls xs md_41 0 (.inl (xs_al 0 1)) := by
  exact xs_aload_n_ok d_41_0 rfl
theorem it_41_1 (Ls : Nat) (xs : Nat → Int32) : xPI Ls xs md_41 1 (.inl (xs_gf 1 0 4)) := by
  exact xs_gf_ok d_41_1 (C := R_1) (T := T_1) (N := N_1) rfl in_1 (by decide) tw_33
theorem it_41_4 (Ls : Nat) (xs : Nat → Int32) : xPI Ls xs md_41 4 (.inl (xs_al 0 5)) := by
  exact xs_aload_n_ok d_41_4 rfl
theorem it_41_5 (Ls : Nat) (xs : Nat → Int32) : xPI Ls xs md_41 5 (.inl (xs_gf 1 1 8)) := by
  exact xs_gf_ok d_41_5 (C := R_1) (T := T_1) (N := N_1) rfl in_1 (by decide) tw_34
theorem it_41_8 (Ls : Nat) (xs : Nat → Int32) : xPI Ls xs md_41 8 (.inl (xs_iadd 9)) := by
  exact xs_iadd_ok d_41_8
theorem it_41_9 (Ls : Nat) (xs : Nat → Int32) : xPI Ls xs md_41 9 (.inr (.inr 1)) := by
  exact ⟨rfl, d_41_9⟩
def K_41 (Ls : Nat) (xs : Nat → Int32) : Nat → Option xK := xbt 5 (xbt 1 (xlf 0 (.inl (xs_al 0 1))) (xbt 4 (xlf 1 (.inl (xs_gf 1 0 4))) (xlf 4 (.inl (xs_al 0 5))))) (xbt 8 (xlf 5 (.inl (xs_gf 1 1 8))) (xbt 9 (xlf 8 (.inl (xs_iadd 9))) (xlf 9 (.inr (.inr 1)))))
theorem ok_41 (Ls : Nat) (xs : Nat → Int32) : ∀ pc it, K_41 Ls xs pc = some it → xPI Ls xs md_41 pc it := by
  unfold K_41
  exact xbt_ok (xbt_ok (xlf_ok (it_41_0 Ls xs)) (xbt_ok (xlf_ok (it_41_1 Ls xs)) (xlf_ok (it_41_4 Ls xs)))) (xbt_ok (xlf_ok (it_41_5 Ls xs)) (xbt_ok (xlf_ok (it_41_8 Ls xs)) (xlf_ok (it_41_9 Ls xs))))
theorem d_42_0 : decode prog_4_method_6_code 0 = .ok (.aload_n 0, 1) := by decide +kernel
theorem d_42_1 : decode prog_4_method_6_code 1 = .ok (.getfield 9, 3) := by decide +kernel
theorem d_42_4 : decode prog_4_method_6_code 4 = .ok (.ireturn, 1) := by decide +kernel
theorem it_42_0 (Ls : Nat) (xs : Nat → Int32) : xPI Ls xs md_42 0 (.inl (xs_al 0 1)) := by
  exact xs_aload_n_ok d_42_0 rfl
theorem it_42_1 (Ls : Nat) (xs : Nat → Int32) : xPI Ls xs md_42 1 (.inl (xs_gf 1 0 4)) := by
  exact xs_gf_ok d_42_1 (C := R_1) (T := T_1) (N := N_1) rfl in_1 (by decide) tw_33
theorem it_42_4 (Ls : Nat) (xs : Nat → Int32) : xPI Ls xs md_42 4 (.inr (.inr 1)) := by
  exact ⟨rfl, d_42_4⟩
def K_42 (Ls : Nat) (xs : Nat → Int32) : Nat → Option xK := xbt 1 (xlf 0 (.inl (xs_al 0 1))) (xbt 4 (xlf 1 (.inl (xs_gf 1 0 4))) (xlf 4 (.inr (.inr 1))))
theorem ok_42 (Ls : Nat) (xs : Nat → Int32) : ∀ pc it, K_42 Ls xs pc = some it → xPI Ls xs md_42 pc it := by
  unfold K_42
  exact xbt_ok (xlf_ok (it_42_0 Ls xs)) (xbt_ok (xlf_ok (it_42_1 Ls xs)) (xlf_ok (it_42_4 Ls xs)))
theorem d_43_0 : decode prog_4_method_7_code 0 = .ok (.aload_n 0, 1) := by decide +kernel
theorem d_43_1 : decode prog_4_method_7_code 1 = .ok (.iload_n 1, 1) := by decide +kernel
theorem d_43_2 : decode prog_4_method_7_code 2 = .ok (.invokevirtual 38, 3) := by decide +kernel
theorem d_43_5 : decode prog_4_method_7_code 5 = .ok (.ifCond .eq (5), 3) := by decide +kernel
theorem d_43_8 : decode prog_4_method_7_code 8 = .ok (.iload_n 1, 1) := by decide +kernel
theorem d_43_9 : decode prog_4_method_7_code 9 = .ok (.ireturn, 1) := by decide +kernel
theorem d_43_10 : decode prog_4_method_7_code 10 = .ok (.iload_n 1, 1) := by decide +kernel
theorem d_43_11 : decode prog_4_method_7_code 11 = .ok (.aload_n 0, 1) := by decide +kernel
theorem d_43_12 : decode prog_4_method_7_code 12 = .ok (.getfield 9, 3) := by decide +kernel
theorem d_43_15 : decode prog_4_method_7_code 15 = .ok (.aload_n 0, 1) := by decide +kernel
theorem d_43_16 : decode prog_4_method_7_code 16 = .ok (.getfield 15, 3) := by decide +kernel
theorem d_43_19 : decode prog_4_method_7_code 19 = .ok (.iadd, 1) := by decide +kernel
theorem d_43_20 : decode prog_4_method_7_code 20 = .ok (.if_icmp .ne (10), 3) := by decide +kernel
theorem d_43_23 : decode prog_4_method_7_code 23 = .ok (.aload_n 0, 1) := by decide +kernel
theorem d_43_24 : decode prog_4_method_7_code 24 = .ok (.getfield 9, 3) := by decide +kernel
theorem d_43_27 : decode prog_4_method_7_code 27 = .ok (.goto (4), 3) := by decide +kernel
theorem d_43_30 : decode prog_4_method_7_code 30 = .ok (.iconst (-1), 1) := by decide +kernel
theorem d_43_31 : decode prog_4_method_7_code 31 = .ok (.ireturn, 1) := by decide +kernel
theorem it_43_0 (Ls : Nat) (xs : Nat → Int32) : xPI Ls xs md_43 0 (.inl (xs_al 0 1)) := by
  exact xs_aload_n_ok d_43_0 rfl
theorem it_43_1 (Ls : Nat) (xs : Nat → Int32) : xPI Ls xs md_43 1 (.inl (xs_il 1 2)) := by
  exact xs_iload_n_ok d_43_1 rfl
theorem it_43_2 (Ls : Nat) (xs : Nat → Int32) : xPI Ls xs md_43 2 (.inr (.inl (38, 2, 3, []))) := by
  exact ⟨md_38, rfl, tw_2, by decide, ⟨by decide, by decide⟩, Or.inr (Or.inr ⟨1, R_1, T_1, N_1, 38, 1, rfl, rfl, rfl, rfl, d_43_2, tw_666, tw_667, tw_668, by decide +kernel, (fun x q h => by cases h)⟩)⟩
theorem it_43_5 (Ls : Nat) (xs : Nat → Int32) : xPI Ls xs md_43 5 (.inl (xs_if_eq 10 8)) := by
  exact xs_if_eq_ok d_43_5 (by decide)
theorem it_43_8 (Ls : Nat) (xs : Nat → Int32) : xPI Ls xs md_43 8 (.inl (xs_il 1 9)) := by
  exact xs_iload_n_ok d_43_8 rfl
theorem it_43_9 (Ls : Nat) (xs : Nat → Int32) : xPI Ls xs md_43 9 (.inr (.inr 1)) := by
  exact ⟨rfl, d_43_9⟩
theorem it_43_10 (Ls : Nat) (xs : Nat → Int32) : xPI Ls xs md_43 10 (.inl (xs_il 1 11)) := by
  exact xs_iload_n_ok d_43_10 rfl
theorem it_43_11 (Ls : Nat) (xs : Nat → Int32) : xPI Ls xs md_43 11 (.inl (xs_al 0 12)) := by
  exact xs_aload_n_ok d_43_11 rfl
theorem it_43_12 (Ls : Nat) (xs : Nat → Int32) : xPI Ls xs md_43 12 (.inl (xs_gf 1 0 15)) := by
  exact xs_gf_ok d_43_12 (C := R_1) (T := T_1) (N := N_1) rfl in_1 (by decide) tw_33
theorem it_43_15 (Ls : Nat) (xs : Nat → Int32) : xPI Ls xs md_43 15 (.inl (xs_al 0 16)) := by
  exact xs_aload_n_ok d_43_15 rfl
theorem it_43_16 (Ls : Nat) (xs : Nat → Int32) : xPI Ls xs md_43 16 (.inl (xs_gf 1 1 19)) := by
  exact xs_gf_ok d_43_16 (C := R_1) (T := T_1) (N := N_1) rfl in_1 (by decide) tw_34
theorem it_43_19 (Ls : Nat) (xs : Nat → Int32) : xPI Ls xs md_43 19 (.inl (xs_iadd 20)) := by
  exact xs_iadd_ok d_43_19
theorem it_43_20 (Ls : Nat) (xs : Nat → Int32) : xPI Ls xs md_43 20 (.inl (xs_ic_ne 30 23)) := by
  exact xs_ic_ne_ok d_43_20 (by decide)
theorem it_43_23 (Ls : Nat) (xs : Nat → Int32) : xPI Ls xs md_43 23 (.inl (xs_al 0 24)) := by
  exact xs_aload_n_ok d_43_23 rfl
theorem it_43_24 (Ls : Nat) (xs : Nat → Int32) : xPI Ls xs md_43 24 (.inl (xs_gf 1 0 27)) := by
  exact xs_gf_ok d_43_24 (C := R_1) (T := T_1) (N := N_1) rfl in_1 (by decide) tw_33
theorem it_43_27 (Ls : Nat) (xs : Nat → Int32) : xPI Ls xs md_43 27 (.inl (xs_goto 31)) := by
  exact xs_goto_ok d_43_27 (by decide)
theorem it_43_30 (Ls : Nat) (xs : Nat → Int32) : xPI Ls xs md_43 30 (.inl (xs_c (-1) 31)) := by
  exact xs_iconst_ok d_43_30 (by decide)
theorem it_43_31 (Ls : Nat) (xs : Nat → Int32) : xPI Ls xs md_43 31 (.inr (.inr 1)) := by
  exact ⟨rfl, d_43_31⟩
def K_43 (Ls : Nat) (xs : Nat → Int32) : Nat → Option xK := xbt 15 (xbt 8 (xbt 2 (xbt 1 (xlf 0 (.inl (xs_al 0 1))) (xlf 1 (.inl (xs_il 1 2)))) (xbt 5 (xlf 2 (.inr (.inl (38, 2, 3, [])))) (xlf 5 (.inl (xs_if_eq 10 8))))) (xbt 10 (xbt 9 (xlf 8 (.inl (xs_il 1 9))) (xlf 9 (.inr (.inr 1)))) (xbt 11 (xlf 10 (.inl (xs_il 1 11))) (xbt 12 (xlf 11 (.inl (xs_al 0 12))) (xlf 12 (.inl (xs_gf 1 0 15))))))) (xbt 23 (xbt 19 (xbt 16 (xlf 15 (.inl (xs_al 0 16))) (xlf 16 (.inl (xs_gf 1 1 19)))) (xbt 20 (xlf 19 (.inl (xs_iadd 20))) (xlf 20 (.inl (xs_ic_ne 30 23))))) (xbt 27 (xbt 24 (xlf 23 (.inl (xs_al 0 24))) (xlf 24 (.inl (xs_gf 1 0 27)))) (xbt 30 (xlf 27 (.inl (xs_goto 31))) (xbt 31 (xlf 30 (.inl (xs_c (-1) 31))) (xlf 31 (.inr (.inr 1)))))))
theorem ok_43 (Ls : Nat) (xs : Nat → Int32) : ∀ pc it, K_43 Ls xs pc = some it → xPI Ls xs md_43 pc it := by
  unfold K_43
  exact xbt_ok (xbt_ok (xbt_ok (xbt_ok (xlf_ok (it_43_0 Ls xs)) (xlf_ok (it_43_1 Ls xs))) (xbt_ok (xlf_ok (it_43_2 Ls xs)) (xlf_ok (it_43_5 Ls xs)))) (xbt_ok (xbt_ok (xlf_ok (it_43_8 Ls xs)) (xlf_ok (it_43_9 Ls xs))) (xbt_ok (xlf_ok (it_43_10 Ls xs)) (xbt_ok (xlf_ok (it_43_11 Ls xs)) (xlf_ok (it_43_12 Ls xs)))))) (xbt_ok (xbt_ok (xbt_ok (xlf_ok (it_43_15 Ls xs)) (xlf_ok (it_43_16 Ls xs))) (xbt_ok (xlf_ok (it_43_19 Ls xs)) (xlf_ok (it_43_20 Ls xs)))) (xbt_ok (xbt_ok (xlf_ok (it_43_23 Ls xs)) (xlf_ok (it_43_24 Ls xs))) (xbt_ok (xlf_ok (it_43_27 Ls xs)) (xbt_ok (xlf_ok (it_43_30 Ls xs)) (xlf_ok (it_43_31 Ls xs))))))
theorem d_44_0 : decode prog_4_method_9_code 0 = .ok (.aload_n 0, 1) := by decide +kernel
theorem d_44_1 : decode prog_4_method_9_code 1 = .ok (.getfield 28, 3) := by decide +kernel
theorem d_44_4 : decode prog_4_method_9_code 4 = .ok (.ifCond .ne (7), 3) := by decide +kernel
theorem d_44_7 : decode prog_4_method_9_code 7 = .ok (.iconst (1), 1) := by decide +kernel
theorem d_44_8 : decode prog_4_method_9_code 8 = .ok (.goto (4), 3) := by decide +kernel
theorem d_44_11 : decode prog_4_method_9_code 11 = .ok (.iconst (0), 1) := by decide +kernel
theorem d_44_12 : decode prog_4_method_9_code 12 = .ok (.ireturn, 1) := by decide +kernel
theorem it_44_0 (Ls : Nat) (xs : Nat → Int32) : xPI Ls xs md_44 0 (.inl (xs_al 0 1)) := by
  exact xs_aload_n_ok d_44_0 rfl
theorem it_44_1 (Ls : Nat) (xs : Nat → Int32) : xPI Ls xs md_44 1 (.inl (xs_gf 1 5 4)) := by
  exact xs_gf_ok d_44_1 (C := R_1) (T := T_1) (N := N_1) rfl in_1 (by decide) tw_38
theorem it_44_4 (Ls : Nat) (xs : Nat → Int32) : xPI Ls xs md_44 4 (.inl (xs_if_ne 11 7)) := by
  exact xs_if_ne_ok d_44_4 (by decide)
theorem it_44_7 (Ls : Nat) (xs : Nat → Int32) : xPI Ls xs md_44 7 (.inl (xs_c (1) 8)) := by
  exact xs_iconst_ok d_44_7 (by decide)
theorem it_44_8 (Ls : Nat) (xs : Nat → Int32) : xPI Ls xs md_44 8 (.inl (xs_goto 12)) := by
  exact xs_goto_ok d_44_8 (by decide)
theorem it_44_11 (Ls : Nat) (xs : Nat → Int32) : xPI Ls xs md_44 11 (.inl (xs_c (0) 12)) := by
  exact xs_iconst_ok d_44_11 (by decide)
theorem it_44_12 (Ls : Nat) (xs : Nat → Int32) : xPI Ls xs md_44 12 (.inr (.inr 2)) := by
  exact ⟨rfl, d_44_12⟩
def K_44 (Ls : Nat) (xs : Nat → Int32) : Nat → Option xK := xbt 7 (xbt 1 (xlf 0 (.inl (xs_al 0 1))) (xbt 4 (xlf 1 (.inl (xs_gf 1 5 4))) (xlf 4 (.inl (xs_if_ne 11 7))))) (xbt 11 (xbt 8 (xlf 7 (.inl (xs_c (1) 8))) (xlf 8 (.inl (xs_goto 12)))) (xbt 12 (xlf 11 (.inl (xs_c (0) 12))) (xlf 12 (.inr (.inr 2)))))
theorem ok_44 (Ls : Nat) (xs : Nat → Int32) : ∀ pc it, K_44 Ls xs pc = some it → xPI Ls xs md_44 pc it := by
  unfold K_44
  exact xbt_ok (xbt_ok (xlf_ok (it_44_0 Ls xs)) (xbt_ok (xlf_ok (it_44_1 Ls xs)) (xlf_ok (it_44_4 Ls xs)))) (xbt_ok (xbt_ok (xlf_ok (it_44_7 Ls xs)) (xlf_ok (it_44_8 Ls xs))) (xbt_ok (xlf_ok (it_44_11 Ls xs)) (xlf_ok (it_44_12 Ls xs))))
theorem d_45_0 : decode prog_4_method_11_code 0 = .ok (.aload_n 0, 1) := by decide +kernel
theorem d_45_1 : decode prog_4_method_11_code 1 = .ok (.getfield 28, 3) := by decide +kernel
theorem d_45_4 : decode prog_4_method_11_code 4 = .ok (.bipush (14), 2) := by decide +kernel
theorem d_45_6 : decode prog_4_method_11_code 6 = .ok (.if_icmp .ge (7), 3) := by decide +kernel
theorem d_45_9 : decode prog_4_method_11_code 9 = .ok (.iconst (1), 1) := by decide +kernel
theorem d_45_10 : decode prog_4_method_11_code 10 = .ok (.goto (4), 3) := by decide +kernel
theorem d_45_13 : decode prog_4_method_11_code 13 = .ok (.iconst (0), 1) := by decide +kernel
theorem d_45_14 : decode prog_4_method_11_code 14 = .ok (.ireturn, 1) := by decide +kernel
theorem it_45_0 (Ls : Nat) (xs : Nat → Int32) : xPI Ls xs md_45 0 (.inl (xs_al 0 1)) := by
  exact xs_aload_n_ok d_45_0 rfl
theorem it_45_1 (Ls : Nat) (xs : Nat → Int32) : xPI Ls xs md_45 1 (.inl (xs_gf 1 5 4)) := by
  exact xs_gf_ok d_45_1 (C := R_1) (T := T_1) (N := N_1) rfl in_1 (by decide) tw_38
theorem it_45_4 (Ls : Nat) (xs : Nat → Int32) : xPI Ls xs md_45 4 (.inl (xs_c (14) 6)) := by
  exact xs_bipush_ok d_45_4 (by decide)
theorem it_45_6 (Ls : Nat) (xs : Nat → Int32) : xPI Ls xs md_45 6 (.inl (xs_ic_ge 13 9)) := by
  exact xs_ic_ge_ok d_45_6 (by decide)
theorem it_45_9 (Ls : Nat) (xs : Nat → Int32) : xPI Ls xs md_45 9 (.inl (xs_c (1) 10)) := by
  exact xs_iconst_ok d_45_9 (by decide)
theorem it_45_10 (Ls : Nat) (xs : Nat → Int32) : xPI Ls xs md_45 10 (.inl (xs_goto 14)) := by
  exact xs_goto_ok d_45_10 (by decide)
theorem it_45_13 (Ls : Nat) (xs : Nat → Int32) : xPI Ls xs md_45 13 (.inl (xs_c (0) 14)) := by
  exact xs_iconst_ok d_45_13 (by decide)
theorem it_45_14 (Ls : Nat) (xs : Nat → Int32) : xPI Ls xs md_45 14 (.inr (.inr 2)) := by
  exact ⟨rfl, d_45_14⟩
def K_45 (Ls : Nat) (xs : Nat → Int32) : Nat → Option xK := xbt 9 (xbt 4 (xbt 1 (xlf 0 (.inl (xs_al 0 1))) (xlf 1 (.inl (xs_gf 1 5 4)))) (xbt 6 (xlf 4 (.inl (xs_c (14) 6))) (xlf 6 (.inl (xs_ic_ge 13 9))))) (xbt 13 (xbt 10 (xlf 9 (.inl (xs_c (1) 10))) (xlf 10 (.inl (xs_goto 14)))) (xbt 14 (xlf 13 (.inl (xs_c (0) 14))) (xlf 14 (.inr (.inr 2)))))
theorem ok_45 (Ls : Nat) (xs : Nat → Int32) : ∀ pc it, K_45 Ls xs pc = some it → xPI Ls xs md_45 pc it := by
  unfold K_45
  exact xbt_ok (xbt_ok (xbt_ok (xlf_ok (it_45_0 Ls xs)) (xlf_ok (it_45_1 Ls xs))) (xbt_ok (xlf_ok (it_45_4 Ls xs)) (xlf_ok (it_45_6 Ls xs)))) (xbt_ok (xbt_ok (xlf_ok (it_45_9 Ls xs)) (xlf_ok (it_45_10 Ls xs))) (xbt_ok (xlf_ok (it_45_13 Ls xs)) (xlf_ok (it_45_14 Ls xs))))
theorem d_46_0 : decode prog_4_method_12_code 0 = .ok (.aload_n 0, 1) := by decide +kernel
theorem d_46_1 : decode prog_4_method_12_code 1 = .ok (.getfield 28, 3) := by decide +kernel
theorem d_46_4 : decode prog_4_method_12_code 4 = .ok (.ifCond .le (21), 3) := by decide +kernel
theorem d_46_7 : decode prog_4_method_12_code 7 = .ok (.aload_n 0, 1) := by decide +kernel
theorem d_46_8 : decode prog_4_method_12_code 8 = .ok (.getfield 22, 3) := by decide +kernel
theorem d_46_11 : decode prog_4_method_12_code 11 = .ok (.aload_n 0, 1) := by decide +kernel
theorem d_46_12 : decode prog_4_method_12_code 12 = .ok (.getfield 28, 3) := by decide +kernel
theorem d_46_15 : decode prog_4_method_12_code 15 = .ok (.iaload, 1) := by decide +kernel
theorem d_46_16 : decode prog_4_method_12_code 16 = .ok (.bipush (40), 2) := by decide +kernel
theorem d_46_18 : decode prog_4_method_12_code 18 = .ok (.if_icmp .ge (7), 3) := by decide +kernel
theorem d_46_21 : decode prog_4_method_12_code 21 = .ok (.iconst (1), 1) := by decide +kernel
theorem d_46_22 : decode prog_4_method_12_code 22 = .ok (.goto (4), 3) := by decide +kernel
theorem d_46_25 : decode prog_4_method_12_code 25 = .ok (.iconst (0), 1) := by decide +kernel
theorem d_46_26 : decode prog_4_method_12_code 26 = .ok (.ireturn, 1) := by decide +kernel
theorem it_46_0 (Ls : Nat) (xs : Nat → Int32) : xPI Ls xs md_46 0 (.inl (xs_al 0 1)) := by
  exact xs_aload_n_ok d_46_0 rfl
theorem it_46_1 (Ls : Nat) (xs : Nat → Int32) : xPI Ls xs md_46 1 (.inl (xs_gf 1 5 4)) := by
  exact xs_gf_ok d_46_1 (C := R_1) (T := T_1) (N := N_1) rfl in_1 (by decide) tw_38
theorem it_46_4 (Ls : Nat) (xs : Nat → Int32) : xPI Ls xs md_46 4 (.inl (xs_if_le 25 7)) := by
  exact xs_if_le_ok d_46_4 (by decide)
theorem it_46_7 (Ls : Nat) (xs : Nat → Int32) : xPI Ls xs md_46 7 (.inl (xs_al 0 8)) := by
  exact xs_aload_n_ok d_46_7 rfl
theorem it_46_8 (Ls : Nat) (xs : Nat → Int32) : xPI Ls xs md_46 8 (.inl (xs_gf 1 3 11)) := by
  exact xs_gf_ok d_46_8 (C := R_1) (T := T_1) (N := N_1) rfl in_1 (by decide) tw_36
theorem it_46_11 (Ls : Nat) (xs : Nat → Int32) : xPI Ls xs md_46 11 (.inl (xs_al 0 12)) := by
  exact xs_aload_n_ok d_46_11 rfl
theorem it_46_12 (Ls : Nat) (xs : Nat → Int32) : xPI Ls xs md_46 12 (.inl (xs_gf 1 5 15)) := by
  exact xs_gf_ok d_46_12 (C := R_1) (T := T_1) (N := N_1) rfl in_1 (by decide) tw_38
theorem it_46_15 (Ls : Nat) (xs : Nat → Int32) : xPI Ls xs md_46 15 (.inl (xs_ia Ls xs 16)) := by
  exact xs_ia_ok d_46_15
theorem it_46_16 (Ls : Nat) (xs : Nat → Int32) : xPI Ls xs md_46 16 (.inl (xs_c (40) 18)) := by
  exact xs_bipush_ok d_46_16 (by decide)
theorem it_46_18 (Ls : Nat) (xs : Nat → Int32) : xPI Ls xs md_46 18 (.inl (xs_ic_ge 25 21)) := by
  exact xs_ic_ge_ok d_46_18 (by decide)
theorem it_46_21 (Ls : Nat) (xs : Nat → Int32) : xPI Ls xs md_46 21 (.inl (xs_c (1) 22)) := by
  exact xs_iconst_ok d_46_21 (by decide)
theorem it_46_22 (Ls : Nat) (xs : Nat → Int32) : xPI Ls xs md_46 22 (.inl (xs_goto 26)) := by
  exact xs_goto_ok d_46_22 (by decide)
theorem it_46_25 (Ls : Nat) (xs : Nat → Int32) : xPI Ls xs md_46 25 (.inl (xs_c (0) 26)) := by
  exact xs_iconst_ok d_46_25 (by decide)
theorem it_46_26 (Ls : Nat) (xs : Nat → Int32) : xPI Ls xs md_46 26 (.inr (.inr 2)) := by
  exact ⟨rfl, d_46_26⟩
def K_46 (Ls : Nat) (xs : Nat → Int32) : Nat → Option xK := xbt 15 (xbt 7 (xbt 1 (xlf 0 (.inl (xs_al 0 1))) (xbt 4 (xlf 1 (.inl (xs_gf 1 5 4))) (xlf 4 (.inl (xs_if_le 25 7))))) (xbt 11 (xbt 8 (xlf 7 (.inl (xs_al 0 8))) (xlf 8 (.inl (xs_gf 1 3 11)))) (xbt 12 (xlf 11 (.inl (xs_al 0 12))) (xlf 12 (.inl (xs_gf 1 5 15)))))) (xbt 21 (xbt 16 (xlf 15 (.inl (xs_ia Ls xs 16))) (xbt 18 (xlf 16 (.inl (xs_c (40) 18))) (xlf 18 (.inl (xs_ic_ge 25 21))))) (xbt 25 (xbt 22 (xlf 21 (.inl (xs_c (1) 22))) (xlf 22 (.inl (xs_goto 26)))) (xbt 26 (xlf 25 (.inl (xs_c (0) 26))) (xlf 26 (.inr (.inr 2))))))
theorem ok_46 (Ls : Nat) (xs : Nat → Int32) : ∀ pc it, K_46 Ls xs pc = some it → xPI Ls xs md_46 pc it := by
  unfold K_46
  exact xbt_ok (xbt_ok (xbt_ok (xlf_ok (it_46_0 Ls xs)) (xbt_ok (xlf_ok (it_46_1 Ls xs)) (xlf_ok (it_46_4 Ls xs)))) (xbt_ok (xbt_ok (xlf_ok (it_46_7 Ls xs)) (xlf_ok (it_46_8 Ls xs))) (xbt_ok (xlf_ok (it_46_11 Ls xs)) (xlf_ok (it_46_12 Ls xs))))) (xbt_ok (xbt_ok (xlf_ok (it_46_15 Ls xs)) (xbt_ok (xlf_ok (it_46_16 Ls xs)) (xlf_ok (it_46_18 Ls xs)))) (xbt_ok (xbt_ok (xlf_ok (it_46_21 Ls xs)) (xlf_ok (it_46_22 Ls xs))) (xbt_ok (xlf_ok (it_46_25 Ls xs)) (xlf_ok (it_46_26 Ls xs)))))
theorem d_47_0 : decode prog_4_method_13_code 0 = .ok (.aload_n 0, 1) := by decide +kernel
theorem d_47_1 : decode prog_4_method_13_code 1 = .ok (.getfield 18, 3) := by decide +kernel
theorem d_47_4 : decode prog_4_method_13_code 4 = .ok (.aload_n 0, 1) := by decide +kernel
theorem d_47_5 : decode prog_4_method_13_code 5 = .ok (.getfield 28, 3) := by decide +kernel
theorem d_47_8 : decode prog_4_method_13_code 8 = .ok (.iload_n 1, 1) := by decide +kernel
theorem d_47_9 : decode prog_4_method_13_code 9 = .ok (.iastore, 1) := by decide +kernel
theorem d_47_10 : decode prog_4_method_13_code 10 = .ok (.aload_n 0, 1) := by decide +kernel
theorem d_47_11 : decode prog_4_method_13_code 11 = .ok (.getfield 22, 3) := by decide +kernel
theorem d_47_14 : decode prog_4_method_13_code 14 = .ok (.aload_n 0, 1) := by decide +kernel
theorem d_47_15 : decode prog_4_method_13_code 15 = .ok (.getfield 28, 3) := by decide +kernel
theorem d_47_18 : decode prog_4_method_13_code 18 = .ok (.iconst (1), 1) := by decide +kernel
theorem d_47_19 : decode prog_4_method_13_code 19 = .ok (.iadd, 1) := by decide +kernel
theorem d_47_20 : decode prog_4_method_13_code 20 = .ok (.aload_n 0, 1) := by decide +kernel
theorem d_47_21 : decode prog_4_method_13_code 21 = .ok (.getfield 22, 3) := by decide +kernel
theorem d_47_24 : decode prog_4_method_13_code 24 = .ok (.aload_n 0, 1) := by decide +kernel
theorem d_47_25 : decode prog_4_method_13_code 25 = .ok (.getfield 28, 3) := by decide +kernel
theorem d_47_28 : decode prog_4_method_13_code 28 = .ok (.iaload, 1) := by decide +kernel
theorem d_47_29 : decode prog_4_method_13_code 29 = .ok (.iastore, 1) := by decide +kernel
theorem d_47_30 : decode prog_4_method_13_code 30 = .ok (.aload_n 0, 1) := by decide +kernel
theorem d_47_31 : decode prog_4_method_13_code 31 = .ok (.dup, 1) := by decide +kernel
theorem d_47_32 : decode prog_4_method_13_code 32 = .ok (.getfield 28, 3) := by decide +kernel
theorem d_47_35 : decode prog_4_method_13_code 35 = .ok (.iconst (1), 1) := by decide +kernel
theorem d_47_36 : decode prog_4_method_13_code 36 = .ok (.iadd, 1) := by decide +kernel
theorem d_47_37 : decode prog_4_method_13_code 37 = .ok (.putfield 28, 3) := by decide +kernel
theorem d_47_40 : decode prog_4_method_13_code 40 = .ok (.aload_n 0, 1) := by decide +kernel
theorem d_47_41 : decode prog_4_method_13_code 41 = .ok (.getfield 28, 3) := by decide +kernel
theorem d_47_44 : decode prog_4_method_13_code 44 = .ok (.iconst (1), 1) := by decide +kernel
theorem d_47_45 : decode prog_4_method_13_code 45 = .ok (.isub, 1) := by decide +kernel
theorem d_47_46 : decode prog_4_method_13_code 46 = .ok (.ireturn, 1) := by decide +kernel
theorem it_47_0 (Ls : Nat) (xs : Nat → Int32) : xPI Ls xs md_47 0 (.inl (xs_al 0 1)) := by
  exact xs_aload_n_ok d_47_0 rfl
theorem it_47_1 (Ls : Nat) (xs : Nat → Int32) : xPI Ls xs md_47 1 (.inl (xs_gf 1 2 4)) := by
  exact xs_gf_ok d_47_1 (C := R_1) (T := T_1) (N := N_1) rfl in_1 (by decide) tw_35
theorem it_47_4 (Ls : Nat) (xs : Nat → Int32) : xPI Ls xs md_47 4 (.inl (xs_al 0 5)) := by
  exact xs_aload_n_ok d_47_4 rfl
theorem it_47_5 (Ls : Nat) (xs : Nat → Int32) : xPI Ls xs md_47 5 (.inl (xs_gf 1 5 8)) := by
  exact xs_gf_ok d_47_5 (C := R_1) (T := T_1) (N := N_1) rfl in_1 (by decide) tw_38
theorem it_47_8 (Ls : Nat) (xs : Nat → Int32) : xPI Ls xs md_47 8 (.inl (xs_il 1 9)) := by
  exact xs_iload_n_ok d_47_8 rfl
theorem it_47_9 (Ls : Nat) (xs : Nat → Int32) : xPI Ls xs md_47 9 (.inl (xs_ias 10)) := by
  exact xs_ias_ok d_47_9
theorem it_47_10 (Ls : Nat) (xs : Nat → Int32) : xPI Ls xs md_47 10 (.inl (xs_al 0 11)) := by
  exact xs_aload_n_ok d_47_10 rfl
theorem it_47_11 (Ls : Nat) (xs : Nat → Int32) : xPI Ls xs md_47 11 (.inl (xs_gf 1 3 14)) := by
  exact xs_gf_ok d_47_11 (C := R_1) (T := T_1) (N := N_1) rfl in_1 (by decide) tw_36
theorem it_47_14 (Ls : Nat) (xs : Nat → Int32) : xPI Ls xs md_47 14 (.inl (xs_al 0 15)) := by
  exact xs_aload_n_ok d_47_14 rfl
theorem it_47_15 (Ls : Nat) (xs : Nat → Int32) : xPI Ls xs md_47 15 (.inl (xs_gf 1 5 18)) := by
  exact xs_gf_ok d_47_15 (C := R_1) (T := T_1) (N := N_1) rfl in_1 (by decide) tw_38
theorem it_47_18 (Ls : Nat) (xs : Nat → Int32) : xPI Ls xs md_47 18 (.inl (xs_c (1) 19)) := by
  exact xs_iconst_ok d_47_18 (by decide)
theorem it_47_19 (Ls : Nat) (xs : Nat → Int32) : xPI Ls xs md_47 19 (.inl (xs_iadd 20)) := by
  exact xs_iadd_ok d_47_19
theorem it_47_20 (Ls : Nat) (xs : Nat → Int32) : xPI Ls xs md_47 20 (.inl (xs_al 0 21)) := by
  exact xs_aload_n_ok d_47_20 rfl
theorem it_47_21 (Ls : Nat) (xs : Nat → Int32) : xPI Ls xs md_47 21 (.inl (xs_gf 1 3 24)) := by
  exact xs_gf_ok d_47_21 (C := R_1) (T := T_1) (N := N_1) rfl in_1 (by decide) tw_36
theorem it_47_24 (Ls : Nat) (xs : Nat → Int32) : xPI Ls xs md_47 24 (.inl (xs_al 0 25)) := by
  exact xs_aload_n_ok d_47_24 rfl
theorem it_47_25 (Ls : Nat) (xs : Nat → Int32) : xPI Ls xs md_47 25 (.inl (xs_gf 1 5 28)) := by
  exact xs_gf_ok d_47_25 (C := R_1) (T := T_1) (N := N_1) rfl in_1 (by decide) tw_38
theorem it_47_28 (Ls : Nat) (xs : Nat → Int32) : xPI Ls xs md_47 28 (.inl (xs_ia Ls xs 29)) := by
  exact xs_ia_ok d_47_28
theorem it_47_29 (Ls : Nat) (xs : Nat → Int32) : xPI Ls xs md_47 29 (.inl (xs_ias 30)) := by
  exact xs_ias_ok d_47_29
theorem it_47_30 (Ls : Nat) (xs : Nat → Int32) : xPI Ls xs md_47 30 (.inl (xs_al 0 31)) := by
  exact xs_aload_n_ok d_47_30 rfl
theorem it_47_31 (Ls : Nat) (xs : Nat → Int32) : xPI Ls xs md_47 31 (.inl (xs_dup 32)) := by
  exact xs_dup_ok d_47_31
theorem it_47_32 (Ls : Nat) (xs : Nat → Int32) : xPI Ls xs md_47 32 (.inl (xs_gf 1 5 35)) := by
  exact xs_gf_ok d_47_32 (C := R_1) (T := T_1) (N := N_1) rfl in_1 (by decide) tw_38
theorem it_47_35 (Ls : Nat) (xs : Nat → Int32) : xPI Ls xs md_47 35 (.inl (xs_c (1) 36)) := by
  exact xs_iconst_ok d_47_35 (by decide)
theorem it_47_36 (Ls : Nat) (xs : Nat → Int32) : xPI Ls xs md_47 36 (.inl (xs_iadd 37)) := by
  exact xs_iadd_ok d_47_36
theorem it_47_37 (Ls : Nat) (xs : Nat → Int32) : xPI Ls xs md_47 37 (.inl (xs_pf 1 5 0 40)) := by
  exact xs_pf_ok d_47_37 (C := R_1) (T := T_1) (N := N_1) (ty0 := Y_1) rfl in_1 ty_1 nm_1 (by decide) tw_38 (Or.inl rfl) rfl
theorem it_47_40 (Ls : Nat) (xs : Nat → Int32) : xPI Ls xs md_47 40 (.inl (xs_al 0 41)) := by
  exact xs_aload_n_ok d_47_40 rfl
theorem it_47_41 (Ls : Nat) (xs : Nat → Int32) : xPI Ls xs md_47 41 (.inl (xs_gf 1 5 44)) := by
  exact xs_gf_ok d_47_41 (C := R_1) (T := T_1) (N := N_1) rfl in_1 (by decide) tw_38
theorem it_47_44 (Ls : Nat) (xs : Nat → Int32) : xPI Ls xs md_47 44 (.inl (xs_c (1) 45)) := by
  exact xs_iconst_ok d_47_44 (by decide)
theorem it_47_45 (Ls : Nat) (xs : Nat → Int32) : xPI Ls xs md_47 45 (.inl (xs_isub 46)) := by
  exact xs_isub_ok d_47_45
theorem it_47_46 (Ls : Nat) (xs : Nat → Int32) : xPI Ls xs md_47 46 (.inr (.inr 1)) := by
  exact ⟨rfl, d_47_46⟩
def K_47 (Ls : Nat) (xs : Nat → Int32) : Nat → Option xK := xbt 24 (xbt 11 (xbt 5 (xbt 1 (xlf 0 (.inl (xs_al 0 1))) (xbt 4 (xlf 1 (.inl (xs_gf 1 2 4))) (xlf 4 (.inl (xs_al 0 5))))) (xbt 9 (xbt 8 (xlf 5 (.inl (xs_gf 1 5 8))) (xlf 8 (.inl (xs_il 1 9)))) (xbt 10 (xlf 9 (.inl (xs_ias 10))) (xlf 10 (.inl (xs_al 0 11)))))) (xbt 18 (xbt 14 (xlf 11 (.inl (xs_gf 1 3 14))) (xbt 15 (xlf 14 (.inl (xs_al 0 15))) (xlf 15 (.inl (xs_gf 1 5 18))))) (xbt 20 (xbt 19 (xlf 18 (.inl (xs_c (1) 19))) (xlf 19 (.inl (xs_iadd 20)))) (xbt 21 (xlf 20 (.inl (xs_al 0 21))) (xlf 21 (.inl (xs_gf 1 3 24))))))) (xbt 35 (xbt 29 (xbt 25 (xlf 24 (.inl (xs_al 0 25))) (xbt 28 (xlf 25 (.inl (xs_gf 1 5 28))) (xlf 28 (.inl (xs_ia Ls xs 29))))) (xbt 31 (xbt 30 (xlf 29 (.inl (xs_ias 30))) (xlf 30 (.inl (xs_al 0 31)))) (xbt 32 (xlf 31 (.inl (xs_dup 32))) (xlf 32 (.inl (xs_gf 1 5 35)))))) (xbt 41 (xbt 37 (xbt 36 (xlf 35 (.inl (xs_c (1) 36))) (xlf 36 (.inl (xs_iadd 37)))) (xbt 40 (xlf 37 (.inl (xs_pf 1 5 0 40))) (xlf 40 (.inl (xs_al 0 41))))) (xbt 45 (xbt 44 (xlf 41 (.inl (xs_gf 1 5 44))) (xlf 44 (.inl (xs_c (1) 45)))) (xbt 46 (xlf 45 (.inl (xs_isub 46))) (xlf 46 (.inr (.inr 1)))))))
theorem ok_47 (Ls : Nat) (xs : Nat → Int32) : ∀ pc it, K_47 Ls xs pc = some it → xPI Ls xs md_47 pc it := by
  unfold K_47
  exact xbt_ok (xbt_ok (xbt_ok (xbt_ok (xlf_ok (it_47_0 Ls xs)) (xbt_ok (xlf_ok (it_47_1 Ls xs)) (xlf_ok (it_47_4 Ls xs)))) (xbt_ok (xbt_ok (xlf_ok (it_47_5 Ls xs)) (xlf_ok (it_47_8 Ls xs))) (xbt_ok (xlf_ok (it_47_9 Ls xs)) (xlf_ok (it_47_10 Ls xs))))) (xbt_ok (xbt_ok (xlf_ok (it_47_11 Ls xs)) (xbt_ok (xlf_ok (it_47_14 Ls xs)) (xlf_ok (it_47_15 Ls xs)))) (xbt_ok (xbt_ok (xlf_ok (it_47_18 Ls xs)) (xlf_ok (it_47_19 Ls xs))) (xbt_ok (xlf_ok (it_47_20 Ls xs)) (xlf_ok (it_47_21 Ls xs)))))) (xbt_ok (xbt_ok (xbt_ok (xlf_ok (it_47_24 Ls xs)) (xbt_ok (xlf_ok (it_47_25 Ls xs)) (xlf_ok (it_47_28 Ls xs)))) (xbt_ok (xbt_ok (xlf_ok (it_47_29 Ls xs)) (xlf_ok (it_47_30 Ls xs))) (xbt_ok (xlf_ok (it_47_31 Ls xs)) (xlf_ok (it_47_32 Ls xs))))) (xbt_ok (xbt_ok (xbt_ok (xlf_ok (it_47_35 Ls xs)) (xlf_ok (it_47_36 Ls xs))) (xbt_ok (xlf_ok (it_47_37 Ls xs)) (xlf_ok (it_47_40 Ls xs)))) (xbt_ok (xbt_ok (xlf_ok (it_47_41 Ls xs)) (xlf_ok (it_47_44 Ls xs))) (xbt_ok (xlf_ok (it_47_45 Ls xs)) (xlf_ok (it_47_46 Ls xs))))))
theorem d_48_0 : decode prog_4_method_15_code 0 = .ok (.aload_n 0, 1) := by decide +kernel
theorem d_48_1 : decode prog_4_method_15_code 1 = .ok (.iconst (0), 1) := by decide +kernel
theorem d_48_2 : decode prog_4_method_15_code 2 = .ok (.putfield 28, 3) := by decide +kernel
theorem d_48_5 : decode prog_4_method_15_code 5 = .ok (.return_, 1) := by decide +kernel
theorem it_48_0 (Ls : Nat) (xs : Nat → Int32) : xPI Ls xs md_48 0 (.inl (xs_al 0 1)) := by
  exact xs_aload_n_ok d_48_0 rfl
theorem it_48_1 (Ls : Nat) (xs : Nat → Int32) : xPI Ls xs md_48 1 (.inl (xs_c (0) 2)) := by
  exact xs_iconst_ok d_48_1 (by decide)
theorem it_48_2 (Ls : Nat) (xs : Nat → Int32) : xPI Ls xs md_48 2 (.inl (xs_pf 1 5 0 5)) := by
  exact xs_pf_ok d_48_2 (C := R_1) (T := T_1) (N := N_1) (ty0 := Y_1) rfl in_1 ty_1 nm_1 (by decide) tw_38 (Or.inl rfl) rfl
theorem it_48_5 (Ls : Nat) (xs : Nat → Int32) : xPI Ls xs md_48 5 (.inr (.inr 0)) := by
  exact ⟨rfl, d_48_5⟩
def K_48 (Ls : Nat) (xs : Nat → Int32) : Nat → Option xK := xbt 2 (xbt 1 (xlf 0 (.inl (xs_al 0 1))) (xlf 1 (.inl (xs_c (0) 2)))) (xbt 5 (xlf 2 (.inl (xs_pf 1 5 0 5))) (xlf 5 (.inr (.inr 0))))
theorem ok_48 (Ls : Nat) (xs : Nat → Int32) : ∀ pc it, K_48 Ls xs pc = some it → xPI Ls xs md_48 pc it := by
  unfold K_48
  exact xbt_ok (xbt_ok (xlf_ok (it_48_0 Ls xs)) (xlf_ok (it_48_1 Ls xs))) (xbt_ok (xlf_ok (it_48_2 Ls xs)) (xlf_ok (it_48_5 Ls xs)))
theorem d_49_0 : decode prog_4_method_19_code 0 = .ok (.aload_n 0, 1) := by decide +kernel
theorem d_49_1 : decode prog_4_method_19_code 1 = .ok (.getfield 35, 3) := by decide +kernel
theorem d_49_4 : decode prog_4_method_19_code 4 = .ok (.iconst (0), 1) := by decide +kernel
theorem d_49_5 : decode prog_4_method_19_code 5 = .ok (.invokestatic 42, 3) := by decide +kernel
theorem d_49_8 : decode prog_4_method_19_code 8 = .ok (.iconst (0), 1) := by decide +kernel
theorem d_49_9 : decode prog_4_method_19_code 9 = .ok (.istore_n 1, 1) := by decide +kernel
theorem d_49_10 : decode prog_4_method_19_code 10 = .ok (.iload_n 1, 1) := by decide +kernel
theorem d_49_11 : decode prog_4_method_19_code 11 = .ok (.aload_n 0, 1) := by decide +kernel
theorem d_49_12 : decode prog_4_method_19_code 12 = .ok (.getfield 15, 3) := by decide +kernel
theorem d_49_15 : decode prog_4_method_19_code 15 = .ok (.if_icmp .ge (16), 3) := by decide +kernel
theorem d_49_18 : decode prog_4_method_19_code 18 = .ok (.aload_n 0, 1) := by decide +kernel
theorem d_49_19 : decode prog_4_method_19_code 19 = .ok (.getfield 31, 3) := by decide +kernel
theorem d_49_22 : decode prog_4_method_19_code 22 = .ok (.iload_n 1, 1) := by decide +kernel
theorem d_49_23 : decode prog_4_method_19_code 23 = .ok (.iconst (0), 1) := by decide +kernel
theorem d_49_24 : decode prog_4_method_19_code 24 = .ok (.bastore, 1) := by decide +kernel
theorem d_49_25 : decode prog_4_method_19_code 25 = .ok (.iinc 1 (1), 3) := by decide +kernel
theorem d_49_28 : decode prog_4_method_19_code 28 = .ok (.goto (-18), 3) := by decide +kernel
theorem d_49_31 : decode prog_4_method_19_code 31 = .ok (.iconst (1), 1) := by decide +kernel
theorem d_49_32 : decode prog_4_method_19_code 32 = .ok (.istore_n 1, 1) := by decide +kernel
theorem d_49_33 : decode prog_4_method_19_code 33 = .ok (.iconst (0), 1) := by decide +kernel
theorem d_49_34 : decode prog_4_method_19_code 34 = .ok (.istore_n 2, 1) := by decide +kernel
theorem d_49_35 : decode prog_4_method_19_code 35 = .ok (.iload_n 2, 1) := by decide +kernel
theorem d_49_36 : decode prog_4_method_19_code 36 = .ok (.aload_n 0, 1) := by decide +kernel
theorem d_49_37 : decode prog_4_method_19_code 37 = .ok (.getfield 15, 3) := by decide +kernel
theorem d_49_40 : decode prog_4_method_19_code 40 = .ok (.if_icmp .gt (18), 3) := by decide +kernel
theorem d_49_43 : decode prog_4_method_19_code 43 = .ok (.iload_n 1, 1) := by decide +kernel
theorem d_49_44 : decode prog_4_method_19_code 44 = .ok (.ifCond .eq (14), 3) := by decide +kernel
theorem d_49_47 : decode prog_4_method_19_code 47 = .ok (.aload_n 0, 1) := by decide +kernel
theorem d_49_48 : decode prog_4_method_19_code 48 = .ok (.invokevirtual 48, 3) := by decide +kernel
theorem d_49_51 : decode prog_4_method_19_code 51 = .ok (.istore_n 1, 1) := by decide +kernel
theorem d_49_52 : decode prog_4_method_19_code 52 = .ok (.iinc 2 (1), 3) := by decide +kernel
theorem d_49_55 : decode prog_4_method_19_code 55 = .ok (.goto (-20), 3) := by decide +kernel
theorem d_49_58 : decode prog_4_method_19_code 58 = .ok (.iconst (1), 1) := by decide +kernel
theorem d_49_59 : decode prog_4_method_19_code 59 = .ok (.istore_n 1, 1) := by decide +kernel
theorem d_49_60 : decode prog_4_method_19_code 60 = .ok (.iconst (0), 1) := by decide +kernel
theorem d_49_61 : decode prog_4_method_19_code 61 = .ok (.istore_n 2, 1) := by decide +kernel
theorem d_49_62 : decode prog_4_method_19_code 62 = .ok (.iload_n 2, 1) := by decide +kernel
theorem d_49_63 : decode prog_4_method_19_code 63 = .ok (.aload_n 0, 1) := by decide +kernel
theorem d_49_64 : decode prog_4_method_19_code 64 = .ok (.getfield 15, 3) := by decide +kernel
theorem d_49_67 : decode prog_4_method_19_code 67 = .ok (.aload_n 0, 1) := by decide +kernel
theorem d_49_68 : decode prog_4_method_19_code 68 = .ok (.getfield 9, 3) := by decide +kernel
theorem d_49_71 : decode prog_4_method_19_code 71 = .ok (.imul, 1) := by decide +kernel
theorem d_49_72 : decode prog_4_method_19_code 72 = .ok (.if_icmp .gt (18), 3) := by decide +kernel
theorem d_49_75 : decode prog_4_method_19_code 75 = .ok (.iload_n 1, 1) := by decide +kernel
theorem d_49_76 : decode prog_4_method_19_code 76 = .ok (.ifCond .eq (14), 3) := by decide +kernel
theorem d_49_79 : decode prog_4_method_19_code 79 = .ok (.aload_n 0, 1) := by decide +kernel
theorem d_49_80 : decode prog_4_method_19_code 80 = .ok (.invokevirtual 52, 3) := by decide +kernel
theorem d_49_83 : decode prog_4_method_19_code 83 = .ok (.istore_n 1, 1) := by decide +kernel
theorem d_49_84 : decode prog_4_method_19_code 84 = .ok (.iinc 2 (1), 3) := by decide +kernel
theorem d_49_87 : decode prog_4_method_19_code 87 = .ok (.goto (-25), 3) := by decide +kernel
theorem d_49_90 : decode prog_4_method_19_code 90 = .ok (.return_, 1) := by decide +kernel
theorem it_49_0 (Ls : Nat) (xs : Nat → Int32) : xPI Ls xs md_49 0 (.inl (xs_al 0 1)) := by
  exact xs_aload_n_ok d_49_0 rfl
theorem it_49_1 (Ls : Nat) (xs : Nat → Int32) : xPI Ls xs md_49 1 (.inl (xs_gf 1 7 4)) := by
  exact xs_gf_ok d_49_1 (C := R_1) (T := T_1) (N := N_1) rfl in_1 (by decide) tw_40
theorem it_49_4 (Ls : Nat) (xs : Nat → Int32) : xPI Ls xs md_49 4 (.inl (xs_c (0) 5)) := by
  exact xs_iconst_ok d_49_4 (by decide)
theorem it_49_5 (Ls : Nat) (xs : Nat → Int32) : xPI Ls xs md_49 5 (.inr (.inl (97, 2, 0, []))) := by
  exact ⟨md_97, rfl, tw_13, by decide, ⟨by decide, by decide⟩, Or.inl ⟨rfl, rfl, 42, d_49_5, tw_410, tw_411, by decide +kernel⟩⟩
theorem it_49_8 (Ls : Nat) (xs : Nat → Int32) : xPI Ls xs md_49 8 (.inl (xs_c (0) 9)) := by
  exact xs_iconst_ok d_49_8 (by decide)
theorem it_49_9 (Ls : Nat) (xs : Nat → Int32) : xPI Ls xs md_49 9 (.inl (xs_is 3 1 10)) := by
  exact xs_istore_n_ok d_49_9 rfl
theorem it_49_10 (Ls : Nat) (xs : Nat → Int32) : xPI Ls xs md_49 10 (.inl (xs_il 1 11)) := by
  exact xs_iload_n_ok d_49_10 rfl
theorem it_49_11 (Ls : Nat) (xs : Nat → Int32) : xPI Ls xs md_49 11 (.inl (xs_al 0 12)) := by
  exact xs_aload_n_ok d_49_11 rfl
theorem it_49_12 (Ls : Nat) (xs : Nat → Int32) : xPI Ls xs md_49 12 (.inl (xs_gf 1 1 15)) := by
  exact xs_gf_ok d_49_12 (C := R_1) (T := T_1) (N := N_1) rfl in_1 (by decide) tw_34
theorem it_49_15 (Ls : Nat) (xs : Nat → Int32) : xPI Ls xs md_49 15 (.inl (xs_ic_ge 31 18)) := by
  exact xs_ic_ge_ok d_49_15 (by decide)
theorem it_49_18 (Ls : Nat) (xs : Nat → Int32) : xPI Ls xs md_49 18 (.inl (xs_al 0 19)) := by
  exact xs_aload_n_ok d_49_18 rfl
theorem it_49_19 (Ls : Nat) (xs : Nat → Int32) : xPI Ls xs md_49 19 (.inl (xs_gf 1 6 22)) := by
  exact xs_gf_ok d_49_19 (C := R_1) (T := T_1) (N := N_1) rfl in_1 (by decide) tw_39
theorem it_49_22 (Ls : Nat) (xs : Nat → Int32) : xPI Ls xs md_49 22 (.inl (xs_il 1 23)) := by
  exact xs_iload_n_ok d_49_22 rfl
theorem it_49_23 (Ls : Nat) (xs : Nat → Int32) : xPI Ls xs md_49 23 (.inl (xs_c (0) 24)) := by
  exact xs_iconst_ok d_49_23 (by decide)
theorem it_49_24 (Ls : Nat) (xs : Nat → Int32) : xPI Ls xs md_49 24 (.inl (xs_zas 25)) := by
  exact xs_zas_ok d_49_24
theorem it_49_25 (Ls : Nat) (xs : Nat → Int32) : xPI Ls xs md_49 25 (.inl (xs_inc 3 1 (1) 28)) := by
  exact xs_iinc_ok d_49_25 (by decide)
theorem it_49_28 (Ls : Nat) (xs : Nat → Int32) : xPI Ls xs md_49 28 (.inl (xs_goto 10)) := by
  exact xs_goto_ok d_49_28 (by decide)
theorem it_49_31 (Ls : Nat) (xs : Nat → Int32) : xPI Ls xs md_49 31 (.inl (xs_c (1) 32)) := by
  exact xs_iconst_ok d_49_31 (by decide)
theorem it_49_32 (Ls : Nat) (xs : Nat → Int32) : xPI Ls xs md_49 32 (.inl (xs_is 3 1 33)) := by
  exact xs_istore_n_ok d_49_32 rfl
theorem it_49_33 (Ls : Nat) (xs : Nat → Int32) : xPI Ls xs md_49 33 (.inl (xs_c (0) 34)) := by
  exact xs_iconst_ok d_49_33 (by decide)
theorem it_49_34 (Ls : Nat) (xs : Nat → Int32) : xPI Ls xs md_49 34 (.inl (xs_is 3 2 35)) := by
  exact xs_istore_n_ok d_49_34 rfl
theorem it_49_35 (Ls : Nat) (xs : Nat → Int32) : xPI Ls xs md_49 35 (.inl (xs_il 2 36)) := by
  exact xs_iload_n_ok d_49_35 rfl
theorem it_49_36 (Ls : Nat) (xs : Nat → Int32) : xPI Ls xs md_49 36 (.inl (xs_al 0 37)) := by
  exact xs_aload_n_ok d_49_36 rfl
theorem it_49_37 (Ls : Nat) (xs : Nat → Int32) : xPI Ls xs md_49 37 (.inl (xs_gf 1 1 40)) := by
  exact xs_gf_ok d_49_37 (C := R_1) (T := T_1) (N := N_1) rfl in_1 (by decide) tw_34
theorem it_49_40 (Ls : Nat) (xs : Nat → Int32) : xPI Ls xs md_49 40 (.inl (xs_ic_gt 58 43)) := by
  exact xs_ic_gt_ok d_49_40 (by decide)
theorem it_49_43 (Ls : Nat) (xs : Nat → Int32) : xPI Ls xs md_49 43 (.inl (xs_il 1 44)) := by
  exact xs_iload_n_ok d_49_43 rfl
theorem it_49_44 (Ls : Nat) (xs : Nat → Int32) : xPI Ls xs md_49 44 (.inl (xs_if_eq 58 47)) := by
  exact xs_if_eq_ok d_49_44 (by decide)
theorem it_49_47 (Ls : Nat) (xs : Nat → Int32) : xPI Ls xs md_49 47 (.inl (xs_al 0 48)) := by
  exact xs_aload_n_ok d_49_47 rfl
theorem it_49_48 (Ls : Nat) (xs : Nat → Int32) : xPI Ls xs md_49 48 (.inr (.inl (50, 1, 3, []))) := by
  exact ⟨md_50, rfl, tw_2, by decide, ⟨by decide, by decide⟩, Or.inr (Or.inr ⟨1, R_1, T_1, N_1, 48, 0, rfl, rfl, rfl, rfl, d_49_48, tw_413, tw_415, ts_TableMaker_Grammar_growEmpties, by decide +kernel, (fun x q h => by cases h)⟩)⟩
theorem it_49_51 (Ls : Nat) (xs : Nat → Int32) : xPI Ls xs md_49 51 (.inl (xs_is 3 1 52)) := by
  exact xs_istore_n_ok d_49_51 rfl
theorem it_49_52 (Ls : Nat) (xs : Nat → Int32) : xPI Ls xs md_49 52 (.inl (xs_inc 3 2 (1) 55)) := by
  exact xs_iinc_ok d_49_52 (by decide)
theorem it_49_55 (Ls : Nat) (xs : Nat → Int32) : xPI Ls xs md_49 55 (.inl (xs_goto 35)) := by
  exact xs_goto_ok d_49_55 (by decide)
theorem it_49_58 (Ls : Nat) (xs : Nat → Int32) : xPI Ls xs md_49 58 (.inl (xs_c (1) 59)) := by
  exact xs_iconst_ok d_49_58 (by decide)
theorem it_49_59 (Ls : Nat) (xs : Nat → Int32) : xPI Ls xs md_49 59 (.inl (xs_is 3 1 60)) := by
  exact xs_istore_n_ok d_49_59 rfl
theorem it_49_60 (Ls : Nat) (xs : Nat → Int32) : xPI Ls xs md_49 60 (.inl (xs_c (0) 61)) := by
  exact xs_iconst_ok d_49_60 (by decide)
theorem it_49_61 (Ls : Nat) (xs : Nat → Int32) : xPI Ls xs md_49 61 (.inl (xs_is 3 2 62)) := by
  exact xs_istore_n_ok d_49_61 rfl
theorem it_49_62 (Ls : Nat) (xs : Nat → Int32) : xPI Ls xs md_49 62 (.inl (xs_il 2 63)) := by
  exact xs_iload_n_ok d_49_62 rfl
theorem it_49_63 (Ls : Nat) (xs : Nat → Int32) : xPI Ls xs md_49 63 (.inl (xs_al 0 64)) := by
  exact xs_aload_n_ok d_49_63 rfl
theorem it_49_64 (Ls : Nat) (xs : Nat → Int32) : xPI Ls xs md_49 64 (.inl (xs_gf 1 1 67)) := by
  exact xs_gf_ok d_49_64 (C := R_1) (T := T_1) (N := N_1) rfl in_1 (by decide) tw_34
theorem it_49_67 (Ls : Nat) (xs : Nat → Int32) : xPI Ls xs md_49 67 (.inl (xs_al 0 68)) := by
  exact xs_aload_n_ok d_49_67 rfl
theorem it_49_68 (Ls : Nat) (xs : Nat → Int32) : xPI Ls xs md_49 68 (.inl (xs_gf 1 0 71)) := by
  exact xs_gf_ok d_49_68 (C := R_1) (T := T_1) (N := N_1) rfl in_1 (by decide) tw_33
theorem it_49_71 (Ls : Nat) (xs : Nat → Int32) : xPI Ls xs md_49 71 (.inl (xs_imul 72)) := by
  exact xs_imul_ok d_49_71
theorem it_49_72 (Ls : Nat) (xs : Nat → Int32) : xPI Ls xs md_49 72 (.inl (xs_ic_gt 90 75)) := by
  exact xs_ic_gt_ok d_49_72 (by decide)
theorem it_49_75 (Ls : Nat) (xs : Nat → Int32) : xPI Ls xs md_49 75 (.inl (xs_il 1 76)) := by
  exact xs_iload_n_ok d_49_75 rfl
theorem it_49_76 (Ls : Nat) (xs : Nat → Int32) : xPI Ls xs md_49 76 (.inl (xs_if_eq 90 79)) := by
  exact xs_if_eq_ok d_49_76 (by decide)
theorem it_49_79 (Ls : Nat) (xs : Nat → Int32) : xPI Ls xs md_49 79 (.inl (xs_al 0 80)) := by
  exact xs_aload_n_ok d_49_79 rfl
theorem it_49_80 (Ls : Nat) (xs : Nat → Int32) : xPI Ls xs md_49 80 (.inr (.inl (51, 1, 3, []))) := by
  exact ⟨md_51, rfl, tw_2, by decide, ⟨by decide, by decide⟩, Or.inr (Or.inr ⟨1, R_1, T_1, N_1, 52, 0, rfl, rfl, rfl, rfl, d_49_80, tw_434, tw_436, ts_TableMaker_Grammar_growFirsts, by decide +kernel, (fun x q h => by cases h)⟩)⟩
theorem it_49_83 (Ls : Nat) (xs : Nat → Int32) : xPI Ls xs md_49 83 (.inl (xs_is 3 1 84)) := by
  exact xs_istore_n_ok d_49_83 rfl
theorem it_49_84 (Ls : Nat) (xs : Nat → Int32) : xPI Ls xs md_49 84 (.inl (xs_inc 3 2 (1) 87)) := by
  exact xs_iinc_ok d_49_84 (by decide)
theorem it_49_87 (Ls : Nat) (xs : Nat → Int32) : xPI Ls xs md_49 87 (.inl (xs_goto 62)) := by
  exact xs_goto_ok d_49_87 (by decide)
theorem it_49_90 (Ls : Nat) (xs : Nat → Int32) : xPI Ls xs md_49 90 (.inr (.inr 0)) := by
  exact ⟨rfl, d_49_90⟩
def K_49 (Ls : Nat) (xs : Nat → Int32) : Nat → Option xK := xbt 43 (xbt 22 (xbt 10 (xbt 5 (xbt 1 (xlf 0 (.inl (xs_al 0 1))) (xbt 4 (xlf 1 (.inl (xs_gf 1 7 4))) (xlf 4 (.inl (xs_c (0) 5))))) (xbt 8 (xlf 5 (.inr (.inl (97, 2, 0, [])))) (xbt 9 (xlf 8 (.inl (xs_c (0) 9))) (xlf 9 (.inl (xs_is 3 1 10)))))) (xbt 15 (xbt 11 (xlf 10 (.inl (xs_il 1 11))) (xbt 12 (xlf 11 (.inl (xs_al 0 12))) (xlf 12 (.inl (xs_gf 1 1 15))))) (xbt 18 (xlf 15 (.inl (xs_ic_ge 31 18))) (xbt 19 (xlf 18 (.inl (xs_al 0 19))) (xlf 19 (.inl (xs_gf 1 6 22))))))) (xbt 32 (xbt 25 (xbt 23 (xlf 22 (.inl (xs_il 1 23))) (xbt 24 (xlf 23 (.inl (xs_c (0) 24))) (xlf 24 (.inl (xs_zas 25))))) (xbt 28 (xlf 25 (.inl (xs_inc 3 1 (1) 28))) (xbt 31 (xlf 28 (.inl (xs_goto 10))) (xlf 31 (.inl (xs_c (1) 32)))))) (xbt 35 (xbt 33 (xlf 32 (.inl (xs_is 3 1 33))) (xbt 34 (xlf 33 (.inl (xs_c (0) 34))) (xlf 34 (.inl (xs_is 3 2 35))))) (xbt 37 (xbt 36 (xlf 35 (.inl (xs_il 2 36))) (xlf 36 (.inl (xs_al 0 37)))) (xbt 40 (xlf 37 (.inl (xs_gf 1 1 40))) (xlf 40 (.inl (xs_ic_gt 58 43)))))))) (xbt 64 (xbt 55 (xbt 48 (xbt 44 (xlf 43 (.inl (xs_il 1 44))) (xbt 47 (xlf 44 (.inl (xs_if_eq 58 47))) (xlf 47 (.inl (xs_al 0 48))))) (xbt 51 (xlf 48 (.inr (.inl (50, 1, 3, [])))) (xbt 52 (xlf 51 (.inl (xs_is 3 1 52))) (xlf 52 (.inl (xs_inc 3 2 (1) 55)))))) (xbt 60 (xbt 58 (xlf 55 (.inl (xs_goto 35))) (xbt 59 (xlf 58 (.inl (xs_c (1) 59))) (xlf 59 (.inl (xs_is 3 1 60))))) (xbt 62 (xbt 61 (xlf 60 (.inl (xs_c (0) 61))) (xlf 61 (.inl (xs_is 3 2 62)))) (xbt 63 (xlf 62 (.inl (xs_il 2 63))) (xlf 63 (.inl (xs_al 0 64))))))) (xbt 76 (xbt 71 (xbt 67 (xlf 64 (.inl (xs_gf 1 1 67))) (xbt 68 (xlf 67 (.inl (xs_al 0 68))) (xlf 68 (.inl (xs_gf 1 0 71))))) (xbt 72 (xlf 71 (.inl (xs_imul 72))) (xbt 75 (xlf 72 (.inl (xs_ic_gt 90 75))) (xlf 75 (.inl (xs_il 1 76)))))) (xbt 83 (xbt 79 (xlf 76 (.inl (xs_if_eq 90 79))) (xbt 80 (xlf 79 (.inl (xs_al 0 80))) (xlf 80 (.inr (.inl (51, 1, 3, [])))))) (xbt 87 (xbt 84 (xlf 83 (.inl (xs_is 3 1 84))) (xlf 84 (.inl (xs_inc 3 2 (1) 87)))) (xbt 90 (xlf 87 (.inl (xs_goto 62))) (xlf 90 (.inr (.inr 0))))))))
theorem ok_49 (Ls : Nat) (xs : Nat → Int32) : ∀ pc it, K_49 Ls xs pc = some it → xPI Ls xs md_49 pc it := by
  unfold K_49
  exact xbt_ok (xbt_ok (xbt_ok (xbt_ok (xbt_ok (xlf_ok (it_49_0 Ls xs)) (xbt_ok (xlf_ok (it_49_1 Ls xs)) (xlf_ok (it_49_4 Ls xs)))) (xbt_ok (xlf_ok (it_49_5 Ls xs)) (xbt_ok (xlf_ok (it_49_8 Ls xs)) (xlf_ok (it_49_9 Ls xs))))) (xbt_ok (xbt_ok (xlf_ok (it_49_10 Ls xs)) (xbt_ok (xlf_ok (it_49_11 Ls xs)) (xlf_ok (it_49_12 Ls xs)))) (xbt_ok (xlf_ok (it_49_15 Ls xs)) (xbt_ok (xlf_ok (it_49_18 Ls xs)) (xlf_ok (it_49_19 Ls xs)))))) (xbt_ok (xbt_ok (xbt_ok (xlf_ok (it_49_22 Ls xs)) (xbt_ok (xlf_ok (it_49_23 Ls xs)) (xlf_ok (it_49_24 Ls xs)))) (xbt_ok (xlf_ok (it_49_25 Ls xs)) (xbt_ok (xlf_ok (it_49_28 Ls xs)) (xlf_ok (it_49_31 Ls xs))))) (xbt_ok (xbt_ok (xlf_ok (it_49_32 Ls xs)) (xbt_ok (xlf_ok (it_49_33 Ls xs)) (xlf_ok (it_49_34 Ls xs)))) (xbt_ok (xbt_ok (xlf_ok (it_49_35 Ls xs)) (xlf_ok (it_49_36 Ls xs))) (xbt_ok (xlf_ok (it_49_37 Ls xs)) (xlf_ok (it_49_40 Ls xs))))))) (xbt_ok (xbt_ok (xbt_ok (xbt_ok (xlf_ok (it_49_43 Ls xs)) (xbt_ok (xlf_ok (it_49_44 Ls xs)) (xlf_ok (it_49_47 Ls xs)))) (xbt_ok (xlf_ok (it_49_48 Ls xs)) (xbt_ok (xlf_ok (it_49_51 Ls xs)) (xlf_ok (it_49_52 Ls xs))))) (xbt_ok (xbt_ok (xlf_ok (it_49_55 Ls xs)) (xbt_ok (xlf_ok (it_49_58 Ls xs)) (xlf_ok (it_49_59 Ls xs)))) (xbt_ok (xbt_ok (xlf_ok (it_49_60 Ls xs)) (xlf_ok (it_49_61 Ls xs))) (xbt_ok (xlf_ok (it_49_62 Ls xs)) (xlf_ok (it_49_63 Ls xs)))))) (xbt_ok (xbt_ok (xbt_ok (xlf_ok (it_49_64 Ls xs)) (xbt_ok (xlf_ok (it_49_67 Ls xs)) (xlf_ok (it_49_68 Ls xs)))) (xbt_ok (xlf_ok (it_49_71 Ls xs)) (xbt_ok (xlf_ok (it_49_72 Ls xs)) (xlf_ok (it_49_75 Ls xs))))) (xbt_ok (xbt_ok (xlf_ok (it_49_76 Ls xs)) (xbt_ok (xlf_ok (it_49_79 Ls xs)) (xlf_ok (it_49_80 Ls xs)))) (xbt_ok (xbt_ok (xlf_ok (it_49_83 Ls xs)) (xlf_ok (it_49_84 Ls xs))) (xbt_ok (xlf_ok (it_49_87 Ls xs)) (xlf_ok (it_49_90 Ls xs)))))))
theorem d_50_0 : decode prog_4_method_20_code 0 = .ok (.iconst (0), 1) := by decide +kernel
theorem d_50_1 : decode prog_4_method_20_code 1 = .ok (.istore_n 1, 1) := by decide +kernel
theorem d_50_2 : decode prog_4_method_20_code 2 = .ok (.iconst (0), 1) := by decide +kernel
theorem d_50_3 : decode prog_4_method_20_code 3 = .ok (.istore_n 2, 1) := by decide +kernel
theorem d_50_4 : decode prog_4_method_20_code 4 = .ok (.iload_n 2, 1) := by decide +kernel
theorem d_50_5 : decode prog_4_method_20_code 5 = .ok (.aload_n 0, 1) := by decide +kernel
theorem d_50_6 : decode prog_4_method_20_code 6 = .ok (.getfield 28, 3) := by decide +kernel
theorem d_50_9 : decode prog_4_method_20_code 9 = .ok (.if_icmp .ge (48), 3) := by decide +kernel
theorem d_50_12 : decode prog_4_method_20_code 12 = .ok (.aload_n 0, 1) := by decide +kernel
theorem d_50_13 : decode prog_4_method_20_code 13 = .ok (.getfield 18, 3) := by decide +kernel
theorem d_50_16 : decode prog_4_method_20_code 16 = .ok (.iload_n 2, 1) := by decide +kernel
theorem d_50_17 : decode prog_4_method_20_code 17 = .ok (.iaload, 1) := by decide +kernel
theorem d_50_18 : decode prog_4_method_20_code 18 = .ok (.aload_n 0, 1) := by decide +kernel
theorem d_50_19 : decode prog_4_method_20_code 19 = .ok (.getfield 9, 3) := by decide +kernel
theorem d_50_22 : decode prog_4_method_20_code 22 = .ok (.isub, 1) := by decide +kernel
theorem d_50_23 : decode prog_4_method_20_code 23 = .ok (.istore_n 3, 1) := by decide +kernel
theorem d_50_24 : decode prog_4_method_20_code 24 = .ok (.aload_n 0, 1) := by decide +kernel
theorem d_50_25 : decode prog_4_method_20_code 25 = .ok (.getfield 31, 3) := by decide +kernel
theorem d_50_28 : decode prog_4_method_20_code 28 = .ok (.iload_n 3, 1) := by decide +kernel
theorem d_50_29 : decode prog_4_method_20_code 29 = .ok (.baload, 1) := by decide +kernel
theorem d_50_30 : decode prog_4_method_20_code 30 = .ok (.ifCond .ne (21), 3) := by decide +kernel
theorem d_50_33 : decode prog_4_method_20_code 33 = .ok (.aload_n 0, 1) := by decide +kernel
theorem d_50_34 : decode prog_4_method_20_code 34 = .ok (.iload_n 2, 1) := by decide +kernel
theorem d_50_35 : decode prog_4_method_20_code 35 = .ok (.iconst (0), 1) := by decide +kernel
theorem d_50_39 : decode prog_4_method_20_code 39 = .ok (.ifCond .eq (12), 3) := by decide +kernel
theorem d_50_42 : decode prog_4_method_20_code 42 = .ok (.aload_n 0, 1) := by decide +kernel
theorem d_50_43 : decode prog_4_method_20_code 43 = .ok (.getfield 31, 3) := by decide +kernel
theorem d_50_46 : decode prog_4_method_20_code 46 = .ok (.iload_n 3, 1) := by decide +kernel
theorem d_50_47 : decode prog_4_method_20_code 47 = .ok (.iconst (1), 1) := by decide +kernel
theorem d_50_48 : decode prog_4_method_20_code 48 = .ok (.bastore, 1) := by decide +kernel
theorem d_50_49 : decode prog_4_method_20_code 49 = .ok (.iconst (1), 1) := by decide +kernel
theorem d_50_50 : decode prog_4_method_20_code 50 = .ok (.istore_n 1, 1) := by decide +kernel
theorem d_50_51 : decode prog_4_method_20_code 51 = .ok (.iinc 2 (1), 3) := by decide +kernel
theorem d_50_54 : decode prog_4_method_20_code 54 = .ok (.goto (-50), 3) := by decide +kernel
theorem d_50_57 : decode prog_4_method_20_code 57 = .ok (.iload_n 1, 1) := by decide +kernel
theorem d_50_58 : decode prog_4_method_20_code 58 = .ok (.ireturn, 1) := by decide +kernel
theorem it_50_0 (Ls : Nat) (xs : Nat → Int32) : xPI Ls xs md_50 0 (.inl (xs_c (0) 1)) := by
  exact xs_iconst_ok d_50_0 (by decide)
theorem it_50_1 (Ls : Nat) (xs : Nat → Int32) : xPI Ls xs md_50 1 (.inl (xs_is 4 1 2)) := by
  exact xs_istore_n_ok d_50_1 rfl
theorem it_50_2 (Ls : Nat) (xs : Nat → Int32) : xPI Ls xs md_50 2 (.inl (xs_c (0) 3)) := by
  exact xs_iconst_ok d_50_2 (by decide)
theorem it_50_3 (Ls : Nat) (xs : Nat → Int32) : xPI Ls xs md_50 3 (.inl (xs_is 4 2 4)) := by
  exact xs_istore_n_ok d_50_3 rfl
theorem it_50_4 (Ls : Nat) (xs : Nat → Int32) : xPI Ls xs md_50 4 (.inl (xs_il 2 5)) := by
  exact xs_iload_n_ok d_50_4 rfl
theorem it_50_5 (Ls : Nat) (xs : Nat → Int32) : xPI Ls xs md_50 5 (.inl (xs_al 0 6)) := by
  exact xs_aload_n_ok d_50_5 rfl
theorem it_50_6 (Ls : Nat) (xs : Nat → Int32) : xPI Ls xs md_50 6 (.inl (xs_gf 1 5 9)) := by
  exact xs_gf_ok d_50_6 (C := R_1) (T := T_1) (N := N_1) rfl in_1 (by decide) tw_38
theorem it_50_9 (Ls : Nat) (xs : Nat → Int32) : xPI Ls xs md_50 9 (.inl (xs_ic_ge 57 12)) := by
  exact xs_ic_ge_ok d_50_9 (by decide)
theorem it_50_12 (Ls : Nat) (xs : Nat → Int32) : xPI Ls xs md_50 12 (.inl (xs_al 0 13)) := by
  exact xs_aload_n_ok d_50_12 rfl
theorem it_50_13 (Ls : Nat) (xs : Nat → Int32) : xPI Ls xs md_50 13 (.inl (xs_gf 1 2 16)) := by
  exact xs_gf_ok d_50_13 (C := R_1) (T := T_1) (N := N_1) rfl in_1 (by decide) tw_35
theorem it_50_16 (Ls : Nat) (xs : Nat → Int32) : xPI Ls xs md_50 16 (.inl (xs_il 2 17)) := by
  exact xs_iload_n_ok d_50_16 rfl
theorem it_50_17 (Ls : Nat) (xs : Nat → Int32) : xPI Ls xs md_50 17 (.inl (xs_ia Ls xs 18)) := by
  exact xs_ia_ok d_50_17
theorem it_50_18 (Ls : Nat) (xs : Nat → Int32) : xPI Ls xs md_50 18 (.inl (xs_al 0 19)) := by
  exact xs_aload_n_ok d_50_18 rfl
theorem it_50_19 (Ls : Nat) (xs : Nat → Int32) : xPI Ls xs md_50 19 (.inl (xs_gf 1 0 22)) := by
  exact xs_gf_ok d_50_19 (C := R_1) (T := T_1) (N := N_1) rfl in_1 (by decide) tw_33
theorem it_50_22 (Ls : Nat) (xs : Nat → Int32) : xPI Ls xs md_50 22 (.inl (xs_isub 23)) := by
  exact xs_isub_ok d_50_22
theorem it_50_23 (Ls : Nat) (xs : Nat → Int32) : xPI Ls xs md_50 23 (.inl (xs_is 4 3 24)) := by
  exact xs_istore_n_ok d_50_23 rfl
theorem it_50_24 (Ls : Nat) (xs : Nat → Int32) : xPI Ls xs md_50 24 (.inl (xs_al 0 25)) := by
  exact xs_aload_n_ok d_50_24 rfl
theorem it_50_25 (Ls : Nat) (xs : Nat → Int32) : xPI Ls xs md_50 25 (.inl (xs_gf 1 6 28)) := by
  exact xs_gf_ok d_50_25 (C := R_1) (T := T_1) (N := N_1) rfl in_1 (by decide) tw_39
theorem it_50_28 (Ls : Nat) (xs : Nat → Int32) : xPI Ls xs md_50 28 (.inl (xs_il 3 29)) := by
  exact xs_iload_n_ok d_50_28 rfl
theorem it_50_29 (Ls : Nat) (xs : Nat → Int32) : xPI Ls xs md_50 29 (.inl (xs_za 30)) := by
  exact xs_za_ok d_50_29
theorem it_50_30 (Ls : Nat) (xs : Nat → Int32) : xPI Ls xs md_50 30 (.inl (xs_if_ne 51 33)) := by
  exact xs_if_ne_ok d_50_30 (by decide)
theorem it_50_33 (Ls : Nat) (xs : Nat → Int32) : xPI Ls xs md_50 33 (.inl (xs_al 0 34)) := by
  exact xs_aload_n_ok d_50_33 rfl
theorem it_50_34 (Ls : Nat) (xs : Nat → Int32) : xPI Ls xs md_50 34 (.inl (xs_il 2 35)) := by
  exact xs_iload_n_ok d_50_34 rfl
theorem it_50_35 (Ls : Nat) (xs : Nat → Int32) : xPI Ls xs md_50 35 (.inl (xs_c (0) 36)) := by
  exact xs_iconst_ok d_50_35 (by decide)
theorem it_50_39 (Ls : Nat) (xs : Nat → Int32) : xPI Ls xs md_50 39 (.inl (xs_if_eq 51 42)) := by
  exact xs_if_eq_ok d_50_39 (by decide)
theorem it_50_42 (Ls : Nat) (xs : Nat → Int32) : xPI Ls xs md_50 42 (.inl (xs_al 0 43)) := by
  exact xs_aload_n_ok d_50_42 rfl
theorem it_50_43 (Ls : Nat) (xs : Nat → Int32) : xPI Ls xs md_50 43 (.inl (xs_gf 1 6 46)) := by
  exact xs_gf_ok d_50_43 (C := R_1) (T := T_1) (N := N_1) rfl in_1 (by decide) tw_39
theorem it_50_46 (Ls : Nat) (xs : Nat → Int32) : xPI Ls xs md_50 46 (.inl (xs_il 3 47)) := by
  exact xs_iload_n_ok d_50_46 rfl
theorem it_50_47 (Ls : Nat) (xs : Nat → Int32) : xPI Ls xs md_50 47 (.inl (xs_c (1) 48)) := by
  exact xs_iconst_ok d_50_47 (by decide)
theorem it_50_48 (Ls : Nat) (xs : Nat → Int32) : xPI Ls xs md_50 48 (.inl (xs_zas 49)) := by
  exact xs_zas_ok d_50_48
theorem it_50_49 (Ls : Nat) (xs : Nat → Int32) : xPI Ls xs md_50 49 (.inl (xs_c (1) 50)) := by
  exact xs_iconst_ok d_50_49 (by decide)
theorem it_50_50 (Ls : Nat) (xs : Nat → Int32) : xPI Ls xs md_50 50 (.inl (xs_is 4 1 51)) := by
  exact xs_istore_n_ok d_50_50 rfl
theorem it_50_51 (Ls : Nat) (xs : Nat → Int32) : xPI Ls xs md_50 51 (.inl (xs_inc 4 2 (1) 54)) := by
  exact xs_iinc_ok d_50_51 (by decide)
theorem it_50_54 (Ls : Nat) (xs : Nat → Int32) : xPI Ls xs md_50 54 (.inl (xs_goto 4)) := by
  exact xs_goto_ok d_50_54 (by decide)
theorem it_50_57 (Ls : Nat) (xs : Nat → Int32) : xPI Ls xs md_50 57 (.inl (xs_il 1 58)) := by
  exact xs_iload_n_ok d_50_57 rfl
theorem it_50_58 (Ls : Nat) (xs : Nat → Int32) : xPI Ls xs md_50 58 (.inr (.inr 2)) := by
  exact ⟨rfl, d_50_58⟩
def K_50 (Ls : Nat) (xs : Nat → Int32) : Nat → Option xK := xbt 28 (xbt 13 (xbt 4 (xbt 2 (xbt 1 (xlf 0 (.inl (xs_c (0) 1))) (xlf 1 (.inl (xs_is 4 1 2)))) (xbt 3 (xlf 2 (.inl (xs_c (0) 3))) (xlf 3 (.inl (xs_is 4 2 4))))) (xbt 6 (xbt 5 (xlf 4 (.inl (xs_il 2 5))) (xlf 5 (.inl (xs_al 0 6)))) (xbt 9 (xlf 6 (.inl (xs_gf 1 5 9))) (xbt 12 (xlf 9 (.inl (xs_ic_ge 57 12))) (xlf 12 (.inl (xs_al 0 13))))))) (xbt 19 (xbt 17 (xbt 16 (xlf 13 (.inl (xs_gf 1 2 16))) (xlf 16 (.inl (xs_il 2 17)))) (xbt 18 (xlf 17 (.inl (xs_ia Ls xs 18))) (xlf 18 (.inl (xs_al 0 19))))) (xbt 23 (xbt 22 (xlf 19 (.inl (xs_gf 1 0 22))) (xlf 22 (.inl (xs_isub 23)))) (xbt 24 (xlf 23 (.inl (xs_is 4 3 24))) (xbt 25 (xlf 24 (.inl (xs_al 0 25))) (xlf 25 (.inl (xs_gf 1 6 28)))))))) (xbt 46 (xbt 34 (xbt 30 (xbt 29 (xlf 28 (.inl (xs_il 3 29))) (xlf 29 (.inl (xs_za 30)))) (xbt 33 (xlf 30 (.inl (xs_if_ne 51 33))) (xlf 33 (.inl (xs_al 0 34))))) (xbt 39 (xbt 35 (xlf 34 (.inl (xs_il 2 35))) (xlf 35 (.inl (xs_c (0) 36)))) (xbt 42 (xlf 39 (.inl (xs_if_eq 51 42))) (xbt 43 (xlf 42 (.inl (xs_al 0 43))) (xlf 43 (.inl (xs_gf 1 6 46))))))) (xbt 50 (xbt 48 (xbt 47 (xlf 46 (.inl (xs_il 3 47))) (xlf 47 (.inl (xs_c (1) 48)))) (xbt 49 (xlf 48 (.inl (xs_zas 49))) (xlf 49 (.inl (xs_c (1) 50))))) (xbt 54 (xbt 51 (xlf 50 (.inl (xs_is 4 1 51))) (xlf 51 (.inl (xs_inc 4 2 (1) 54)))) (xbt 57 (xlf 54 (.inl (xs_goto 4))) (xbt 58 (xlf 57 (.inl (xs_il 1 58))) (xlf 58 (.inr (.inr 2))))))))
theorem ok_50 (Ls : Nat) (xs : Nat → Int32) : ∀ pc it, K_50 Ls xs pc = some it → xPI Ls xs md_50 pc it := by
  unfold K_50
  exact xbt_ok (xbt_ok (xbt_ok (xbt_ok (xbt_ok (xlf_ok (it_50_0 Ls xs)) (xlf_ok (it_50_1 Ls xs))) (xbt_ok (xlf_ok (it_50_2 Ls xs)) (xlf_ok (it_50_3 Ls xs)))) (xbt_ok (xbt_ok (xlf_ok (it_50_4 Ls xs)) (xlf_ok (it_50_5 Ls xs))) (xbt_ok (xlf_ok (it_50_6 Ls xs)) (xbt_ok (xlf_ok (it_50_9 Ls xs)) (xlf_ok (it_50_12 Ls xs)))))) (xbt_ok (xbt_ok (xbt_ok (xlf_ok (it_50_13 Ls xs)) (xlf_ok (it_50_16 Ls xs))) (xbt_ok (xlf_ok (it_50_17 Ls xs)) (xlf_ok (it_50_18 Ls xs)))) (xbt_ok (xbt_ok (xlf_ok (it_50_19 Ls xs)) (xlf_ok (it_50_22 Ls xs))) (xbt_ok (xlf_ok (it_50_23 Ls xs)) (xbt_ok (xlf_ok (it_50_24 Ls xs)) (xlf_ok (it_50_25 Ls xs))))))) (xbt_ok (xbt_ok (xbt_ok (xbt_ok (xlf_ok (it_50_28 Ls xs)) (xlf_ok (it_50_29 Ls xs))) (xbt_ok (xlf_ok (it_50_30 Ls xs)) (xlf_ok (it_50_33 Ls xs)))) (xbt_ok (xbt_ok (xlf_ok (it_50_34 Ls xs)) (xlf_ok (it_50_35 Ls xs))) (xbt_ok (xlf_ok (it_50_39 Ls xs)) (xbt_ok (xlf_ok (it_50_42 Ls xs)) (xlf_ok (it_50_43 Ls xs)))))) (xbt_ok (xbt_ok (xbt_ok (xlf_ok (it_50_46 Ls xs)) (xlf_ok (it_50_47 Ls xs))) (xbt_ok (xlf_ok (it_50_48 Ls xs)) (xlf_ok (it_50_49 Ls xs)))) (xbt_ok (xbt_ok (xlf_ok (it_50_50 Ls xs)) (xlf_ok (it_50_51 Ls xs))) (xbt_ok (xlf_ok (it_50_54 Ls xs)) (xbt_ok (xlf_ok (it_50_57 Ls xs)) (xlf_ok (it_50_58 Ls xs)))))))
theorem d_51_0 : decode prog_4_method_21_code 0 = .ok (.iconst (0), 1) := by decide +kernel
theorem d_51_1 : decode prog_4_method_21_code 1 = .ok (.istore_n 1, 1) := by decide +kernel
theorem d_51_2 : decode prog_4_method_21_code 2 = .ok (.iconst (0), 1) := by decide +kernel
theorem d_51_3 : decode prog_4_method_21_code 3 = .ok (.istore_n 2, 1) := by decide +kernel
theorem d_51_4 : decode prog_4_method_21_code 4 = .ok (.iload_n 2, 1) := by decide +kernel
theorem d_51_5 : decode prog_4_method_21_code 5 = .ok (.aload_n 0, 1) := by decide +kernel
theorem d_51_6 : decode prog_4_method_21_code 6 = .ok (.getfield 28, 3) := by decide +kernel
theorem d_51_9 : decode prog_4_method_21_code 9 = .ok (.if_icmp .ge (57), 3) := by decide +kernel
theorem d_51_12 : decode prog_4_method_21_code 12 = .ok (.aload_n 0, 1) := by decide +kernel
theorem d_51_13 : decode prog_4_method_21_code 13 = .ok (.getfield 18, 3) := by decide +kernel
theorem d_51_16 : decode prog_4_method_21_code 16 = .ok (.iload_n 2, 1) := by decide +kernel
theorem d_51_17 : decode prog_4_method_21_code 17 = .ok (.iaload, 1) := by decide +kernel
theorem d_51_18 : decode prog_4_method_21_code 18 = .ok (.aload_n 0, 1) := by decide +kernel
theorem d_51_19 : decode prog_4_method_21_code 19 = .ok (.getfield 9, 3) := by decide +kernel
theorem d_51_22 : decode prog_4_method_21_code 22 = .ok (.isub, 1) := by decide +kernel
theorem d_51_23 : decode prog_4_method_21_code 23 = .ok (.istore_n 3, 1) := by decide +kernel
theorem d_51_24 : decode prog_4_method_21_code 24 = .ok (.aload_n 0, 1) := by decide +kernel
theorem d_51_25 : decode prog_4_method_21_code 25 = .ok (.getfield 35, 3) := by decide +kernel
theorem d_51_28 : decode prog_4_method_21_code 28 = .ok (.iload_n 3, 1) := by decide +kernel
theorem d_51_29 : decode prog_4_method_21_code 29 = .ok (.iaload, 1) := by decide +kernel
theorem d_51_30 : decode prog_4_method_21_code 30 = .ok (.aload_n 0, 1) := by decide +kernel
theorem d_51_31 : decode prog_4_method_21_code 31 = .ok (.iload_n 2, 1) := by decide +kernel
theorem d_51_32 : decode prog_4_method_21_code 32 = .ok (.iconst (0), 1) := by decide +kernel
theorem d_51_36 : decode prog_4_method_21_code 36 = .ok (.ior, 1) := by decide +kernel
theorem d_51_37 : decode prog_4_method_21_code 37 = .ok (.istore 4, 2) := by decide +kernel
theorem d_51_39 : decode prog_4_method_21_code 39 = .ok (.iload 4, 2) := by decide +kernel
theorem d_51_41 : decode prog_4_method_21_code 41 = .ok (.aload_n 0, 1) := by decide +kernel
theorem d_51_42 : decode prog_4_method_21_code 42 = .ok (.getfield 35, 3) := by decide +kernel
theorem d_51_45 : decode prog_4_method_21_code 45 = .ok (.iload_n 3, 1) := by decide +kernel
theorem d_51_46 : decode prog_4_method_21_code 46 = .ok (.iaload, 1) := by decide +kernel
theorem d_51_47 : decode prog_4_method_21_code 47 = .ok (.if_icmp .eq (13), 3) := by decide +kernel
theorem d_51_50 : decode prog_4_method_21_code 50 = .ok (.aload_n 0, 1) := by decide +kernel
theorem d_51_51 : decode prog_4_method_21_code 51 = .ok (.getfield 35, 3) := by decide +kernel
theorem d_51_54 : decode prog_4_method_21_code 54 = .ok (.iload_n 3, 1) := by decide +kernel
theorem d_51_55 : decode prog_4_method_21_code 55 = .ok (.iload 4, 2) := by decide +kernel
theorem d_51_57 : decode prog_4_method_21_code 57 = .ok (.iastore, 1) := by decide +kernel
theorem d_51_58 : decode prog_4_method_21_code 58 = .ok (.iconst (1), 1) := by decide +kernel
theorem d_51_59 : decode prog_4_method_21_code 59 = .ok (.istore_n 1, 1) := by decide +kernel
theorem d_51_60 : decode prog_4_method_21_code 60 = .ok (.iinc 2 (1), 3) := by decide +kernel
theorem d_51_63 : decode prog_4_method_21_code 63 = .ok (.goto (-59), 3) := by decide +kernel
theorem d_51_66 : decode prog_4_method_21_code 66 = .ok (.iload_n 1, 1) := by decide +kernel
theorem d_51_67 : decode prog_4_method_21_code 67 = .ok (.ireturn, 1) := by decide +kernel
theorem it_51_0 (Ls : Nat) (xs : Nat → Int32) : xPI Ls xs md_51 0 (.inl (xs_c (0) 1)) := by
  exact xs_iconst_ok d_51_0 (by decide)
theorem it_51_1 (Ls : Nat) (xs : Nat → Int32) : xPI Ls xs md_51 1 (.inl (xs_is 5 1 2)) := by
  exact xs_istore_n_ok d_51_1 rfl
theorem it_51_2 (Ls : Nat) (xs : Nat → Int32) : xPI Ls xs md_51 2 (.inl (xs_c (0) 3)) := by
  exact xs_iconst_ok d_51_2 (by decide)
theorem it_51_3 (Ls : Nat) (xs : Nat → Int32) : xPI Ls xs md_51 3 (.inl (xs_is 5 2 4)) := by
  exact xs_istore_n_ok d_51_3 rfl
theorem it_51_4 (Ls : Nat) (xs : Nat → Int32) : xPI Ls xs md_51 4 (.inl (xs_il 2 5)) := by
  exact xs_iload_n_ok d_51_4 rfl
theorem it_51_5 (Ls : Nat) (xs : Nat → Int32) : xPI Ls xs md_51 5 (.inl (xs_al 0 6)) := by
  exact xs_aload_n_ok d_51_5 rfl
theorem it_51_6 (Ls : Nat) (xs : Nat → Int32) : xPI Ls xs md_51 6 (.inl (xs_gf 1 5 9)) := by
  exact xs_gf_ok d_51_6 (C := R_1) (T := T_1) (N := N_1) rfl in_1 (by decide) tw_38
theorem it_51_9 (Ls : Nat) (xs : Nat → Int32) : xPI Ls xs md_51 9 (.inl (xs_ic_ge 66 12)) := by
  exact xs_ic_ge_ok d_51_9 (by decide)
theorem it_51_12 (Ls : Nat) (xs : Nat → Int32) : xPI Ls xs md_51 12 (.inl (xs_al 0 13)) := by
  exact xs_aload_n_ok d_51_12 rfl
theorem it_51_13 (Ls : Nat) (xs : Nat → Int32) : xPI Ls xs md_51 13 (.inl (xs_gf 1 2 16)) := by
  exact xs_gf_ok d_51_13 (C := R_1) (T := T_1) (N := N_1) rfl in_1 (by decide) tw_35
theorem it_51_16 (Ls : Nat) (xs : Nat → Int32) : xPI Ls xs md_51 16 (.inl (xs_il 2 17)) := by
  exact xs_iload_n_ok d_51_16 rfl
theorem it_51_17 (Ls : Nat) (xs : Nat → Int32) : xPI Ls xs md_51 17 (.inl (xs_ia Ls xs 18)) := by
  exact xs_ia_ok d_51_17
theorem it_51_18 (Ls : Nat) (xs : Nat → Int32) : xPI Ls xs md_51 18 (.inl (xs_al 0 19)) := by
  exact xs_aload_n_ok d_51_18 rfl
theorem it_51_19 (Ls : Nat) (xs : Nat → Int32) : xPI Ls xs md_51 19 (.inl (xs_gf 1 0 22)) := by
  exact xs_gf_ok d_51_19 (C := R_1) (T := T_1) (N := N_1) rfl in_1 (by decide) tw_33
theorem it_51_22 (Ls : Nat) (xs : Nat → Int32) : xPI Ls xs md_51 22 (.inl (xs_isub 23)) := by
  exact xs_isub_ok d_51_22
theorem it_51_23 (Ls : Nat) (xs : Nat → Int32) : xPI Ls xs md_51 23 (.inl (xs_is 5 3 24)) := by
  exact xs_istore_n_ok d_51_23 rfl
theorem it_51_24 (Ls : Nat) (xs : Nat → Int32) : xPI Ls xs md_51 24 (.inl (xs_al 0 25)) := by
  exact xs_aload_n_ok d_51_24 rfl
theorem it_51_25 (Ls : Nat) (xs : Nat → Int32) : xPI Ls xs md_51 25 (.inl (xs_gf 1 7 28)) := by
  exact xs_gf_ok d_51_25 (C := R_1) (T := T_1) (N := N_1) rfl in_1 (by decide) tw_40
theorem it_51_28 (Ls : Nat) (xs : Nat → Int32) : xPI Ls xs md_51 28 (.inl (xs_il 3 29)) := by
  exact xs_iload_n_ok d_51_28 rfl
theorem it_51_29 (Ls : Nat) (xs : Nat → Int32) : xPI Ls xs md_51 29 (.inl (xs_ia Ls xs 30)) := by
  exact xs_ia_ok d_51_29
theorem it_51_30 (Ls : Nat) (xs : Nat → Int32) : xPI Ls xs md_51 30 (.inl (xs_al 0 31)) := by
  exact xs_aload_n_ok d_51_30 rfl
theorem it_51_31 (Ls : Nat) (xs : Nat → Int32) : xPI Ls xs md_51 31 (.inl (xs_il 2 32)) := by
  exact xs_iload_n_ok d_51_31 rfl
theorem it_51_32 (Ls : Nat) (xs : Nat → Int32) : xPI Ls xs md_51 32 (.inl (xs_c (0) 33)) := by
  exact xs_iconst_ok d_51_32 (by decide)
theorem it_51_36 (Ls : Nat) (xs : Nat → Int32) : xPI Ls xs md_51 36 (.inl (xs_ior 37)) := by
  exact xs_ior_ok d_51_36
theorem it_51_37 (Ls : Nat) (xs : Nat → Int32) : xPI Ls xs md_51 37 (.inl (xs_is 5 4 39)) := by
  exact xs_istore_ok d_51_37
theorem it_51_39 (Ls : Nat) (xs : Nat → Int32) : xPI Ls xs md_51 39 (.inl (xs_il 4 41)) := by
  exact xs_iload_ok d_51_39
theorem it_51_41 (Ls : Nat) (xs : Nat → Int32) : xPI Ls xs md_51 41 (.inl (xs_al 0 42)) := by
  exact xs_aload_n_ok d_51_41 rfl
theorem it_51_42 (Ls : Nat) (xs : Nat → Int32) : xPI Ls xs md_51 42 (.inl (xs_gf 1 7 45)) := by
  exact xs_gf_ok d_51_42 (C := R_1) (T := T_1) (N := N_1) rfl in_1 (by decide) tw_40
theorem it_51_45 (Ls : Nat) (xs : Nat → Int32) : xPI Ls xs md_51 45 (.inl (xs_il 3 46)) := by
  exact xs_iload_n_ok d_51_45 rfl
theorem it_51_46 (Ls : Nat) (xs : Nat → Int32) : xPI Ls xs md_51 46 (.inl (xs_ia Ls xs 47)) := by
  exact xs_ia_ok d_51_46
theorem it_51_47 (Ls : Nat) (xs : Nat → Int32) : xPI Ls xs md_51 47 (.inl (xs_ic_eq 60 50)) := by
  exact xs_ic_eq_ok d_51_47 (by decide)
theorem it_51_50 (Ls : Nat) (xs : Nat → Int32) : xPI Ls xs md_51 50 (.inl (xs_al 0 51)) := by
  exact xs_aload_n_ok d_51_50 rfl
theorem it_51_51 (Ls : Nat) (xs : Nat → Int32) : xPI Ls xs md_51 51 (.inl (xs_gf 1 7 54)) := by
  exact xs_gf_ok d_51_51 (C := R_1) (T := T_1) (N := N_1) rfl in_1 (by decide) tw_40
theorem it_51_54 (Ls : Nat) (xs : Nat → Int32) : xPI Ls xs md_51 54 (.inl (xs_il 3 55)) := by
  exact xs_iload_n_ok d_51_54 rfl
theorem it_51_55 (Ls : Nat) (xs : Nat → Int32) : xPI Ls xs md_51 55 (.inl (xs_il 4 57)) := by
  exact xs_iload_ok d_51_55
theorem it_51_57 (Ls : Nat) (xs : Nat → Int32) : xPI Ls xs md_51 57 (.inl (xs_ias 58)) := by
  exact xs_ias_ok d_51_57
theorem it_51_58 (Ls : Nat) (xs : Nat → Int32) : xPI Ls xs md_51 58 (.inl (xs_c (1) 59)) := by
  exact xs_iconst_ok d_51_58 (by decide)
theorem it_51_59 (Ls : Nat) (xs : Nat → Int32) : xPI Ls xs md_51 59 (.inl (xs_is 5 1 60)) := by
  exact xs_istore_n_ok d_51_59 rfl
theorem it_51_60 (Ls : Nat) (xs : Nat → Int32) : xPI Ls xs md_51 60 (.inl (xs_inc 5 2 (1) 63)) := by
  exact xs_iinc_ok d_51_60 (by decide)
theorem it_51_63 (Ls : Nat) (xs : Nat → Int32) : xPI Ls xs md_51 63 (.inl (xs_goto 4)) := by
  exact xs_goto_ok d_51_63 (by decide)
theorem it_51_66 (Ls : Nat) (xs : Nat → Int32) : xPI Ls xs md_51 66 (.inl (xs_il 1 67)) := by
  exact xs_iload_n_ok d_51_66 rfl
theorem it_51_67 (Ls : Nat) (xs : Nat → Int32) : xPI Ls xs md_51 67 (.inr (.inr 2)) := by
  exact ⟨rfl, d_51_67⟩
def K_51 (Ls : Nat) (xs : Nat → Int32) : Nat → Option xK := xbt 31 (xbt 16 (xbt 5 (xbt 2 (xbt 1 (xlf 0 (.inl (xs_c (0) 1))) (xlf 1 (.inl (xs_is 5 1 2)))) (xbt 3 (xlf 2 (.inl (xs_c (0) 3))) (xbt 4 (xlf 3 (.inl (xs_is 5 2 4))) (xlf 4 (.inl (xs_il 2 5)))))) (xbt 9 (xbt 6 (xlf 5 (.inl (xs_al 0 6))) (xlf 6 (.inl (xs_gf 1 5 9)))) (xbt 12 (xlf 9 (.inl (xs_ic_ge 66 12))) (xbt 13 (xlf 12 (.inl (xs_al 0 13))) (xlf 13 (.inl (xs_gf 1 2 16))))))) (xbt 23 (xbt 18 (xbt 17 (xlf 16 (.inl (xs_il 2 17))) (xlf 17 (.inl (xs_ia Ls xs 18)))) (xbt 19 (xlf 18 (.inl (xs_al 0 19))) (xbt 22 (xlf 19 (.inl (xs_gf 1 0 22))) (xlf 22 (.inl (xs_isub 23)))))) (xbt 28 (xbt 24 (xlf 23 (.inl (xs_is 5 3 24))) (xbt 25 (xlf 24 (.inl (xs_al 0 25))) (xlf 25 (.inl (xs_gf 1 7 28))))) (xbt 29 (xlf 28 (.inl (xs_il 3 29))) (xbt 30 (xlf 29 (.inl (xs_ia Ls xs 30))) (xlf 30 (.inl (xs_al 0 31)))))))) (xbt 50 (xbt 41 (xbt 36 (xbt 32 (xlf 31 (.inl (xs_il 2 32))) (xlf 32 (.inl (xs_c (0) 33)))) (xbt 37 (xlf 36 (.inl (xs_ior 37))) (xbt 39 (xlf 37 (.inl (xs_is 5 4 39))) (xlf 39 (.inl (xs_il 4 41)))))) (xbt 45 (xbt 42 (xlf 41 (.inl (xs_al 0 42))) (xlf 42 (.inl (xs_gf 1 7 45)))) (xbt 46 (xlf 45 (.inl (xs_il 3 46))) (xbt 47 (xlf 46 (.inl (xs_ia Ls xs 47))) (xlf 47 (.inl (xs_ic_eq 60 50))))))) (xbt 58 (xbt 54 (xbt 51 (xlf 50 (.inl (xs_al 0 51))) (xlf 51 (.inl (xs_gf 1 7 54)))) (xbt 55 (xlf 54 (.inl (xs_il 3 55))) (xbt 57 (xlf 55 (.inl (xs_il 4 57))) (xlf 57 (.inl (xs_ias 58)))))) (xbt 63 (xbt 59 (xlf 58 (.inl (xs_c (1) 59))) (xbt 60 (xlf 59 (.inl (xs_is 5 1 60))) (xlf 60 (.inl (xs_inc 5 2 (1) 63))))) (xbt 66 (xlf 63 (.inl (xs_goto 4))) (xbt 67 (xlf 66 (.inl (xs_il 1 67))) (xlf 67 (.inr (.inr 2))))))))
theorem ok_51 (Ls : Nat) (xs : Nat → Int32) : ∀ pc it, K_51 Ls xs pc = some it → xPI Ls xs md_51 pc it := by
  unfold K_51
  exact xbt_ok (xbt_ok (xbt_ok (xbt_ok (xbt_ok (xlf_ok (it_51_0 Ls xs)) (xlf_ok (it_51_1 Ls xs))) (xbt_ok (xlf_ok (it_51_2 Ls xs)) (xbt_ok (xlf_ok (it_51_3 Ls xs)) (xlf_ok (it_51_4 Ls xs))))) (xbt_ok (xbt_ok (xlf_ok (it_51_5 Ls xs)) (xlf_ok (it_51_6 Ls xs))) (xbt_ok (xlf_ok (it_51_9 Ls xs)) (xbt_ok (xlf_ok (it_51_12 Ls xs)) (xlf_ok (it_51_13 Ls xs)))))) (xbt_ok (xbt_ok (xbt_ok (xlf_ok (it_51_16 Ls xs)) (xlf_ok (it_51_17 Ls xs))) (xbt_ok (xlf_ok (it_51_18 Ls xs)) (xbt_ok (xlf_ok (it_51_19 Ls xs)) (xlf_ok (it_51_22 Ls xs))))) (xbt_ok (xbt_ok (xlf_ok (it_51_23 Ls xs)) (xbt_ok (xlf_ok (it_51_24 Ls xs)) (xlf_ok (it_51_25 Ls xs)))) (xbt_ok (xlf_ok (it_51_28 Ls xs)) (xbt_ok (xlf_ok (it_51_29 Ls xs)) (xlf_ok (it_51_30 Ls xs))))))) (xbt_ok (xbt_ok (xbt_ok (xbt_ok (xlf_ok (it_51_31 Ls xs)) (xlf_ok (it_51_32 Ls xs))) (xbt_ok (xlf_ok (it_51_36 Ls xs)) (xbt_ok (xlf_ok (it_51_37 Ls xs)) (xlf_ok (it_51_39 Ls xs))))) (xbt_ok (xbt_ok (xlf_ok (it_51_41 Ls xs)) (xlf_ok (it_51_42 Ls xs))) (xbt_ok (xlf_ok (it_51_45 Ls xs)) (xbt_ok (xlf_ok (it_51_46 Ls xs)) (xlf_ok (it_51_47 Ls xs)))))) (xbt_ok (xbt_ok (xbt_ok (xlf_ok (it_51_50 Ls xs)) (xlf_ok (it_51_51 Ls xs))) (xbt_ok (xlf_ok (it_51_54 Ls xs)) (xbt_ok (xlf_ok (it_51_55 Ls xs)) (xlf_ok (it_51_57 Ls xs))))) (xbt_ok (xbt_ok (xlf_ok (it_51_58 Ls xs)) (xbt_ok (xlf_ok (it_51_59 Ls xs)) (xlf_ok (it_51_60 Ls xs)))) (xbt_ok (xlf_ok (it_51_63 Ls xs)) (xbt_ok (xlf_ok (it_51_66 Ls xs)) (xlf_ok (it_51_67 Ls xs)))))))
theorem d_52_0 : decode prog_4_method_22_code 0 = .ok (.aload_n 0, 1) := by decide +kernel
theorem d_52_1 : decode prog_4_method_22_code 1 = .ok (.iload_n 1, 1) := by decide +kernel
theorem d_52_2 : decode prog_4_method_22_code 2 = .ok (.invokevirtual 63, 3) := by decide +kernel
theorem d_52_5 : decode prog_4_method_22_code 5 = .ok (.ifCond .eq (21), 3) := by decide +kernel
theorem d_52_8 : decode prog_4_method_22_code 8 = .ok (.aload_n 0, 1) := by decide +kernel
theorem d_52_9 : decode prog_4_method_22_code 9 = .ok (.getfield 31, 3) := by decide +kernel
theorem d_52_12 : decode prog_4_method_22_code 12 = .ok (.iload_n 1, 1) := by decide +kernel
theorem d_52_13 : decode prog_4_method_22_code 13 = .ok (.aload_n 0, 1) := by decide +kernel
theorem d_52_14 : decode prog_4_method_22_code 14 = .ok (.getfield 9, 3) := by decide +kernel
theorem d_52_17 : decode prog_4_method_22_code 17 = .ok (.isub, 1) := by decide +kernel
theorem d_52_18 : decode prog_4_method_22_code 18 = .ok (.baload, 1) := by decide +kernel
theorem d_52_19 : decode prog_4_method_22_code 19 = .ok (.ifCond .eq (7), 3) := by decide +kernel
theorem d_52_22 : decode prog_4_method_22_code 22 = .ok (.iconst (1), 1) := by decide +kernel
theorem d_52_23 : decode prog_4_method_22_code 23 = .ok (.goto (4), 3) := by decide +kernel
theorem d_52_26 : decode prog_4_method_22_code 26 = .ok (.iconst (0), 1) := by decide +kernel
theorem d_52_27 : decode prog_4_method_22_code 27 = .ok (.ireturn, 1) := by decide +kernel
theorem it_52_0 (Ls : Nat) (xs : Nat → Int32) : xPI Ls xs md_52 0 (.inl (xs_al 0 1)) := by
  exact xs_aload_n_ok d_52_0 rfl
theorem it_52_1 (Ls : Nat) (xs : Nat → Int32) : xPI Ls xs md_52 1 (.inl (xs_il 1 2)) := by
  exact xs_iload_n_ok d_52_1 rfl
theorem it_52_2 (Ls : Nat) (xs : Nat → Int32) : xPI Ls xs md_52 2 (.inr (.inl (39, 2, 3, []))) := by
  exact ⟨md_39, rfl, tw_2, by decide, ⟨by decide, by decide⟩, Or.inr (Or.inr ⟨1, R_1, T_1, N_1, 63, 1, rfl, rfl, rfl, rfl, d_52_2, tw_433, tw_270, tw_271, by decide +kernel, (fun x q h => by cases h)⟩)⟩
theorem it_52_5 (Ls : Nat) (xs : Nat → Int32) : xPI Ls xs md_52 5 (.inl (xs_if_eq 26 8)) := by
  exact xs_if_eq_ok d_52_5 (by decide)
theorem it_52_8 (Ls : Nat) (xs : Nat → Int32) : xPI Ls xs md_52 8 (.inl (xs_al 0 9)) := by
  exact xs_aload_n_ok d_52_8 rfl
theorem it_52_9 (Ls : Nat) (xs : Nat → Int32) : xPI Ls xs md_52 9 (.inl (xs_gf 1 6 12)) := by
  exact xs_gf_ok d_52_9 (C := R_1) (T := T_1) (N := N_1) rfl in_1 (by decide) tw_39
theorem it_52_12 (Ls : Nat) (xs : Nat → Int32) : xPI Ls xs md_52 12 (.inl (xs_il 1 13)) := by
  exact xs_iload_n_ok d_52_12 rfl
theorem it_52_13 (Ls : Nat) (xs : Nat → Int32) : xPI Ls xs md_52 13 (.inl (xs_al 0 14)) := by
  exact xs_aload_n_ok d_52_13 rfl
theorem it_52_14 (Ls : Nat) (xs : Nat → Int32) : xPI Ls xs md_52 14 (.inl (xs_gf 1 0 17)) := by
  exact xs_gf_ok d_52_14 (C := R_1) (T := T_1) (N := N_1) rfl in_1 (by decide) tw_33
theorem it_52_17 (Ls : Nat) (xs : Nat → Int32) : xPI Ls xs md_52 17 (.inl (xs_isub 18)) := by
  exact xs_isub_ok d_52_17
theorem it_52_18 (Ls : Nat) (xs : Nat → Int32) : xPI Ls xs md_52 18 (.inl (xs_za 19)) := by
  exact xs_za_ok d_52_18
theorem it_52_19 (Ls : Nat) (xs : Nat → Int32) : xPI Ls xs md_52 19 (.inl (xs_if_eq 26 22)) := by
  exact xs_if_eq_ok d_52_19 (by decide)
theorem it_52_22 (Ls : Nat) (xs : Nat → Int32) : xPI Ls xs md_52 22 (.inl (xs_c (1) 23)) := by
  exact xs_iconst_ok d_52_22 (by decide)
theorem it_52_23 (Ls : Nat) (xs : Nat → Int32) : xPI Ls xs md_52 23 (.inl (xs_goto 27)) := by
  exact xs_goto_ok d_52_23 (by decide)
theorem it_52_26 (Ls : Nat) (xs : Nat → Int32) : xPI Ls xs md_52 26 (.inl (xs_c (0) 27)) := by
  exact xs_iconst_ok d_52_26 (by decide)
theorem it_52_27 (Ls : Nat) (xs : Nat → Int32) : xPI Ls xs md_52 27 (.inr (.inr 2)) := by
  exact ⟨rfl, d_52_27⟩
def K_52 (Ls : Nat) (xs : Nat → Int32) : Nat → Option xK := xbt 14 (xbt 8 (xbt 2 (xbt 1 (xlf 0 (.inl (xs_al 0 1))) (xlf 1 (.inl (xs_il 1 2)))) (xbt 5 (xlf 2 (.inr (.inl (39, 2, 3, [])))) (xlf 5 (.inl (xs_if_eq 26 8))))) (xbt 12 (xbt 9 (xlf 8 (.inl (xs_al 0 9))) (xlf 9 (.inl (xs_gf 1 6 12)))) (xbt 13 (xlf 12 (.inl (xs_il 1 13))) (xlf 13 (.inl (xs_al 0 14)))))) (xbt 22 (xbt 18 (xbt 17 (xlf 14 (.inl (xs_gf 1 0 17))) (xlf 17 (.inl (xs_isub 18)))) (xbt 19 (xlf 18 (.inl (xs_za 19))) (xlf 19 (.inl (xs_if_eq 26 22))))) (xbt 26 (xbt 23 (xlf 22 (.inl (xs_c (1) 23))) (xlf 23 (.inl (xs_goto 27)))) (xbt 27 (xlf 26 (.inl (xs_c (0) 27))) (xlf 27 (.inr (.inr 2))))))
theorem ok_52 (Ls : Nat) (xs : Nat → Int32) : ∀ pc it, K_52 Ls xs pc = some it → xPI Ls xs md_52 pc it := by
  unfold K_52
  exact xbt_ok (xbt_ok (xbt_ok (xbt_ok (xlf_ok (it_52_0 Ls xs)) (xlf_ok (it_52_1 Ls xs))) (xbt_ok (xlf_ok (it_52_2 Ls xs)) (xlf_ok (it_52_5 Ls xs)))) (xbt_ok (xbt_ok (xlf_ok (it_52_8 Ls xs)) (xlf_ok (it_52_9 Ls xs))) (xbt_ok (xlf_ok (it_52_12 Ls xs)) (xlf_ok (it_52_13 Ls xs))))) (xbt_ok (xbt_ok (xbt_ok (xlf_ok (it_52_14 Ls xs)) (xlf_ok (it_52_17 Ls xs))) (xbt_ok (xlf_ok (it_52_18 Ls xs)) (xlf_ok (it_52_19 Ls xs)))) (xbt_ok (xbt_ok (xlf_ok (it_52_22 Ls xs)) (xlf_ok (it_52_23 Ls xs))) (xbt_ok (xlf_ok (it_52_26 Ls xs)) (xlf_ok (it_52_27 Ls xs)))))
theorem d_53_0 : decode prog_4_method_23_code 0 = .ok (.aload_n 0, 1) := by decide +kernel
theorem d_53_1 : decode prog_4_method_23_code 1 = .ok (.iload_n 1, 1) := by decide +kernel
theorem d_53_2 : decode prog_4_method_23_code 2 = .ok (.invokevirtual 63, 3) := by decide +kernel
theorem d_53_5 : decode prog_4_method_23_code 5 = .ok (.ifCond .eq (17), 3) := by decide +kernel
theorem d_53_8 : decode prog_4_method_23_code 8 = .ok (.aload_n 0, 1) := by decide +kernel
theorem d_53_9 : decode prog_4_method_23_code 9 = .ok (.getfield 35, 3) := by decide +kernel
theorem d_53_12 : decode prog_4_method_23_code 12 = .ok (.iload_n 1, 1) := by decide +kernel
theorem d_53_13 : decode prog_4_method_23_code 13 = .ok (.aload_n 0, 1) := by decide +kernel
theorem d_53_14 : decode prog_4_method_23_code 14 = .ok (.getfield 9, 3) := by decide +kernel
theorem d_53_17 : decode prog_4_method_23_code 17 = .ok (.isub, 1) := by decide +kernel
theorem d_53_18 : decode prog_4_method_23_code 18 = .ok (.iaload, 1) := by decide +kernel
theorem d_53_19 : decode prog_4_method_23_code 19 = .ok (.goto (6), 3) := by decide +kernel
theorem d_53_22 : decode prog_4_method_23_code 22 = .ok (.iconst (1), 1) := by decide +kernel
theorem d_53_23 : decode prog_4_method_23_code 23 = .ok (.iload_n 1, 1) := by decide +kernel
theorem d_53_25 : decode prog_4_method_23_code 25 = .ok (.ireturn, 1) := by decide +kernel
theorem it_53_0 (Ls : Nat) (xs : Nat → Int32) : xPI Ls xs md_53 0 (.inl (xs_al 0 1)) := by
  exact xs_aload_n_ok d_53_0 rfl
theorem it_53_1 (Ls : Nat) (xs : Nat → Int32) : xPI Ls xs md_53 1 (.inl (xs_il 1 2)) := by
  exact xs_iload_n_ok d_53_1 rfl
theorem it_53_2 (Ls : Nat) (xs : Nat → Int32) : xPI Ls xs md_53 2 (.inr (.inl (39, 2, 3, []))) := by
  exact ⟨md_39, rfl, tw_2, by decide, ⟨by decide, by decide⟩, Or.inr (Or.inr ⟨1, R_1, T_1, N_1, 63, 1, rfl, rfl, rfl, rfl, d_53_2, tw_433, tw_270, tw_271, by decide +kernel, (fun x q h => by cases h)⟩)⟩
theorem it_53_5 (Ls : Nat) (xs : Nat → Int32) : xPI Ls xs md_53 5 (.inl (xs_if_eq 22 8)) := by
  exact xs_if_eq_ok d_53_5 (by decide)
theorem it_53_8 (Ls : Nat) (xs : Nat → Int32) : xPI Ls xs md_53 8 (.inl (xs_al 0 9)) := by
  exact xs_aload_n_ok d_53_8 rfl
theorem it_53_9 (Ls : Nat) (xs : Nat → Int32) : xPI Ls xs md_53 9 (.inl (xs_gf 1 7 12)) := by
  exact xs_gf_ok d_53_9 (C := R_1) (T := T_1) (N := N_1) rfl in_1 (by decide) tw_40
theorem it_53_12 (Ls : Nat) (xs : Nat → Int32) : xPI Ls xs md_53 12 (.inl (xs_il 1 13)) := by
  exact xs_iload_n_ok d_53_12 rfl
theorem it_53_13 (Ls : Nat) (xs : Nat → Int32) : xPI Ls xs md_53 13 (.inl (xs_al 0 14)) := by
  exact xs_aload_n_ok d_53_13 rfl
theorem it_53_14 (Ls : Nat) (xs : Nat → Int32) : xPI Ls xs md_53 14 (.inl (xs_gf 1 0 17)) := by
  exact xs_gf_ok d_53_14 (C := R_1) (T := T_1) (N := N_1) rfl in_1 (by decide) tw_33
theorem it_53_17 (Ls : Nat) (xs : Nat → Int32) : xPI Ls xs md_53 17 (.inl (xs_isub 18)) := by
  exact xs_isub_ok d_53_17
theorem it_53_18 (Ls : Nat) (xs : Nat → Int32) : xPI Ls xs md_53 18 (.inl (xs_ia Ls xs 19)) := by
  exact xs_ia_ok d_53_18
theorem it_53_19 (Ls : Nat) (xs : Nat → Int32) : xPI Ls xs md_53 19 (.inl (xs_goto 25)) := by
  exact xs_goto_ok d_53_19 (by decide)
theorem it_53_22 (Ls : Nat) (xs : Nat → Int32) : xPI Ls xs md_53 22 (.inl (xs_c (1) 23)) := by
  exact xs_iconst_ok d_53_22 (by decide)
theorem it_53_23 (Ls : Nat) (xs : Nat → Int32) : xPI Ls xs md_53 23 (.inl (xs_il 1 24)) := by
  exact xs_iload_n_ok d_53_23 rfl
theorem it_53_25 (Ls : Nat) (xs : Nat → Int32) : xPI Ls xs md_53 25 (.inr (.inr 1)) := by
  exact ⟨rfl, d_53_25⟩
def K_53 (Ls : Nat) (xs : Nat → Int32) : Nat → Option xK := xbt 13 (xbt 5 (xbt 1 (xlf 0 (.inl (xs_al 0 1))) (xbt 2 (xlf 1 (.inl (xs_il 1 2))) (xlf 2 (.inr (.inl (39, 2, 3, [])))))) (xbt 9 (xbt 8 (xlf 5 (.inl (xs_if_eq 22 8))) (xlf 8 (.inl (xs_al 0 9)))) (xbt 12 (xlf 9 (.inl (xs_gf 1 7 12))) (xlf 12 (.inl (xs_il 1 13)))))) (xbt 19 (xbt 17 (xbt 14 (xlf 13 (.inl (xs_al 0 14))) (xlf 14 (.inl (xs_gf 1 0 17)))) (xbt 18 (xlf 17 (.inl (xs_isub 18))) (xlf 18 (.inl (xs_ia Ls xs 19))))) (xbt 23 (xbt 22 (xlf 19 (.inl (xs_goto 25))) (xlf 22 (.inl (xs_c (1) 23)))) (xbt 25 (xlf 23 (.inl (xs_il 1 24))) (xlf 25 (.inr (.inr 1))))))
theorem ok_53 (Ls : Nat) (xs : Nat → Int32) : ∀ pc it, K_53 Ls xs pc = some it → xPI Ls xs md_53 pc it := by
  unfold K_53
  exact xbt_ok (xbt_ok (xbt_ok (xlf_ok (it_53_0 Ls xs)) (xbt_ok (xlf_ok (it_53_1 Ls xs)) (xlf_ok (it_53_2 Ls xs)))) (xbt_ok (xbt_ok (xlf_ok (it_53_5 Ls xs)) (xlf_ok (it_53_8 Ls xs))) (xbt_ok (xlf_ok (it_53_9 Ls xs)) (xlf_ok (it_53_12 Ls xs))))) (xbt_ok (xbt_ok (xbt_ok (xlf_ok (it_53_13 Ls xs)) (xlf_ok (it_53_14 Ls xs))) (xbt_ok (xlf_ok (it_53_17 Ls xs)) (xlf_ok (it_53_18 Ls xs)))) (xbt_ok (xbt_ok (xlf_ok (it_53_19 Ls xs)) (xlf_ok (it_53_22 Ls xs))) (xbt_ok (xlf_ok (it_53_23 Ls xs)) (xlf_ok (it_53_25 Ls xs)))))
theorem d_54_0 : decode prog_5_method_1_code 0 = .ok (.aload_n 0, 1) := by decide +kernel
theorem d_54_1 : decode prog_5_method_1_code 1 = .ok (.invokespecial 3, 3) := by decide +kernel
theorem d_54_4 : decode prog_5_method_1_code 4 = .ok (.aload_n 0, 1) := by decide +kernel
theorem d_54_5 : decode prog_5_method_1_code 5 = .ok (.bipush (56), 2) := by decide +kernel
theorem d_54_7 : decode prog_5_method_1_code 7 = .ok (.newarray .int, 2) := by decide +kernel
theorem d_54_9 : decode prog_5_method_1_code 9 = .ok (.putfield 9, 3) := by decide +kernel
theorem d_54_12 : decode prog_5_method_1_code 12 = .ok (.aload_n 0, 1) := by decide +kernel
theorem d_54_13 : decode prog_5_method_1_code 13 = .ok (.bipush (56), 2) := by decide +kernel
theorem d_54_15 : decode prog_5_method_1_code 15 = .ok (.newarray .int, 2) := by decide +kernel
theorem d_54_17 : decode prog_5_method_1_code 17 = .ok (.putfield 15, 3) := by decide +kernel
theorem d_54_20 : decode prog_5_method_1_code 20 = .ok (.aload_n 0, 1) := by decide +kernel
theorem d_54_21 : decode prog_5_method_1_code 21 = .ok (.bipush (56), 2) := by decide +kernel
theorem d_54_23 : decode prog_5_method_1_code 23 = .ok (.newarray .int, 2) := by decide +kernel
theorem d_54_25 : decode prog_5_method_1_code 25 = .ok (.putfield 18, 3) := by decide +kernel
theorem d_54_28 : decode prog_5_method_1_code 28 = .ok (.aload_n 0, 1) := by decide +kernel
theorem d_54_29 : decode prog_5_method_1_code 29 = .ok (.bipush (56), 2) := by decide +kernel
theorem d_54_31 : decode prog_5_method_1_code 31 = .ok (.newarray .int, 2) := by decide +kernel
theorem d_54_33 : decode prog_5_method_1_code 33 = .ok (.putfield 21, 3) := by decide +kernel
theorem d_54_36 : decode prog_5_method_1_code 36 = .ok (.aload_n 0, 1) := by decide +kernel
theorem d_54_37 : decode prog_5_method_1_code 37 = .ok (.bipush (56), 2) := by decide +kernel
theorem d_54_39 : decode prog_5_method_1_code 39 = .ok (.newarray .boolean, 2) := by decide +kernel
theorem d_54_41 : decode prog_5_method_1_code 41 = .ok (.putfield 24, 3) := by decide +kernel
theorem d_54_44 : decode prog_5_method_1_code 44 = .ok (.aload_n 0, 1) := by decide +kernel
theorem d_54_45 : decode prog_5_method_1_code 45 = .ok (.bipush (14), 2) := by decide +kernel
theorem d_54_47 : decode prog_5_method_1_code 47 = .ok (.newarray .int, 2) := by decide +kernel
theorem d_54_49 : decode prog_5_method_1_code 49 = .ok (.putfield 28, 3) := by decide +kernel
theorem d_54_52 : decode prog_5_method_1_code 52 = .ok (.aload_n 0, 1) := by decide +kernel
theorem d_54_53 : decode prog_5_method_1_code 53 = .ok (.iconst (0), 1) := by decide +kernel
theorem d_54_54 : decode prog_5_method_1_code 54 = .ok (.putfield 31, 3) := by decide +kernel
theorem d_54_57 : decode prog_5_method_1_code 57 = .ok (.return_, 1) := by decide +kernel
theorem it_54_0 (Ls : Nat) (xs : Nat → Int32) : xPI Ls xs md_54 0 (.inl (xs_al 0 1)) := by
  exact xs_aload_n_ok d_54_0 rfl
theorem it_54_1 (Ls : Nat) (xs : Nat → Int32) : xPI Ls xs md_54 1 (.inl (xs_oi 4)) := by
  exact xs_oi_ok d_54_1 tw_71 tw_25 tw_obj
theorem it_54_4 (Ls : Nat) (xs : Nat → Int32) : xPI Ls xs md_54 4 (.inl (xs_al 0 5)) := by
  exact xs_aload_n_ok d_54_4 rfl
theorem it_54_5 (Ls : Nat) (xs : Nat → Int32) : xPI Ls xs md_54 5 (.inl (xs_c (56) 7)) := by
  exact xs_bipush_ok d_54_5 (by decide)
theorem it_54_7 (Ls : Nat) (xs : Nat → Int32) : xPI Ls xs md_54 7 (.inl (xs_nai 600003 7302198 9)) := by
  exact xs_nai_ok d_54_7 tw_58
theorem it_54_9 (Ls : Nat) (xs : Nat → Int32) : xPI Ls xs md_54 9 (.inl (xs_pf 2 0 2 12)) := by
  exact xs_pf_ok d_54_9 (C := R_2) (T := T_2) (N := N_2) (ty0 := Y_2) rfl in_2 ty_2 nm_2 (by decide) tw_72 (Or.inr ⟨rfl, rfl, rfl⟩) (Or.inr ⟨_, rfl⟩)
theorem it_54_12 (Ls : Nat) (xs : Nat → Int32) : xPI Ls xs md_54 12 (.inl (xs_al 0 13)) := by
  exact xs_aload_n_ok d_54_12 rfl
theorem it_54_13 (Ls : Nat) (xs : Nat → Int32) : xPI Ls xs md_54 13 (.inl (xs_c (56) 15)) := by
  exact xs_bipush_ok d_54_13 (by decide)
theorem it_54_15 (Ls : Nat) (xs : Nat → Int32) : xPI Ls xs md_54 15 (.inl (xs_nai 600003 7302198 17)) := by
  exact xs_nai_ok d_54_15 tw_58
theorem it_54_17 (Ls : Nat) (xs : Nat → Int32) : xPI Ls xs md_54 17 (.inl (xs_pf 2 1 2 20)) := by
  exact xs_pf_ok d_54_17 (C := R_2) (T := T_2) (N := N_2) (ty0 := Y_2) rfl in_2 ty_2 nm_2 (by decide) tw_73 (Or.inr ⟨rfl, rfl, rfl⟩) (Or.inr ⟨_, rfl⟩)
theorem it_54_20 (Ls : Nat) (xs : Nat → Int32) : xPI Ls xs md_54 20 (.inl (xs_al 0 21)) := by
  exact xs_aload_n_ok d_54_20 rfl
theorem it_54_21 (Ls : Nat) (xs : Nat → Int32) : xPI Ls xs md_54 21 (.inl (xs_c (56) 23)) := by
  exact xs_bipush_ok d_54_21 (by decide)
theorem it_54_23 (Ls : Nat) (xs : Nat → Int32) : xPI Ls xs md_54 23 (.inl (xs_nai 600003 7302198 25)) := by
  exact xs_nai_ok d_54_23 tw_58
theorem it_54_25 (Ls : Nat) (xs : Nat → Int32) : xPI Ls xs md_54 25 (.inl (xs_pf 2 2 2 28)) := by
  exact xs_pf_ok d_54_25 (C := R_2) (T := T_2) (N := N_2) (ty0 := Y_2) rfl in_2 ty_2 nm_2 (by decide) tw_74 (Or.inr ⟨rfl, rfl, rfl⟩) (Or.inr ⟨_, rfl⟩)
theorem it_54_28 (Ls : Nat) (xs : Nat → Int32) : xPI Ls xs md_54 28 (.inl (xs_al 0 29)) := by
  exact xs_aload_n_ok d_54_28 rfl
theorem it_54_29 (Ls : Nat) (xs : Nat → Int32) : xPI Ls xs md_54 29 (.inl (xs_c (56) 31)) := by
  exact xs_bipush_ok d_54_29 (by decide)
theorem it_54_31 (Ls : Nat) (xs : Nat → Int32) : xPI Ls xs md_54 31 (.inl (xs_nai 600003 7302198 33)) := by
  exact xs_nai_ok d_54_31 tw_58
theorem it_54_33 (Ls : Nat) (xs : Nat → Int32) : xPI Ls xs md_54 33 (.inl (xs_pf 2 3 2 36)) := by
  exact xs_pf_ok d_54_33 (C := R_2) (T := T_2) (N := N_2) (ty0 := Y_2) rfl in_2 ty_2 nm_2 (by decide) tw_75 (Or.inr ⟨rfl, rfl, rfl⟩) (Or.inr ⟨_, rfl⟩)
theorem it_54_36 (Ls : Nat) (xs : Nat → Int32) : xPI Ls xs md_54 36 (.inl (xs_al 0 37)) := by
  exact xs_aload_n_ok d_54_36 rfl
theorem it_54_37 (Ls : Nat) (xs : Nat → Int32) : xPI Ls xs md_54 37 (.inl (xs_c (56) 39)) := by
  exact xs_bipush_ok d_54_37 (by decide)
theorem it_54_39 (Ls : Nat) (xs : Nat → Int32) : xPI Ls xs md_54 39 (.inl (xs_naz 600003 7302198 41)) := by
  exact xs_naz_ok d_54_39 tw_59
theorem it_54_41 (Ls : Nat) (xs : Nat → Int32) : xPI Ls xs md_54 41 (.inl (xs_pf 2 4 2 44)) := by
  exact xs_pf_ok d_54_41 (C := R_2) (T := T_2) (N := N_2) (ty0 := Y_2) rfl in_2 ty_2 nm_2 (by decide) tw_76 (Or.inr ⟨rfl, rfl, rfl⟩) (Or.inr ⟨_, rfl⟩)
theorem it_54_44 (Ls : Nat) (xs : Nat → Int32) : xPI Ls xs md_54 44 (.inl (xs_al 0 45)) := by
  exact xs_aload_n_ok d_54_44 rfl
theorem it_54_45 (Ls : Nat) (xs : Nat → Int32) : xPI Ls xs md_54 45 (.inl (xs_c (14) 47)) := by
  exact xs_bipush_ok d_54_45 (by decide)
theorem it_54_47 (Ls : Nat) (xs : Nat → Int32) : xPI Ls xs md_54 47 (.inl (xs_nai 600003 7302198 49)) := by
  exact xs_nai_ok d_54_47 tw_58
theorem it_54_49 (Ls : Nat) (xs : Nat → Int32) : xPI Ls xs md_54 49 (.inl (xs_pf 2 5 2 52)) := by
  exact xs_pf_ok d_54_49 (C := R_2) (T := T_2) (N := N_2) (ty0 := Y_2) rfl in_2 ty_2 nm_2 (by decide) tw_77 (Or.inr ⟨rfl, rfl, rfl⟩) (Or.inr ⟨_, rfl⟩)
theorem it_54_52 (Ls : Nat) (xs : Nat → Int32) : xPI Ls xs md_54 52 (.inl (xs_al 0 53)) := by
  exact xs_aload_n_ok d_54_52 rfl
theorem it_54_53 (Ls : Nat) (xs : Nat → Int32) : xPI Ls xs md_54 53 (.inl (xs_c (0) 54)) := by
  exact xs_iconst_ok d_54_53 (by decide)
theorem it_54_54 (Ls : Nat) (xs : Nat → Int32) : xPI Ls xs md_54 54 (.inl (xs_pf 2 6 0 57)) := by
  exact xs_pf_ok d_54_54 (C := R_2) (T := T_2) (N := N_2) (ty0 := Y_2) rfl in_2 ty_2 nm_2 (by decide) tw_78 (Or.inl rfl) rfl
theorem it_54_57 (Ls : Nat) (xs : Nat → Int32) : xPI Ls xs md_54 57 (.inr (.inr 0)) := by
  exact ⟨rfl, d_54_57⟩
def K_54 (Ls : Nat) (xs : Nat → Int32) : Nat → Option xK := xbt 29 (xbt 13 (xbt 5 (xbt 1 (xlf 0 (.inl (xs_al 0 1))) (xbt 4 (xlf 1 (.inl (xs_oi 4))) (xlf 4 (.inl (xs_al 0 5))))) (xbt 9 (xbt 7 (xlf 5 (.inl (xs_c (56) 7))) (xlf 7 (.inl (xs_nai 600003 7302198 9)))) (xbt 12 (xlf 9 (.inl (xs_pf 2 0 2 12))) (xlf 12 (.inl (xs_al 0 13)))))) (xbt 21 (xbt 17 (xbt 15 (xlf 13 (.inl (xs_c (56) 15))) (xlf 15 (.inl (xs_nai 600003 7302198 17)))) (xbt 20 (xlf 17 (.inl (xs_pf 2 1 2 20))) (xlf 20 (.inl (xs_al 0 21))))) (xbt 25 (xbt 23 (xlf 21 (.inl (xs_c (56) 23))) (xlf 23 (.inl (xs_nai 600003 7302198 25)))) (xbt 28 (xlf 25 (.inl (xs_pf 2 2 2 28))) (xlf 28 (.inl (xs_al 0 29))))))) (xbt 44 (xbt 36 (xbt 31 (xlf 29 (.inl (xs_c (56) 31))) (xbt 33 (xlf 31 (.inl (xs_nai 600003 7302198 33))) (xlf 33 (.inl (xs_pf 2 3 2 36))))) (xbt 39 (xbt 37 (xlf 36 (.inl (xs_al 0 37))) (xlf 37 (.inl (xs_c (56) 39)))) (xbt 41 (xlf 39 (.inl (xs_naz 600003 7302198 41))) (xlf 41 (.inl (xs_pf 2 4 2 44)))))) (xbt 52 (xbt 47 (xbt 45 (xlf 44 (.inl (xs_al 0 45))) (xlf 45 (.inl (xs_c (14) 47)))) (xbt 49 (xlf 47 (.inl (xs_nai 600003 7302198 49))) (xlf 49 (.inl (xs_pf 2 5 2 52))))) (xbt 54 (xbt 53 (xlf 52 (.inl (xs_al 0 53))) (xlf 53 (.inl (xs_c (0) 54)))) (xbt 57 (xlf 54 (.inl (xs_pf 2 6 0 57))) (xlf 57 (.inr (.inr 0)))))))
theorem ok_54 (Ls : Nat) (xs : Nat → Int32) : ∀ pc it, K_54 Ls xs pc = some it → xPI Ls xs md_54 pc it := by
  unfold K_54
  exact xbt_ok (xbt_ok (xbt_ok (xbt_ok (xlf_ok (it_54_0 Ls xs)) (xbt_ok (xlf_ok (it_54_1 Ls xs)) (xlf_ok (it_54_4 Ls xs)))) (xbt_ok (xbt_ok (xlf_ok (it_54_5 Ls xs)) (xlf_ok (it_54_7 Ls xs))) (xbt_ok (xlf_ok (it_54_9 Ls xs)) (xlf_ok (it_54_12 Ls xs))))) (xbt_ok (xbt_ok (xbt_ok (xlf_ok (it_54_13 Ls xs)) (xlf_ok (it_54_15 Ls xs))) (xbt_ok (xlf_ok (it_54_17 Ls xs)) (xlf_ok (it_54_20 Ls xs)))) (xbt_ok (xbt_ok (xlf_ok (it_54_21 Ls xs)) (xlf_ok (it_54_23 Ls xs))) (xbt_ok (xlf_ok (it_54_25 Ls xs)) (xlf_ok (it_54_28 Ls xs)))))) (xbt_ok (xbt_ok (xbt_ok (xlf_ok (it_54_29 Ls xs)) (xbt_ok (xlf_ok (it_54_31 Ls xs)) (xlf_ok (it_54_33 Ls xs)))) (xbt_ok (xbt_ok (xlf_ok (it_54_36 Ls xs)) (xlf_ok (it_54_37 Ls xs))) (xbt_ok (xlf_ok (it_54_39 Ls xs)) (xlf_ok (it_54_41 Ls xs))))) (xbt_ok (xbt_ok (xbt_ok (xlf_ok (it_54_44 Ls xs)) (xlf_ok (it_54_45 Ls xs))) (xbt_ok (xlf_ok (it_54_47 Ls xs)) (xlf_ok (it_54_49 Ls xs)))) (xbt_ok (xbt_ok (xlf_ok (it_54_52 Ls xs)) (xlf_ok (it_54_53 Ls xs))) (xbt_ok (xlf_ok (it_54_54 Ls xs)) (xlf_ok (it_54_57 Ls xs))))))
theorem d_55_0 : decode prog_6_method_1_code 0 = .ok (.aload_n 0, 1) := by decide +kernel
theorem d_55_1 : decode prog_6_method_1_code 1 = .ok (.invokespecial 3, 3) := by decide +kernel
theorem d_55_4 : decode prog_6_method_1_code 4 = .ok (.aload_n 0, 1) := by decide +kernel
theorem d_55_5 : decode prog_6_method_1_code 5 = .ok (.aload_n 1, 1) := by decide +kernel
theorem d_55_6 : decode prog_6_method_1_code 6 = .ok (.putfield 9, 3) := by decide +kernel
theorem d_55_9 : decode prog_6_method_1_code 9 = .ok (.aload_n 0, 1) := by decide +kernel
theorem d_55_10 : decode prog_6_method_1_code 10 = .ok (.new 15, 3) := by decide +kernel
theorem d_55_13 : decode prog_6_method_1_code 13 = .ok (.dup, 1) := by decide +kernel
theorem d_55_14 : decode prog_6_method_1_code 14 = .ok (.invokespecial 17, 3) := by decide +kernel
theorem d_55_17 : decode prog_6_method_1_code 17 = .ok (.putfield 18, 3) := by decide +kernel
theorem d_55_20 : decode prog_6_method_1_code 20 = .ok (.aload_n 0, 1) := by decide +kernel
theorem d_55_21 : decode prog_6_method_1_code 21 = .ok (.bipush (61), 2) := by decide +kernel
theorem d_55_23 : decode prog_6_method_1_code 23 = .ok (.bipush (56), 2) := by decide +kernel
theorem d_55_25 : decode prog_6_method_1_code 25 = .ok (.multianewarray 22 2, 4) := by decide +kernel
theorem d_55_29 : decode prog_6_method_1_code 29 = .ok (.putfield 24, 3) := by decide +kernel
theorem d_55_32 : decode prog_6_method_1_code 32 = .ok (.aload_n 0, 1) := by decide +kernel
theorem d_55_33 : decode prog_6_method_1_code 33 = .ok (.bipush (60), 2) := by decide +kernel
theorem d_55_35 : decode prog_6_method_1_code 35 = .ok (.aload_n 1, 1) := by decide +kernel
theorem d_55_36 : decode prog_6_method_1_code 36 = .ok (.invokevirtual 27, 3) := by decide +kernel
theorem d_55_39 : decode prog_6_method_1_code 39 = .ok (.multianewarray 22 2, 4) := by decide +kernel
theorem d_55_43 : decode prog_6_method_1_code 43 = .ok (.putfield 33, 3) := by decide +kernel
theorem d_55_46 : decode prog_6_method_1_code 46 = .ok (.aload_n 0, 1) := by decide +kernel
theorem d_55_47 : decode prog_6_method_1_code 47 = .ok (.iconst (0), 1) := by decide +kernel
theorem d_55_48 : decode prog_6_method_1_code 48 = .ok (.putfield 36, 3) := by decide +kernel
theorem d_55_51 : decode prog_6_method_1_code 51 = .ok (.return_, 1) := by decide +kernel
theorem it_55_0 (Ls : Nat) (xs : Nat → Int32) : xPI Ls xs md_55 0 (.inl (xs_al 0 1)) := by
  exact xs_aload_n_ok d_55_0 rfl
theorem it_55_1 (Ls : Nat) (xs : Nat → Int32) : xPI Ls xs md_55 1 (.inl (xs_oi 4)) := by
  exact xs_oi_ok d_55_1 tw_65 tw_25 tw_obj
theorem it_55_4 (Ls : Nat) (xs : Nat → Int32) : xPI Ls xs md_55 4 (.inl (xs_al 0 5)) := by
  exact xs_aload_n_ok d_55_4 rfl
theorem it_55_5 (Ls : Nat) (xs : Nat → Int32) : xPI Ls xs md_55 5 (.inl (xs_al 1 6)) := by
  exact xs_aload_n_ok d_55_5 rfl
theorem it_55_6 (Ls : Nat) (xs : Nat → Int32) : xPI Ls xs md_55 6 (.inl (xs_pf 3 0 2 9)) := by
  exact xs_pf_ok d_55_6 (C := R_3) (T := T_3) (N := N_3) (ty0 := Y_3) rfl in_3 ty_3 nm_3 (by decide) tw_100 (Or.inr ⟨rfl, rfl, rfl⟩) (Or.inl ⟨_, rfl⟩)
theorem it_55_9 (Ls : Nat) (xs : Nat → Int32) : xPI Ls xs md_55 9 (.inl (xs_al 0 10)) := by
  exact xs_aload_n_ok d_55_9 rfl
theorem it_55_10 (Ls : Nat) (xs : Nat → Int32) : xPI Ls xs md_55 10 (.inl (xs_nw 600003 7302198 2 7 [.null, .null, .null, .null, .null, .null, .int 0] 13)) := by
  exact xs_nw_ok d_55_10 (C := R_2) (T := T_2) (ty0 := Y_2) rfl in_2 ty_2 tw_66 tw_67 tw_4 (df_2)
theorem it_55_13 (Ls : Nat) (xs : Nat → Int32) : xPI Ls xs md_55 13 (.inl (xs_dup 14)) := by
  exact xs_dup_ok d_55_13
theorem it_55_14 (Ls : Nat) (xs : Nat → Int32) : xPI Ls xs md_55 14 (.inr (.inl (54, 1, 1, []))) := by
  exact ⟨md_54, rfl, tw_4, by decide, ⟨by decide, by decide⟩, Or.inr (Or.inl ⟨rfl, rfl, rfl, rfl, rfl, 17, 0, rfl, d_55_14, tw_68, tw_69, by decide +kernel⟩)⟩
theorem it_55_17 (Ls : Nat) (xs : Nat → Int32) : xPI Ls xs md_55 17 (.inl (xs_pf 3 1 2 20)) := by
  exact xs_pf_ok d_55_17 (C := R_3) (T := T_3) (N := N_3) (ty0 := Y_3) rfl in_3 ty_3 nm_3 (by decide) tw_101 (Or.inr ⟨rfl, rfl, rfl⟩) (Or.inl ⟨_, rfl⟩)
theorem it_55_20 (Ls : Nat) (xs : Nat → Int32) : xPI Ls xs md_55 20 (.inl (xs_al 0 21)) := by
  exact xs_aload_n_ok d_55_20 rfl
theorem it_55_21 (Ls : Nat) (xs : Nat → Int32) : xPI Ls xs md_55 21 (.inl (xs_c (61) 23)) := by
  exact xs_bipush_ok d_55_21 (by decide)
theorem it_55_23 (Ls : Nat) (xs : Nat → Int32) : xPI Ls xs md_55 23 (.inl (xs_c (56) 25)) := by
  exact xs_bipush_ok d_55_23 (by decide)
theorem it_55_25 (Ls : Nat) (xs : Nat → Int32) : xPI Ls xs md_55 25 (.inl (xs_mn 600003 7302198 29)) := by
  exact xs_mn_ok d_55_25 tw_94 tw_58
theorem it_55_29 (Ls : Nat) (xs : Nat → Int32) : xPI Ls xs md_55 29 (.inl (xs_pf 3 2 2 32)) := by
  exact xs_pf_ok d_55_29 (C := R_3) (T := T_3) (N := N_3) (ty0 := Y_3) rfl in_3 ty_3 nm_3 (by decide) tw_102 (Or.inr ⟨rfl, rfl, rfl⟩) (Or.inr ⟨_, rfl⟩)
theorem it_55_32 (Ls : Nat) (xs : Nat → Int32) : xPI Ls xs md_55 32 (.inl (xs_al 0 33)) := by
  exact xs_aload_n_ok d_55_32 rfl
theorem it_55_33 (Ls : Nat) (xs : Nat → Int32) : xPI Ls xs md_55 33 (.inl (xs_c (60) 35)) := by
  exact xs_bipush_ok d_55_33 (by decide)
theorem it_55_35 (Ls : Nat) (xs : Nat → Int32) : xPI Ls xs md_55 35 (.inl (xs_al 1 36)) := by
  exact xs_aload_n_ok d_55_35 rfl
theorem it_55_36 (Ls : Nat) (xs : Nat → Int32) : xPI Ls xs md_55 36 (.inr (.inl (41, 1, 3, []))) := by
  exact ⟨md_41, rfl, tw_2, by decide, ⟨by decide, by decide⟩, Or.inr (Or.inr ⟨1, R_1, T_1, N_1, 27, 0, rfl, rfl, rfl, rfl, d_55_36, tw_96, tw_97, tw_98, by decide +kernel, (fun x q h => by cases h)⟩)⟩
theorem it_55_39 (Ls : Nat) (xs : Nat → Int32) : xPI Ls xs md_55 39 (.inl (xs_mn 600003 7302198 43)) := by
  exact xs_mn_ok d_55_39 tw_94 tw_58
theorem it_55_43 (Ls : Nat) (xs : Nat → Int32) : xPI Ls xs md_55 43 (.inl (xs_pf 3 3 2 46)) := by
  exact xs_pf_ok d_55_43 (C := R_3) (T := T_3) (N := N_3) (ty0 := Y_3) rfl in_3 ty_3 nm_3 (by decide) tw_103 (Or.inr ⟨rfl, rfl, rfl⟩) (Or.inr ⟨_, rfl⟩)
theorem it_55_46 (Ls : Nat) (xs : Nat → Int32) : xPI Ls xs md_55 46 (.inl (xs_al 0 47)) := by
  exact xs_aload_n_ok d_55_46 rfl
theorem it_55_47 (Ls : Nat) (xs : Nat → Int32) : xPI Ls xs md_55 47 (.inl (xs_c (0) 48)) := by
  exact xs_iconst_ok d_55_47 (by decide)
theorem it_55_48 (Ls : Nat) (xs : Nat → Int32) : xPI Ls xs md_55 48 (.inl (xs_pf 3 4 0 51)) := by
  exact xs_pf_ok d_55_48 (C := R_3) (T := T_3) (N := N_3) (ty0 := Y_3) rfl in_3 ty_3 nm_3 (by decide) tw_104 (Or.inl rfl) rfl
theorem it_55_51 (Ls : Nat) (xs : Nat → Int32) : xPI Ls xs md_55 51 (.inr (.inr 0)) := by
  exact ⟨rfl, d_55_51⟩
def K_55 (Ls : Nat) (xs : Nat → Int32) : Nat → Option xK := xbt 23 (xbt 10 (xbt 5 (xbt 1 (xlf 0 (.inl (xs_al 0 1))) (xbt 4 (xlf 1 (.inl (xs_oi 4))) (xlf 4 (.inl (xs_al 0 5))))) (xbt 6 (xlf 5 (.inl (xs_al 1 6))) (xbt 9 (xlf 6 (.inl (xs_pf 3 0 2 9))) (xlf 9 (.inl (xs_al 0 10)))))) (xbt 17 (xbt 13 (xlf 10 (.inl (xs_nw 600003 7302198 2 7 [.null, .null, .null, .null, .null, .null, .int 0] 13))) (xbt 14 (xlf 13 (.inl (xs_dup 14))) (xlf 14 (.inr (.inl (54, 1, 1, [])))))) (xbt 20 (xlf 17 (.inl (xs_pf 3 1 2 20))) (xbt 21 (xlf 20 (.inl (xs_al 0 21))) (xlf 21 (.inl (xs_c (61) 23))))))) (xbt 36 (xbt 32 (xbt 25 (xlf 23 (.inl (xs_c (56) 25))) (xbt 29 (xlf 25 (.inl (xs_mn 600003 7302198 29))) (xlf 29 (.inl (xs_pf 3 2 2 32))))) (xbt 33 (xlf 32 (.inl (xs_al 0 33))) (xbt 35 (xlf 33 (.inl (xs_c (60) 35))) (xlf 35 (.inl (xs_al 1 36)))))) (xbt 46 (xbt 39 (xlf 36 (.inr (.inl (41, 1, 3, [])))) (xbt 43 (xlf 39 (.inl (xs_mn 600003 7302198 43))) (xlf 43 (.inl (xs_pf 3 3 2 46))))) (xbt 48 (xbt 47 (xlf 46 (.inl (xs_al 0 47))) (xlf 47 (.inl (xs_c (0) 48)))) (xbt 51 (xlf 48 (.inl (xs_pf 3 4 0 51))) (xlf 51 (.inr (.inr 0)))))))
theorem ok_55 (Ls : Nat) (xs : Nat → Int32) : ∀ pc it, K_55 Ls xs pc = some it → xPI Ls xs md_55 pc it := by
  unfold K_55
  exact xbt_ok (xbt_ok (xbt_ok (xbt_ok (xlf_ok (it_55_0 Ls xs)) (xbt_ok (xlf_ok (it_55_1 Ls xs)) (xlf_ok (it_55_4 Ls xs)))) (xbt_ok (xlf_ok (it_55_5 Ls xs)) (xbt_ok (xlf_ok (it_55_6 Ls xs)) (xlf_ok (it_55_9 Ls xs))))) (xbt_ok (xbt_ok (xlf_ok (it_55_10 Ls xs)) (xbt_ok (xlf_ok (it_55_13 Ls xs)) (xlf_ok (it_55_14 Ls xs)))) (xbt_ok (xlf_ok (it_55_17 Ls xs)) (xbt_ok (xlf_ok (it_55_20 Ls xs)) (xlf_ok (it_55_21 Ls xs)))))) (xbt_ok (xbt_ok (xbt_ok (xlf_ok (it_55_23 Ls xs)) (xbt_ok (xlf_ok (it_55_25 Ls xs)) (xlf_ok (it_55_29 Ls xs)))) (xbt_ok (xlf_ok (it_55_32 Ls xs)) (xbt_ok (xlf_ok (it_55_33 Ls xs)) (xlf_ok (it_55_35 Ls xs))))) (xbt_ok (xbt_ok (xlf_ok (it_55_36 Ls xs)) (xbt_ok (xlf_ok (it_55_39 Ls xs)) (xlf_ok (it_55_43 Ls xs)))) (xbt_ok (xbt_ok (xlf_ok (it_55_46 Ls xs)) (xlf_ok (it_55_47 Ls xs))) (xbt_ok (xlf_ok (it_55_48 Ls xs)) (xlf_ok (it_55_51 Ls xs))))))
theorem d_56_0 : decode prog_2_method_1_code 0 = .ok (.aload_n 0, 1) := by decide +kernel
theorem d_56_1 : decode prog_2_method_1_code 1 = .ok (.invokespecial 3, 3) := by decide +kernel
theorem d_56_4 : decode prog_2_method_1_code 4 = .ok (.aload_n 0, 1) := by decide +kernel
theorem d_56_5 : decode prog_2_method_1_code 5 = .ok (.aload_n 1, 1) := by decide +kernel
theorem d_56_6 : decode prog_2_method_1_code 6 = .ok (.putfield 9, 3) := by decide +kernel
theorem d_56_9 : decode prog_2_method_1_code 9 = .ok (.aload_n 0, 1) := by decide +kernel
theorem d_56_10 : decode prog_2_method_1_code 10 = .ok (.aload_n 2, 1) := by decide +kernel
theorem d_56_11 : decode prog_2_method_1_code 11 = .ok (.putfield 15, 3) := by decide +kernel
theorem d_56_14 : decode prog_2_method_1_code 14 = .ok (.aload_n 0, 1) := by decide +kernel
theorem d_56_15 : decode prog_2_method_1_code 15 = .ok (.bipush (60), 2) := by decide +kernel
theorem d_56_17 : decode prog_2_method_1_code 17 = .ok (.aload_n 1, 1) := by decide +kernel
theorem d_56_18 : decode prog_2_method_1_code 18 = .ok (.invokevirtual 19, 3) := by decide +kernel
theorem d_56_21 : decode prog_2_method_1_code 21 = .ok (.iconst (1), 1) := by decide +kernel
theorem d_56_22 : decode prog_2_method_1_code 22 = .ok (.iadd, 1) := by decide +kernel
theorem d_56_23 : decode prog_2_method_1_code 23 = .ok (.multianewarray 25 2, 4) := by decide +kernel
theorem d_56_27 : decode prog_2_method_1_code 27 = .ok (.putfield 27, 3) := by decide +kernel
theorem d_56_30 : decode prog_2_method_1_code 30 = .ok (.aload_n 0, 1) := by decide +kernel
theorem d_56_31 : decode prog_2_method_1_code 31 = .ok (.iconst (-1), 1) := by decide +kernel
theorem d_56_32 : decode prog_2_method_1_code 32 = .ok (.putfield 30, 3) := by decide +kernel
theorem d_56_35 : decode prog_2_method_1_code 35 = .ok (.aload_n 0, 1) := by decide +kernel
theorem d_56_36 : decode prog_2_method_1_code 36 = .ok (.iconst (-1), 1) := by decide +kernel
theorem d_56_37 : decode prog_2_method_1_code 37 = .ok (.putfield 34, 3) := by decide +kernel
theorem d_56_40 : decode prog_2_method_1_code 40 = .ok (.return_, 1) := by decide +kernel
theorem it_56_0 (Ls : Nat) (xs : Nat → Int32) : xPI Ls xs md_56 0 (.inl (xs_al 0 1)) := by
  exact xs_aload_n_ok d_56_0 rfl
theorem it_56_1 (Ls : Nat) (xs : Nat → Int32) : xPI Ls xs md_56 1 (.inl (xs_oi 4)) := by
  exact xs_oi_ok d_56_1 tw_121 tw_25 tw_obj
theorem it_56_4 (Ls : Nat) (xs : Nat → Int32) : xPI Ls xs md_56 4 (.inl (xs_al 0 5)) := by
  exact xs_aload_n_ok d_56_4 rfl
theorem it_56_5 (Ls : Nat) (xs : Nat → Int32) : xPI Ls xs md_56 5 (.inl (xs_al 1 6)) := by
  exact xs_aload_n_ok d_56_5 rfl
theorem it_56_6 (Ls : Nat) (xs : Nat → Int32) : xPI Ls xs md_56 6 (.inl (xs_pf 4 0 2 9)) := by
  exact xs_pf_ok d_56_6 (C := R_4) (T := T_4) (N := N_4) (ty0 := Y_4) rfl in_4 ty_4 nm_4 (by decide) tw_127 (Or.inr ⟨rfl, rfl, rfl⟩) (Or.inl ⟨_, rfl⟩)
theorem it_56_9 (Ls : Nat) (xs : Nat → Int32) : xPI Ls xs md_56 9 (.inl (xs_al 0 10)) := by
  exact xs_aload_n_ok d_56_9 rfl
theorem it_56_10 (Ls : Nat) (xs : Nat → Int32) : xPI Ls xs md_56 10 (.inl (xs_al 2 11)) := by
  exact xs_aload_n_ok d_56_10 rfl
theorem it_56_11 (Ls : Nat) (xs : Nat → Int32) : xPI Ls xs md_56 11 (.inl (xs_pf 4 1 2 14)) := by
  exact xs_pf_ok d_56_11 (C := R_4) (T := T_4) (N := N_4) (ty0 := Y_4) rfl in_4 ty_4 nm_4 (by decide) tw_128 (Or.inr ⟨rfl, rfl, rfl⟩) (Or.inl ⟨_, rfl⟩)
theorem it_56_14 (Ls : Nat) (xs : Nat → Int32) : xPI Ls xs md_56 14 (.inl (xs_al 0 15)) := by
  exact xs_aload_n_ok d_56_14 rfl
theorem it_56_15 (Ls : Nat) (xs : Nat → Int32) : xPI Ls xs md_56 15 (.inl (xs_c (60) 17)) := by
  exact xs_bipush_ok d_56_15 (by decide)
theorem it_56_17 (Ls : Nat) (xs : Nat → Int32) : xPI Ls xs md_56 17 (.inl (xs_al 1 18)) := by
  exact xs_aload_n_ok d_56_17 rfl
theorem it_56_18 (Ls : Nat) (xs : Nat → Int32) : xPI Ls xs md_56 18 (.inr (.inl (42, 1, 3, []))) := by
  exact ⟨md_42, rfl, tw_2, by decide, ⟨by decide, by decide⟩, Or.inr (Or.inr ⟨1, R_1, T_1, N_1, 19, 0, rfl, rfl, rfl, rfl, d_56_18, tw_122, tw_123, tw_124, by decide +kernel, (fun x q h => by cases h)⟩)⟩
theorem it_56_21 (Ls : Nat) (xs : Nat → Int32) : xPI Ls xs md_56 21 (.inl (xs_c (1) 22)) := by
  exact xs_iconst_ok d_56_21 (by decide)
theorem it_56_22 (Ls : Nat) (xs : Nat → Int32) : xPI Ls xs md_56 22 (.inl (xs_iadd 23)) := by
  exact xs_iadd_ok d_56_22
theorem it_56_23 (Ls : Nat) (xs : Nat → Int32) : xPI Ls xs md_56 23 (.inl (xs_mn 600003 7302198 27)) := by
  exact xs_mn_ok d_56_23 tw_126 tw_58
theorem it_56_27 (Ls : Nat) (xs : Nat → Int32) : xPI Ls xs md_56 27 (.inl (xs_pf 4 2 2 30)) := by
  exact xs_pf_ok d_56_27 (C := R_4) (T := T_4) (N := N_4) (ty0 := Y_4) rfl in_4 ty_4 nm_4 (by decide) tw_129 (Or.inr ⟨rfl, rfl, rfl⟩) (Or.inr ⟨_, rfl⟩)
theorem it_56_30 (Ls : Nat) (xs : Nat → Int32) : xPI Ls xs md_56 30 (.inl (xs_al 0 31)) := by
  exact xs_aload_n_ok d_56_30 rfl
theorem it_56_31 (Ls : Nat) (xs : Nat → Int32) : xPI Ls xs md_56 31 (.inl (xs_c (-1) 32)) := by
  exact xs_iconst_ok d_56_31 (by decide)
theorem it_56_32 (Ls : Nat) (xs : Nat → Int32) : xPI Ls xs md_56 32 (.inl (xs_pf 4 3 0 35)) := by
  exact xs_pf_ok d_56_32 (C := R_4) (T := T_4) (N := N_4) (ty0 := Y_4) rfl in_4 ty_4 nm_4 (by decide) tw_130 (Or.inl rfl) rfl
theorem it_56_35 (Ls : Nat) (xs : Nat → Int32) : xPI Ls xs md_56 35 (.inl (xs_al 0 36)) := by
  exact xs_aload_n_ok d_56_35 rfl
theorem it_56_36 (Ls : Nat) (xs : Nat → Int32) : xPI Ls xs md_56 36 (.inl (xs_c (-1) 37)) := by
  exact xs_iconst_ok d_56_36 (by decide)
theorem it_56_37 (Ls : Nat) (xs : Nat → Int32) : xPI Ls xs md_56 37 (.inl (xs_pf 4 4 0 40)) := by
  exact xs_pf_ok d_56_37 (C := R_4) (T := T_4) (N := N_4) (ty0 := Y_4) rfl in_4 ty_4 nm_4 (by decide) tw_131 (Or.inl rfl) rfl
theorem it_56_40 (Ls : Nat) (xs : Nat → Int32) : xPI Ls xs md_56 40 (.inr (.inr 0)) := by
  exact ⟨rfl, d_56_40⟩
def K_56 (Ls : Nat) (xs : Nat → Int32) : Nat → Option xK := xbt 18 (xbt 9 (xbt 4 (xbt 1 (xlf 0 (.inl (xs_al 0 1))) (xlf 1 (.inl (xs_oi 4)))) (xbt 5 (xlf 4 (.inl (xs_al 0 5))) (xbt 6 (xlf 5 (.inl (xs_al 1 6))) (xlf 6 (.inl (xs_pf 4 0 2 9)))))) (xbt 14 (xbt 10 (xlf 9 (.inl (xs_al 0 10))) (xbt 11 (xlf 10 (.inl (xs_al 2 11))) (xlf 11 (.inl (xs_pf 4 1 2 14))))) (xbt 15 (xlf 14 (.inl (xs_al 0 15))) (xbt 17 (xlf 15 (.inl (xs_c (60) 17))) (xlf 17 (.inl (xs_al 1 18))))))) (xbt 31 (xbt 23 (xbt 21 (xlf 18 (.inr (.inl (42, 1, 3, [])))) (xbt 22 (xlf 21 (.inl (xs_c (1) 22))) (xlf 22 (.inl (xs_iadd 23))))) (xbt 27 (xlf 23 (.inl (xs_mn 600003 7302198 27))) (xbt 30 (xlf 27 (.inl (xs_pf 4 2 2 30))) (xlf 30 (.inl (xs_al 0 31)))))) (xbt 36 (xbt 32 (xlf 31 (.inl (xs_c (-1) 32))) (xbt 35 (xlf 32 (.inl (xs_pf 4 3 0 35))) (xlf 35 (.inl (xs_al 0 36))))) (xbt 37 (xlf 36 (.inl (xs_c (-1) 37))) (xbt 40 (xlf 37 (.inl (xs_pf 4 4 0 40))) (xlf 40 (.inr (.inr 0)))))))
theorem ok_56 (Ls : Nat) (xs : Nat → Int32) : ∀ pc it, K_56 Ls xs pc = some it → xPI Ls xs md_56 pc it := by
  unfold K_56
  exact xbt_ok (xbt_ok (xbt_ok (xbt_ok (xlf_ok (it_56_0 Ls xs)) (xlf_ok (it_56_1 Ls xs))) (xbt_ok (xlf_ok (it_56_4 Ls xs)) (xbt_ok (xlf_ok (it_56_5 Ls xs)) (xlf_ok (it_56_6 Ls xs))))) (xbt_ok (xbt_ok (xlf_ok (it_56_9 Ls xs)) (xbt_ok (xlf_ok (it_56_10 Ls xs)) (xlf_ok (it_56_11 Ls xs)))) (xbt_ok (xlf_ok (it_56_14 Ls xs)) (xbt_ok (xlf_ok (it_56_15 Ls xs)) (xlf_ok (it_56_17 Ls xs)))))) (xbt_ok (xbt_ok (xbt_ok (xlf_ok (it_56_18 Ls xs)) (xbt_ok (xlf_ok (it_56_21 Ls xs)) (xlf_ok (it_56_22 Ls xs)))) (xbt_ok (xlf_ok (it_56_23 Ls xs)) (xbt_ok (xlf_ok (it_56_27 Ls xs)) (xlf_ok (it_56_30 Ls xs))))) (xbt_ok (xbt_ok (xlf_ok (it_56_31 Ls xs)) (xbt_ok (xlf_ok (it_56_32 Ls xs)) (xlf_ok (it_56_35 Ls xs)))) (xbt_ok (xlf_ok (it_56_36 Ls xs)) (xbt_ok (xlf_ok (it_56_37 Ls xs)) (xlf_ok (it_56_40 Ls xs))))))
theorem d_57_0 : decode prog_2_method_2_code 0 = .ok (.aload_n 0, 1) := by decide +kernel
theorem d_57_1 : decode prog_2_method_2_code 1 = .ok (.iconst (-1), 1) := by decide +kernel
theorem d_57_2 : decode prog_2_method_2_code 2 = .ok (.putfield 30, 3) := by decide +kernel
theorem d_57_5 : decode prog_2_method_2_code 5 = .ok (.aload_n 0, 1) := by decide +kernel
theorem d_57_6 : decode prog_2_method_2_code 6 = .ok (.iconst (-1), 1) := by decide +kernel
theorem d_57_7 : decode prog_2_method_2_code 7 = .ok (.putfield 34, 3) := by decide +kernel
theorem d_57_10 : decode prog_2_method_2_code 10 = .ok (.return_, 1) := by decide +kernel
theorem it_57_0 (Ls : Nat) (xs : Nat → Int32) : xPI Ls xs md_57 0 (.inl (xs_al 0 1)) := by
  exact xs_aload_n_ok d_57_0 rfl
theorem it_57_1 (Ls : Nat) (xs : Nat → Int32) : xPI Ls xs md_57 1 (.inl (xs_c (-1) 2)) := by
  exact xs_iconst_ok d_57_1 (by decide)
theorem it_57_2 (Ls : Nat) (xs : Nat → Int32) : xPI Ls xs md_57 2 (.inl (xs_pf 4 3 0 5)) := by
  exact xs_pf_ok d_57_2 (C := R_4) (T := T_4) (N := N_4) (ty0 := Y_4) rfl in_4 ty_4 nm_4 (by decide) tw_130 (Or.inl rfl) rfl
theorem it_57_5 (Ls : Nat) (xs : Nat → Int32) : xPI Ls xs md_57 5 (.inl (xs_al 0 6)) := by
  exact xs_aload_n_ok d_57_5 rfl
theorem it_57_6 (Ls : Nat) (xs : Nat → Int32) : xPI Ls xs md_57 6 (.inl (xs_c (-1) 7)) := by
  exact xs_iconst_ok d_57_6 (by decide)
theorem it_57_7 (Ls : Nat) (xs : Nat → Int32) : xPI Ls xs md_57 7 (.inl (xs_pf 4 4 0 10)) := by
  exact xs_pf_ok d_57_7 (C := R_4) (T := T_4) (N := N_4) (ty0 := Y_4) rfl in_4 ty_4 nm_4 (by decide) tw_131 (Or.inl rfl) rfl
theorem it_57_10 (Ls : Nat) (xs : Nat → Int32) : xPI Ls xs md_57 10 (.inr (.inr 0)) := by
  exact ⟨rfl, d_57_10⟩
def K_57 (Ls : Nat) (xs : Nat → Int32) : Nat → Option xK := xbt 5 (xbt 1 (xlf 0 (.inl (xs_al 0 1))) (xbt 2 (xlf 1 (.inl (xs_c (-1) 2))) (xlf 2 (.inl (xs_pf 4 3 0 5))))) (xbt 7 (xbt 6 (xlf 5 (.inl (xs_al 0 6))) (xlf 6 (.inl (xs_c (-1) 7)))) (xbt 10 (xlf 7 (.inl (xs_pf 4 4 0 10))) (xlf 10 (.inr (.inr 0)))))
theorem ok_57 (Ls : Nat) (xs : Nat → Int32) : ∀ pc it, K_57 Ls xs pc = some it → xPI Ls xs md_57 pc it := by
  unfold K_57
  exact xbt_ok (xbt_ok (xlf_ok (it_57_0 Ls xs)) (xbt_ok (xlf_ok (it_57_1 Ls xs)) (xlf_ok (it_57_2 Ls xs)))) (xbt_ok (xbt_ok (xlf_ok (it_57_5 Ls xs)) (xlf_ok (it_57_6 Ls xs))) (xbt_ok (xlf_ok (it_57_7 Ls xs)) (xlf_ok (it_57_10 Ls xs))))
theorem d_58_0 : decode prog_2_method_3_code 0 = .ok (.aload_n 0, 1) := by decide +kernel
theorem d_58_1 : decode prog_2_method_3_code 1 = .ok (.getfield 30, 3) := by decide +kernel
theorem d_58_4 : decode prog_2_method_3_code 4 = .ok (.ireturn, 1) := by decide +kernel
theorem it_58_0 (Ls : Nat) (xs : Nat → Int32) : xPI Ls xs md_58 0 (.inl (xs_al 0 1)) := by
  exact xs_aload_n_ok d_58_0 rfl
theorem it_58_1 (Ls : Nat) (xs : Nat → Int32) : xPI Ls xs md_58 1 (.inl (xs_gf 4 3 4)) := by
  exact xs_gf_ok d_58_1 (C := R_4) (T := T_4) (N := N_4) rfl in_4 (by decide) tw_130
theorem it_58_4 (Ls : Nat) (xs : Nat → Int32) : xPI Ls xs md_58 4 (.inr (.inr 1)) := by
  exact ⟨rfl, d_58_4⟩
def K_58 (Ls : Nat) (xs : Nat → Int32) : Nat → Option xK := xbt 1 (xlf 0 (.inl (xs_al 0 1))) (xbt 4 (xlf 1 (.inl (xs_gf 4 3 4))) (xlf 4 (.inr (.inr 1))))
theorem ok_58 (Ls : Nat) (xs : Nat → Int32) : ∀ pc it, K_58 Ls xs pc = some it → xPI Ls xs md_58 pc it := by
  unfold K_58
  exact xbt_ok (xlf_ok (it_58_0 Ls xs)) (xbt_ok (xlf_ok (it_58_1 Ls xs)) (xlf_ok (it_58_4 Ls xs)))
theorem d_59_0 : decode prog_2_method_4_code 0 = .ok (.aload_n 0, 1) := by decide +kernel
theorem d_59_1 : decode prog_2_method_4_code 1 = .ok (.getfield 34, 3) := by decide +kernel
theorem d_59_4 : decode prog_2_method_4_code 4 = .ok (.ireturn, 1) := by decide +kernel
theorem it_59_0 (Ls : Nat) (xs : Nat → Int32) : xPI Ls xs md_59 0 (.inl (xs_al 0 1)) := by
  exact xs_aload_n_ok d_59_0 rfl
theorem it_59_1 (Ls : Nat) (xs : Nat → Int32) : xPI Ls xs md_59 1 (.inl (xs_gf 4 4 4)) := by
  exact xs_gf_ok d_59_1 (C := R_4) (T := T_4) (N := N_4) rfl in_4 (by decide) tw_131
theorem it_59_4 (Ls : Nat) (xs : Nat → Int32) : xPI Ls xs md_59 4 (.inr (.inr 1)) := by
  exact ⟨rfl, d_59_4⟩
def K_59 (Ls : Nat) (xs : Nat → Int32) : Nat → Option xK := xbt 1 (xlf 0 (.inl (xs_al 0 1))) (xbt 4 (xlf 1 (.inl (xs_gf 4 4 4))) (xlf 4 (.inr (.inr 1))))
theorem ok_59 (Ls : Nat) (xs : Nat → Int32) : ∀ pc it, K_59 Ls xs pc = some it → xPI Ls xs md_59 pc it := by
  unfold K_59
  exact xbt_ok (xlf_ok (it_59_0 Ls xs)) (xbt_ok (xlf_ok (it_59_1 Ls xs)) (xlf_ok (it_59_4 Ls xs)))
theorem d_60_0 : decode prog_3_method_1_code 0 = .ok (.aload_n 0, 1) := by decide +kernel
theorem d_60_1 : decode prog_3_method_1_code 1 = .ok (.invokespecial 3, 3) := by decide +kernel
theorem d_60_4 : decode prog_3_method_1_code 4 = .ok (.aload_n 0, 1) := by decide +kernel
theorem d_60_5 : decode prog_3_method_1_code 5 = .ok (.aload_n 1, 1) := by decide +kernel
theorem d_60_6 : decode prog_3_method_1_code 6 = .ok (.putfield 9, 3) := by decide +kernel
theorem d_60_9 : decode prog_3_method_1_code 9 = .ok (.aload_n 0, 1) := by decide +kernel
theorem d_60_10 : decode prog_3_method_1_code 10 = .ok (.aload_n 2, 1) := by decide +kernel
theorem d_60_11 : decode prog_3_method_1_code 11 = .ok (.putfield 15, 3) := by decide +kernel
theorem d_60_14 : decode prog_3_method_1_code 14 = .ok (.aload_n 0, 1) := by decide +kernel
theorem d_60_15 : decode prog_3_method_1_code 15 = .ok (.aload_n 3, 1) := by decide +kernel
theorem d_60_16 : decode prog_3_method_1_code 16 = .ok (.putfield 19, 3) := by decide +kernel
theorem d_60_19 : decode prog_3_method_1_code 19 = .ok (.aload_n 0, 1) := by decide +kernel
theorem d_60_20 : decode prog_3_method_1_code 20 = .ok (.sipush (200), 3) := by decide +kernel
theorem d_60_23 : decode prog_3_method_1_code 23 = .ok (.newarray .int, 2) := by decide +kernel
theorem d_60_25 : decode prog_3_method_1_code 25 = .ok (.putfield 23, 3) := by decide +kernel
theorem d_60_28 : decode prog_3_method_1_code 28 = .ok (.aload_n 0, 1) := by decide +kernel
theorem d_60_29 : decode prog_3_method_1_code 29 = .ok (.sipush (200), 3) := by decide +kernel
theorem d_60_32 : decode prog_3_method_1_code 32 = .ok (.newarray .int, 2) := by decide +kernel
theorem d_60_34 : decode prog_3_method_1_code 34 = .ok (.putfield 27, 3) := by decide +kernel
theorem d_60_37 : decode prog_3_method_1_code 37 = .ok (.aload_n 0, 1) := by decide +kernel
theorem d_60_38 : decode prog_3_method_1_code 38 = .ok (.sipush (200), 3) := by decide +kernel
theorem d_60_41 : decode prog_3_method_1_code 41 = .ok (.newarray .int, 2) := by decide +kernel
theorem d_60_43 : decode prog_3_method_1_code 43 = .ok (.putfield 30, 3) := by decide +kernel
theorem d_60_46 : decode prog_3_method_1_code 46 = .ok (.aload_n 0, 1) := by decide +kernel
theorem d_60_47 : decode prog_3_method_1_code 47 = .ok (.iconst (0), 1) := by decide +kernel
theorem d_60_48 : decode prog_3_method_1_code 48 = .ok (.putfield 33, 3) := by decide +kernel
theorem d_60_51 : decode prog_3_method_1_code 51 = .ok (.aload_n 0, 1) := by decide +kernel
theorem d_60_52 : decode prog_3_method_1_code 52 = .ok (.iconst (0), 1) := by decide +kernel
theorem d_60_53 : decode prog_3_method_1_code 53 = .ok (.putfield 37, 3) := by decide +kernel
theorem d_60_56 : decode prog_3_method_1_code 56 = .ok (.aload_n 0, 1) := by decide +kernel
theorem d_60_57 : decode prog_3_method_1_code 57 = .ok (.iconst (0), 1) := by decide +kernel
theorem d_60_58 : decode prog_3_method_1_code 58 = .ok (.putfield 40, 3) := by decide +kernel
theorem d_60_61 : decode prog_3_method_1_code 61 = .ok (.return_, 1) := by decide +kernel
theorem it_60_0 (Ls : Nat) (xs : Nat → Int32) : xPI Ls xs md_60 0 (.inl (xs_al 0 1)) := by
  exact xs_aload_n_ok d_60_0 rfl
theorem it_60_1 (Ls : Nat) (xs : Nat → Int32) : xPI Ls xs md_60 1 (.inl (xs_oi 4)) := by
  exact xs_oi_ok d_60_1 tw_148 tw_25 tw_obj
theorem it_60_4 (Ls : Nat) (xs : Nat → Int32) : xPI Ls xs md_60 4 (.inl (xs_al 0 5)) := by
  exact xs_aload_n_ok d_60_4 rfl
theorem it_60_5 (Ls : Nat) (xs : Nat → Int32) : xPI Ls xs md_60 5 (.inl (xs_al 1 6)) := by
  exact xs_aload_n_ok d_60_5 rfl
theorem it_60_6 (Ls : Nat) (xs : Nat → Int32) : xPI Ls xs md_60 6 (.inl (xs_pf 5 0 2 9)) := by
  exact xs_pf_ok d_60_6 (C := R_5) (T := T_5) (N := N_5) (ty0 := Y_5) rfl in_5 ty_5 nm_5 (by decide) tw_149 (Or.inr ⟨rfl, rfl, rfl⟩) (Or.inl ⟨_, rfl⟩)
theorem it_60_9 (Ls : Nat) (xs : Nat → Int32) : xPI Ls xs md_60 9 (.inl (xs_al 0 10)) := by
  exact xs_aload_n_ok d_60_9 rfl
theorem it_60_10 (Ls : Nat) (xs : Nat → Int32) : xPI Ls xs md_60 10 (.inl (xs_al 2 11)) := by
  exact xs_aload_n_ok d_60_10 rfl
theorem it_60_11 (Ls : Nat) (xs : Nat → Int32) : xPI Ls xs md_60 11 (.inl (xs_pf 5 1 2 14)) := by
  exact xs_pf_ok d_60_11 (C := R_5) (T := T_5) (N := N_5) (ty0 := Y_5) rfl in_5 ty_5 nm_5 (by decide) tw_150 (Or.inr ⟨rfl, rfl, rfl⟩) (Or.inl ⟨_, rfl⟩)
theorem it_60_14 (Ls : Nat) (xs : Nat → Int32) : xPI Ls xs md_60 14 (.inl (xs_al 0 15)) := by
  exact xs_aload_n_ok d_60_14 rfl
theorem it_60_15 (Ls : Nat) (xs : Nat → Int32) : xPI Ls xs md_60 15 (.inl (xs_al 3 16)) := by
  exact xs_aload_n_ok d_60_15 rfl
theorem it_60_16 (Ls : Nat) (xs : Nat → Int32) : xPI Ls xs md_60 16 (.inl (xs_pf 5 2 2 19)) := by
  exact xs_pf_ok d_60_16 (C := R_5) (T := T_5) (N := N_5) (ty0 := Y_5) rfl in_5 ty_5 nm_5 (by decide) tw_151 (Or.inr ⟨rfl, rfl, rfl⟩) (Or.inl ⟨_, rfl⟩)
theorem it_60_19 (Ls : Nat) (xs : Nat → Int32) : xPI Ls xs md_60 19 (.inl (xs_al 0 20)) := by
  exact xs_aload_n_ok d_60_19 rfl
theorem it_60_20 (Ls : Nat) (xs : Nat → Int32) : xPI Ls xs md_60 20 (.inl (xs_c (200) 23)) := by
  exact xs_sipush_ok d_60_20 (by decide)
theorem it_60_23 (Ls : Nat) (xs : Nat → Int32) : xPI Ls xs md_60 23 (.inl (xs_nai 600003 7302198 25)) := by
  exact xs_nai_ok d_60_23 tw_58
theorem it_60_25 (Ls : Nat) (xs : Nat → Int32) : xPI Ls xs md_60 25 (.inl (xs_pf 5 3 2 28)) := by
  exact xs_pf_ok d_60_25 (C := R_5) (T := T_5) (N := N_5) (ty0 := Y_5) rfl in_5 ty_5 nm_5 (by decide) tw_152 (Or.inr ⟨rfl, rfl, rfl⟩) (Or.inr ⟨_, rfl⟩)
theorem it_60_28 (Ls : Nat) (xs : Nat → Int32) : xPI Ls xs md_60 28 (.inl (xs_al 0 29)) := by
  exact xs_aload_n_ok d_60_28 rfl
theorem it_60_29 (Ls : Nat) (xs : Nat → Int32) : xPI Ls xs md_60 29 (.inl (xs_c (200) 32)) := by
  exact xs_sipush_ok d_60_29 (by decide)
theorem it_60_32 (Ls : Nat) (xs : Nat → Int32) : xPI Ls xs md_60 32 (.inl (xs_nai 600003 7302198 34)) := by
  exact xs_nai_ok d_60_32 tw_58
theorem it_60_34 (Ls : Nat) (xs : Nat → Int32) : xPI Ls xs md_60 34 (.inl (xs_pf 5 4 2 37)) := by
  exact xs_pf_ok d_60_34 (C := R_5) (T := T_5) (N := N_5) (ty0 := Y_5) rfl in_5 ty_5 nm_5 (by decide) tw_153 (Or.inr ⟨rfl, rfl, rfl⟩) (Or.inr ⟨_, rfl⟩)
theorem it_60_37 (Ls : Nat) (xs : Nat → Int32) : xPI Ls xs md_60 37 (.inl (xs_al 0 38)) := by
  exact xs_aload_n_ok d_60_37 rfl
theorem it_60_38 (Ls : Nat) (xs : Nat → Int32) : xPI Ls xs md_60 38 (.inl (xs_c (200) 41)) := by
  exact xs_sipush_ok d_60_38 (by decide)
theorem it_60_41 (Ls : Nat) (xs : Nat → Int32) : xPI Ls xs md_60 41 (.inl (xs_nai 600003 7302198 43)) := by
  exact xs_nai_ok d_60_41 tw_58
theorem it_60_43 (Ls : Nat) (xs : Nat → Int32) : xPI Ls xs md_60 43 (.inl (xs_pf 5 5 2 46)) := by
  exact xs_pf_ok d_60_43 (C := R_5) (T := T_5) (N := N_5) (ty0 := Y_5) rfl in_5 ty_5 nm_5 (by decide) tw_154 (Or.inr ⟨rfl, rfl, rfl⟩) (Or.inr ⟨_, rfl⟩)
theorem it_60_46 (Ls : Nat) (xs : Nat → Int32) : xPI Ls xs md_60 46 (.inl (xs_al 0 47)) := by
  exact xs_aload_n_ok d_60_46 rfl
theorem it_60_47 (Ls : Nat) (xs : Nat → Int32) : xPI Ls xs md_60 47 (.inl (xs_c (0) 48)) := by
  exact xs_iconst_ok d_60_47 (by decide)
theorem it_60_48 (Ls : Nat) (xs : Nat → Int32) : xPI Ls xs md_60 48 (.inl (xs_pf 5 6 0 51)) := by
  exact xs_pf_ok d_60_48 (C := R_5) (T := T_5) (N := N_5) (ty0 := Y_5) rfl in_5 ty_5 nm_5 (by decide) tw_155 (Or.inl rfl) rfl
theorem it_60_51 (Ls : Nat) (xs : Nat → Int32) : xPI Ls xs md_60 51 (.inl (xs_al 0 52)) := by
  exact xs_aload_n_ok d_60_51 rfl
theorem it_60_52 (Ls : Nat) (xs : Nat → Int32) : xPI Ls xs md_60 52 (.inl (xs_c (0) 53)) := by
  exact xs_iconst_ok d_60_52 (by decide)
theorem it_60_53 (Ls : Nat) (xs : Nat → Int32) : xPI Ls xs md_60 53 (.inl (xs_pf 5 7 0 56)) := by
  exact xs_pf_ok d_60_53 (C := R_5) (T := T_5) (N := N_5) (ty0 := Y_5) rfl in_5 ty_5 nm_5 (by decide) tw_156 (Or.inl rfl) rfl
theorem it_60_56 (Ls : Nat) (xs : Nat → Int32) : xPI Ls xs md_60 56 (.inl (xs_al 0 57)) := by
  exact xs_aload_n_ok d_60_56 rfl
theorem it_60_57 (Ls : Nat) (xs : Nat → Int32) : xPI Ls xs md_60 57 (.inl (xs_c (0) 58)) := by
  exact xs_iconst_ok d_60_57 (by decide)
theorem it_60_58 (Ls : Nat) (xs : Nat → Int32) : xPI Ls xs md_60 58 (.inl (xs_pf 5 8 0 61)) := by
  exact xs_pf_ok d_60_58 (C := R_5) (T := T_5) (N := N_5) (ty0 := Y_5) rfl in_5 ty_5 nm_5 (by decide) tw_157 (Or.inl rfl) rfl
theorem it_60_61 (Ls : Nat) (xs : Nat → Int32) : xPI Ls xs md_60 61 (.inr (.inr 0)) := by
  exact ⟨rfl, d_60_61⟩
def K_60 (Ls : Nat) (xs : Nat → Int32) : Nat → Option xK := xbt 29 (xbt 14 (xbt 6 (xbt 4 (xbt 1 (xlf 0 (.inl (xs_al 0 1))) (xlf 1 (.inl (xs_oi 4)))) (xbt 5 (xlf 4 (.inl (xs_al 0 5))) (xlf 5 (.inl (xs_al 1 6))))) (xbt 10 (xbt 9 (xlf 6 (.inl (xs_pf 5 0 2 9))) (xlf 9 (.inl (xs_al 0 10)))) (xbt 11 (xlf 10 (.inl (xs_al 2 11))) (xlf 11 (.inl (xs_pf 5 1 2 14)))))) (xbt 20 (xbt 16 (xbt 15 (xlf 14 (.inl (xs_al 0 15))) (xlf 15 (.inl (xs_al 3 16)))) (xbt 19 (xlf 16 (.inl (xs_pf 5 2 2 19))) (xlf 19 (.inl (xs_al 0 20))))) (xbt 25 (xbt 23 (xlf 20 (.inl (xs_c (200) 23))) (xlf 23 (.inl (xs_nai 600003 7302198 25)))) (xbt 28 (xlf 25 (.inl (xs_pf 5 3 2 28))) (xlf 28 (.inl (xs_al 0 29))))))) (xbt 47 (xbt 38 (xbt 34 (xbt 32 (xlf 29 (.inl (xs_c (200) 32))) (xlf 32 (.inl (xs_nai 600003 7302198 34)))) (xbt 37 (xlf 34 (.inl (xs_pf 5 4 2 37))) (xlf 37 (.inl (xs_al 0 38))))) (xbt 43 (xbt 41 (xlf 38 (.inl (xs_c (200) 41))) (xlf 41 (.inl (xs_nai 600003 7302198 43)))) (xbt 46 (xlf 43 (.inl (xs_pf 5 5 2 46))) (xlf 46 (.inl (xs_al 0 47)))))) (xbt 53 (xbt 51 (xbt 48 (xlf 47 (.inl (xs_c (0) 48))) (xlf 48 (.inl (xs_pf 5 6 0 51)))) (xbt 52 (xlf 51 (.inl (xs_al 0 52))) (xlf 52 (.inl (xs_c (0) 53))))) (xbt 57 (xbt 56 (xlf 53 (.inl (xs_pf 5 7 0 56))) (xlf 56 (.inl (xs_al 0 57)))) (xbt 58 (xlf 57 (.inl (xs_c (0) 58))) (xbt 61 (xlf 58 (.inl (xs_pf 5 8 0 61))) (xlf 61 (.inr (.inr 0))))))))
theorem ok_60 (Ls : Nat) (xs : Nat → Int32) : ∀ pc it, K_60 Ls xs pc = some it → xPI Ls xs md_60 pc it := by
  unfold K_60
  exact xbt_ok (xbt_ok (xbt_ok (xbt_ok (xbt_ok (xlf_ok (it_60_0 Ls xs)) (xlf_ok (it_60_1 Ls xs))) (xbt_ok (xlf_ok (it_60_4 Ls xs)) (xlf_ok (it_60_5 Ls xs)))) (xbt_ok (xbt_ok (xlf_ok (it_60_6 Ls xs)) (xlf_ok (it_60_9 Ls xs))) (xbt_ok (xlf_ok (it_60_10 Ls xs)) (xlf_ok (it_60_11 Ls xs))))) (xbt_ok (xbt_ok (xbt_ok (xlf_ok (it_60_14 Ls xs)) (xlf_ok (it_60_15 Ls xs))) (xbt_ok (xlf_ok (it_60_16 Ls xs)) (xlf_ok (it_60_19 Ls xs)))) (xbt_ok (xbt_ok (xlf_ok (it_60_20 Ls xs)) (xlf_ok (it_60_23 Ls xs))) (xbt_ok (xlf_ok (it_60_25 Ls xs)) (xlf_ok (it_60_28 Ls xs)))))) (xbt_ok (xbt_ok (xbt_ok (xbt_ok (xlf_ok (it_60_29 Ls xs)) (xlf_ok (it_60_32 Ls xs))) (xbt_ok (xlf_ok (it_60_34 Ls xs)) (xlf_ok (it_60_37 Ls xs)))) (xbt_ok (xbt_ok (xlf_ok (it_60_38 Ls xs)) (xlf_ok (it_60_41 Ls xs))) (xbt_ok (xlf_ok (it_60_43 Ls xs)) (xlf_ok (it_60_46 Ls xs))))) (xbt_ok (xbt_ok (xbt_ok (xlf_ok (it_60_47 Ls xs)) (xlf_ok (it_60_48 Ls xs))) (xbt_ok (xlf_ok (it_60_51 Ls xs)) (xlf_ok (it_60_52 Ls xs)))) (xbt_ok (xbt_ok (xlf_ok (it_60_53 Ls xs)) (xlf_ok (it_60_56 Ls xs))) (xbt_ok (xlf_ok (it_60_57 Ls xs)) (xbt_ok (xlf_ok (it_60_58 Ls xs)) (xlf_ok (it_60_61 Ls xs)))))))
theorem d_61_0 : decode prog_3_method_2_code 0 = .ok (.aload_n 0, 1) := by decide +kernel
theorem d_61_1 : decode prog_3_method_2_code 1 = .ok (.iconst (0), 1) := by decide +kernel
theorem d_61_2 : decode prog_3_method_2_code 2 = .ok (.putfield 33, 3) := by decide +kernel
theorem d_61_5 : decode prog_3_method_2_code 5 = .ok (.aload_n 0, 1) := by decide +kernel
theorem d_61_6 : decode prog_3_method_2_code 6 = .ok (.iconst (0), 1) := by decide +kernel
theorem d_61_7 : decode prog_3_method_2_code 7 = .ok (.putfield 37, 3) := by decide +kernel
theorem d_61_10 : decode prog_3_method_2_code 10 = .ok (.aload_n 0, 1) := by decide +kernel
theorem d_61_11 : decode prog_3_method_2_code 11 = .ok (.iconst (0), 1) := by decide +kernel
theorem d_61_12 : decode prog_3_method_2_code 12 = .ok (.putfield 40, 3) := by decide +kernel
theorem d_61_15 : decode prog_3_method_2_code 15 = .ok (.return_, 1) := by decide +kernel
theorem it_61_0 (Ls : Nat) (xs : Nat → Int32) : xPI Ls xs md_61 0 (.inl (xs_al 0 1)) := by
  exact xs_aload_n_ok d_61_0 rfl
theorem it_61_1 (Ls : Nat) (xs : Nat → Int32) : xPI Ls xs md_61 1 (.inl (xs_c (0) 2)) := by
  exact xs_iconst_ok d_61_1 (by decide)
theorem it_61_2 (Ls : Nat) (xs : Nat → Int32) : xPI Ls xs md_61 2 (.inl (xs_pf 5 6 0 5)) := by
  exact xs_pf_ok d_61_2 (C := R_5) (T := T_5) (N := N_5) (ty0 := Y_5) rfl in_5 ty_5 nm_5 (by decide) tw_155 (Or.inl rfl) rfl
theorem it_61_5 (Ls : Nat) (xs : Nat → Int32) : xPI Ls xs md_61 5 (.inl (xs_al 0 6)) := by
  exact xs_aload_n_ok d_61_5 rfl
theorem it_61_6 (Ls : Nat) (xs : Nat → Int32) : xPI Ls xs md_61 6 (.inl (xs_c (0) 7)) := by
  exact xs_iconst_ok d_61_6 (by decide)
theorem it_61_7 (Ls : Nat) (xs : Nat → Int32) : xPI Ls xs md_61 7 (.inl (xs_pf 5 7 0 10)) := by
  exact xs_pf_ok d_61_7 (C := R_5) (T := T_5) (N := N_5) (ty0 := Y_5) rfl in_5 ty_5 nm_5 (by decide) tw_156 (Or.inl rfl) rfl
theorem it_61_10 (Ls : Nat) (xs : Nat → Int32) : xPI Ls xs md_61 10 (.inl (xs_al 0 11)) := by
  exact xs_aload_n_ok d_61_10 rfl
theorem it_61_11 (Ls : Nat) (xs : Nat → Int32) : xPI Ls xs md_61 11 (.inl (xs_c (0) 12)) := by
  exact xs_iconst_ok d_61_11 (by decide)
theorem it_61_12 (Ls : Nat) (xs : Nat → Int32) : xPI Ls xs md_61 12 (.inl (xs_pf 5 8 0 15)) := by
  exact xs_pf_ok d_61_12 (C := R_5) (T := T_5) (N := N_5) (ty0 := Y_5) rfl in_5 ty_5 nm_5 (by decide) tw_157 (Or.inl rfl) rfl
theorem it_61_15 (Ls : Nat) (xs : Nat → Int32) : xPI Ls xs md_61 15 (.inr (.inr 0)) := by
  exact ⟨rfl, d_61_15⟩
def K_61 (Ls : Nat) (xs : Nat → Int32) : Nat → Option xK := xbt 7 (xbt 2 (xbt 1 (xlf 0 (.inl (xs_al 0 1))) (xlf 1 (.inl (xs_c (0) 2)))) (xbt 5 (xlf 2 (.inl (xs_pf 5 6 0 5))) (xbt 6 (xlf 5 (.inl (xs_al 0 6))) (xlf 6 (.inl (xs_c (0) 7)))))) (xbt 11 (xbt 10 (xlf 7 (.inl (xs_pf 5 7 0 10))) (xlf 10 (.inl (xs_al 0 11)))) (xbt 12 (xlf 11 (.inl (xs_c (0) 12))) (xbt 15 (xlf 12 (.inl (xs_pf 5 8 0 15))) (xlf 15 (.inr (.inr 0))))))
theorem ok_61 (Ls : Nat) (xs : Nat → Int32) : ∀ pc it, K_61 Ls xs pc = some it → xPI Ls xs md_61 pc it := by
  unfold K_61
  exact xbt_ok (xbt_ok (xbt_ok (xlf_ok (it_61_0 Ls xs)) (xlf_ok (it_61_1 Ls xs))) (xbt_ok (xlf_ok (it_61_2 Ls xs)) (xbt_ok (xlf_ok (it_61_5 Ls xs)) (xlf_ok (it_61_6 Ls xs))))) (xbt_ok (xbt_ok (xlf_ok (it_61_7 Ls xs)) (xlf_ok (it_61_10 Ls xs))) (xbt_ok (xlf_ok (it_61_11 Ls xs)) (xbt_ok (xlf_ok (it_61_12 Ls xs)) (xlf_ok (it_61_15 Ls xs)))))
theorem d_62_0 : decode prog_3_method_4_code 0 = .ok (.aload_n 0, 1) := by decide +kernel
theorem d_62_1 : decode prog_3_method_4_code 1 = .ok (.getfield 37, 3) := by decide +kernel
theorem d_62_4 : decode prog_3_method_4_code 4 = .ok (.ireturn, 1) := by decide +kernel
theorem it_62_0 (Ls : Nat) (xs : Nat → Int32) : xPI Ls xs md_62 0 (.inl (xs_al 0 1)) := by
  exact xs_aload_n_ok d_62_0 rfl
theorem it_62_1 (Ls : Nat) (xs : Nat → Int32) : xPI Ls xs md_62 1 (.inl (xs_gf 5 7 4)) := by
  exact xs_gf_ok d_62_1 (C := R_5) (T := T_5) (N := N_5) rfl in_5 (by decide) tw_156
theorem it_62_4 (Ls : Nat) (xs : Nat → Int32) : xPI Ls xs md_62 4 (.inr (.inr 1)) := by
  exact ⟨rfl, d_62_4⟩
def K_62 (Ls : Nat) (xs : Nat → Int32) : Nat → Option xK := xbt 1 (xlf 0 (.inl (xs_al 0 1))) (xbt 4 (xlf 1 (.inl (xs_gf 5 7 4))) (xlf 4 (.inr (.inr 1))))
theorem ok_62 (Ls : Nat) (xs : Nat → Int32) : ∀ pc it, K_62 Ls xs pc = some it → xPI Ls xs md_62 pc it := by
  unfold K_62
  exact xbt_ok (xlf_ok (it_62_0 Ls xs)) (xbt_ok (xlf_ok (it_62_1 Ls xs)) (xlf_ok (it_62_4 Ls xs)))
theorem d_63_0 : decode prog_3_method_5_code 0 = .ok (.aload_n 0, 1) := by decide +kernel
theorem d_63_1 : decode prog_3_method_5_code 1 = .ok (.getfield 33, 3) := by decide +kernel
theorem d_63_4 : decode prog_3_method_5_code 4 = .ok (.ireturn, 1) := by decide +kernel
theorem it_63_0 (Ls : Nat) (xs : Nat → Int32) : xPI Ls xs md_63 0 (.inl (xs_al 0 1)) := by
  exact xs_aload_n_ok d_63_0 rfl
theorem it_63_1 (Ls : Nat) (xs : Nat → Int32) : xPI Ls xs md_63 1 (.inl (xs_gf 5 6 4)) := by
  exact xs_gf_ok d_63_1 (C := R_5) (T := T_5) (N := N_5) rfl in_5 (by decide) tw_155
theorem it_63_4 (Ls : Nat) (xs : Nat → Int32) : xPI Ls xs md_63 4 (.inr (.inr 1)) := by
  exact ⟨rfl, d_63_4⟩
def K_63 (Ls : Nat) (xs : Nat → Int32) : Nat → Option xK := xbt 1 (xlf 0 (.inl (xs_al 0 1))) (xbt 4 (xlf 1 (.inl (xs_gf 5 6 4))) (xlf 4 (.inr (.inr 1))))
theorem ok_63 (Ls : Nat) (xs : Nat → Int32) : ∀ pc it, K_63 Ls xs pc = some it → xPI Ls xs md_63 pc it := by
  unfold K_63
  exact xbt_ok (xlf_ok (it_63_0 Ls xs)) (xbt_ok (xlf_ok (it_63_1 Ls xs)) (xlf_ok (it_63_4 Ls xs)))
theorem d_64_0 : decode prog_3_method_6_code 0 = .ok (.aload_n 0, 1) := by decide +kernel
theorem d_64_1 : decode prog_3_method_6_code 1 = .ok (.getfield 40, 3) := by decide +kernel
theorem d_64_4 : decode prog_3_method_6_code 4 = .ok (.ireturn, 1) := by decide +kernel
theorem it_64_0 (Ls : Nat) (xs : Nat → Int32) : xPI Ls xs md_64 0 (.inl (xs_al 0 1)) := by
  exact xs_aload_n_ok d_64_0 rfl
theorem it_64_1 (Ls : Nat) (xs : Nat → Int32) : xPI Ls xs md_64 1 (.inl (xs_gf 5 8 4)) := by
  exact xs_gf_ok d_64_1 (C := R_5) (T := T_5) (N := N_5) rfl in_5 (by decide) tw_157
theorem it_64_4 (Ls : Nat) (xs : Nat → Int32) : xPI Ls xs md_64 4 (.inr (.inr 1)) := by
  exact ⟨rfl, d_64_4⟩
def K_64 (Ls : Nat) (xs : Nat → Int32) : Nat → Option xK := xbt 1 (xlf 0 (.inl (xs_al 0 1))) (xbt 4 (xlf 1 (.inl (xs_gf 5 8 4))) (xlf 4 (.inr (.inr 1))))
theorem ok_64 (Ls : Nat) (xs : Nat → Int32) : ∀ pc it, K_64 Ls xs pc = some it → xPI Ls xs md_64 pc it := by
  unfold K_64
  exact xbt_ok (xlf_ok (it_64_0 Ls xs)) (xbt_ok (xlf_ok (it_64_1 Ls xs)) (xlf_ok (it_64_4 Ls xs)))
theorem d_65_0 : decode prog_3_method_7_code 0 = .ok (.aload_n 0, 1) := by decide +kernel
theorem d_65_1 : decode prog_3_method_7_code 1 = .ok (.getfield 40, 3) := by decide +kernel
theorem d_65_4 : decode prog_3_method_7_code 4 = .ok (.sipush (200), 3) := by decide +kernel
theorem d_65_7 : decode prog_3_method_7_code 7 = .ok (.invokestatic 43, 3) := by decide +kernel
theorem d_65_10 : decode prog_3_method_7_code 10 = .ok (.ireturn, 1) := by decide +kernel
theorem it_65_0 (Ls : Nat) (xs : Nat → Int32) : xPI Ls xs md_65 0 (.inl (xs_al 0 1)) := by
  exact xs_aload_n_ok d_65_0 rfl
theorem it_65_1 (Ls : Nat) (xs : Nat → Int32) : xPI Ls xs md_65 1 (.inl (xs_gf 5 8 4)) := by
  exact xs_gf_ok d_65_1 (C := R_5) (T := T_5) (N := N_5) rfl in_5 (by decide) tw_157
theorem it_65_4 (Ls : Nat) (xs : Nat → Int32) : xPI Ls xs md_65 4 (.inl (xs_c (200) 7)) := by
  exact xs_sipush_ok d_65_4 (by decide)
theorem it_65_7 (Ls : Nat) (xs : Nat → Int32) : xPI Ls xs md_65 7 (.inr (.inl (98, 2, 0, []))) := by
  exact ⟨md_98, rfl, tw_14, by decide, ⟨by decide, by decide⟩, Or.inl ⟨rfl, rfl, 43, d_65_7, tw_773, tw_774, by decide +kernel⟩⟩
theorem it_65_10 (Ls : Nat) (xs : Nat → Int32) : xPI Ls xs md_65 10 (.inr (.inr 1)) := by
  exact ⟨rfl, d_65_10⟩
def K_65 (Ls : Nat) (xs : Nat → Int32) : Nat → Option xK := xbt 4 (xbt 1 (xlf 0 (.inl (xs_al 0 1))) (xlf 1 (.inl (xs_gf 5 8 4)))) (xbt 7 (xlf 4 (.inl (xs_c (200) 7))) (xbt 10 (xlf 7 (.inr (.inl (98, 2, 0, [])))) (xlf 10 (.inr (.inr 1)))))
theorem ok_65 (Ls : Nat) (xs : Nat → Int32) : ∀ pc it, K_65 Ls xs pc = some it → xPI Ls xs md_65 pc it := by
  unfold K_65
  exact xbt_ok (xbt_ok (xlf_ok (it_65_0 Ls xs)) (xlf_ok (it_65_1 Ls xs))) (xbt_ok (xlf_ok (it_65_4 Ls xs)) (xbt_ok (xlf_ok (it_65_7 Ls xs)) (xlf_ok (it_65_10 Ls xs))))
