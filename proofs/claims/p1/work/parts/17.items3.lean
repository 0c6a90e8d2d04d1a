theorem d_66_0 : decode prog_8_method_1_code 0 = .ok (.aload_n 0, 1) := by decide +kernel
theorem d_66_1 : decode prog_8_method_1_code 1 = .ok (.invokespecial 1, 3) := by decide +kernel
theorem d_66_4 : decode prog_8_method_1_code 4 = .ok (.aload_n 0, 1) := by decide +kernel
theorem d_66_5 : decode prog_8_method_1_code 5 = .ok (.bipush (14), 2) := by decide +kernel
theorem d_66_7 : decode prog_8_method_1_code 7 = .ok (.newarray .int, 2) := by decide +kernel
theorem d_66_9 : decode prog_8_method_1_code 9 = .ok (.putfield 7, 3) := by decide +kernel
theorem d_66_12 : decode prog_8_method_1_code 12 = .ok (.aload_n 0, 1) := by decide +kernel
theorem d_66_13 : decode prog_8_method_1_code 13 = .ok (.bipush (14), 2) := by decide +kernel
theorem d_66_15 : decode prog_8_method_1_code 15 = .ok (.newarray .int, 2) := by decide +kernel
theorem d_66_17 : decode prog_8_method_1_code 17 = .ok (.putfield 13, 3) := by decide +kernel
theorem d_66_20 : decode prog_8_method_1_code 20 = .ok (.aload_n 0, 1) := by decide +kernel
theorem d_66_21 : decode prog_8_method_1_code 21 = .ok (.bipush (40), 2) := by decide +kernel
theorem d_66_23 : decode prog_8_method_1_code 23 = .ok (.newarray .int, 2) := by decide +kernel
theorem d_66_25 : decode prog_8_method_1_code 25 = .ok (.putfield 16, 3) := by decide +kernel
theorem d_66_28 : decode prog_8_method_1_code 28 = .ok (.aload_n 0, 1) := by decide +kernel
theorem d_66_29 : decode prog_8_method_1_code 29 = .ok (.bipush (6), 2) := by decide +kernel
theorem d_66_31 : decode prog_8_method_1_code 31 = .ok (.newarray .boolean, 2) := by decide +kernel
theorem d_66_33 : decode prog_8_method_1_code 33 = .ok (.putfield 19, 3) := by decide +kernel
theorem d_66_36 : decode prog_8_method_1_code 36 = .ok (.aload_n 0, 1) := by decide +kernel
theorem d_66_37 : decode prog_8_method_1_code 37 = .ok (.bipush (78), 2) := by decide +kernel
theorem d_66_39 : decode prog_8_method_1_code 39 = .ok (.newarray .boolean, 2) := by decide +kernel
theorem d_66_41 : decode prog_8_method_1_code 41 = .ok (.putfield 23, 3) := by decide +kernel
theorem d_66_44 : decode prog_8_method_1_code 44 = .ok (.aload_n 0, 1) := by decide +kernel
theorem d_66_45 : decode prog_8_method_1_code 45 = .ok (.bipush (56), 2) := by decide +kernel
theorem d_66_47 : decode prog_8_method_1_code 47 = .ok (.newarray .int, 2) := by decide +kernel
theorem d_66_49 : decode prog_8_method_1_code 49 = .ok (.putfield 26, 3) := by decide +kernel
theorem d_66_52 : decode prog_8_method_1_code 52 = .ok (.aload_n 0, 1) := by decide +kernel
theorem d_66_53 : decode prog_8_method_1_code 53 = .ok (.bipush (56), 2) := by decide +kernel
theorem d_66_55 : decode prog_8_method_1_code 55 = .ok (.newarray .int, 2) := by decide +kernel
theorem d_66_57 : decode prog_8_method_1_code 57 = .ok (.putfield 29, 3) := by decide +kernel
theorem d_66_60 : decode prog_8_method_1_code 60 = .ok (.aload_n 0, 1) := by decide +kernel
theorem d_66_61 : decode prog_8_method_1_code 61 = .ok (.bipush (56), 2) := by decide +kernel
theorem d_66_63 : decode prog_8_method_1_code 63 = .ok (.newarray .int, 2) := by decide +kernel
theorem d_66_65 : decode prog_8_method_1_code 65 = .ok (.putfield 32, 3) := by decide +kernel
theorem d_66_68 : decode prog_8_method_1_code 68 = .ok (.aload_n 0, 1) := by decide +kernel
theorem d_66_69 : decode prog_8_method_1_code 69 = .ok (.bipush (14), 2) := by decide +kernel
theorem d_66_71 : decode prog_8_method_1_code 71 = .ok (.newarray .int, 2) := by decide +kernel
theorem d_66_73 : decode prog_8_method_1_code 73 = .ok (.putfield 35, 3) := by decide +kernel
theorem d_66_76 : decode prog_8_method_1_code 76 = .ok (.aload_n 0, 1) := by decide +kernel
theorem d_66_77 : decode prog_8_method_1_code 77 = .ok (.sipush (427), 3) := by decide +kernel
theorem d_66_80 : decode prog_8_method_1_code 80 = .ok (.newarray .long, 2) := by decide +kernel
theorem d_66_82 : decode prog_8_method_1_code 82 = .ok (.putfield 38, 3) := by decide +kernel
theorem d_66_85 : decode prog_8_method_1_code 85 = .ok (.aload_n 0, 1) := by decide +kernel
theorem d_66_86 : decode prog_8_method_1_code 86 = .ok (.sipush (780), 3) := by decide +kernel
theorem d_66_89 : decode prog_8_method_1_code 89 = .ok (.newarray .int, 2) := by decide +kernel
theorem d_66_91 : decode prog_8_method_1_code 91 = .ok (.putfield 42, 3) := by decide +kernel
theorem d_66_94 : decode prog_8_method_1_code 94 = .ok (.aload_n 0, 1) := by decide +kernel
theorem d_66_95 : decode prog_8_method_1_code 95 = .ok (.iconst (-1), 1) := by decide +kernel
theorem d_66_96 : decode prog_8_method_1_code 96 = .ok (.putfield 45, 3) := by decide +kernel
theorem d_66_99 : decode prog_8_method_1_code 99 = .ok (.aload_n 0, 1) := by decide +kernel
theorem d_66_100 : decode prog_8_method_1_code 100 = .ok (.iconst (-1), 1) := by decide +kernel
theorem d_66_101 : decode prog_8_method_1_code 101 = .ok (.putfield 49, 3) := by decide +kernel
theorem d_66_104 : decode prog_8_method_1_code 104 = .ok (.aload_n 0, 1) := by decide +kernel
theorem d_66_105 : decode prog_8_method_1_code 105 = .ok (.sipush (448), 3) := by decide +kernel
theorem d_66_108 : decode prog_8_method_1_code 108 = .ok (.newarray .int, 2) := by decide +kernel
theorem d_66_110 : decode prog_8_method_1_code 110 = .ok (.putfield 52, 3) := by decide +kernel
theorem d_66_113 : decode prog_8_method_1_code 113 = .ok (.aload_n 0, 1) := by decide +kernel
theorem d_66_114 : decode prog_8_method_1_code 114 = .ok (.sipush (200), 3) := by decide +kernel
theorem d_66_117 : decode prog_8_method_1_code 117 = .ok (.newarray .int, 2) := by decide +kernel
theorem d_66_119 : decode prog_8_method_1_code 119 = .ok (.putfield 55, 3) := by decide +kernel
theorem d_66_122 : decode prog_8_method_1_code 122 = .ok (.aload_n 0, 1) := by decide +kernel
theorem d_66_123 : decode prog_8_method_1_code 123 = .ok (.sipush (200), 3) := by decide +kernel
theorem d_66_126 : decode prog_8_method_1_code 126 = .ok (.newarray .int, 2) := by decide +kernel
theorem d_66_128 : decode prog_8_method_1_code 128 = .ok (.putfield 58, 3) := by decide +kernel
theorem d_66_131 : decode prog_8_method_1_code 131 = .ok (.aload_n 0, 1) := by decide +kernel
theorem d_66_132 : decode prog_8_method_1_code 132 = .ok (.iload_n 1, 1) := by decide +kernel
theorem d_66_133 : decode prog_8_method_1_code 133 = .ok (.iconst (1), 1) := by decide +kernel
theorem d_66_134 : decode prog_8_method_1_code 134 = .ok (.if_icmp .lt (9), 3) := by decide +kernel
theorem d_66_137 : decode prog_8_method_1_code 137 = .ok (.iload_n 1, 1) := by decide +kernel
theorem d_66_138 : decode prog_8_method_1_code 138 = .ok (.bipush (7), 2) := by decide +kernel
theorem d_66_140 : decode prog_8_method_1_code 140 = .ok (.if_icmp .le (7), 3) := by decide +kernel
theorem d_66_143 : decode prog_8_method_1_code 143 = .ok (.iconst (3), 1) := by decide +kernel
theorem d_66_144 : decode prog_8_method_1_code 144 = .ok (.goto (4), 3) := by decide +kernel
theorem d_66_147 : decode prog_8_method_1_code 147 = .ok (.iload_n 1, 1) := by decide +kernel
theorem d_66_148 : decode prog_8_method_1_code 148 = .ok (.putfield 61, 3) := by decide +kernel
theorem d_66_151 : decode prog_8_method_1_code 151 = .ok (.aload_n 0, 1) := by decide +kernel
theorem d_66_152 : decode prog_8_method_1_code 152 = .ok (.iload_n 2, 1) := by decide +kernel
theorem d_66_153 : decode prog_8_method_1_code 153 = .ok (.iconst (1), 1) := by decide +kernel
theorem d_66_154 : decode prog_8_method_1_code 154 = .ok (.if_icmp .lt (9), 3) := by decide +kernel
theorem d_66_157 : decode prog_8_method_1_code 157 = .ok (.iload_n 2, 1) := by decide +kernel
theorem d_66_158 : decode prog_8_method_1_code 158 = .ok (.bipush (6), 2) := by decide +kernel
theorem d_66_160 : decode prog_8_method_1_code 160 = .ok (.if_icmp .le (7), 3) := by decide +kernel
theorem d_66_163 : decode prog_8_method_1_code 163 = .ok (.iconst (2), 1) := by decide +kernel
theorem d_66_164 : decode prog_8_method_1_code 164 = .ok (.goto (4), 3) := by decide +kernel
theorem d_66_167 : decode prog_8_method_1_code 167 = .ok (.iload_n 2, 1) := by decide +kernel
theorem d_66_168 : decode prog_8_method_1_code 168 = .ok (.putfield 64, 3) := by decide +kernel
theorem d_66_171 : decode prog_8_method_1_code 171 = .ok (.return_, 1) := by decide +kernel
theorem it_66_0 (Ls : Nat) (xs : Nat → Int32) : xPI Ls xs md_66 0 (.inl (xs_al 0 1)) := by
  exact xs_aload_n_ok d_66_0 rfl
theorem it_66_1 (Ls : Nat) (xs : Nat → Int32) : xPI Ls xs md_66 1 (.inl (xs_oi 4)) := by
  exact xs_oi_ok d_66_1 tw_786 tw_25 tw_obj
theorem it_66_4 (Ls : Nat) (xs : Nat → Int32) : xPI Ls xs md_66 4 (.inl (xs_al 0 5)) := by
  exact xs_aload_n_ok d_66_4 rfl
theorem it_66_5 (Ls : Nat) (xs : Nat → Int32) : xPI Ls xs md_66 5 (.inl (xs_c (14) 7)) := by
  exact xs_bipush_ok d_66_5 (by decide)
theorem it_66_7 (Ls : Nat) (xs : Nat → Int32) : xPI Ls xs md_66 7 (.inl (xs_nai 600003 7302198 9)) := by
  exact xs_nai_ok d_66_7 tw_58
theorem it_66_9 (Ls : Nat) (xs : Nat → Int32) : xPI Ls xs md_66 9 (.inl (xs_pf 6 5 2 12)) := by
  exact xs_pf_ok d_66_9 (C := R_6) (T := T_6) (N := N_6) (ty0 := Y_6) rfl in_6 ty_6 nm_6 (by decide) tw_792 (Or.inr ⟨rfl, rfl, rfl⟩) (Or.inr ⟨_, rfl⟩)
theorem it_66_12 (Ls : Nat) (xs : Nat → Int32) : xPI Ls xs md_66 12 (.inl (xs_al 0 13)) := by
  exact xs_aload_n_ok d_66_12 rfl
theorem it_66_13 (Ls : Nat) (xs : Nat → Int32) : xPI Ls xs md_66 13 (.inl (xs_c (14) 15)) := by
  exact xs_bipush_ok d_66_13 (by decide)
theorem it_66_15 (Ls : Nat) (xs : Nat → Int32) : xPI Ls xs md_66 15 (.inl (xs_nai 600003 7302198 17)) := by
  exact xs_nai_ok d_66_15 tw_58
theorem it_66_17 (Ls : Nat) (xs : Nat → Int32) : xPI Ls xs md_66 17 (.inl (xs_pf 6 6 2 20)) := by
  exact xs_pf_ok d_66_17 (C := R_6) (T := T_6) (N := N_6) (ty0 := Y_6) rfl in_6 ty_6 nm_6 (by decide) tw_793 (Or.inr ⟨rfl, rfl, rfl⟩) (Or.inr ⟨_, rfl⟩)
theorem it_66_20 (Ls : Nat) (xs : Nat → Int32) : xPI Ls xs md_66 20 (.inl (xs_al 0 21)) := by
  exact xs_aload_n_ok d_66_20 rfl
theorem it_66_21 (Ls : Nat) (xs : Nat → Int32) : xPI Ls xs md_66 21 (.inl (xs_c (40) 23)) := by
  exact xs_bipush_ok d_66_21 (by decide)
theorem it_66_23 (Ls : Nat) (xs : Nat → Int32) : xPI Ls xs md_66 23 (.inl (xs_nai 600003 7302198 25)) := by
  exact xs_nai_ok d_66_23 tw_58
theorem it_66_25 (Ls : Nat) (xs : Nat → Int32) : xPI Ls xs md_66 25 (.inl (xs_pf 6 7 2 28)) := by
  exact xs_pf_ok d_66_25 (C := R_6) (T := T_6) (N := N_6) (ty0 := Y_6) rfl in_6 ty_6 nm_6 (by decide) tw_794 (Or.inr ⟨rfl, rfl, rfl⟩) (Or.inr ⟨_, rfl⟩)
theorem it_66_28 (Ls : Nat) (xs : Nat → Int32) : xPI Ls xs md_66 28 (.inl (xs_al 0 29)) := by
  exact xs_aload_n_ok d_66_28 rfl
theorem it_66_29 (Ls : Nat) (xs : Nat → Int32) : xPI Ls xs md_66 29 (.inl (xs_c (6) 31)) := by
  exact xs_bipush_ok d_66_29 (by decide)
theorem it_66_31 (Ls : Nat) (xs : Nat → Int32) : xPI Ls xs md_66 31 (.inl (xs_naz 600003 7302198 33)) := by
  exact xs_naz_ok d_66_31 tw_59
theorem it_66_33 (Ls : Nat) (xs : Nat → Int32) : xPI Ls xs md_66 33 (.inl (xs_pf 6 8 2 36)) := by
  exact xs_pf_ok d_66_33 (C := R_6) (T := T_6) (N := N_6) (ty0 := Y_6) rfl in_6 ty_6 nm_6 (by decide) tw_795 (Or.inr ⟨rfl, rfl, rfl⟩) (Or.inr ⟨_, rfl⟩)
theorem it_66_36 (Ls : Nat) (xs : Nat → Int32) : xPI Ls xs md_66 36 (.inl (xs_al 0 37)) := by
  exact xs_aload_n_ok d_66_36 rfl
theorem it_66_37 (Ls : Nat) (xs : Nat → Int32) : xPI Ls xs md_66 37 (.inl (xs_c (78) 39)) := by
  exact xs_bipush_ok d_66_37 (by decide)
theorem it_66_39 (Ls : Nat) (xs : Nat → Int32) : xPI Ls xs md_66 39 (.inl (xs_naz 600003 7302198 41)) := by
  exact xs_naz_ok d_66_39 tw_59
theorem it_66_41 (Ls : Nat) (xs : Nat → Int32) : xPI Ls xs md_66 41 (.inl (xs_pf 6 9 2 44)) := by
  exact xs_pf_ok d_66_41 (C := R_6) (T := T_6) (N := N_6) (ty0 := Y_6) rfl in_6 ty_6 nm_6 (by decide) tw_796 (Or.inr ⟨rfl, rfl, rfl⟩) (Or.inr ⟨_, rfl⟩)
theorem it_66_44 (Ls : Nat) (xs : Nat → Int32) : xPI Ls xs md_66 44 (.inl (xs_al 0 45)) := by
  exact xs_aload_n_ok d_66_44 rfl
theorem it_66_45 (Ls : Nat) (xs : Nat → Int32) : xPI Ls xs md_66 45 (.inl (xs_c (56) 47)) := by
  exact xs_bipush_ok d_66_45 (by decide)
theorem it_66_47 (Ls : Nat) (xs : Nat → Int32) : xPI Ls xs md_66 47 (.inl (xs_nai 600003 7302198 49)) := by
  exact xs_nai_ok d_66_47 tw_58
theorem it_66_49 (Ls : Nat) (xs : Nat → Int32) : xPI Ls xs md_66 49 (.inl (xs_pf 6 11 2 52)) := by
  exact xs_pf_ok d_66_49 (C := R_6) (T := T_6) (N := N_6) (ty0 := Y_6) rfl in_6 ty_6 nm_6 (by decide) tw_798 (Or.inr ⟨rfl, rfl, rfl⟩) (Or.inr ⟨_, rfl⟩)
theorem it_66_52 (Ls : Nat) (xs : Nat → Int32) : xPI Ls xs md_66 52 (.inl (xs_al 0 53)) := by
  exact xs_aload_n_ok d_66_52 rfl
theorem it_66_53 (Ls : Nat) (xs : Nat → Int32) : xPI Ls xs md_66 53 (.inl (xs_c (56) 55)) := by
  exact xs_bipush_ok d_66_53 (by decide)
theorem it_66_55 (Ls : Nat) (xs : Nat → Int32) : xPI Ls xs md_66 55 (.inl (xs_nai 600003 7302198 57)) := by
  exact xs_nai_ok d_66_55 tw_58
theorem it_66_57 (Ls : Nat) (xs : Nat → Int32) : xPI Ls xs md_66 57 (.inl (xs_pf 6 12 2 60)) := by
  exact xs_pf_ok d_66_57 (C := R_6) (T := T_6) (N := N_6) (ty0 := Y_6) rfl in_6 ty_6 nm_6 (by decide) tw_799 (Or.inr ⟨rfl, rfl, rfl⟩) (Or.inr ⟨_, rfl⟩)
theorem it_66_60 (Ls : Nat) (xs : Nat → Int32) : xPI Ls xs md_66 60 (.inl (xs_al 0 61)) := by
  exact xs_aload_n_ok d_66_60 rfl
theorem it_66_61 (Ls : Nat) (xs : Nat → Int32) : xPI Ls xs md_66 61 (.inl (xs_c (56) 63)) := by
  exact xs_bipush_ok d_66_61 (by decide)
theorem it_66_63 (Ls : Nat) (xs : Nat → Int32) : xPI Ls xs md_66 63 (.inl (xs_nai 600003 7302198 65)) := by
  exact xs_nai_ok d_66_63 tw_58
theorem it_66_65 (Ls : Nat) (xs : Nat → Int32) : xPI Ls xs md_66 65 (.inl (xs_pf 6 13 2 68)) := by
  exact xs_pf_ok d_66_65 (C := R_6) (T := T_6) (N := N_6) (ty0 := Y_6) rfl in_6 ty_6 nm_6 (by decide) tw_800 (Or.inr ⟨rfl, rfl, rfl⟩) (Or.inr ⟨_, rfl⟩)
theorem it_66_68 (Ls : Nat) (xs : Nat → Int32) : xPI Ls xs md_66 68 (.inl (xs_al 0 69)) := by
  exact xs_aload_n_ok d_66_68 rfl
theorem it_66_69 (Ls : Nat) (xs : Nat → Int32) : xPI Ls xs md_66 69 (.inl (xs_c (14) 71)) := by
  exact xs_bipush_ok d_66_69 (by decide)
theorem it_66_71 (Ls : Nat) (xs : Nat → Int32) : xPI Ls xs md_66 71 (.inl (xs_nai 600003 7302198 73)) := by
  exact xs_nai_ok d_66_71 tw_58
theorem it_66_73 (Ls : Nat) (xs : Nat → Int32) : xPI Ls xs md_66 73 (.inl (xs_pf 6 14 2 76)) := by
  exact xs_pf_ok d_66_73 (C := R_6) (T := T_6) (N := N_6) (ty0 := Y_6) rfl in_6 ty_6 nm_6 (by decide) tw_801 (Or.inr ⟨rfl, rfl, rfl⟩) (Or.inr ⟨_, rfl⟩)
theorem it_66_76 (Ls : Nat) (xs : Nat → Int32) : xPI Ls xs md_66 76 (.inl (xs_al 0 77)) := by
  exact xs_aload_n_ok d_66_76 rfl
theorem it_66_77 (Ls : Nat) (xs : Nat → Int32) : xPI Ls xs md_66 77 (.inl (xs_c (427) 80)) := by
  exact xs_sipush_ok d_66_77 (by decide)
theorem it_66_80 (Ls : Nat) (xs : Nat → Int32) : xPI Ls xs md_66 80 (.inl (xs_naj 600003 7302198 82)) := by
  exact xs_naj_ok d_66_80 tw_875
theorem it_66_82 (Ls : Nat) (xs : Nat → Int32) : xPI Ls xs md_66 82 (.inl (xs_pf 6 17 2 85)) := by
  exact xs_pf_ok d_66_82 (C := R_6) (T := T_6) (N := N_6) (ty0 := Y_6) rfl in_6 ty_6 nm_6 (by decide) tw_804 (Or.inr ⟨rfl, rfl, rfl⟩) (Or.inr ⟨_, rfl⟩)
theorem it_66_85 (Ls : Nat) (xs : Nat → Int32) : xPI Ls xs md_66 85 (.inl (xs_al 0 86)) := by
  exact xs_aload_n_ok d_66_85 rfl
theorem it_66_86 (Ls : Nat) (xs : Nat → Int32) : xPI Ls xs md_66 86 (.inl (xs_c (780) 89)) := by
  exact xs_sipush_ok d_66_86 (by decide)
theorem it_66_89 (Ls : Nat) (xs : Nat → Int32) : xPI Ls xs md_66 89 (.inl (xs_nai 600003 7302198 91)) := by
  exact xs_nai_ok d_66_89 tw_58
theorem it_66_91 (Ls : Nat) (xs : Nat → Int32) : xPI Ls xs md_66 91 (.inl (xs_pf 6 18 2 94)) := by
  exact xs_pf_ok d_66_91 (C := R_6) (T := T_6) (N := N_6) (ty0 := Y_6) rfl in_6 ty_6 nm_6 (by decide) tw_805 (Or.inr ⟨rfl, rfl, rfl⟩) (Or.inr ⟨_, rfl⟩)
theorem it_66_94 (Ls : Nat) (xs : Nat → Int32) : xPI Ls xs md_66 94 (.inl (xs_al 0 95)) := by
  exact xs_aload_n_ok d_66_94 rfl
theorem it_66_95 (Ls : Nat) (xs : Nat → Int32) : xPI Ls xs md_66 95 (.inl (xs_c (-1) 96)) := by
  exact xs_iconst_ok d_66_95 (by decide)
theorem it_66_96 (Ls : Nat) (xs : Nat → Int32) : xPI Ls xs md_66 96 (.inl (xs_pf 6 19 0 99)) := by
  exact xs_pf_ok d_66_96 (C := R_6) (T := T_6) (N := N_6) (ty0 := Y_6) rfl in_6 ty_6 nm_6 (by decide) tw_806 (Or.inl rfl) rfl
theorem it_66_99 (Ls : Nat) (xs : Nat → Int32) : xPI Ls xs md_66 99 (.inl (xs_al 0 100)) := by
  exact xs_aload_n_ok d_66_99 rfl
theorem it_66_100 (Ls : Nat) (xs : Nat → Int32) : xPI Ls xs md_66 100 (.inl (xs_c (-1) 101)) := by
  exact xs_iconst_ok d_66_100 (by decide)
theorem it_66_101 (Ls : Nat) (xs : Nat → Int32) : xPI Ls xs md_66 101 (.inl (xs_pf 6 20 0 104)) := by
  exact xs_pf_ok d_66_101 (C := R_6) (T := T_6) (N := N_6) (ty0 := Y_6) rfl in_6 ty_6 nm_6 (by decide) tw_807 (Or.inl rfl) rfl
theorem it_66_104 (Ls : Nat) (xs : Nat → Int32) : xPI Ls xs md_66 104 (.inl (xs_al 0 105)) := by
  exact xs_aload_n_ok d_66_104 rfl
theorem it_66_105 (Ls : Nat) (xs : Nat → Int32) : xPI Ls xs md_66 105 (.inl (xs_c (448) 108)) := by
  exact xs_sipush_ok d_66_105 (by decide)
theorem it_66_108 (Ls : Nat) (xs : Nat → Int32) : xPI Ls xs md_66 108 (.inl (xs_nai 600003 7302198 110)) := by
  exact xs_nai_ok d_66_108 tw_58
theorem it_66_110 (Ls : Nat) (xs : Nat → Int32) : xPI Ls xs md_66 110 (.inl (xs_pf 6 22 2 113)) := by
  exact xs_pf_ok d_66_110 (C := R_6) (T := T_6) (N := N_6) (ty0 := Y_6) rfl in_6 ty_6 nm_6 (by decide) tw_809 (Or.inr ⟨rfl, rfl, rfl⟩) (Or.inr ⟨_, rfl⟩)
theorem it_66_113 (Ls : Nat) (xs : Nat → Int32) : xPI Ls xs md_66 113 (.inl (xs_al 0 114)) := by
  exact xs_aload_n_ok d_66_113 rfl
theorem it_66_114 (Ls : Nat) (xs : Nat → Int32) : xPI Ls xs md_66 114 (.inl (xs_c (200) 117)) := by
  exact xs_sipush_ok d_66_114 (by decide)
theorem it_66_117 (Ls : Nat) (xs : Nat → Int32) : xPI Ls xs md_66 117 (.inl (xs_nai 600003 7302198 119)) := by
  exact xs_nai_ok d_66_117 tw_58
theorem it_66_119 (Ls : Nat) (xs : Nat → Int32) : xPI Ls xs md_66 119 (.inl (xs_pf 6 25 2 122)) := by
  exact xs_pf_ok d_66_119 (C := R_6) (T := T_6) (N := N_6) (ty0 := Y_6) rfl in_6 ty_6 nm_6 (by decide) tw_812 (Or.inr ⟨rfl, rfl, rfl⟩) (Or.inr ⟨_, rfl⟩)
theorem it_66_122 (Ls : Nat) (xs : Nat → Int32) : xPI Ls xs md_66 122 (.inl (xs_al 0 123)) := by
  exact xs_aload_n_ok d_66_122 rfl
theorem it_66_123 (Ls : Nat) (xs : Nat → Int32) : xPI Ls xs md_66 123 (.inl (xs_c (200) 126)) := by
  exact xs_sipush_ok d_66_123 (by decide)
theorem it_66_126 (Ls : Nat) (xs : Nat → Int32) : xPI Ls xs md_66 126 (.inl (xs_nai 600003 7302198 128)) := by
  exact xs_nai_ok d_66_126 tw_58
theorem it_66_128 (Ls : Nat) (xs : Nat → Int32) : xPI Ls xs md_66 128 (.inl (xs_pf 6 27 2 131)) := by
  exact xs_pf_ok d_66_128 (C := R_6) (T := T_6) (N := N_6) (ty0 := Y_6) rfl in_6 ty_6 nm_6 (by decide) tw_814 (Or.inr ⟨rfl, rfl, rfl⟩) (Or.inr ⟨_, rfl⟩)
theorem it_66_131 (Ls : Nat) (xs : Nat → Int32) : xPI Ls xs md_66 131 (.inl (xs_al 0 132)) := by
  exact xs_aload_n_ok d_66_131 rfl
theorem it_66_132 (Ls : Nat) (xs : Nat → Int32) : xPI Ls xs md_66 132 (.inl (xs_il 1 133)) := by
  exact xs_iload_n_ok d_66_132 rfl
theorem it_66_133 (Ls : Nat) (xs : Nat → Int32) : xPI Ls xs md_66 133 (.inl (xs_c (1) 134)) := by
  exact xs_iconst_ok d_66_133 (by decide)
theorem it_66_134 (Ls : Nat) (xs : Nat → Int32) : xPI Ls xs md_66 134 (.inl (xs_ic_lt 143 137)) := by
  exact xs_ic_lt_ok d_66_134 (by decide)
theorem it_66_137 (Ls : Nat) (xs : Nat → Int32) : xPI Ls xs md_66 137 (.inl (xs_il 1 138)) := by
  exact xs_iload_n_ok d_66_137 rfl
theorem it_66_138 (Ls : Nat) (xs : Nat → Int32) : xPI Ls xs md_66 138 (.inl (xs_c (7) 140)) := by
  exact xs_bipush_ok d_66_138 (by decide)
theorem it_66_140 (Ls : Nat) (xs : Nat → Int32) : xPI Ls xs md_66 140 (.inl (xs_ic_le 147 143)) := by
  exact xs_ic_le_ok d_66_140 (by decide)
theorem it_66_143 (Ls : Nat) (xs : Nat → Int32) : xPI Ls xs md_66 143 (.inl (xs_c (3) 144)) := by
  exact xs_iconst_ok d_66_143 (by decide)
theorem it_66_144 (Ls : Nat) (xs : Nat → Int32) : xPI Ls xs md_66 144 (.inl (xs_goto 148)) := by
  exact xs_goto_ok d_66_144 (by decide)
theorem it_66_147 (Ls : Nat) (xs : Nat → Int32) : xPI Ls xs md_66 147 (.inl (xs_il 1 148)) := by
  exact xs_iload_n_ok d_66_147 rfl
theorem it_66_148 (Ls : Nat) (xs : Nat → Int32) : xPI Ls xs md_66 148 (.inl (xs_pf 6 1 0 151)) := by
  exact xs_pf_ok d_66_148 (C := R_6) (T := T_6) (N := N_6) (ty0 := Y_6) rfl in_6 ty_6 nm_6 (by decide) tw_788 (Or.inr ⟨rfl, rfl, rfl⟩) rfl
theorem it_66_151 (Ls : Nat) (xs : Nat → Int32) : xPI Ls xs md_66 151 (.inl (xs_al 0 152)) := by
  exact xs_aload_n_ok d_66_151 rfl
theorem it_66_152 (Ls : Nat) (xs : Nat → Int32) : xPI Ls xs md_66 152 (.inl (xs_il 2 153)) := by
  exact xs_iload_n_ok d_66_152 rfl
theorem it_66_153 (Ls : Nat) (xs : Nat → Int32) : xPI Ls xs md_66 153 (.inl (xs_c (1) 154)) := by
  exact xs_iconst_ok d_66_153 (by decide)
theorem it_66_154 (Ls : Nat) (xs : Nat → Int32) : xPI Ls xs md_66 154 (.inl (xs_ic_lt 163 157)) := by
  exact xs_ic_lt_ok d_66_154 (by decide)
theorem it_66_157 (Ls : Nat) (xs : Nat → Int32) : xPI Ls xs md_66 157 (.inl (xs_il 2 158)) := by
  exact xs_iload_n_ok d_66_157 rfl
theorem it_66_158 (Ls : Nat) (xs : Nat → Int32) : xPI Ls xs md_66 158 (.inl (xs_c (6) 160)) := by
  exact xs_bipush_ok d_66_158 (by decide)
theorem it_66_160 (Ls : Nat) (xs : Nat → Int32) : xPI Ls xs md_66 160 (.inl (xs_ic_le 167 163)) := by
  exact xs_ic_le_ok d_66_160 (by decide)
theorem it_66_163 (Ls : Nat) (xs : Nat → Int32) : xPI Ls xs md_66 163 (.inl (xs_c (2) 164)) := by
  exact xs_iconst_ok d_66_163 (by decide)
theorem it_66_164 (Ls : Nat) (xs : Nat → Int32) : xPI Ls xs md_66 164 (.inl (xs_goto 168)) := by
  exact xs_goto_ok d_66_164 (by decide)
theorem it_66_167 (Ls : Nat) (xs : Nat → Int32) : xPI Ls xs md_66 167 (.inl (xs_il 2 168)) := by
  exact xs_iload_n_ok d_66_167 rfl
theorem it_66_168 (Ls : Nat) (xs : Nat → Int32) : xPI Ls xs md_66 168 (.inl (xs_pf 6 2 0 171)) := by
  exact xs_pf_ok d_66_168 (C := R_6) (T := T_6) (N := N_6) (ty0 := Y_6) rfl in_6 ty_6 nm_6 (by decide) tw_789 (Or.inr ⟨rfl, rfl, rfl⟩) rfl
theorem it_66_171 (Ls : Nat) (xs : Nat → Int32) : xPI Ls xs md_66 171 (.inr (.inr 0)) := by
  exact ⟨rfl, d_66_171⟩
def K_66 (Ls : Nat) (xs : Nat → Int32) : Nat → Option xK := xbt 86 (xbt 41 (xbt 20 (xbt 9 (xbt 4 (xbt 1 (xlf 0 (.inl (xs_al 0 1))) (xlf 1 (.inl (xs_oi 4)))) (xbt 5 (xlf 4 (.inl (xs_al 0 5))) (xbt 7 (xlf 5 (.inl (xs_c (14) 7))) (xlf 7 (.inl (xs_nai 600003 7302198 9)))))) (xbt 13 (xbt 12 (xlf 9 (.inl (xs_pf 6 5 2 12))) (xlf 12 (.inl (xs_al 0 13)))) (xbt 15 (xlf 13 (.inl (xs_c (14) 15))) (xbt 17 (xlf 15 (.inl (xs_nai 600003 7302198 17))) (xlf 17 (.inl (xs_pf 6 6 2 20))))))) (xbt 29 (xbt 23 (xbt 21 (xlf 20 (.inl (xs_al 0 21))) (xlf 21 (.inl (xs_c (40) 23)))) (xbt 25 (xlf 23 (.inl (xs_nai 600003 7302198 25))) (xbt 28 (xlf 25 (.inl (xs_pf 6 7 2 28))) (xlf 28 (.inl (xs_al 0 29)))))) (xbt 36 (xbt 31 (xlf 29 (.inl (xs_c (6) 31))) (xbt 33 (xlf 31 (.inl (xs_naz 600003 7302198 33))) (xlf 33 (.inl (xs_pf 6 8 2 36))))) (xbt 37 (xlf 36 (.inl (xs_al 0 37))) (xbt 39 (xlf 37 (.inl (xs_c (78) 39))) (xlf 39 (.inl (xs_naz 600003 7302198 41)))))))) (xbt 63 (xbt 52 (xbt 45 (xbt 44 (xlf 41 (.inl (xs_pf 6 9 2 44))) (xlf 44 (.inl (xs_al 0 45)))) (xbt 47 (xlf 45 (.inl (xs_c (56) 47))) (xbt 49 (xlf 47 (.inl (xs_nai 600003 7302198 49))) (xlf 49 (.inl (xs_pf 6 11 2 52)))))) (xbt 57 (xbt 53 (xlf 52 (.inl (xs_al 0 53))) (xbt 55 (xlf 53 (.inl (xs_c (56) 55))) (xlf 55 (.inl (xs_nai 600003 7302198 57))))) (xbt 60 (xlf 57 (.inl (xs_pf 6 12 2 60))) (xbt 61 (xlf 60 (.inl (xs_al 0 61))) (xlf 61 (.inl (xs_c (56) 63))))))) (xbt 73 (xbt 68 (xbt 65 (xlf 63 (.inl (xs_nai 600003 7302198 65))) (xlf 65 (.inl (xs_pf 6 13 2 68)))) (xbt 69 (xlf 68 (.inl (xs_al 0 69))) (xbt 71 (xlf 69 (.inl (xs_c (14) 71))) (xlf 71 (.inl (xs_nai 600003 7302198 73)))))) (xbt 80 (xbt 76 (xlf 73 (.inl (xs_pf 6 14 2 76))) (xbt 77 (xlf 76 (.inl (xs_al 0 77))) (xlf 77 (.inl (xs_c (427) 80))))) (xbt 82 (xlf 80 (.inl (xs_naj 600003 7302198 82))) (xbt 85 (xlf 82 (.inl (xs_pf 6 17 2 85))) (xlf 85 (.inl (xs_al 0 86))))))))) (xbt 132 (xbt 108 (xbt 96 (xbt 91 (xbt 89 (xlf 86 (.inl (xs_c (780) 89))) (xlf 89 (.inl (xs_nai 600003 7302198 91)))) (xbt 94 (xlf 91 (.inl (xs_pf 6 18 2 94))) (xbt 95 (xlf 94 (.inl (xs_al 0 95))) (xlf 95 (.inl (xs_c (-1) 96)))))) (xbt 101 (xbt 99 (xlf 96 (.inl (xs_pf 6 19 0 99))) (xbt 100 (xlf 99 (.inl (xs_al 0 100))) (xlf 100 (.inl (xs_c (-1) 101))))) (xbt 104 (xlf 101 (.inl (xs_pf 6 20 0 104))) (xbt 105 (xlf 104 (.inl (xs_al 0 105))) (xlf 105 (.inl (xs_c (448) 108))))))) (xbt 119 (xbt 113 (xbt 110 (xlf 108 (.inl (xs_nai 600003 7302198 110))) (xlf 110 (.inl (xs_pf 6 22 2 113)))) (xbt 114 (xlf 113 (.inl (xs_al 0 114))) (xbt 117 (xlf 114 (.inl (xs_c (200) 117))) (xlf 117 (.inl (xs_nai 600003 7302198 119)))))) (xbt 126 (xbt 122 (xlf 119 (.inl (xs_pf 6 25 2 122))) (xbt 123 (xlf 122 (.inl (xs_al 0 123))) (xlf 123 (.inl (xs_c (200) 126))))) (xbt 128 (xlf 126 (.inl (xs_nai 600003 7302198 128))) (xbt 131 (xlf 128 (.inl (xs_pf 6 27 2 131))) (xlf 131 (.inl (xs_al 0 132)))))))) (xbt 152 (xbt 140 (xbt 134 (xbt 133 (xlf 132 (.inl (xs_il 1 133))) (xlf 133 (.inl (xs_c (1) 134)))) (xbt 137 (xlf 134 (.inl (xs_ic_lt 143 137))) (xbt 138 (xlf 137 (.inl (xs_il 1 138))) (xlf 138 (.inl (xs_c (7) 140)))))) (xbt 147 (xbt 143 (xlf 140 (.inl (xs_ic_le 147 143))) (xbt 144 (xlf 143 (.inl (xs_c (3) 144))) (xlf 144 (.inl (xs_goto 148))))) (xbt 148 (xlf 147 (.inl (xs_il 1 148))) (xbt 151 (xlf 148 (.inl (xs_pf 6 1 0 151))) (xlf 151 (.inl (xs_al 0 152))))))) (xbt 160 (xbt 154 (xbt 153 (xlf 152 (.inl (xs_il 2 153))) (xlf 153 (.inl (xs_c (1) 154)))) (xbt 157 (xlf 154 (.inl (xs_ic_lt 163 157))) (xbt 158 (xlf 157 (.inl (xs_il 2 158))) (xlf 158 (.inl (xs_c (6) 160)))))) (xbt 167 (xbt 163 (xlf 160 (.inl (xs_ic_le 167 163))) (xbt 164 (xlf 163 (.inl (xs_c (2) 164))) (xlf 164 (.inl (xs_goto 168))))) (xbt 168 (xlf 167 (.inl (xs_il 2 168))) (xbt 171 (xlf 168 (.inl (xs_pf 6 2 0 171))) (xlf 171 (.inr (.inr 0)))))))))
theorem ok_66 (Ls : Nat) (xs : Nat → Int32) : ∀ pc it, K_66 Ls xs pc = some it → xPI Ls xs md_66 pc it := by
  unfold K_66
  exact xbt_ok (xbt_ok (xbt_ok (xbt_ok (xbt_ok (xbt_ok (xlf_ok (it_66_0 Ls xs)) (xlf_ok (it_66_1 Ls xs))) (xbt_ok (xlf_ok (it_66_4 Ls xs)) (xbt_ok (xlf_ok (it_66_5 Ls xs)) (xlf_ok (it_66_7 Ls xs))))) (xbt_ok (xbt_ok (xlf_ok (it_66_9 Ls xs)) (xlf_ok (it_66_12 Ls xs))) (xbt_ok (xlf_ok (it_66_13 Ls xs)) (xbt_ok (xlf_ok (it_66_15 Ls xs)) (xlf_ok (it_66_17 Ls xs)))))) (xbt_ok (xbt_ok (xbt_ok (xlf_ok (it_66_20 Ls xs)) (xlf_ok (it_66_21 Ls xs))) (xbt_ok (xlf_ok (it_66_23 Ls xs)) (xbt_ok (xlf_ok (it_66_25 Ls xs)) (xlf_ok (it_66_28 Ls xs))))) (xbt_ok (xbt_ok (xlf_ok (it_66_29 Ls xs)) (xbt_ok (xlf_ok (it_66_31 Ls xs)) (xlf_ok (it_66_33 Ls xs)))) (xbt_ok (xlf_ok (it_66_36 Ls xs)) (xbt_ok (xlf_ok (it_66_37 Ls xs)) (xlf_ok (it_66_39 Ls xs))))))) (xbt_ok (xbt_ok (xbt_ok (xbt_ok (xlf_ok (it_66_41 Ls xs)) (xlf_ok (it_66_44 Ls xs))) (xbt_ok (xlf_ok (it_66_45 Ls xs)) (xbt_ok (xlf_ok (it_66_47 Ls xs)) (xlf_ok (it_66_49 Ls xs))))) (xbt_ok (xbt_ok (xlf_ok (it_66_52 Ls xs)) (xbt_ok (xlf_ok (it_66_53 Ls xs)) (xlf_ok (it_66_55 Ls xs)))) (xbt_ok (xlf_ok (it_66_57 Ls xs)) (xbt_ok (xlf_ok (it_66_60 Ls xs)) (xlf_ok (it_66_61 Ls xs)))))) (xbt_ok (xbt_ok (xbt_ok (xlf_ok (it_66_63 Ls xs)) (xlf_ok (it_66_65 Ls xs))) (xbt_ok (xlf_ok (it_66_68 Ls xs)) (xbt_ok (xlf_ok (it_66_69 Ls xs)) (xlf_ok (it_66_71 Ls xs))))) (xbt_ok (xbt_ok (xlf_ok (it_66_73 Ls xs)) (xbt_ok (xlf_ok (it_66_76 Ls xs)) (xlf_ok (it_66_77 Ls xs)))) (xbt_ok (xlf_ok (it_66_80 Ls xs)) (xbt_ok (xlf_ok (it_66_82 Ls xs)) (xlf_ok (it_66_85 Ls xs)))))))) (xbt_ok (xbt_ok (xbt_ok (xbt_ok (xbt_ok (xlf_ok (it_66_86 Ls xs)) (xlf_ok (it_66_89 Ls xs))) (xbt_ok (xlf_ok (it_66_91 Ls xs)) (xbt_ok (xlf_ok (it_66_94 Ls xs)) (xlf_ok (it_66_95 Ls xs))))) (xbt_ok (xbt_ok (xlf_ok (it_66_96 Ls xs)) (xbt_ok (xlf_ok (it_66_99 Ls xs)) (xlf_ok (it_66_100 Ls xs)))) (xbt_ok (xlf_ok (it_66_101 Ls xs)) (xbt_ok (xlf_ok (it_66_104 Ls xs)) (xlf_ok (it_66_105 Ls xs)))))) (xbt_ok (xbt_ok (xbt_ok (xlf_ok (it_66_108 Ls xs)) (xlf_ok (it_66_110 Ls xs))) (xbt_ok (xlf_ok (it_66_113 Ls xs)) (xbt_ok (xlf_ok (it_66_114 Ls xs)) (xlf_ok (it_66_117 Ls xs))))) (xbt_ok (xbt_ok (xlf_ok (it_66_119 Ls xs)) (xbt_ok (xlf_ok (it_66_122 Ls xs)) (xlf_ok (it_66_123 Ls xs)))) (xbt_ok (xlf_ok (it_66_126 Ls xs)) (xbt_ok (xlf_ok (it_66_128 Ls xs)) (xlf_ok (it_66_131 Ls xs))))))) (xbt_ok (xbt_ok (xbt_ok (xbt_ok (xlf_ok (it_66_132 Ls xs)) (xlf_ok (it_66_133 Ls xs))) (xbt_ok (xlf_ok (it_66_134 Ls xs)) (xbt_ok (xlf_ok (it_66_137 Ls xs)) (xlf_ok (it_66_138 Ls xs))))) (xbt_ok (xbt_ok (xlf_ok (it_66_140 Ls xs)) (xbt_ok (xlf_ok (it_66_143 Ls xs)) (xlf_ok (it_66_144 Ls xs)))) (xbt_ok (xlf_ok (it_66_147 Ls xs)) (xbt_ok (xlf_ok (it_66_148 Ls xs)) (xlf_ok (it_66_151 Ls xs)))))) (xbt_ok (xbt_ok (xbt_ok (xlf_ok (it_66_152 Ls xs)) (xlf_ok (it_66_153 Ls xs))) (xbt_ok (xlf_ok (it_66_154 Ls xs)) (xbt_ok (xlf_ok (it_66_157 Ls xs)) (xlf_ok (it_66_158 Ls xs))))) (xbt_ok (xbt_ok (xlf_ok (it_66_160 Ls xs)) (xbt_ok (xlf_ok (it_66_163 Ls xs)) (xlf_ok (it_66_164 Ls xs)))) (xbt_ok (xlf_ok (it_66_167 Ls xs)) (xbt_ok (xlf_ok (it_66_168 Ls xs)) (xlf_ok (it_66_171 Ls xs))))))))
theorem d_67_0 : decode prog_8_method_2_code 0 = .ok (.aload_n 0, 1) := by decide +kernel
theorem d_67_1 : decode prog_8_method_2_code 1 = .ok (.getfield 67, 3) := by decide +kernel
theorem d_67_4 : decode prog_8_method_2_code 4 = .ok (.ireturn, 1) := by decide +kernel
theorem it_67_0 (Ls : Nat) (xs : Nat → Int32) : xPI Ls xs md_67 0 (.inl (xs_al 0 1)) := by
  exact xs_aload_n_ok d_67_0 rfl
theorem it_67_1 (Ls : Nat) (xs : Nat → Int32) : xPI Ls xs md_67 1 (.inl (xs_gf 6 0 4)) := by
  exact xs_gf_ok d_67_1 (C := R_6) (T := T_6) (N := N_6) rfl in_6 (by decide) tw_787
theorem it_67_4 (Ls : Nat) (xs : Nat → Int32) : xPI Ls xs md_67 4 (.inr (.inr 1)) := by
  exact ⟨rfl, d_67_4⟩
def K_67 (Ls : Nat) (xs : Nat → Int32) : Nat → Option xK := xbt 1 (xlf 0 (.inl (xs_al 0 1))) (xbt 4 (xlf 1 (.inl (xs_gf 6 0 4))) (xlf 4 (.inr (.inr 1))))
theorem ok_67 (Ls : Nat) (xs : Nat → Int32) : ∀ pc it, K_67 Ls xs pc = some it → xPI Ls xs md_67 pc it := by
  unfold K_67
  exact xbt_ok (xlf_ok (it_67_0 Ls xs)) (xbt_ok (xlf_ok (it_67_1 Ls xs)) (xlf_ok (it_67_4 Ls xs)))
theorem d_68_0 : decode prog_8_method_3_code 0 = .ok (.aload_n 0, 1) := by decide +kernel
theorem d_68_1 : decode prog_8_method_3_code 1 = .ok (.iload_n 1, 1) := by decide +kernel
theorem d_68_2 : decode prog_8_method_3_code 2 = .ok (.putfield 67, 3) := by decide +kernel
theorem d_68_5 : decode prog_8_method_3_code 5 = .ok (.iconst (0), 1) := by decide +kernel
theorem d_68_6 : decode prog_8_method_3_code 6 = .ok (.ireturn, 1) := by decide +kernel
theorem it_68_0 (Ls : Nat) (xs : Nat → Int32) : xPI Ls xs md_68 0 (.inl (xs_al 0 1)) := by
  exact xs_aload_n_ok d_68_0 rfl
theorem it_68_1 (Ls : Nat) (xs : Nat → Int32) : xPI Ls xs md_68 1 (.inl (xs_il 1 2)) := by
  exact xs_iload_n_ok d_68_1 rfl
theorem it_68_2 (Ls : Nat) (xs : Nat → Int32) : xPI Ls xs md_68 2 (.inl (xs_pf 6 0 0 5)) := by
  exact xs_pf_ok d_68_2 (C := R_6) (T := T_6) (N := N_6) (ty0 := Y_6) rfl in_6 ty_6 nm_6 (by decide) tw_787 (Or.inl rfl) rfl
theorem it_68_5 (Ls : Nat) (xs : Nat → Int32) : xPI Ls xs md_68 5 (.inl (xs_c (0) 6)) := by
  exact xs_iconst_ok d_68_5 (by decide)
theorem it_68_6 (Ls : Nat) (xs : Nat → Int32) : xPI Ls xs md_68 6 (.inr (.inr 1)) := by
  exact ⟨rfl, d_68_6⟩
def K_68 (Ls : Nat) (xs : Nat → Int32) : Nat → Option xK := xbt 2 (xbt 1 (xlf 0 (.inl (xs_al 0 1))) (xlf 1 (.inl (xs_il 1 2)))) (xbt 5 (xlf 2 (.inl (xs_pf 6 0 0 5))) (xbt 6 (xlf 5 (.inl (xs_c (0) 6))) (xlf 6 (.inr (.inr 1)))))
theorem ok_68 (Ls : Nat) (xs : Nat → Int32) : ∀ pc it, K_68 Ls xs pc = some it → xPI Ls xs md_68 pc it := by
  unfold K_68
  exact xbt_ok (xbt_ok (xlf_ok (it_68_0 Ls xs)) (xlf_ok (it_68_1 Ls xs))) (xbt_ok (xlf_ok (it_68_2 Ls xs)) (xbt_ok (xlf_ok (it_68_5 Ls xs)) (xlf_ok (it_68_6 Ls xs))))
theorem d_69_0 : decode prog_8_method_4_code 0 = .ok (.iload_n 0, 1) := by decide +kernel
theorem d_69_1 : decode prog_8_method_4_code 1 = .ok (.iload_n 1, 1) := by decide +kernel
theorem d_69_2 : decode prog_8_method_4_code 2 = .ok (.if_icmp .lt (8), 3) := by decide +kernel
theorem d_69_5 : decode prog_8_method_4_code 5 = .ok (.iload_n 0, 1) := by decide +kernel
theorem d_69_6 : decode prog_8_method_4_code 6 = .ok (.iload_n 2, 1) := by decide +kernel
theorem d_69_7 : decode prog_8_method_4_code 7 = .ok (.if_icmp .le (7), 3) := by decide +kernel
theorem d_69_10 : decode prog_8_method_4_code 10 = .ok (.iconst (1), 1) := by decide +kernel
theorem d_69_11 : decode prog_8_method_4_code 11 = .ok (.goto (4), 3) := by decide +kernel
theorem d_69_14 : decode prog_8_method_4_code 14 = .ok (.iconst (0), 1) := by decide +kernel
theorem d_69_15 : decode prog_8_method_4_code 15 = .ok (.ireturn, 1) := by decide +kernel
theorem it_69_0 (Ls : Nat) (xs : Nat → Int32) : xPI Ls xs md_69 0 (.inl (xs_il 0 1)) := by
  exact xs_iload_n_ok d_69_0 rfl
theorem it_69_1 (Ls : Nat) (xs : Nat → Int32) : xPI Ls xs md_69 1 (.inl (xs_il 1 2)) := by
  exact xs_iload_n_ok d_69_1 rfl
theorem it_69_2 (Ls : Nat) (xs : Nat → Int32) : xPI Ls xs md_69 2 (.inl (xs_ic_lt 10 5)) := by
  exact xs_ic_lt_ok d_69_2 (by decide)
theorem it_69_5 (Ls : Nat) (xs : Nat → Int32) : xPI Ls xs md_69 5 (.inl (xs_il 0 6)) := by
  exact xs_iload_n_ok d_69_5 rfl
theorem it_69_6 (Ls : Nat) (xs : Nat → Int32) : xPI Ls xs md_69 6 (.inl (xs_il 2 7)) := by
  exact xs_iload_n_ok d_69_6 rfl
theorem it_69_7 (Ls : Nat) (xs : Nat → Int32) : xPI Ls xs md_69 7 (.inl (xs_ic_le 14 10)) := by
  exact xs_ic_le_ok d_69_7 (by decide)
theorem it_69_10 (Ls : Nat) (xs : Nat → Int32) : xPI Ls xs md_69 10 (.inl (xs_c (1) 11)) := by
  exact xs_iconst_ok d_69_10 (by decide)
theorem it_69_11 (Ls : Nat) (xs : Nat → Int32) : xPI Ls xs md_69 11 (.inl (xs_goto 15)) := by
  exact xs_goto_ok d_69_11 (by decide)
theorem it_69_14 (Ls : Nat) (xs : Nat → Int32) : xPI Ls xs md_69 14 (.inl (xs_c (0) 15)) := by
  exact xs_iconst_ok d_69_14 (by decide)
theorem it_69_15 (Ls : Nat) (xs : Nat → Int32) : xPI Ls xs md_69 15 (.inr (.inr 2)) := by
  exact ⟨rfl, d_69_15⟩
def K_69 (Ls : Nat) (xs : Nat → Int32) : Nat → Option xK := xbt 7 (xbt 2 (xbt 1 (xlf 0 (.inl (xs_il 0 1))) (xlf 1 (.inl (xs_il 1 2)))) (xbt 5 (xlf 2 (.inl (xs_ic_lt 10 5))) (xbt 6 (xlf 5 (.inl (xs_il 0 6))) (xlf 6 (.inl (xs_il 2 7)))))) (xbt 11 (xbt 10 (xlf 7 (.inl (xs_ic_le 14 10))) (xlf 10 (.inl (xs_c (1) 11)))) (xbt 14 (xlf 11 (.inl (xs_goto 15))) (xbt 15 (xlf 14 (.inl (xs_c (0) 15))) (xlf 15 (.inr (.inr 2))))))
theorem ok_69 (Ls : Nat) (xs : Nat → Int32) : ∀ pc it, K_69 Ls xs pc = some it → xPI Ls xs md_69 pc it := by
  unfold K_69
  exact xbt_ok (xbt_ok (xbt_ok (xlf_ok (it_69_0 Ls xs)) (xlf_ok (it_69_1 Ls xs))) (xbt_ok (xlf_ok (it_69_2 Ls xs)) (xbt_ok (xlf_ok (it_69_5 Ls xs)) (xlf_ok (it_69_6 Ls xs))))) (xbt_ok (xbt_ok (xlf_ok (it_69_7 Ls xs)) (xlf_ok (it_69_10 Ls xs))) (xbt_ok (xlf_ok (it_69_11 Ls xs)) (xbt_ok (xlf_ok (it_69_14 Ls xs)) (xlf_ok (it_69_15 Ls xs)))))
theorem d_70_0 : decode prog_8_method_5_code 0 = .ok (.iload_n 1, 1) := by decide +kernel
theorem d_70_1 : decode prog_8_method_5_code 1 = .ok (.aload_n 0, 1) := by decide +kernel
theorem d_70_2 : decode prog_8_method_5_code 2 = .ok (.getfield 61, 3) := by decide +kernel
theorem d_70_5 : decode prog_8_method_5_code 5 = .ok (.aload_n 0, 1) := by decide +kernel
theorem d_70_6 : decode prog_8_method_5_code 6 = .ok (.getfield 61, 3) := by decide +kernel
theorem d_70_9 : decode prog_8_method_5_code 9 = .ok (.aload_n 0, 1) := by decide +kernel
theorem d_70_10 : decode prog_8_method_5_code 10 = .ok (.getfield 64, 3) := by decide +kernel
theorem d_70_13 : decode prog_8_method_5_code 13 = .ok (.iadd, 1) := by decide +kernel
theorem d_70_14 : decode prog_8_method_5_code 14 = .ok (.iconst (1), 1) := by decide +kernel
theorem d_70_15 : decode prog_8_method_5_code 15 = .ok (.isub, 1) := by decide +kernel
theorem d_70_16 : decode prog_8_method_5_code 16 = .ok (.invokestatic 70, 3) := by decide +kernel
theorem d_70_19 : decode prog_8_method_5_code 19 = .ok (.ifCond .ne (7), 3) := by decide +kernel
theorem d_70_22 : decode prog_8_method_5_code 22 = .ok (.iconst (1), 1) := by decide +kernel
theorem d_70_23 : decode prog_8_method_5_code 23 = .ok (.goto (4), 3) := by decide +kernel
theorem d_70_26 : decode prog_8_method_5_code 26 = .ok (.iconst (0), 1) := by decide +kernel
theorem d_70_27 : decode prog_8_method_5_code 27 = .ok (.ireturn, 1) := by decide +kernel
theorem it_70_0 (Ls : Nat) (xs : Nat → Int32) : xPI Ls xs md_70 0 (.inl (xs_il 1 1)) := by
  exact xs_iload_n_ok d_70_0 rfl
theorem it_70_1 (Ls : Nat) (xs : Nat → Int32) : xPI Ls xs md_70 1 (.inl (xs_al 0 2)) := by
  exact xs_aload_n_ok d_70_1 rfl
theorem it_70_2 (Ls : Nat) (xs : Nat → Int32) : xPI Ls xs md_70 2 (.inl (xs_gf 6 1 5)) := by
  exact xs_gf_ok d_70_2 (C := R_6) (T := T_6) (N := N_6) rfl in_6 (by decide) tw_788
theorem it_70_5 (Ls : Nat) (xs : Nat → Int32) : xPI Ls xs md_70 5 (.inl (xs_al 0 6)) := by
  exact xs_aload_n_ok d_70_5 rfl
theorem it_70_6 (Ls : Nat) (xs : Nat → Int32) : xPI Ls xs md_70 6 (.inl (xs_gf 6 1 9)) := by
  exact xs_gf_ok d_70_6 (C := R_6) (T := T_6) (N := N_6) rfl in_6 (by decide) tw_788
theorem it_70_9 (Ls : Nat) (xs : Nat → Int32) : xPI Ls xs md_70 9 (.inl (xs_al 0 10)) := by
  exact xs_aload_n_ok d_70_9 rfl
theorem it_70_10 (Ls : Nat) (xs : Nat → Int32) : xPI Ls xs md_70 10 (.inl (xs_gf 6 2 13)) := by
  exact xs_gf_ok d_70_10 (C := R_6) (T := T_6) (N := N_6) rfl in_6 (by decide) tw_789
theorem it_70_13 (Ls : Nat) (xs : Nat → Int32) : xPI Ls xs md_70 13 (.inl (xs_iadd 14)) := by
  exact xs_iadd_ok d_70_13
theorem it_70_14 (Ls : Nat) (xs : Nat → Int32) : xPI Ls xs md_70 14 (.inl (xs_c (1) 15)) := by
  exact xs_iconst_ok d_70_14 (by decide)
theorem it_70_15 (Ls : Nat) (xs : Nat → Int32) : xPI Ls xs md_70 15 (.inl (xs_isub 16)) := by
  exact xs_isub_ok d_70_15
theorem it_70_16 (Ls : Nat) (xs : Nat → Int32) : xPI Ls xs md_70 16 (.inr (.inl (69, 3, 0, []))) := by
  exact ⟨md_69, rfl, tw_7, by decide, ⟨by decide, by decide⟩, Or.inl ⟨rfl, rfl, 70, d_70_16, tw_888, tw_889, by decide +kernel⟩⟩
theorem it_70_19 (Ls : Nat) (xs : Nat → Int32) : xPI Ls xs md_70 19 (.inl (xs_if_ne 26 22)) := by
  exact xs_if_ne_ok d_70_19 (by decide)
theorem it_70_22 (Ls : Nat) (xs : Nat → Int32) : xPI Ls xs md_70 22 (.inl (xs_c (1) 23)) := by
  exact xs_iconst_ok d_70_22 (by decide)
theorem it_70_23 (Ls : Nat) (xs : Nat → Int32) : xPI Ls xs md_70 23 (.inl (xs_goto 27)) := by
  exact xs_goto_ok d_70_23 (by decide)
theorem it_70_26 (Ls : Nat) (xs : Nat → Int32) : xPI Ls xs md_70 26 (.inl (xs_c (0) 27)) := by
  exact xs_iconst_ok d_70_26 (by decide)
theorem it_70_27 (Ls : Nat) (xs : Nat → Int32) : xPI Ls xs md_70 27 (.inr (.inr 2)) := by
  exact ⟨rfl, d_70_27⟩
def K_70 (Ls : Nat) (xs : Nat → Int32) : Nat → Option xK := xbt 14 (xbt 6 (xbt 2 (xbt 1 (xlf 0 (.inl (xs_il 1 1))) (xlf 1 (.inl (xs_al 0 2)))) (xbt 5 (xlf 2 (.inl (xs_gf 6 1 5))) (xlf 5 (.inl (xs_al 0 6))))) (xbt 10 (xbt 9 (xlf 6 (.inl (xs_gf 6 1 9))) (xlf 9 (.inl (xs_al 0 10)))) (xbt 13 (xlf 10 (.inl (xs_gf 6 2 13))) (xlf 13 (.inl (xs_iadd 14)))))) (xbt 22 (xbt 16 (xbt 15 (xlf 14 (.inl (xs_c (1) 15))) (xlf 15 (.inl (xs_isub 16)))) (xbt 19 (xlf 16 (.inr (.inl (69, 3, 0, [])))) (xlf 19 (.inl (xs_if_ne 26 22))))) (xbt 26 (xbt 23 (xlf 22 (.inl (xs_c (1) 23))) (xlf 23 (.inl (xs_goto 27)))) (xbt 27 (xlf 26 (.inl (xs_c (0) 27))) (xlf 27 (.inr (.inr 2))))))
theorem ok_70 (Ls : Nat) (xs : Nat → Int32) : ∀ pc it, K_70 Ls xs pc = some it → xPI Ls xs md_70 pc it := by
  unfold K_70
  exact xbt_ok (xbt_ok (xbt_ok (xbt_ok (xlf_ok (it_70_0 Ls xs)) (xlf_ok (it_70_1 Ls xs))) (xbt_ok (xlf_ok (it_70_2 Ls xs)) (xlf_ok (it_70_5 Ls xs)))) (xbt_ok (xbt_ok (xlf_ok (it_70_6 Ls xs)) (xlf_ok (it_70_9 Ls xs))) (xbt_ok (xlf_ok (it_70_10 Ls xs)) (xlf_ok (it_70_13 Ls xs))))) (xbt_ok (xbt_ok (xbt_ok (xlf_ok (it_70_14 Ls xs)) (xlf_ok (it_70_15 Ls xs))) (xbt_ok (xlf_ok (it_70_16 Ls xs)) (xlf_ok (it_70_19 Ls xs)))) (xbt_ok (xbt_ok (xlf_ok (it_70_22 Ls xs)) (xlf_ok (it_70_23 Ls xs))) (xbt_ok (xlf_ok (it_70_26 Ls xs)) (xlf_ok (it_70_27 Ls xs)))))
theorem d_71_0 : decode prog_8_method_6_code 0 = .ok (.aload_n 0, 1) := by decide +kernel
theorem d_71_1 : decode prog_8_method_6_code 1 = .ok (.iconst (-1), 1) := by decide +kernel
theorem d_71_2 : decode prog_8_method_6_code 2 = .ok (.putfield 45, 3) := by decide +kernel
theorem d_71_5 : decode prog_8_method_6_code 5 = .ok (.aload_n 0, 1) := by decide +kernel
theorem d_71_6 : decode prog_8_method_6_code 6 = .ok (.iconst (-1), 1) := by decide +kernel
theorem d_71_7 : decode prog_8_method_6_code 7 = .ok (.putfield 49, 3) := by decide +kernel
theorem d_71_10 : decode prog_8_method_6_code 10 = .ok (.aload_n 0, 1) := by decide +kernel
theorem d_71_11 : decode prog_8_method_6_code 11 = .ok (.invokevirtual 74, 3) := by decide +kernel
theorem d_71_14 : decode prog_8_method_6_code 14 = .ok (.return_, 1) := by decide +kernel
theorem it_71_0 (Ls : Nat) (xs : Nat → Int32) : xPI Ls xs md_71 0 (.inl (xs_al 0 1)) := by
  exact xs_aload_n_ok d_71_0 rfl
theorem it_71_1 (Ls : Nat) (xs : Nat → Int32) : xPI Ls xs md_71 1 (.inl (xs_c (-1) 2)) := by
  exact xs_iconst_ok d_71_1 (by decide)
theorem it_71_2 (Ls : Nat) (xs : Nat → Int32) : xPI Ls xs md_71 2 (.inl (xs_pf 6 19 0 5)) := by
  exact xs_pf_ok d_71_2 (C := R_6) (T := T_6) (N := N_6) (ty0 := Y_6) rfl in_6 ty_6 nm_6 (by decide) tw_806 (Or.inl rfl) rfl
theorem it_71_5 (Ls : Nat) (xs : Nat → Int32) : xPI Ls xs md_71 5 (.inl (xs_al 0 6)) := by
  exact xs_aload_n_ok d_71_5 rfl
theorem it_71_6 (Ls : Nat) (xs : Nat → Int32) : xPI Ls xs md_71 6 (.inl (xs_c (-1) 7)) := by
  exact xs_iconst_ok d_71_6 (by decide)
theorem it_71_7 (Ls : Nat) (xs : Nat → Int32) : xPI Ls xs md_71 7 (.inl (xs_pf 6 20 0 10)) := by
  exact xs_pf_ok d_71_7 (C := R_6) (T := T_6) (N := N_6) (ty0 := Y_6) rfl in_6 ty_6 nm_6 (by decide) tw_807 (Or.inl rfl) rfl
theorem it_71_10 (Ls : Nat) (xs : Nat → Int32) : xPI Ls xs md_71 10 (.inl (xs_al 0 11)) := by
  exact xs_aload_n_ok d_71_10 rfl
theorem it_71_11 (Ls : Nat) (xs : Nat → Int32) : xPI Ls xs md_71 11 (.inr (.inl (78, 1, 8, []))) := by
  exact ⟨md_78, rfl, tw_7, by decide, ⟨by decide, by decide⟩, Or.inr (Or.inr ⟨6, R_6, T_6, N_6, 74, 0, rfl, rfl, rfl, rfl, d_71_11, tw_895, tw_897, ts_TableMakerModel_relate, by decide +kernel, (fun x q h => by cases h)⟩)⟩
theorem it_71_14 (Ls : Nat) (xs : Nat → Int32) : xPI Ls xs md_71 14 (.inr (.inr 0)) := by
  exact ⟨rfl, d_71_14⟩
def K_71 (Ls : Nat) (xs : Nat → Int32) : Nat → Option xK := xbt 6 (xbt 2 (xbt 1 (xlf 0 (.inl (xs_al 0 1))) (xlf 1 (.inl (xs_c (-1) 2)))) (xbt 5 (xlf 2 (.inl (xs_pf 6 19 0 5))) (xlf 5 (.inl (xs_al 0 6))))) (xbt 10 (xbt 7 (xlf 6 (.inl (xs_c (-1) 7))) (xlf 7 (.inl (xs_pf 6 20 0 10)))) (xbt 11 (xlf 10 (.inl (xs_al 0 11))) (xbt 14 (xlf 11 (.inr (.inl (78, 1, 8, [])))) (xlf 14 (.inr (.inr 0))))))
theorem ok_71 (Ls : Nat) (xs : Nat → Int32) : ∀ pc it, K_71 Ls xs pc = some it → xPI Ls xs md_71 pc it := by
  unfold K_71
  exact xbt_ok (xbt_ok (xbt_ok (xlf_ok (it_71_0 Ls xs)) (xlf_ok (it_71_1 Ls xs))) (xbt_ok (xlf_ok (it_71_2 Ls xs)) (xlf_ok (it_71_5 Ls xs)))) (xbt_ok (xbt_ok (xlf_ok (it_71_6 Ls xs)) (xlf_ok (it_71_7 Ls xs))) (xbt_ok (xlf_ok (it_71_10 Ls xs)) (xbt_ok (xlf_ok (it_71_11 Ls xs)) (xlf_ok (it_71_14 Ls xs)))))
theorem d_72_0 : decode prog_8_method_7_code 0 = .ok (.aload_n 0, 1) := by decide +kernel
theorem d_72_1 : decode prog_8_method_7_code 1 = .ok (.aload_n 0, 1) := by decide +kernel
theorem d_72_2 : decode prog_8_method_7_code 2 = .ok (.iload_n 1, 1) := by decide +kernel
theorem d_72_3 : decode prog_8_method_7_code 3 = .ok (.invokevirtual 77, 3) := by decide +kernel
theorem d_72_6 : decode prog_8_method_7_code 6 = .ok (.ifCond .ne (7), 3) := by decide +kernel
theorem d_72_9 : decode prog_8_method_7_code 9 = .ok (.iconst (1), 1) := by decide +kernel
theorem d_72_10 : decode prog_8_method_7_code 10 = .ok (.goto (24), 3) := by decide +kernel
theorem d_72_13 : decode prog_8_method_7_code 13 = .ok (.aload_n 0, 1) := by decide +kernel
theorem d_72_14 : decode prog_8_method_7_code 14 = .ok (.getfield 81, 3) := by decide +kernel
theorem d_72_17 : decode prog_8_method_7_code 17 = .ok (.ifCond .ne (12), 3) := by decide +kernel
theorem d_72_20 : decode prog_8_method_7_code 20 = .ok (.aload_n 0, 1) := by decide +kernel
theorem d_72_21 : decode prog_8_method_7_code 21 = .ok (.getfield 85, 3) := by decide +kernel
theorem d_72_24 : decode prog_8_method_7_code 24 = .ok (.bipush (14), 2) := by decide +kernel
theorem d_72_26 : decode prog_8_method_7_code 26 = .ok (.if_icmp .ne (7), 3) := by decide +kernel
theorem d_72_29 : decode prog_8_method_7_code 29 = .ok (.iconst (2), 1) := by decide +kernel
theorem d_72_30 : decode prog_8_method_7_code 30 = .ok (.goto (4), 3) := by decide +kernel
theorem d_72_33 : decode prog_8_method_7_code 33 = .ok (.iconst (0), 1) := by decide +kernel
theorem d_72_34 : decode prog_8_method_7_code 34 = .ok (.putfield 67, 3) := by decide +kernel
theorem d_72_37 : decode prog_8_method_7_code 37 = .ok (.aload_n 0, 1) := by decide +kernel
theorem d_72_38 : decode prog_8_method_7_code 38 = .ok (.getfield 67, 3) := by decide +kernel
theorem d_72_41 : decode prog_8_method_7_code 41 = .ok (.ifCond .le (5), 3) := by decide +kernel
theorem d_72_44 : decode prog_8_method_7_code 44 = .ok (.iconst (0), 1) := by decide +kernel
theorem d_72_45 : decode prog_8_method_7_code 45 = .ok (.ireturn, 1) := by decide +kernel
theorem d_72_46 : decode prog_8_method_7_code 46 = .ok (.aload_n 0, 1) := by decide +kernel
theorem d_72_47 : decode prog_8_method_7_code 47 = .ok (.getfield 7, 3) := by decide +kernel
theorem d_72_50 : decode prog_8_method_7_code 50 = .ok (.aload_n 0, 1) := by decide +kernel
theorem d_72_51 : decode prog_8_method_7_code 51 = .ok (.getfield 85, 3) := by decide +kernel
theorem d_72_54 : decode prog_8_method_7_code 54 = .ok (.iload_n 1, 1) := by decide +kernel
theorem d_72_55 : decode prog_8_method_7_code 55 = .ok (.iastore, 1) := by decide +kernel
theorem d_72_56 : decode prog_8_method_7_code 56 = .ok (.aload_n 0, 1) := by decide +kernel
theorem d_72_57 : decode prog_8_method_7_code 57 = .ok (.getfield 13, 3) := by decide +kernel
theorem d_72_60 : decode prog_8_method_7_code 60 = .ok (.aload_n 0, 1) := by decide +kernel
theorem d_72_61 : decode prog_8_method_7_code 61 = .ok (.getfield 85, 3) := by decide +kernel
theorem d_72_64 : decode prog_8_method_7_code 64 = .ok (.iconst (0), 1) := by decide +kernel
theorem d_72_65 : decode prog_8_method_7_code 65 = .ok (.iastore, 1) := by decide +kernel
theorem d_72_66 : decode prog_8_method_7_code 66 = .ok (.aload_n 0, 1) := by decide +kernel
theorem d_72_67 : decode prog_8_method_7_code 67 = .ok (.dup, 1) := by decide +kernel
theorem d_72_68 : decode prog_8_method_7_code 68 = .ok (.getfield 85, 3) := by decide +kernel
theorem d_72_71 : decode prog_8_method_7_code 71 = .ok (.iconst (1), 1) := by decide +kernel
theorem d_72_72 : decode prog_8_method_7_code 72 = .ok (.iadd, 1) := by decide +kernel
theorem d_72_73 : decode prog_8_method_7_code 73 = .ok (.putfield 85, 3) := by decide +kernel
theorem d_72_76 : decode prog_8_method_7_code 76 = .ok (.aload_n 0, 1) := by decide +kernel
theorem d_72_77 : decode prog_8_method_7_code 77 = .ok (.invokevirtual 88, 3) := by decide +kernel
theorem d_72_80 : decode prog_8_method_7_code 80 = .ok (.aload_n 0, 1) := by decide +kernel
theorem d_72_81 : decode prog_8_method_7_code 81 = .ok (.getfield 85, 3) := by decide +kernel
theorem d_72_84 : decode prog_8_method_7_code 84 = .ok (.iconst (1), 1) := by decide +kernel
theorem d_72_85 : decode prog_8_method_7_code 85 = .ok (.isub, 1) := by decide +kernel
theorem d_72_86 : decode prog_8_method_7_code 86 = .ok (.ireturn, 1) := by decide +kernel
theorem it_72_0 (Ls : Nat) (xs : Nat → Int32) : xPI Ls xs md_72 0 (.inl (xs_al 0 1)) := by
  exact xs_aload_n_ok d_72_0 rfl
theorem it_72_1 (Ls : Nat) (xs : Nat → Int32) : xPI Ls xs md_72 1 (.inl (xs_al 0 2)) := by
  exact xs_aload_n_ok d_72_1 rfl
theorem it_72_2 (Ls : Nat) (xs : Nat → Int32) : xPI Ls xs md_72 2 (.inl (xs_il 1 3)) := by
  exact xs_iload_n_ok d_72_2 rfl
theorem it_72_3 (Ls : Nat) (xs : Nat → Int32) : xPI Ls xs md_72 3 (.inr (.inl (70, 2, 8, []))) := by
  exact ⟨md_70, rfl, tw_7, by decide, ⟨by decide, by decide⟩, Or.inr (Or.inr ⟨6, R_6, T_6, N_6, 77, 1, rfl, rfl, rfl, rfl, d_72_3, tw_884, tw_886, ts_TableMakerModel_isNonterminal, by decide +kernel, (fun x q h => by cases h)⟩)⟩
theorem it_72_6 (Ls : Nat) (xs : Nat → Int32) : xPI Ls xs md_72 6 (.inl (xs_if_ne 13 9)) := by
  exact xs_if_ne_ok d_72_6 (by decide)
theorem it_72_9 (Ls : Nat) (xs : Nat → Int32) : xPI Ls xs md_72 9 (.inl (xs_c (1) 10)) := by
  exact xs_iconst_ok d_72_9 (by decide)
theorem it_72_10 (Ls : Nat) (xs : Nat → Int32) : xPI Ls xs md_72 10 (.inl (xs_goto 34)) := by
  exact xs_goto_ok d_72_10 (by decide)
theorem it_72_13 (Ls : Nat) (xs : Nat → Int32) : xPI Ls xs md_72 13 (.inl (xs_al 0 14)) := by
  exact xs_aload_n_ok d_72_13 rfl
theorem it_72_14 (Ls : Nat) (xs : Nat → Int32) : xPI Ls xs md_72 14 (.inl (xs_gf 6 15 17)) := by
  exact xs_gf_ok d_72_14 (C := R_6) (T := T_6) (N := N_6) rfl in_6 (by decide) tw_802
theorem it_72_17 (Ls : Nat) (xs : Nat → Int32) : xPI Ls xs md_72 17 (.inl (xs_if_ne 29 20)) := by
  exact xs_if_ne_ok d_72_17 (by decide)
theorem it_72_20 (Ls : Nat) (xs : Nat → Int32) : xPI Ls xs md_72 20 (.inl (xs_al 0 21)) := by
  exact xs_aload_n_ok d_72_20 rfl
theorem it_72_21 (Ls : Nat) (xs : Nat → Int32) : xPI Ls xs md_72 21 (.inl (xs_gf 6 3 24)) := by
  exact xs_gf_ok d_72_21 (C := R_6) (T := T_6) (N := N_6) rfl in_6 (by decide) tw_790
theorem it_72_24 (Ls : Nat) (xs : Nat → Int32) : xPI Ls xs md_72 24 (.inl (xs_c (14) 26)) := by
  exact xs_bipush_ok d_72_24 (by decide)
theorem it_72_26 (Ls : Nat) (xs : Nat → Int32) : xPI Ls xs md_72 26 (.inl (xs_ic_ne 33 29)) := by
  exact xs_ic_ne_ok d_72_26 (by decide)
theorem it_72_29 (Ls : Nat) (xs : Nat → Int32) : xPI Ls xs md_72 29 (.inl (xs_c (2) 30)) := by
  exact xs_iconst_ok d_72_29 (by decide)
theorem it_72_30 (Ls : Nat) (xs : Nat → Int32) : xPI Ls xs md_72 30 (.inl (xs_goto 34)) := by
  exact xs_goto_ok d_72_30 (by decide)
theorem it_72_33 (Ls : Nat) (xs : Nat → Int32) : xPI Ls xs md_72 33 (.inl (xs_c (0) 34)) := by
  exact xs_iconst_ok d_72_33 (by decide)
theorem it_72_34 (Ls : Nat) (xs : Nat → Int32) : xPI Ls xs md_72 34 (.inl (xs_pf 6 0 0 37)) := by
  exact xs_pf_ok d_72_34 (C := R_6) (T := T_6) (N := N_6) (ty0 := Y_6) rfl in_6 ty_6 nm_6 (by decide) tw_787 (Or.inl rfl) rfl
theorem it_72_37 (Ls : Nat) (xs : Nat → Int32) : xPI Ls xs md_72 37 (.inl (xs_al 0 38)) := by
  exact xs_aload_n_ok d_72_37 rfl
theorem it_72_38 (Ls : Nat) (xs : Nat → Int32) : xPI Ls xs md_72 38 (.inl (xs_gf 6 0 41)) := by
  exact xs_gf_ok d_72_38 (C := R_6) (T := T_6) (N := N_6) rfl in_6 (by decide) tw_787
theorem it_72_41 (Ls : Nat) (xs : Nat → Int32) : xPI Ls xs md_72 41 (.inl (xs_if_le 46 44)) := by
  exact xs_if_le_ok d_72_41 (by decide)
theorem it_72_44 (Ls : Nat) (xs : Nat → Int32) : xPI Ls xs md_72 44 (.inl (xs_c (0) 45)) := by
  exact xs_iconst_ok d_72_44 (by decide)
theorem it_72_45 (Ls : Nat) (xs : Nat → Int32) : xPI Ls xs md_72 45 (.inr (.inr 1)) := by
  exact ⟨rfl, d_72_45⟩
theorem it_72_46 (Ls : Nat) (xs : Nat → Int32) : xPI Ls xs md_72 46 (.inl (xs_al 0 47)) := by
  exact xs_aload_n_ok d_72_46 rfl
theorem it_72_47 (Ls : Nat) (xs : Nat → Int32) : xPI Ls xs md_72 47 (.inl (xs_gf 6 5 50)) := by
  exact xs_gf_ok d_72_47 (C := R_6) (T := T_6) (N := N_6) rfl in_6 (by decide) tw_792
theorem it_72_50 (Ls : Nat) (xs : Nat → Int32) : xPI Ls xs md_72 50 (.inl (xs_al 0 51)) := by
  exact xs_aload_n_ok d_72_50 rfl
theorem it_72_51 (Ls : Nat) (xs : Nat → Int32) : xPI Ls xs md_72 51 (.inl (xs_gf 6 3 54)) := by
  exact xs_gf_ok d_72_51 (C := R_6) (T := T_6) (N := N_6) rfl in_6 (by decide) tw_790
theorem it_72_54 (Ls : Nat) (xs : Nat → Int32) : xPI Ls xs md_72 54 (.inl (xs_il 1 55)) := by
  exact xs_iload_n_ok d_72_54 rfl
theorem it_72_55 (Ls : Nat) (xs : Nat → Int32) : xPI Ls xs md_72 55 (.inl (xs_ias 56)) := by
  exact xs_ias_ok d_72_55
theorem it_72_56 (Ls : Nat) (xs : Nat → Int32) : xPI Ls xs md_72 56 (.inl (xs_al 0 57)) := by
  exact xs_aload_n_ok d_72_56 rfl
theorem it_72_57 (Ls : Nat) (xs : Nat → Int32) : xPI Ls xs md_72 57 (.inl (xs_gf 6 6 60)) := by
  exact xs_gf_ok d_72_57 (C := R_6) (T := T_6) (N := N_6) rfl in_6 (by decide) tw_793
theorem it_72_60 (Ls : Nat) (xs : Nat → Int32) : xPI Ls xs md_72 60 (.inl (xs_al 0 61)) := by
  exact xs_aload_n_ok d_72_60 rfl
theorem it_72_61 (Ls : Nat) (xs : Nat → Int32) : xPI Ls xs md_72 61 (.inl (xs_gf 6 3 64)) := by
  exact xs_gf_ok d_72_61 (C := R_6) (T := T_6) (N := N_6) rfl in_6 (by decide) tw_790
theorem it_72_64 (Ls : Nat) (xs : Nat → Int32) : xPI Ls xs md_72 64 (.inl (xs_c (0) 65)) := by
  exact xs_iconst_ok d_72_64 (by decide)
theorem it_72_65 (Ls : Nat) (xs : Nat → Int32) : xPI Ls xs md_72 65 (.inl (xs_ias 66)) := by
  exact xs_ias_ok d_72_65
theorem it_72_66 (Ls : Nat) (xs : Nat → Int32) : xPI Ls xs md_72 66 (.inl (xs_al 0 67)) := by
  exact xs_aload_n_ok d_72_66 rfl
theorem it_72_67 (Ls : Nat) (xs : Nat → Int32) : xPI Ls xs md_72 67 (.inl (xs_dup 68)) := by
  exact xs_dup_ok d_72_67
theorem it_72_68 (Ls : Nat) (xs : Nat → Int32) : xPI Ls xs md_72 68 (.inl (xs_gf 6 3 71)) := by
  exact xs_gf_ok d_72_68 (C := R_6) (T := T_6) (N := N_6) rfl in_6 (by decide) tw_790
theorem it_72_71 (Ls : Nat) (xs : Nat → Int32) : xPI Ls xs md_72 71 (.inl (xs_c (1) 72)) := by
  exact xs_iconst_ok d_72_71 (by decide)
theorem it_72_72 (Ls : Nat) (xs : Nat → Int32) : xPI Ls xs md_72 72 (.inl (xs_iadd 73)) := by
  exact xs_iadd_ok d_72_72
theorem it_72_73 (Ls : Nat) (xs : Nat → Int32) : xPI Ls xs md_72 73 (.inl (xs_pf 6 3 0 76)) := by
  exact xs_pf_ok d_72_73 (C := R_6) (T := T_6) (N := N_6) (ty0 := Y_6) rfl in_6 ty_6 nm_6 (by decide) tw_790 (Or.inl rfl) rfl
theorem it_72_76 (Ls : Nat) (xs : Nat → Int32) : xPI Ls xs md_72 76 (.inl (xs_al 0 77)) := by
  exact xs_aload_n_ok d_72_76 rfl
theorem it_72_77 (Ls : Nat) (xs : Nat → Int32) : xPI Ls xs md_72 77 (.inr (.inl (71, 1, 8, []))) := by
  exact ⟨md_71, rfl, tw_7, by decide, ⟨by decide, by decide⟩, Or.inr (Or.inr ⟨6, R_6, T_6, N_6, 88, 0, rfl, rfl, rfl, rfl, d_72_77, tw_891, tw_893, ts_TableMakerModel_changed, by decide +kernel, (fun x q h => by cases h)⟩)⟩
theorem it_72_80 (Ls : Nat) (xs : Nat → Int32) : xPI Ls xs md_72 80 (.inl (xs_al 0 81)) := by
  exact xs_aload_n_ok d_72_80 rfl
theorem it_72_81 (Ls : Nat) (xs : Nat → Int32) : xPI Ls xs md_72 81 (.inl (xs_gf 6 3 84)) := by
  exact xs_gf_ok d_72_81 (C := R_6) (T := T_6) (N := N_6) rfl in_6 (by decide) tw_790
theorem it_72_84 (Ls : Nat) (xs : Nat → Int32) : xPI Ls xs md_72 84 (.inl (xs_c (1) 85)) := by
  exact xs_iconst_ok d_72_84 (by decide)
theorem it_72_85 (Ls : Nat) (xs : Nat → Int32) : xPI Ls xs md_72 85 (.inl (xs_isub 86)) := by
  exact xs_isub_ok d_72_85
theorem it_72_86 (Ls : Nat) (xs : Nat → Int32) : xPI Ls xs md_72 86 (.inr (.inr 1)) := by
  exact ⟨rfl, d_72_86⟩
def K_72 (Ls : Nat) (xs : Nat → Int32) : Nat → Option xK := xbt 47 (xbt 24 (xbt 10 (xbt 3 (xbt 1 (xlf 0 (.inl (xs_al 0 1))) (xbt 2 (xlf 1 (.inl (xs_al 0 2))) (xlf 2 (.inl (xs_il 1 3))))) (xbt 6 (xlf 3 (.inr (.inl (70, 2, 8, [])))) (xbt 9 (xlf 6 (.inl (xs_if_ne 13 9))) (xlf 9 (.inl (xs_c (1) 10)))))) (xbt 17 (xbt 13 (xlf 10 (.inl (xs_goto 34))) (xbt 14 (xlf 13 (.inl (xs_al 0 14))) (xlf 14 (.inl (xs_gf 6 15 17))))) (xbt 20 (xlf 17 (.inl (xs_if_ne 29 20))) (xbt 21 (xlf 20 (.inl (xs_al 0 21))) (xlf 21 (.inl (xs_gf 6 3 24))))))) (xbt 37 (xbt 30 (xbt 26 (xlf 24 (.inl (xs_c (14) 26))) (xbt 29 (xlf 26 (.inl (xs_ic_ne 33 29))) (xlf 29 (.inl (xs_c (2) 30))))) (xbt 33 (xlf 30 (.inl (xs_goto 34))) (xbt 34 (xlf 33 (.inl (xs_c (0) 34))) (xlf 34 (.inl (xs_pf 6 0 0 37)))))) (xbt 44 (xbt 38 (xlf 37 (.inl (xs_al 0 38))) (xbt 41 (xlf 38 (.inl (xs_gf 6 0 41))) (xlf 41 (.inl (xs_if_le 46 44))))) (xbt 45 (xlf 44 (.inl (xs_c (0) 45))) (xbt 46 (xlf 45 (.inr (.inr 1))) (xlf 46 (.inl (xs_al 0 47)))))))) (xbt 67 (xbt 57 (xbt 54 (xbt 50 (xlf 47 (.inl (xs_gf 6 5 50))) (xbt 51 (xlf 50 (.inl (xs_al 0 51))) (xlf 51 (.inl (xs_gf 6 3 54))))) (xbt 55 (xlf 54 (.inl (xs_il 1 55))) (xbt 56 (xlf 55 (.inl (xs_ias 56))) (xlf 56 (.inl (xs_al 0 57)))))) (xbt 64 (xbt 60 (xlf 57 (.inl (xs_gf 6 6 60))) (xbt 61 (xlf 60 (.inl (xs_al 0 61))) (xlf 61 (.inl (xs_gf 6 3 64))))) (xbt 65 (xlf 64 (.inl (xs_c (0) 65))) (xbt 66 (xlf 65 (.inl (xs_ias 66))) (xlf 66 (.inl (xs_al 0 67))))))) (xbt 77 (xbt 72 (xbt 68 (xlf 67 (.inl (xs_dup 68))) (xbt 71 (xlf 68 (.inl (xs_gf 6 3 71))) (xlf 71 (.inl (xs_c (1) 72))))) (xbt 73 (xlf 72 (.inl (xs_iadd 73))) (xbt 76 (xlf 73 (.inl (xs_pf 6 3 0 76))) (xlf 76 (.inl (xs_al 0 77)))))) (xbt 84 (xbt 80 (xlf 77 (.inr (.inl (71, 1, 8, [])))) (xbt 81 (xlf 80 (.inl (xs_al 0 81))) (xlf 81 (.inl (xs_gf 6 3 84))))) (xbt 85 (xlf 84 (.inl (xs_c (1) 85))) (xbt 86 (xlf 85 (.inl (xs_isub 86))) (xlf 86 (.inr (.inr 1))))))))
theorem ok_72 (Ls : Nat) (xs : Nat → Int32) : ∀ pc it, K_72 Ls xs pc = some it → xPI Ls xs md_72 pc it := by
  unfold K_72
  exact xbt_ok (xbt_ok (xbt_ok (xbt_ok (xbt_ok (xlf_ok (it_72_0 Ls xs)) (xbt_ok (xlf_ok (it_72_1 Ls xs)) (xlf_ok (it_72_2 Ls xs)))) (xbt_ok (xlf_ok (it_72_3 Ls xs)) (xbt_ok (xlf_ok (it_72_6 Ls xs)) (xlf_ok (it_72_9 Ls xs))))) (xbt_ok (xbt_ok (xlf_ok (it_72_10 Ls xs)) (xbt_ok (xlf_ok (it_72_13 Ls xs)) (xlf_ok (it_72_14 Ls xs)))) (xbt_ok (xlf_ok (it_72_17 Ls xs)) (xbt_ok (xlf_ok (it_72_20 Ls xs)) (xlf_ok (it_72_21 Ls xs)))))) (xbt_ok (xbt_ok (xbt_ok (xlf_ok (it_72_24 Ls xs)) (xbt_ok (xlf_ok (it_72_26 Ls xs)) (xlf_ok (it_72_29 Ls xs)))) (xbt_ok (xlf_ok (it_72_30 Ls xs)) (xbt_ok (xlf_ok (it_72_33 Ls xs)) (xlf_ok (it_72_34 Ls xs))))) (xbt_ok (xbt_ok (xlf_ok (it_72_37 Ls xs)) (xbt_ok (xlf_ok (it_72_38 Ls xs)) (xlf_ok (it_72_41 Ls xs)))) (xbt_ok (xlf_ok (it_72_44 Ls xs)) (xbt_ok (xlf_ok (it_72_45 Ls xs)) (xlf_ok (it_72_46 Ls xs))))))) (xbt_ok (xbt_ok (xbt_ok (xbt_ok (xlf_ok (it_72_47 Ls xs)) (xbt_ok (xlf_ok (it_72_50 Ls xs)) (xlf_ok (it_72_51 Ls xs)))) (xbt_ok (xlf_ok (it_72_54 Ls xs)) (xbt_ok (xlf_ok (it_72_55 Ls xs)) (xlf_ok (it_72_56 Ls xs))))) (xbt_ok (xbt_ok (xlf_ok (it_72_57 Ls xs)) (xbt_ok (xlf_ok (it_72_60 Ls xs)) (xlf_ok (it_72_61 Ls xs)))) (xbt_ok (xlf_ok (it_72_64 Ls xs)) (xbt_ok (xlf_ok (it_72_65 Ls xs)) (xlf_ok (it_72_66 Ls xs)))))) (xbt_ok (xbt_ok (xbt_ok (xlf_ok (it_72_67 Ls xs)) (xbt_ok (xlf_ok (it_72_68 Ls xs)) (xlf_ok (it_72_71 Ls xs)))) (xbt_ok (xlf_ok (it_72_72 Ls xs)) (xbt_ok (xlf_ok (it_72_73 Ls xs)) (xlf_ok (it_72_76 Ls xs))))) (xbt_ok (xbt_ok (xlf_ok (it_72_77 Ls xs)) (xbt_ok (xlf_ok (it_72_80 Ls xs)) (xlf_ok (it_72_81 Ls xs)))) (xbt_ok (xlf_ok (it_72_84 Ls xs)) (xbt_ok (xlf_ok (it_72_85 Ls xs)) (xlf_ok (it_72_86 Ls xs)))))))
theorem d_73_0 : decode prog_8_method_8_code 0 = .ok (.aload_n 0, 1) := by decide +kernel
theorem d_73_1 : decode prog_8_method_8_code 1 = .ok (.iload_n 1, 1) := by decide +kernel
theorem d_73_2 : decode prog_8_method_8_code 2 = .ok (.iconst (0), 1) := by decide +kernel
theorem d_73_3 : decode prog_8_method_8_code 3 = .ok (.aload_n 0, 1) := by decide +kernel
theorem d_73_4 : decode prog_8_method_8_code 4 = .ok (.getfield 61, 3) := by decide +kernel
theorem d_73_7 : decode prog_8_method_8_code 7 = .ok (.aload_n 0, 1) := by decide +kernel
theorem d_73_8 : decode prog_8_method_8_code 8 = .ok (.getfield 64, 3) := by decide +kernel
theorem d_73_11 : decode prog_8_method_8_code 11 = .ok (.iadd, 1) := by decide +kernel
theorem d_73_12 : decode prog_8_method_8_code 12 = .ok (.iconst (1), 1) := by decide +kernel
theorem d_73_13 : decode prog_8_method_8_code 13 = .ok (.isub, 1) := by decide +kernel
theorem d_73_14 : decode prog_8_method_8_code 14 = .ok (.invokestatic 70, 3) := by decide +kernel
theorem d_73_17 : decode prog_8_method_8_code 17 = .ok (.ifCond .eq (7), 3) := by decide +kernel
theorem d_73_20 : decode prog_8_method_8_code 20 = .ok (.iconst (1), 1) := by decide +kernel
theorem d_73_21 : decode prog_8_method_8_code 21 = .ok (.goto (31), 3) := by decide +kernel
theorem d_73_24 : decode prog_8_method_8_code 24 = .ok (.aload_n 0, 1) := by decide +kernel
theorem d_73_25 : decode prog_8_method_8_code 25 = .ok (.getfield 81, 3) := by decide +kernel
theorem d_73_28 : decode prog_8_method_8_code 28 = .ok (.ifCond .ne (19), 3) := by decide +kernel
theorem d_73_31 : decode prog_8_method_8_code 31 = .ok (.aload_n 0, 1) := by decide +kernel
theorem d_73_32 : decode prog_8_method_8_code 32 = .ok (.getfield 85, 3) := by decide +kernel
theorem d_73_35 : decode prog_8_method_8_code 35 = .ok (.ifCond .eq (12), 3) := by decide +kernel
theorem d_73_38 : decode prog_8_method_8_code 38 = .ok (.aload_n 0, 1) := by decide +kernel
theorem d_73_39 : decode prog_8_method_8_code 39 = .ok (.getfield 91, 3) := by decide +kernel
theorem d_73_42 : decode prog_8_method_8_code 42 = .ok (.bipush (40), 2) := by decide +kernel
theorem d_73_44 : decode prog_8_method_8_code 44 = .ok (.if_icmp .ne (7), 3) := by decide +kernel
theorem d_73_47 : decode prog_8_method_8_code 47 = .ok (.iconst (2), 1) := by decide +kernel
theorem d_73_48 : decode prog_8_method_8_code 48 = .ok (.goto (4), 3) := by decide +kernel
theorem d_73_51 : decode prog_8_method_8_code 51 = .ok (.iconst (0), 1) := by decide +kernel
theorem d_73_52 : decode prog_8_method_8_code 52 = .ok (.putfield 67, 3) := by decide +kernel
theorem d_73_55 : decode prog_8_method_8_code 55 = .ok (.aload_n 0, 1) := by decide +kernel
theorem d_73_56 : decode prog_8_method_8_code 56 = .ok (.getfield 67, 3) := by decide +kernel
theorem d_73_59 : decode prog_8_method_8_code 59 = .ok (.ifCond .le (4), 3) := by decide +kernel
theorem d_73_62 : decode prog_8_method_8_code 62 = .ok (.return_, 1) := by decide +kernel
theorem d_73_63 : decode prog_8_method_8_code 63 = .ok (.aload_n 0, 1) := by decide +kernel
theorem d_73_64 : decode prog_8_method_8_code 64 = .ok (.getfield 16, 3) := by decide +kernel
theorem d_73_67 : decode prog_8_method_8_code 67 = .ok (.aload_n 0, 1) := by decide +kernel
theorem d_73_68 : decode prog_8_method_8_code 68 = .ok (.getfield 91, 3) := by decide +kernel
theorem d_73_71 : decode prog_8_method_8_code 71 = .ok (.iload_n 1, 1) := by decide +kernel
theorem d_73_72 : decode prog_8_method_8_code 72 = .ok (.iastore, 1) := by decide +kernel
theorem d_73_73 : decode prog_8_method_8_code 73 = .ok (.aload_n 0, 1) := by decide +kernel
theorem d_73_74 : decode prog_8_method_8_code 74 = .ok (.dup, 1) := by decide +kernel
theorem d_73_75 : decode prog_8_method_8_code 75 = .ok (.getfield 91, 3) := by decide +kernel
theorem d_73_78 : decode prog_8_method_8_code 78 = .ok (.iconst (1), 1) := by decide +kernel
theorem d_73_79 : decode prog_8_method_8_code 79 = .ok (.iadd, 1) := by decide +kernel
theorem d_73_80 : decode prog_8_method_8_code 80 = .ok (.putfield 91, 3) := by decide +kernel
theorem d_73_83 : decode prog_8_method_8_code 83 = .ok (.aload_n 0, 1) := by decide +kernel
theorem d_73_84 : decode prog_8_method_8_code 84 = .ok (.getfield 13, 3) := by decide +kernel
theorem d_73_87 : decode prog_8_method_8_code 87 = .ok (.aload_n 0, 1) := by decide +kernel
theorem d_73_88 : decode prog_8_method_8_code 88 = .ok (.getfield 85, 3) := by decide +kernel
theorem d_73_91 : decode prog_8_method_8_code 91 = .ok (.iconst (1), 1) := by decide +kernel
theorem d_73_92 : decode prog_8_method_8_code 92 = .ok (.isub, 1) := by decide +kernel
theorem d_73_94 : decode prog_8_method_8_code 94 = .ok (.iaload, 1) := by decide +kernel
theorem d_73_95 : decode prog_8_method_8_code 95 = .ok (.iconst (1), 1) := by decide +kernel
theorem d_73_96 : decode prog_8_method_8_code 96 = .ok (.iadd, 1) := by decide +kernel
theorem d_73_97 : decode prog_8_method_8_code 97 = .ok (.iastore, 1) := by decide +kernel
theorem d_73_98 : decode prog_8_method_8_code 98 = .ok (.aload_n 0, 1) := by decide +kernel
theorem d_73_99 : decode prog_8_method_8_code 99 = .ok (.invokevirtual 88, 3) := by decide +kernel
theorem d_73_102 : decode prog_8_method_8_code 102 = .ok (.return_, 1) := by decide +kernel
theorem it_73_0 (Ls : Nat) (xs : Nat → Int32) : xPI Ls xs md_73 0 (.inl (xs_al 0 1)) := by
  exact xs_aload_n_ok d_73_0 rfl
theorem it_73_1 (Ls : Nat) (xs : Nat → Int32) : xPI Ls xs md_73 1 (.inl (xs_il 1 2)) := by
  exact xs_iload_n_ok d_73_1 rfl
theorem it_73_2 (Ls : Nat) (xs : Nat → Int32) : xPI Ls xs md_73 2 (.inl (xs_c (0) 3)) := by
  exact xs_iconst_ok d_73_2 (by decide)
theorem it_73_3 (Ls : Nat) (xs : Nat → Int32) : xPI Ls xs md_73 3 (.inl (xs_al 0 4)) := by
  exact xs_aload_n_ok d_73_3 rfl
theorem it_73_4 (Ls : Nat) (xs : Nat → Int32) : xPI Ls xs md_73 4 (.inl (xs_gf 6 1 7)) := by
  exact xs_gf_ok d_73_4 (C := R_6) (T := T_6) (N := N_6) rfl in_6 (by decide) tw_788
theorem it_73_7 (Ls : Nat) (xs : Nat → Int32) : xPI Ls xs md_73 7 (.inl (xs_al 0 8)) := by
  exact xs_aload_n_ok d_73_7 rfl
theorem it_73_8 (Ls : Nat) (xs : Nat → Int32) : xPI Ls xs md_73 8 (.inl (xs_gf 6 2 11)) := by
  exact xs_gf_ok d_73_8 (C := R_6) (T := T_6) (N := N_6) rfl in_6 (by decide) tw_789
theorem it_73_11 (Ls : Nat) (xs : Nat → Int32) : xPI Ls xs md_73 11 (.inl (xs_iadd 12)) := by
  exact xs_iadd_ok d_73_11
theorem it_73_12 (Ls : Nat) (xs : Nat → Int32) : xPI Ls xs md_73 12 (.inl (xs_c (1) 13)) := by
  exact xs_iconst_ok d_73_12 (by decide)
theorem it_73_13 (Ls : Nat) (xs : Nat → Int32) : xPI Ls xs md_73 13 (.inl (xs_isub 14)) := by
  exact xs_isub_ok d_73_13
theorem it_73_14 (Ls : Nat) (xs : Nat → Int32) : xPI Ls xs md_73 14 (.inr (.inl (69, 3, 0, []))) := by
  exact ⟨md_69, rfl, tw_7, by decide, ⟨by decide, by decide⟩, Or.inl ⟨rfl, rfl, 70, d_73_14, tw_888, tw_889, by decide +kernel⟩⟩
theorem it_73_17 (Ls : Nat) (xs : Nat → Int32) : xPI Ls xs md_73 17 (.inl (xs_if_eq 24 20)) := by
  exact xs_if_eq_ok d_73_17 (by decide)
theorem it_73_20 (Ls : Nat) (xs : Nat → Int32) : xPI Ls xs md_73 20 (.inl (xs_c (1) 21)) := by
  exact xs_iconst_ok d_73_20 (by decide)
theorem it_73_21 (Ls : Nat) (xs : Nat → Int32) : xPI Ls xs md_73 21 (.inl (xs_goto 52)) := by
  exact xs_goto_ok d_73_21 (by decide)
theorem it_73_24 (Ls : Nat) (xs : Nat → Int32) : xPI Ls xs md_73 24 (.inl (xs_al 0 25)) := by
  exact xs_aload_n_ok d_73_24 rfl
theorem it_73_25 (Ls : Nat) (xs : Nat → Int32) : xPI Ls xs md_73 25 (.inl (xs_gf 6 15 28)) := by
  exact xs_gf_ok d_73_25 (C := R_6) (T := T_6) (N := N_6) rfl in_6 (by decide) tw_802
theorem it_73_28 (Ls : Nat) (xs : Nat → Int32) : xPI Ls xs md_73 28 (.inl (xs_if_ne 47 31)) := by
  exact xs_if_ne_ok d_73_28 (by decide)
theorem it_73_31 (Ls : Nat) (xs : Nat → Int32) : xPI Ls xs md_73 31 (.inl (xs_al 0 32)) := by
  exact xs_aload_n_ok d_73_31 rfl
theorem it_73_32 (Ls : Nat) (xs : Nat → Int32) : xPI Ls xs md_73 32 (.inl (xs_gf 6 3 35)) := by
  exact xs_gf_ok d_73_32 (C := R_6) (T := T_6) (N := N_6) rfl in_6 (by decide) tw_790
theorem it_73_35 (Ls : Nat) (xs : Nat → Int32) : xPI Ls xs md_73 35 (.inl (xs_if_eq 47 38)) := by
  exact xs_if_eq_ok d_73_35 (by decide)
theorem it_73_38 (Ls : Nat) (xs : Nat → Int32) : xPI Ls xs md_73 38 (.inl (xs_al 0 39)) := by
  exact xs_aload_n_ok d_73_38 rfl
theorem it_73_39 (Ls : Nat) (xs : Nat → Int32) : xPI Ls xs md_73 39 (.inl (xs_gf 6 4 42)) := by
  exact xs_gf_ok d_73_39 (C := R_6) (T := T_6) (N := N_6) rfl in_6 (by decide) tw_791
theorem it_73_42 (Ls : Nat) (xs : Nat → Int32) : xPI Ls xs md_73 42 (.inl (xs_c (40) 44)) := by
  exact xs_bipush_ok d_73_42 (by decide)
theorem it_73_44 (Ls : Nat) (xs : Nat → Int32) : xPI Ls xs md_73 44 (.inl (xs_ic_ne 51 47)) := by
  exact xs_ic_ne_ok d_73_44 (by decide)
theorem it_73_47 (Ls : Nat) (xs : Nat → Int32) : xPI Ls xs md_73 47 (.inl (xs_c (2) 48)) := by
  exact xs_iconst_ok d_73_47 (by decide)
theorem it_73_48 (Ls : Nat) (xs : Nat → Int32) : xPI Ls xs md_73 48 (.inl (xs_goto 52)) := by
  exact xs_goto_ok d_73_48 (by decide)
theorem it_73_51 (Ls : Nat) (xs : Nat → Int32) : xPI Ls xs md_73 51 (.inl (xs_c (0) 52)) := by
  exact xs_iconst_ok d_73_51 (by decide)
theorem it_73_52 (Ls : Nat) (xs : Nat → Int32) : xPI Ls xs md_73 52 (.inl (xs_pf 6 0 0 55)) := by
  exact xs_pf_ok d_73_52 (C := R_6) (T := T_6) (N := N_6) (ty0 := Y_6) rfl in_6 ty_6 nm_6 (by decide) tw_787 (Or.inl rfl) rfl
theorem it_73_55 (Ls : Nat) (xs : Nat → Int32) : xPI Ls xs md_73 55 (.inl (xs_al 0 56)) := by
  exact xs_aload_n_ok d_73_55 rfl
theorem it_73_56 (Ls : Nat) (xs : Nat → Int32) : xPI Ls xs md_73 56 (.inl (xs_gf 6 0 59)) := by
  exact xs_gf_ok d_73_56 (C := R_6) (T := T_6) (N := N_6) rfl in_6 (by decide) tw_787
theorem it_73_59 (Ls : Nat) (xs : Nat → Int32) : xPI Ls xs md_73 59 (.inl (xs_if_le 63 62)) := by
  exact xs_if_le_ok d_73_59 (by decide)
theorem it_73_62 (Ls : Nat) (xs : Nat → Int32) : xPI Ls xs md_73 62 (.inr (.inr 0)) := by
  exact ⟨rfl, d_73_62⟩
theorem it_73_63 (Ls : Nat) (xs : Nat → Int32) : xPI Ls xs md_73 63 (.inl (xs_al 0 64)) := by
  exact xs_aload_n_ok d_73_63 rfl
theorem it_73_64 (Ls : Nat) (xs : Nat → Int32) : xPI Ls xs md_73 64 (.inl (xs_gf 6 7 67)) := by
  exact xs_gf_ok d_73_64 (C := R_6) (T := T_6) (N := N_6) rfl in_6 (by decide) tw_794
theorem it_73_67 (Ls : Nat) (xs : Nat → Int32) : xPI Ls xs md_73 67 (.inl (xs_al 0 68)) := by
  exact xs_aload_n_ok d_73_67 rfl
theorem it_73_68 (Ls : Nat) (xs : Nat → Int32) : xPI Ls xs md_73 68 (.inl (xs_gf 6 4 71)) := by
  exact xs_gf_ok d_73_68 (C := R_6) (T := T_6) (N := N_6) rfl in_6 (by decide) tw_791
theorem it_73_71 (Ls : Nat) (xs : Nat → Int32) : xPI Ls xs md_73 71 (.inl (xs_il 1 72)) := by
  exact xs_iload_n_ok d_73_71 rfl
theorem it_73_72 (Ls : Nat) (xs : Nat → Int32) : xPI Ls xs md_73 72 (.inl (xs_ias 73)) := by
  exact xs_ias_ok d_73_72
theorem it_73_73 (Ls : Nat) (xs : Nat → Int32) : xPI Ls xs md_73 73 (.inl (xs_al 0 74)) := by
  exact xs_aload_n_ok d_73_73 rfl
theorem it_73_74 (Ls : Nat) (xs : Nat → Int32) : xPI Ls xs md_73 74 (.inl (xs_dup 75)) := by
  exact xs_dup_ok d_73_74
theorem it_73_75 (Ls : Nat) (xs : Nat → Int32) : xPI Ls xs md_73 75 (.inl (xs_gf 6 4 78)) := by
  exact xs_gf_ok d_73_75 (C := R_6) (T := T_6) (N := N_6) rfl in_6 (by decide) tw_791
theorem it_73_78 (Ls : Nat) (xs : Nat → Int32) : xPI Ls xs md_73 78 (.inl (xs_c (1) 79)) := by
  exact xs_iconst_ok d_73_78 (by decide)
theorem it_73_79 (Ls : Nat) (xs : Nat → Int32) : xPI Ls xs md_73 79 (.inl (xs_iadd 80)) := by
  exact xs_iadd_ok d_73_79
theorem it_73_80 (Ls : Nat) (xs : Nat → Int32) : xPI Ls xs md_73 80 (.inl (xs_pf 6 4 0 83)) := by
  exact xs_pf_ok d_73_80 (C := R_6) (T := T_6) (N := N_6) (ty0 := Y_6) rfl in_6 ty_6 nm_6 (by decide) tw_791 (Or.inl rfl) rfl
theorem it_73_83 (Ls : Nat) (xs : Nat → Int32) : xPI Ls xs md_73 83 (.inl (xs_al 0 84)) := by
  exact xs_aload_n_ok d_73_83 rfl
theorem it_73_84 (Ls : Nat) (xs : Nat → Int32) : xPI Ls xs md_73 84 (.inl (xs_gf 6 6 87)) := by
  exact xs_gf_ok d_73_84 (C := R_6) (T := T_6) (N := N_6) rfl in_6 (by decide) tw_793
theorem it_73_87 (Ls : Nat) (xs : Nat → Int32) : xPI Ls xs md_73 87 (.inl (xs_al 0 88)) := by
  exact xs_aload_n_ok d_73_87 rfl
theorem it_73_88 (Ls : Nat) (xs : Nat → Int32) : xPI Ls xs md_73 88 (.inl (xs_gf 6 3 91)) := by
  exact xs_gf_ok d_73_88 (C := R_6) (T := T_6) (N := N_6) rfl in_6 (by decide) tw_790
theorem it_73_91 (Ls : Nat) (xs : Nat → Int32) : xPI Ls xs md_73 91 (.inl (xs_c (1) 92)) := by
  exact xs_iconst_ok d_73_91 (by decide)
theorem it_73_92 (Ls : Nat) (xs : Nat → Int32) : xPI Ls xs md_73 92 (.inl (xs_isub 93)) := by
  exact xs_isub_ok d_73_92
theorem it_73_94 (Ls : Nat) (xs : Nat → Int32) : xPI Ls xs md_73 94 (.inl (xs_ia Ls xs 95)) := by
  exact xs_ia_ok d_73_94
theorem it_73_95 (Ls : Nat) (xs : Nat → Int32) : xPI Ls xs md_73 95 (.inl (xs_c (1) 96)) := by
  exact xs_iconst_ok d_73_95 (by decide)
theorem it_73_96 (Ls : Nat) (xs : Nat → Int32) : xPI Ls xs md_73 96 (.inl (xs_iadd 97)) := by
  exact xs_iadd_ok d_73_96
theorem it_73_97 (Ls : Nat) (xs : Nat → Int32) : xPI Ls xs md_73 97 (.inl (xs_ias 98)) := by
  exact xs_ias_ok d_73_97
theorem it_73_98 (Ls : Nat) (xs : Nat → Int32) : xPI Ls xs md_73 98 (.inl (xs_al 0 99)) := by
  exact xs_aload_n_ok d_73_98 rfl
theorem it_73_99 (Ls : Nat) (xs : Nat → Int32) : xPI Ls xs md_73 99 (.inr (.inl (71, 1, 8, []))) := by
  exact ⟨md_71, rfl, tw_7, by decide, ⟨by decide, by decide⟩, Or.inr (Or.inr ⟨6, R_6, T_6, N_6, 88, 0, rfl, rfl, rfl, rfl, d_73_99, tw_891, tw_893, ts_TableMakerModel_changed, by decide +kernel, (fun x q h => by cases h)⟩)⟩
theorem it_73_102 (Ls : Nat) (xs : Nat → Int32) : xPI Ls xs md_73 102 (.inr (.inr 0)) := by
  exact ⟨rfl, d_73_102⟩
def K_73 (Ls : Nat) (xs : Nat → Int32) : Nat → Option xK := xbt 55 (xbt 24 (xbt 11 (xbt 3 (xbt 1 (xlf 0 (.inl (xs_al 0 1))) (xbt 2 (xlf 1 (.inl (xs_il 1 2))) (xlf 2 (.inl (xs_c (0) 3))))) (xbt 7 (xbt 4 (xlf 3 (.inl (xs_al 0 4))) (xlf 4 (.inl (xs_gf 6 1 7)))) (xbt 8 (xlf 7 (.inl (xs_al 0 8))) (xlf 8 (.inl (xs_gf 6 2 11)))))) (xbt 14 (xbt 12 (xlf 11 (.inl (xs_iadd 12))) (xbt 13 (xlf 12 (.inl (xs_c (1) 13))) (xlf 13 (.inl (xs_isub 14))))) (xbt 20 (xbt 17 (xlf 14 (.inr (.inl (69, 3, 0, [])))) (xlf 17 (.inl (xs_if_eq 24 20)))) (xbt 21 (xlf 20 (.inl (xs_c (1) 21))) (xlf 21 (.inl (xs_goto 52))))))) (xbt 39 (xbt 31 (xbt 25 (xlf 24 (.inl (xs_al 0 25))) (xbt 28 (xlf 25 (.inl (xs_gf 6 15 28))) (xlf 28 (.inl (xs_if_ne 47 31))))) (xbt 35 (xbt 32 (xlf 31 (.inl (xs_al 0 32))) (xlf 32 (.inl (xs_gf 6 3 35)))) (xbt 38 (xlf 35 (.inl (xs_if_eq 47 38))) (xlf 38 (.inl (xs_al 0 39)))))) (xbt 47 (xbt 42 (xlf 39 (.inl (xs_gf 6 4 42))) (xbt 44 (xlf 42 (.inl (xs_c (40) 44))) (xlf 44 (.inl (xs_ic_ne 51 47))))) (xbt 51 (xbt 48 (xlf 47 (.inl (xs_c (2) 48))) (xlf 48 (.inl (xs_goto 52)))) (xbt 52 (xlf 51 (.inl (xs_c (0) 52))) (xlf 52 (.inl (xs_pf 6 0 0 55)))))))) (xbt 79 (xbt 68 (xbt 62 (xbt 56 (xlf 55 (.inl (xs_al 0 56))) (xbt 59 (xlf 56 (.inl (xs_gf 6 0 59))) (xlf 59 (.inl (xs_if_le 63 62))))) (xbt 64 (xbt 63 (xlf 62 (.inr (.inr 0))) (xlf 63 (.inl (xs_al 0 64)))) (xbt 67 (xlf 64 (.inl (xs_gf 6 7 67))) (xlf 67 (.inl (xs_al 0 68)))))) (xbt 73 (xbt 71 (xlf 68 (.inl (xs_gf 6 4 71))) (xbt 72 (xlf 71 (.inl (xs_il 1 72))) (xlf 72 (.inl (xs_ias 73))))) (xbt 75 (xbt 74 (xlf 73 (.inl (xs_al 0 74))) (xlf 74 (.inl (xs_dup 75)))) (xbt 78 (xlf 75 (.inl (xs_gf 6 4 78))) (xlf 78 (.inl (xs_c (1) 79))))))) (xbt 92 (xbt 84 (xbt 80 (xlf 79 (.inl (xs_iadd 80))) (xbt 83 (xlf 80 (.inl (xs_pf 6 4 0 83))) (xlf 83 (.inl (xs_al 0 84))))) (xbt 88 (xbt 87 (xlf 84 (.inl (xs_gf 6 6 87))) (xlf 87 (.inl (xs_al 0 88)))) (xbt 91 (xlf 88 (.inl (xs_gf 6 3 91))) (xlf 91 (.inl (xs_c (1) 92)))))) (xbt 97 (xbt 95 (xbt 94 (xlf 92 (.inl (xs_isub 93))) (xlf 94 (.inl (xs_ia Ls xs 95)))) (xbt 96 (xlf 95 (.inl (xs_c (1) 96))) (xlf 96 (.inl (xs_iadd 97))))) (xbt 99 (xbt 98 (xlf 97 (.inl (xs_ias 98))) (xlf 98 (.inl (xs_al 0 99)))) (xbt 102 (xlf 99 (.inr (.inl (71, 1, 8, [])))) (xlf 102 (.inr (.inr 0))))))))
theorem ok_73 (Ls : Nat) (xs : Nat → Int32) : ∀ pc it, K_73 Ls xs pc = some it → xPI Ls xs md_73 pc it := by
  unfold K_73
  exact xbt_ok (xbt_ok (xbt_ok (xbt_ok (xbt_ok (xlf_ok (it_73_0 Ls xs)) (xbt_ok (xlf_ok (it_73_1 Ls xs)) (xlf_ok (it_73_2 Ls xs)))) (xbt_ok (xbt_ok (xlf_ok (it_73_3 Ls xs)) (xlf_ok (it_73_4 Ls xs))) (xbt_ok (xlf_ok (it_73_7 Ls xs)) (xlf_ok (it_73_8 Ls xs))))) (xbt_ok (xbt_ok (xlf_ok (it_73_11 Ls xs)) (xbt_ok (xlf_ok (it_73_12 Ls xs)) (xlf_ok (it_73_13 Ls xs)))) (xbt_ok (xbt_ok (xlf_ok (it_73_14 Ls xs)) (xlf_ok (it_73_17 Ls xs))) (xbt_ok (xlf_ok (it_73_20 Ls xs)) (xlf_ok (it_73_21 Ls xs)))))) (xbt_ok (xbt_ok (xbt_ok (xlf_ok (it_73_24 Ls xs)) (xbt_ok (xlf_ok (it_73_25 Ls xs)) (xlf_ok (it_73_28 Ls xs)))) (xbt_ok (xbt_ok (xlf_ok (it_73_31 Ls xs)) (xlf_ok (it_73_32 Ls xs))) (xbt_ok (xlf_ok (it_73_35 Ls xs)) (xlf_ok (it_73_38 Ls xs))))) (xbt_ok (xbt_ok (xlf_ok (it_73_39 Ls xs)) (xbt_ok (xlf_ok (it_73_42 Ls xs)) (xlf_ok (it_73_44 Ls xs)))) (xbt_ok (xbt_ok (xlf_ok (it_73_47 Ls xs)) (xlf_ok (it_73_48 Ls xs))) (xbt_ok (xlf_ok (it_73_51 Ls xs)) (xlf_ok (it_73_52 Ls xs))))))) (xbt_ok (xbt_ok (xbt_ok (xbt_ok (xlf_ok (it_73_55 Ls xs)) (xbt_ok (xlf_ok (it_73_56 Ls xs)) (xlf_ok (it_73_59 Ls xs)))) (xbt_ok (xbt_ok (xlf_ok (it_73_62 Ls xs)) (xlf_ok (it_73_63 Ls xs))) (xbt_ok (xlf_ok (it_73_64 Ls xs)) (xlf_ok (it_73_67 Ls xs))))) (xbt_ok (xbt_ok (xlf_ok (it_73_68 Ls xs)) (xbt_ok (xlf_ok (it_73_71 Ls xs)) (xlf_ok (it_73_72 Ls xs)))) (xbt_ok (xbt_ok (xlf_ok (it_73_73 Ls xs)) (xlf_ok (it_73_74 Ls xs))) (xbt_ok (xlf_ok (it_73_75 Ls xs)) (xlf_ok (it_73_78 Ls xs)))))) (xbt_ok (xbt_ok (xbt_ok (xlf_ok (it_73_79 Ls xs)) (xbt_ok (xlf_ok (it_73_80 Ls xs)) (xlf_ok (it_73_83 Ls xs)))) (xbt_ok (xbt_ok (xlf_ok (it_73_84 Ls xs)) (xlf_ok (it_73_87 Ls xs))) (xbt_ok (xlf_ok (it_73_88 Ls xs)) (xlf_ok (it_73_91 Ls xs))))) (xbt_ok (xbt_ok (xbt_ok (xlf_ok (it_73_92 Ls xs)) (xlf_ok (it_73_94 Ls xs))) (xbt_ok (xlf_ok (it_73_95 Ls xs)) (xlf_ok (it_73_96 Ls xs)))) (xbt_ok (xbt_ok (xlf_ok (it_73_97 Ls xs)) (xlf_ok (it_73_98 Ls xs))) (xbt_ok (xlf_ok (it_73_99 Ls xs)) (xlf_ok (it_73_102 Ls xs)))))))
theorem d_74_0 : decode prog_8_method_9_code 0 = .ok (.aload_n 0, 1) := by decide +kernel
theorem d_74_1 : decode prog_8_method_9_code 1 = .ok (.iconst (0), 1) := by decide +kernel
theorem d_74_2 : decode prog_8_method_9_code 2 = .ok (.putfield 67, 3) := by decide +kernel
theorem d_74_5 : decode prog_8_method_9_code 5 = .ok (.aload_n 0, 1) := by decide +kernel
theorem d_74_6 : decode prog_8_method_9_code 6 = .ok (.iconst (0), 1) := by decide +kernel
theorem d_74_7 : decode prog_8_method_9_code 7 = .ok (.putfield 81, 3) := by decide +kernel
theorem d_74_10 : decode prog_8_method_9_code 10 = .ok (.aload_n 0, 1) := by decide +kernel
theorem d_74_11 : decode prog_8_method_9_code 11 = .ok (.iconst (0), 1) := by decide +kernel
theorem d_74_12 : decode prog_8_method_9_code 12 = .ok (.putfield 94, 3) := by decide +kernel
theorem d_74_15 : decode prog_8_method_9_code 15 = .ok (.aload_n 0, 1) := by decide +kernel
theorem d_74_16 : decode prog_8_method_9_code 16 = .ok (.iconst (0), 1) := by decide +kernel
theorem d_74_17 : decode prog_8_method_9_code 17 = .ok (.putfield 97, 3) := by decide +kernel
theorem d_74_20 : decode prog_8_method_9_code 20 = .ok (.aload_n 0, 1) := by decide +kernel
theorem d_74_21 : decode prog_8_method_9_code 21 = .ok (.iconst (0), 1) := by decide +kernel
theorem d_74_22 : decode prog_8_method_9_code 22 = .ok (.putfield 100, 3) := by decide +kernel
theorem d_74_25 : decode prog_8_method_9_code 25 = .ok (.aload_n 0, 1) := by decide +kernel
theorem d_74_26 : decode prog_8_method_9_code 26 = .ok (.iconst (0), 1) := by decide +kernel
theorem d_74_27 : decode prog_8_method_9_code 27 = .ok (.putfield 103, 3) := by decide +kernel
theorem d_74_30 : decode prog_8_method_9_code 30 = .ok (.return_, 1) := by decide +kernel
theorem it_74_0 (Ls : Nat) (xs : Nat → Int32) : xPI Ls xs md_74 0 (.inl (xs_al 0 1)) := by
  exact xs_aload_n_ok d_74_0 rfl
theorem it_74_1 (Ls : Nat) (xs : Nat → Int32) : xPI Ls xs md_74 1 (.inl (xs_c (0) 2)) := by
  exact xs_iconst_ok d_74_1 (by decide)
theorem it_74_2 (Ls : Nat) (xs : Nat → Int32) : xPI Ls xs md_74 2 (.inl (xs_pf 6 0 0 5)) := by
  exact xs_pf_ok d_74_2 (C := R_6) (T := T_6) (N := N_6) (ty0 := Y_6) rfl in_6 ty_6 nm_6 (by decide) tw_787 (Or.inl rfl) rfl
theorem it_74_5 (Ls : Nat) (xs : Nat → Int32) : xPI Ls xs md_74 5 (.inl (xs_al 0 6)) := by
  exact xs_aload_n_ok d_74_5 rfl
theorem it_74_6 (Ls : Nat) (xs : Nat → Int32) : xPI Ls xs md_74 6 (.inl (xs_c (0) 7)) := by
  exact xs_iconst_ok d_74_6 (by decide)
theorem it_74_7 (Ls : Nat) (xs : Nat → Int32) : xPI Ls xs md_74 7 (.inl (xs_pf 6 15 1 10)) := by
  exact xs_pf_ok d_74_7 (C := R_6) (T := T_6) (N := N_6) (ty0 := Y_6) rfl in_6 ty_6 nm_6 (by decide) tw_802 (Or.inl rfl) rfl
theorem it_74_10 (Ls : Nat) (xs : Nat → Int32) : xPI Ls xs md_74 10 (.inl (xs_al 0 11)) := by
  exact xs_aload_n_ok d_74_10 rfl
theorem it_74_11 (Ls : Nat) (xs : Nat → Int32) : xPI Ls xs md_74 11 (.inl (xs_c (0) 12)) := by
  exact xs_iconst_ok d_74_11 (by decide)
theorem it_74_12 (Ls : Nat) (xs : Nat → Int32) : xPI Ls xs md_74 12 (.inl (xs_pf 6 16 0 15)) := by
  exact xs_pf_ok d_74_12 (C := R_6) (T := T_6) (N := N_6) (ty0 := Y_6) rfl in_6 ty_6 nm_6 (by decide) tw_803 (Or.inl rfl) rfl
theorem it_74_15 (Ls : Nat) (xs : Nat → Int32) : xPI Ls xs md_74 15 (.inl (xs_al 0 16)) := by
  exact xs_aload_n_ok d_74_15 rfl
theorem it_74_16 (Ls : Nat) (xs : Nat → Int32) : xPI Ls xs md_74 16 (.inl (xs_c (0) 17)) := by
  exact xs_iconst_ok d_74_16 (by decide)
theorem it_74_17 (Ls : Nat) (xs : Nat → Int32) : xPI Ls xs md_74 17 (.inl (xs_pf 6 23 0 20)) := by
  exact xs_pf_ok d_74_17 (C := R_6) (T := T_6) (N := N_6) (ty0 := Y_6) rfl in_6 ty_6 nm_6 (by decide) tw_810 (Or.inl rfl) rfl
theorem it_74_20 (Ls : Nat) (xs : Nat → Int32) : xPI Ls xs md_74 20 (.inl (xs_al 0 21)) := by
  exact xs_aload_n_ok d_74_20 rfl
theorem it_74_21 (Ls : Nat) (xs : Nat → Int32) : xPI Ls xs md_74 21 (.inl (xs_c (0) 22)) := by
  exact xs_iconst_ok d_74_21 (by decide)
theorem it_74_22 (Ls : Nat) (xs : Nat → Int32) : xPI Ls xs md_74 22 (.inl (xs_pf 6 24 0 25)) := by
  exact xs_pf_ok d_74_22 (C := R_6) (T := T_6) (N := N_6) (ty0 := Y_6) rfl in_6 ty_6 nm_6 (by decide) tw_811 (Or.inl rfl) rfl
theorem it_74_25 (Ls : Nat) (xs : Nat → Int32) : xPI Ls xs md_74 25 (.inl (xs_al 0 26)) := by
  exact xs_aload_n_ok d_74_25 rfl
theorem it_74_26 (Ls : Nat) (xs : Nat → Int32) : xPI Ls xs md_74 26 (.inl (xs_c (0) 27)) := by
  exact xs_iconst_ok d_74_26 (by decide)
theorem it_74_27 (Ls : Nat) (xs : Nat → Int32) : xPI Ls xs md_74 27 (.inl (xs_pf 6 26 0 30)) := by
  exact xs_pf_ok d_74_27 (C := R_6) (T := T_6) (N := N_6) (ty0 := Y_6) rfl in_6 ty_6 nm_6 (by decide) tw_813 (Or.inl rfl) rfl
theorem it_74_30 (Ls : Nat) (xs : Nat → Int32) : xPI Ls xs md_74 30 (.inr (.inr 0)) := by
  exact ⟨rfl, d_74_30⟩
def K_74 (Ls : Nat) (xs : Nat → Int32) : Nat → Option xK := xbt 15 (xbt 6 (xbt 2 (xbt 1 (xlf 0 (.inl (xs_al 0 1))) (xlf 1 (.inl (xs_c (0) 2)))) (xbt 5 (xlf 2 (.inl (xs_pf 6 0 0 5))) (xlf 5 (.inl (xs_al 0 6))))) (xbt 10 (xbt 7 (xlf 6 (.inl (xs_c (0) 7))) (xlf 7 (.inl (xs_pf 6 15 1 10)))) (xbt 11 (xlf 10 (.inl (xs_al 0 11))) (xbt 12 (xlf 11 (.inl (xs_c (0) 12))) (xlf 12 (.inl (xs_pf 6 16 0 15))))))) (xbt 22 (xbt 17 (xbt 16 (xlf 15 (.inl (xs_al 0 16))) (xlf 16 (.inl (xs_c (0) 17)))) (xbt 20 (xlf 17 (.inl (xs_pf 6 23 0 20))) (xbt 21 (xlf 20 (.inl (xs_al 0 21))) (xlf 21 (.inl (xs_c (0) 22)))))) (xbt 26 (xbt 25 (xlf 22 (.inl (xs_pf 6 24 0 25))) (xlf 25 (.inl (xs_al 0 26)))) (xbt 27 (xlf 26 (.inl (xs_c (0) 27))) (xbt 30 (xlf 27 (.inl (xs_pf 6 26 0 30))) (xlf 30 (.inr (.inr 0)))))))
theorem ok_74 (Ls : Nat) (xs : Nat → Int32) : ∀ pc it, K_74 Ls xs pc = some it → xPI Ls xs md_74 pc it := by
  unfold K_74
  exact xbt_ok (xbt_ok (xbt_ok (xbt_ok (xlf_ok (it_74_0 Ls xs)) (xlf_ok (it_74_1 Ls xs))) (xbt_ok (xlf_ok (it_74_2 Ls xs)) (xlf_ok (it_74_5 Ls xs)))) (xbt_ok (xbt_ok (xlf_ok (it_74_6 Ls xs)) (xlf_ok (it_74_7 Ls xs))) (xbt_ok (xlf_ok (it_74_10 Ls xs)) (xbt_ok (xlf_ok (it_74_11 Ls xs)) (xlf_ok (it_74_12 Ls xs)))))) (xbt_ok (xbt_ok (xbt_ok (xlf_ok (it_74_15 Ls xs)) (xlf_ok (it_74_16 Ls xs))) (xbt_ok (xlf_ok (it_74_17 Ls xs)) (xbt_ok (xlf_ok (it_74_20 Ls xs)) (xlf_ok (it_74_21 Ls xs))))) (xbt_ok (xbt_ok (xlf_ok (it_74_22 Ls xs)) (xlf_ok (it_74_25 Ls xs))) (xbt_ok (xlf_ok (it_74_26 Ls xs)) (xbt_ok (xlf_ok (it_74_27 Ls xs)) (xlf_ok (it_74_30 Ls xs))))))
theorem d_75_0 : decode prog_8_method_10_code 0 = .ok (.aload_n 0, 1) := by decide +kernel
theorem d_75_1 : decode prog_8_method_10_code 1 = .ok (.invokevirtual 106, 3) := by decide +kernel
theorem d_75_4 : decode prog_8_method_10_code 4 = .ok (.aload_n 0, 1) := by decide +kernel
theorem d_75_5 : decode prog_8_method_10_code 5 = .ok (.iconst (0), 1) := by decide +kernel
theorem d_75_6 : decode prog_8_method_10_code 6 = .ok (.putfield 85, 3) := by decide +kernel
theorem d_75_9 : decode prog_8_method_10_code 9 = .ok (.aload_n 0, 1) := by decide +kernel
theorem d_75_10 : decode prog_8_method_10_code 10 = .ok (.iconst (0), 1) := by decide +kernel
theorem d_75_11 : decode prog_8_method_10_code 11 = .ok (.putfield 91, 3) := by decide +kernel
theorem d_75_14 : decode prog_8_method_10_code 14 = .ok (.aload_n 0, 1) := by decide +kernel
theorem d_75_15 : decode prog_8_method_10_code 15 = .ok (.invokevirtual 88, 3) := by decide +kernel
theorem d_75_18 : decode prog_8_method_10_code 18 = .ok (.return_, 1) := by decide +kernel
theorem it_75_0 (Ls : Nat) (xs : Nat → Int32) : xPI Ls xs md_75 0 (.inl (xs_al 0 1)) := by
  exact xs_aload_n_ok d_75_0 rfl
theorem it_75_1 (Ls : Nat) (xs : Nat → Int32) : xPI Ls xs md_75 1 (.inr (.inl (74, 1, 8, []))) := by
  exact ⟨md_74, rfl, tw_7, by decide, ⟨by decide, by decide⟩, Or.inr (Or.inr ⟨6, R_6, T_6, N_6, 106, 0, rfl, rfl, rfl, rfl, d_75_1, tw_923, tw_916, tw_917, by decide +kernel, (fun x q h => by cases h)⟩)⟩
theorem it_75_4 (Ls : Nat) (xs : Nat → Int32) : xPI Ls xs md_75 4 (.inl (xs_al 0 5)) := by
  exact xs_aload_n_ok d_75_4 rfl
theorem it_75_5 (Ls : Nat) (xs : Nat → Int32) : xPI Ls xs md_75 5 (.inl (xs_c (0) 6)) := by
  exact xs_iconst_ok d_75_5 (by decide)
theorem it_75_6 (Ls : Nat) (xs : Nat → Int32) : xPI Ls xs md_75 6 (.inl (xs_pf 6 3 0 9)) := by
  exact xs_pf_ok d_75_6 (C := R_6) (T := T_6) (N := N_6) (ty0 := Y_6) rfl in_6 ty_6 nm_6 (by decide) tw_790 (Or.inl rfl) rfl
theorem it_75_9 (Ls : Nat) (xs : Nat → Int32) : xPI Ls xs md_75 9 (.inl (xs_al 0 10)) := by
  exact xs_aload_n_ok d_75_9 rfl
theorem it_75_10 (Ls : Nat) (xs : Nat → Int32) : xPI Ls xs md_75 10 (.inl (xs_c (0) 11)) := by
  exact xs_iconst_ok d_75_10 (by decide)
theorem it_75_11 (Ls : Nat) (xs : Nat → Int32) : xPI Ls xs md_75 11 (.inl (xs_pf 6 4 0 14)) := by
  exact xs_pf_ok d_75_11 (C := R_6) (T := T_6) (N := N_6) (ty0 := Y_6) rfl in_6 ty_6 nm_6 (by decide) tw_791 (Or.inl rfl) rfl
theorem it_75_14 (Ls : Nat) (xs : Nat → Int32) : xPI Ls xs md_75 14 (.inl (xs_al 0 15)) := by
  exact xs_aload_n_ok d_75_14 rfl
theorem it_75_15 (Ls : Nat) (xs : Nat → Int32) : xPI Ls xs md_75 15 (.inr (.inl (71, 1, 8, []))) := by
  exact ⟨md_71, rfl, tw_7, by decide, ⟨by decide, by decide⟩, Or.inr (Or.inr ⟨6, R_6, T_6, N_6, 88, 0, rfl, rfl, rfl, rfl, d_75_15, tw_891, tw_893, ts_TableMakerModel_changed, by decide +kernel, (fun x q h => by cases h)⟩)⟩
theorem it_75_18 (Ls : Nat) (xs : Nat → Int32) : xPI Ls xs md_75 18 (.inr (.inr 0)) := by
  exact ⟨rfl, d_75_18⟩
def K_75 (Ls : Nat) (xs : Nat → Int32) : Nat → Option xK := xbt 9 (xbt 4 (xbt 1 (xlf 0 (.inl (xs_al 0 1))) (xlf 1 (.inr (.inl (74, 1, 8, []))))) (xbt 5 (xlf 4 (.inl (xs_al 0 5))) (xbt 6 (xlf 5 (.inl (xs_c (0) 6))) (xlf 6 (.inl (xs_pf 6 3 0 9)))))) (xbt 14 (xbt 10 (xlf 9 (.inl (xs_al 0 10))) (xbt 11 (xlf 10 (.inl (xs_c (0) 11))) (xlf 11 (.inl (xs_pf 6 4 0 14))))) (xbt 15 (xlf 14 (.inl (xs_al 0 15))) (xbt 18 (xlf 15 (.inr (.inl (71, 1, 8, [])))) (xlf 18 (.inr (.inr 0))))))
theorem ok_75 (Ls : Nat) (xs : Nat → Int32) : ∀ pc it, K_75 Ls xs pc = some it → xPI Ls xs md_75 pc it := by
  unfold K_75
  exact xbt_ok (xbt_ok (xbt_ok (xlf_ok (it_75_0 Ls xs)) (xlf_ok (it_75_1 Ls xs))) (xbt_ok (xlf_ok (it_75_4 Ls xs)) (xbt_ok (xlf_ok (it_75_5 Ls xs)) (xlf_ok (it_75_6 Ls xs))))) (xbt_ok (xbt_ok (xlf_ok (it_75_9 Ls xs)) (xbt_ok (xlf_ok (it_75_10 Ls xs)) (xlf_ok (it_75_11 Ls xs)))) (xbt_ok (xlf_ok (it_75_14 Ls xs)) (xbt_ok (xlf_ok (it_75_15 Ls xs)) (xlf_ok (it_75_18 Ls xs)))))
theorem d_76_0 : decode prog_8_method_11_code 0 = .ok (.iconst (0), 1) := by decide +kernel
theorem d_76_1 : decode prog_8_method_11_code 1 = .ok (.istore_n 2, 1) := by decide +kernel
theorem d_76_2 : decode prog_8_method_11_code 2 = .ok (.iconst (0), 1) := by decide +kernel
theorem d_76_3 : decode prog_8_method_11_code 3 = .ok (.istore_n 3, 1) := by decide +kernel
theorem d_76_4 : decode prog_8_method_11_code 4 = .ok (.iload_n 3, 1) := by decide +kernel
theorem d_76_5 : decode prog_8_method_11_code 5 = .ok (.iload_n 1, 1) := by decide +kernel
theorem d_76_6 : decode prog_8_method_11_code 6 = .ok (.if_icmp .ge (18), 3) := by decide +kernel
theorem d_76_9 : decode prog_8_method_11_code 9 = .ok (.iload_n 2, 1) := by decide +kernel
theorem d_76_10 : decode prog_8_method_11_code 10 = .ok (.aload_n 0, 1) := by decide +kernel
theorem d_76_11 : decode prog_8_method_11_code 11 = .ok (.getfield 13, 3) := by decide +kernel
theorem d_76_14 : decode prog_8_method_11_code 14 = .ok (.iload_n 3, 1) := by decide +kernel
theorem d_76_15 : decode prog_8_method_11_code 15 = .ok (.iaload, 1) := by decide +kernel
theorem d_76_16 : decode prog_8_method_11_code 16 = .ok (.iadd, 1) := by decide +kernel
theorem d_76_17 : decode prog_8_method_11_code 17 = .ok (.istore_n 2, 1) := by decide +kernel
theorem d_76_18 : decode prog_8_method_11_code 18 = .ok (.iinc 3 (1), 3) := by decide +kernel
theorem d_76_21 : decode prog_8_method_11_code 21 = .ok (.goto (-17), 3) := by decide +kernel
theorem d_76_24 : decode prog_8_method_11_code 24 = .ok (.iload_n 2, 1) := by decide +kernel
theorem d_76_25 : decode prog_8_method_11_code 25 = .ok (.ireturn, 1) := by decide +kernel
theorem it_76_0 (Ls : Nat) (xs : Nat → Int32) : xPI Ls xs md_76 0 (.inl (xs_c (0) 1)) := by
  exact xs_iconst_ok d_76_0 (by decide)
theorem it_76_1 (Ls : Nat) (xs : Nat → Int32) : xPI Ls xs md_76 1 (.inl (xs_is 4 2 2)) := by
  exact xs_istore_n_ok d_76_1 rfl
theorem it_76_2 (Ls : Nat) (xs : Nat → Int32) : xPI Ls xs md_76 2 (.inl (xs_c (0) 3)) := by
  exact xs_iconst_ok d_76_2 (by decide)
theorem it_76_3 (Ls : Nat) (xs : Nat → Int32) : xPI Ls xs md_76 3 (.inl (xs_is 4 3 4)) := by
  exact xs_istore_n_ok d_76_3 rfl
theorem it_76_4 (Ls : Nat) (xs : Nat → Int32) : xPI Ls xs md_76 4 (.inl (xs_il 3 5)) := by
  exact xs_iload_n_ok d_76_4 rfl
theorem it_76_5 (Ls : Nat) (xs : Nat → Int32) : xPI Ls xs md_76 5 (.inl (xs_il 1 6)) := by
  exact xs_iload_n_ok d_76_5 rfl
theorem it_76_6 (Ls : Nat) (xs : Nat → Int32) : xPI Ls xs md_76 6 (.inl (xs_ic_ge 24 9)) := by
  exact xs_ic_ge_ok d_76_6 (by decide)
theorem it_76_9 (Ls : Nat) (xs : Nat → Int32) : xPI Ls xs md_76 9 (.inl (xs_il 2 10)) := by
  exact xs_iload_n_ok d_76_9 rfl
theorem it_76_10 (Ls : Nat) (xs : Nat → Int32) : xPI Ls xs md_76 10 (.inl (xs_al 0 11)) := by
  exact xs_aload_n_ok d_76_10 rfl
theorem it_76_11 (Ls : Nat) (xs : Nat → Int32) : xPI Ls xs md_76 11 (.inl (xs_gf 6 6 14)) := by
  exact xs_gf_ok d_76_11 (C := R_6) (T := T_6) (N := N_6) rfl in_6 (by decide) tw_793
theorem it_76_14 (Ls : Nat) (xs : Nat → Int32) : xPI Ls xs md_76 14 (.inl (xs_il 3 15)) := by
  exact xs_iload_n_ok d_76_14 rfl
theorem it_76_15 (Ls : Nat) (xs : Nat → Int32) : xPI Ls xs md_76 15 (.inl (xs_ia Ls xs 16)) := by
  exact xs_ia_ok d_76_15
theorem it_76_16 (Ls : Nat) (xs : Nat → Int32) : xPI Ls xs md_76 16 (.inl (xs_iadd 17)) := by
  exact xs_iadd_ok d_76_16
theorem it_76_17 (Ls : Nat) (xs : Nat → Int32) : xPI Ls xs md_76 17 (.inl (xs_is 4 2 18)) := by
  exact xs_istore_n_ok d_76_17 rfl
theorem it_76_18 (Ls : Nat) (xs : Nat → Int32) : xPI Ls xs md_76 18 (.inl (xs_inc 4 3 (1) 21)) := by
  exact xs_iinc_ok d_76_18 (by decide)
theorem it_76_21 (Ls : Nat) (xs : Nat → Int32) : xPI Ls xs md_76 21 (.inl (xs_goto 4)) := by
  exact xs_goto_ok d_76_21 (by decide)
theorem it_76_24 (Ls : Nat) (xs : Nat → Int32) : xPI Ls xs md_76 24 (.inl (xs_il 2 25)) := by
  exact xs_iload_n_ok d_76_24 rfl
theorem it_76_25 (Ls : Nat) (xs : Nat → Int32) : xPI Ls xs md_76 25 (.inr (.inr 1)) := by
  exact ⟨rfl, d_76_25⟩
def K_76 (Ls : Nat) (xs : Nat → Int32) : Nat → Option xK := xbt 11 (xbt 4 (xbt 2 (xbt 1 (xlf 0 (.inl (xs_c (0) 1))) (xlf 1 (.inl (xs_is 4 2 2)))) (xbt 3 (xlf 2 (.inl (xs_c (0) 3))) (xlf 3 (.inl (xs_is 4 3 4))))) (xbt 6 (xbt 5 (xlf 4 (.inl (xs_il 3 5))) (xlf 5 (.inl (xs_il 1 6)))) (xbt 9 (xlf 6 (.inl (xs_ic_ge 24 9))) (xbt 10 (xlf 9 (.inl (xs_il 2 10))) (xlf 10 (.inl (xs_al 0 11))))))) (xbt 17 (xbt 15 (xbt 14 (xlf 11 (.inl (xs_gf 6 6 14))) (xlf 14 (.inl (xs_il 3 15)))) (xbt 16 (xlf 15 (.inl (xs_ia Ls xs 16))) (xlf 16 (.inl (xs_iadd 17))))) (xbt 21 (xbt 18 (xlf 17 (.inl (xs_is 4 2 18))) (xlf 18 (.inl (xs_inc 4 3 (1) 21)))) (xbt 24 (xlf 21 (.inl (xs_goto 4))) (xbt 25 (xlf 24 (.inl (xs_il 2 25))) (xlf 25 (.inr (.inr 1)))))))
theorem ok_76 (Ls : Nat) (xs : Nat → Int32) : ∀ pc it, K_76 Ls xs pc = some it → xPI Ls xs md_76 pc it := by
  unfold K_76
  exact xbt_ok (xbt_ok (xbt_ok (xbt_ok (xlf_ok (it_76_0 Ls xs)) (xlf_ok (it_76_1 Ls xs))) (xbt_ok (xlf_ok (it_76_2 Ls xs)) (xlf_ok (it_76_3 Ls xs)))) (xbt_ok (xbt_ok (xlf_ok (it_76_4 Ls xs)) (xlf_ok (it_76_5 Ls xs))) (xbt_ok (xlf_ok (it_76_6 Ls xs)) (xbt_ok (xlf_ok (it_76_9 Ls xs)) (xlf_ok (it_76_10 Ls xs)))))) (xbt_ok (xbt_ok (xbt_ok (xlf_ok (it_76_11 Ls xs)) (xlf_ok (it_76_14 Ls xs))) (xbt_ok (xlf_ok (it_76_15 Ls xs)) (xlf_ok (it_76_16 Ls xs)))) (xbt_ok (xbt_ok (xlf_ok (it_76_17 Ls xs)) (xlf_ok (it_76_18 Ls xs))) (xbt_ok (xlf_ok (it_76_21 Ls xs)) (xbt_ok (xlf_ok (it_76_24 Ls xs)) (xlf_ok (it_76_25 Ls xs))))))
theorem d_77_0 : decode prog_8_method_13_code 0 = .ok (.aload_n 0, 1) := by decide +kernel
theorem d_77_1 : decode prog_8_method_13_code 1 = .ok (.iload_n 1, 1) := by decide +kernel
theorem d_77_2 : decode prog_8_method_13_code 2 = .ok (.invokevirtual 109, 3) := by decide +kernel
theorem d_77_5 : decode prog_8_method_13_code 5 = .ok (.istore 4, 2) := by decide +kernel
theorem d_77_7 : decode prog_8_method_13_code 7 = .ok (.iload_n 2, 1) := by decide +kernel
theorem d_77_8 : decode prog_8_method_13_code 8 = .ok (.istore 5, 2) := by decide +kernel
theorem d_77_10 : decode prog_8_method_13_code 10 = .ok (.iload 5, 2) := by decide +kernel
theorem d_77_12 : decode prog_8_method_13_code 12 = .ok (.iload_n 3, 1) := by decide +kernel
theorem d_77_13 : decode prog_8_method_13_code 13 = .ok (.if_icmp .ge (28), 3) := by decide +kernel
theorem d_77_16 : decode prog_8_method_13_code 16 = .ok (.aload_n 0, 1) := by decide +kernel
theorem d_77_17 : decode prog_8_method_13_code 17 = .ok (.aload_n 0, 1) := by decide +kernel
theorem d_77_18 : decode prog_8_method_13_code 18 = .ok (.getfield 16, 3) := by decide +kernel
theorem d_77_21 : decode prog_8_method_13_code 21 = .ok (.iload 4, 2) := by decide +kernel
theorem d_77_23 : decode prog_8_method_13_code 23 = .ok (.iload 5, 2) := by decide +kernel
theorem d_77_25 : decode prog_8_method_13_code 25 = .ok (.iadd, 1) := by decide +kernel
theorem d_77_26 : decode prog_8_method_13_code 26 = .ok (.iaload, 1) := by decide +kernel
theorem d_77_30 : decode prog_8_method_13_code 30 = .ok (.ifCond .ne (5), 3) := by decide +kernel
theorem d_77_33 : decode prog_8_method_13_code 33 = .ok (.iconst (0), 1) := by decide +kernel
theorem d_77_34 : decode prog_8_method_13_code 34 = .ok (.ireturn, 1) := by decide +kernel
theorem d_77_35 : decode prog_8_method_13_code 35 = .ok (.iinc 5 (1), 3) := by decide +kernel
theorem d_77_38 : decode prog_8_method_13_code 38 = .ok (.goto (-28), 3) := by decide +kernel
theorem d_77_41 : decode prog_8_method_13_code 41 = .ok (.iconst (1), 1) := by decide +kernel
theorem d_77_42 : decode prog_8_method_13_code 42 = .ok (.ireturn, 1) := by decide +kernel
theorem it_77_0 (Ls : Nat) (xs : Nat → Int32) : xPI Ls xs md_77 0 (.inl (xs_al 0 1)) := by
  exact xs_aload_n_ok d_77_0 rfl
theorem it_77_1 (Ls : Nat) (xs : Nat → Int32) : xPI Ls xs md_77 1 (.inl (xs_il 1 2)) := by
  exact xs_iload_n_ok d_77_1 rfl
theorem it_77_2 (Ls : Nat) (xs : Nat → Int32) : xPI Ls xs md_77 2 (.inr (.inl (76, 2, 8, []))) := by
  exact ⟨md_76, rfl, tw_7, by decide, ⟨by decide, by decide⟩, Or.inr (Or.inr ⟨6, R_6, T_6, N_6, 109, 1, rfl, rfl, rfl, rfl, d_77_2, tw_903, tw_905, ts_TableMakerModel_beginOf, by decide +kernel, (fun x q h => by cases h)⟩)⟩
theorem it_77_5 (Ls : Nat) (xs : Nat → Int32) : xPI Ls xs md_77 5 (.inl (xs_is 6 4 7)) := by
  exact xs_istore_ok d_77_5
theorem it_77_7 (Ls : Nat) (xs : Nat → Int32) : xPI Ls xs md_77 7 (.inl (xs_il 2 8)) := by
  exact xs_iload_n_ok d_77_7 rfl
theorem it_77_8 (Ls : Nat) (xs : Nat → Int32) : xPI Ls xs md_77 8 (.inl (xs_is 6 5 10)) := by
  exact xs_istore_ok d_77_8
theorem it_77_10 (Ls : Nat) (xs : Nat → Int32) : xPI Ls xs md_77 10 (.inl (xs_il 5 12)) := by
  exact xs_iload_ok d_77_10
theorem it_77_12 (Ls : Nat) (xs : Nat → Int32) : xPI Ls xs md_77 12 (.inl (xs_il 3 13)) := by
  exact xs_iload_n_ok d_77_12 rfl
theorem it_77_13 (Ls : Nat) (xs : Nat → Int32) : xPI Ls xs md_77 13 (.inl (xs_ic_ge 41 16)) := by
  exact xs_ic_ge_ok d_77_13 (by decide)
theorem it_77_16 (Ls : Nat) (xs : Nat → Int32) : xPI Ls xs md_77 16 (.inl (xs_al 0 17)) := by
  exact xs_aload_n_ok d_77_16 rfl
theorem it_77_17 (Ls : Nat) (xs : Nat → Int32) : xPI Ls xs md_77 17 (.inl (xs_al 0 18)) := by
  exact xs_aload_n_ok d_77_17 rfl
theorem it_77_18 (Ls : Nat) (xs : Nat → Int32) : xPI Ls xs md_77 18 (.inl (xs_gf 6 7 21)) := by
  exact xs_gf_ok d_77_18 (C := R_6) (T := T_6) (N := N_6) rfl in_6 (by decide) tw_794
theorem it_77_21 (Ls : Nat) (xs : Nat → Int32) : xPI Ls xs md_77 21 (.inl (xs_il 4 23)) := by
  exact xs_iload_ok d_77_21
theorem it_77_23 (Ls : Nat) (xs : Nat → Int32) : xPI Ls xs md_77 23 (.inl (xs_il 5 25)) := by
  exact xs_iload_ok d_77_23
theorem it_77_25 (Ls : Nat) (xs : Nat → Int32) : xPI Ls xs md_77 25 (.inl (xs_iadd 26)) := by
  exact xs_iadd_ok d_77_25
theorem it_77_26 (Ls : Nat) (xs : Nat → Int32) : xPI Ls xs md_77 26 (.inl (xs_ia Ls xs 27)) := by
  exact xs_ia_ok d_77_26
theorem it_77_30 (Ls : Nat) (xs : Nat → Int32) : xPI Ls xs md_77 30 (.inl (xs_if_ne 35 33)) := by
  exact xs_if_ne_ok d_77_30 (by decide)
theorem it_77_33 (Ls : Nat) (xs : Nat → Int32) : xPI Ls xs md_77 33 (.inl (xs_c (0) 34)) := by
  exact xs_iconst_ok d_77_33 (by decide)
theorem it_77_34 (Ls : Nat) (xs : Nat → Int32) : xPI Ls xs md_77 34 (.inr (.inr 2)) := by
  exact ⟨rfl, d_77_34⟩
theorem it_77_35 (Ls : Nat) (xs : Nat → Int32) : xPI Ls xs md_77 35 (.inl (xs_inc 6 5 (1) 38)) := by
  exact xs_iinc_ok d_77_35 (by decide)
theorem it_77_38 (Ls : Nat) (xs : Nat → Int32) : xPI Ls xs md_77 38 (.inl (xs_goto 10)) := by
  exact xs_goto_ok d_77_38 (by decide)
theorem it_77_41 (Ls : Nat) (xs : Nat → Int32) : xPI Ls xs md_77 41 (.inl (xs_c (1) 42)) := by
  exact xs_iconst_ok d_77_41 (by decide)
theorem it_77_42 (Ls : Nat) (xs : Nat → Int32) : xPI Ls xs md_77 42 (.inr (.inr 2)) := by
  exact ⟨rfl, d_77_42⟩
def K_77 (Ls : Nat) (xs : Nat → Int32) : Nat → Option xK := xbt 18 (xbt 8 (xbt 2 (xbt 1 (xlf 0 (.inl (xs_al 0 1))) (xlf 1 (.inl (xs_il 1 2)))) (xbt 5 (xlf 2 (.inr (.inl (76, 2, 8, [])))) (xbt 7 (xlf 5 (.inl (xs_is 6 4 7))) (xlf 7 (.inl (xs_il 2 8)))))) (xbt 13 (xbt 10 (xlf 8 (.inl (xs_is 6 5 10))) (xbt 12 (xlf 10 (.inl (xs_il 5 12))) (xlf 12 (.inl (xs_il 3 13))))) (xbt 16 (xlf 13 (.inl (xs_ic_ge 41 16))) (xbt 17 (xlf 16 (.inl (xs_al 0 17))) (xlf 17 (.inl (xs_al 0 18))))))) (xbt 33 (xbt 25 (xbt 21 (xlf 18 (.inl (xs_gf 6 7 21))) (xbt 23 (xlf 21 (.inl (xs_il 4 23))) (xlf 23 (.inl (xs_il 5 25))))) (xbt 26 (xlf 25 (.inl (xs_iadd 26))) (xbt 30 (xlf 26 (.inl (xs_ia Ls xs 27))) (xlf 30 (.inl (xs_if_ne 35 33)))))) (xbt 38 (xbt 34 (xlf 33 (.inl (xs_c (0) 34))) (xbt 35 (xlf 34 (.inr (.inr 2))) (xlf 35 (.inl (xs_inc 6 5 (1) 38))))) (xbt 41 (xlf 38 (.inl (xs_goto 10))) (xbt 42 (xlf 41 (.inl (xs_c (1) 42))) (xlf 42 (.inr (.inr 2)))))))
theorem ok_77 (Ls : Nat) (xs : Nat → Int32) : ∀ pc it, K_77 Ls xs pc = some it → xPI Ls xs md_77 pc it := by
  unfold K_77
  exact xbt_ok (xbt_ok (xbt_ok (xbt_ok (xlf_ok (it_77_0 Ls xs)) (xlf_ok (it_77_1 Ls xs))) (xbt_ok (xlf_ok (it_77_2 Ls xs)) (xbt_ok (xlf_ok (it_77_5 Ls xs)) (xlf_ok (it_77_7 Ls xs))))) (xbt_ok (xbt_ok (xlf_ok (it_77_8 Ls xs)) (xbt_ok (xlf_ok (it_77_10 Ls xs)) (xlf_ok (it_77_12 Ls xs)))) (xbt_ok (xlf_ok (it_77_13 Ls xs)) (xbt_ok (xlf_ok (it_77_16 Ls xs)) (xlf_ok (it_77_17 Ls xs)))))) (xbt_ok (xbt_ok (xbt_ok (xlf_ok (it_77_18 Ls xs)) (xbt_ok (xlf_ok (it_77_21 Ls xs)) (xlf_ok (it_77_23 Ls xs)))) (xbt_ok (xlf_ok (it_77_25 Ls xs)) (xbt_ok (xlf_ok (it_77_26 Ls xs)) (xlf_ok (it_77_30 Ls xs))))) (xbt_ok (xbt_ok (xlf_ok (it_77_33 Ls xs)) (xbt_ok (xlf_ok (it_77_34 Ls xs)) (xlf_ok (it_77_35 Ls xs)))) (xbt_ok (xlf_ok (it_77_38 Ls xs)) (xbt_ok (xlf_ok (it_77_41 Ls xs)) (xlf_ok (it_77_42 Ls xs))))))
theorem d_78_0 : decode prog_8_method_14_code 0 = .ok (.iconst (0), 1) := by decide +kernel
theorem d_78_1 : decode prog_8_method_14_code 1 = .ok (.istore_n 1, 1) := by decide +kernel
theorem d_78_2 : decode prog_8_method_14_code 2 = .ok (.iload_n 1, 1) := by decide +kernel
theorem d_78_3 : decode prog_8_method_14_code 3 = .ok (.bipush (6), 2) := by decide +kernel
theorem d_78_5 : decode prog_8_method_14_code 5 = .ok (.if_icmp .ge (16), 3) := by decide +kernel
theorem d_78_8 : decode prog_8_method_14_code 8 = .ok (.aload_n 0, 1) := by decide +kernel
theorem d_78_9 : decode prog_8_method_14_code 9 = .ok (.getfield 19, 3) := by decide +kernel
theorem d_78_12 : decode prog_8_method_14_code 12 = .ok (.iload_n 1, 1) := by decide +kernel
theorem d_78_13 : decode prog_8_method_14_code 13 = .ok (.iconst (0), 1) := by decide +kernel
theorem d_78_14 : decode prog_8_method_14_code 14 = .ok (.bastore, 1) := by decide +kernel
theorem d_78_15 : decode prog_8_method_14_code 15 = .ok (.iinc 1 (1), 3) := by decide +kernel
theorem d_78_18 : decode prog_8_method_14_code 18 = .ok (.goto (-16), 3) := by decide +kernel
theorem d_78_21 : decode prog_8_method_14_code 21 = .ok (.iconst (0), 1) := by decide +kernel
theorem d_78_22 : decode prog_8_method_14_code 22 = .ok (.istore_n 1, 1) := by decide +kernel
theorem d_78_23 : decode prog_8_method_14_code 23 = .ok (.iload_n 1, 1) := by decide +kernel
theorem d_78_24 : decode prog_8_method_14_code 24 = .ok (.bipush (78), 2) := by decide +kernel
theorem d_78_26 : decode prog_8_method_14_code 26 = .ok (.if_icmp .ge (16), 3) := by decide +kernel
theorem d_78_29 : decode prog_8_method_14_code 29 = .ok (.aload_n 0, 1) := by decide +kernel
theorem d_78_30 : decode prog_8_method_14_code 30 = .ok (.getfield 23, 3) := by decide +kernel
theorem d_78_33 : decode prog_8_method_14_code 33 = .ok (.iload_n 1, 1) := by decide +kernel
theorem d_78_34 : decode prog_8_method_14_code 34 = .ok (.iconst (0), 1) := by decide +kernel
theorem d_78_35 : decode prog_8_method_14_code 35 = .ok (.bastore, 1) := by decide +kernel
theorem d_78_36 : decode prog_8_method_14_code 36 = .ok (.iinc 1 (1), 3) := by decide +kernel
theorem d_78_39 : decode prog_8_method_14_code 39 = .ok (.goto (-16), 3) := by decide +kernel
theorem d_78_42 : decode prog_8_method_14_code 42 = .ok (.iconst (0), 1) := by decide +kernel
theorem d_78_43 : decode prog_8_method_14_code 43 = .ok (.istore_n 1, 1) := by decide +kernel
theorem d_78_44 : decode prog_8_method_14_code 44 = .ok (.iload_n 1, 1) := by decide +kernel
theorem d_78_45 : decode prog_8_method_14_code 45 = .ok (.aload_n 0, 1) := by decide +kernel
theorem d_78_46 : decode prog_8_method_14_code 46 = .ok (.getfield 64, 3) := by decide +kernel
theorem d_78_49 : decode prog_8_method_14_code 49 = .ok (.if_icmp .ge (57), 3) := by decide +kernel
theorem d_78_52 : decode prog_8_method_14_code 52 = .ok (.iconst (0), 1) := by decide +kernel
theorem d_78_53 : decode prog_8_method_14_code 53 = .ok (.istore_n 2, 1) := by decide +kernel
theorem d_78_54 : decode prog_8_method_14_code 54 = .ok (.iload_n 2, 1) := by decide +kernel
theorem d_78_55 : decode prog_8_method_14_code 55 = .ok (.aload_n 0, 1) := by decide +kernel
theorem d_78_56 : decode prog_8_method_14_code 56 = .ok (.getfield 85, 3) := by decide +kernel
theorem d_78_59 : decode prog_8_method_14_code 59 = .ok (.if_icmp .ge (41), 3) := by decide +kernel
theorem d_78_62 : decode prog_8_method_14_code 62 = .ok (.aload_n 0, 1) := by decide +kernel
theorem d_78_63 : decode prog_8_method_14_code 63 = .ok (.iload_n 2, 1) := by decide +kernel
theorem d_78_64 : decode prog_8_method_14_code 64 = .ok (.iconst (0), 1) := by decide +kernel
theorem d_78_65 : decode prog_8_method_14_code 65 = .ok (.aload_n 0, 1) := by decide +kernel
theorem d_78_66 : decode prog_8_method_14_code 66 = .ok (.getfield 13, 3) := by decide +kernel
theorem d_78_69 : decode prog_8_method_14_code 69 = .ok (.iload_n 2, 1) := by decide +kernel
theorem d_78_70 : decode prog_8_method_14_code 70 = .ok (.iaload, 1) := by decide +kernel
theorem d_78_71 : decode prog_8_method_14_code 71 = .ok (.invokevirtual 116, 3) := by decide +kernel
theorem d_78_74 : decode prog_8_method_14_code 74 = .ok (.ifCond .eq (20), 3) := by decide +kernel
theorem d_78_77 : decode prog_8_method_14_code 77 = .ok (.aload_n 0, 1) := by decide +kernel
theorem d_78_78 : decode prog_8_method_14_code 78 = .ok (.getfield 19, 3) := by decide +kernel
theorem d_78_81 : decode prog_8_method_14_code 81 = .ok (.aload_n 0, 1) := by decide +kernel
theorem d_78_82 : decode prog_8_method_14_code 82 = .ok (.getfield 7, 3) := by decide +kernel
theorem d_78_85 : decode prog_8_method_14_code 85 = .ok (.iload_n 2, 1) := by decide +kernel
theorem d_78_86 : decode prog_8_method_14_code 86 = .ok (.iaload, 1) := by decide +kernel
theorem d_78_87 : decode prog_8_method_14_code 87 = .ok (.aload_n 0, 1) := by decide +kernel
theorem d_78_88 : decode prog_8_method_14_code 88 = .ok (.getfield 61, 3) := by decide +kernel
theorem d_78_91 : decode prog_8_method_14_code 91 = .ok (.isub, 1) := by decide +kernel
theorem d_78_92 : decode prog_8_method_14_code 92 = .ok (.iconst (1), 1) := by decide +kernel
theorem d_78_93 : decode prog_8_method_14_code 93 = .ok (.bastore, 1) := by decide +kernel
theorem d_78_94 : decode prog_8_method_14_code 94 = .ok (.iinc 2 (1), 3) := by decide +kernel
theorem d_78_97 : decode prog_8_method_14_code 97 = .ok (.goto (-43), 3) := by decide +kernel
theorem d_78_100 : decode prog_8_method_14_code 100 = .ok (.iinc 1 (1), 3) := by decide +kernel
theorem d_78_103 : decode prog_8_method_14_code 103 = .ok (.goto (-59), 3) := by decide +kernel
theorem d_78_106 : decode prog_8_method_14_code 106 = .ok (.iconst (0), 1) := by decide +kernel
theorem d_78_107 : decode prog_8_method_14_code 107 = .ok (.istore_n 1, 1) := by decide +kernel
theorem d_78_108 : decode prog_8_method_14_code 108 = .ok (.iload_n 1, 1) := by decide +kernel
theorem d_78_109 : decode prog_8_method_14_code 109 = .ok (.aload_n 0, 1) := by decide +kernel
theorem d_78_110 : decode prog_8_method_14_code 110 = .ok (.getfield 85, 3) := by decide +kernel
theorem d_78_113 : decode prog_8_method_14_code 113 = .ok (.if_icmp .ge (72), 3) := by decide +kernel
theorem d_78_116 : decode prog_8_method_14_code 116 = .ok (.aload_n 0, 1) := by decide +kernel
theorem d_78_117 : decode prog_8_method_14_code 117 = .ok (.iload_n 1, 1) := by decide +kernel
theorem d_78_118 : decode prog_8_method_14_code 118 = .ok (.invokevirtual 109, 3) := by decide +kernel
theorem d_78_121 : decode prog_8_method_14_code 121 = .ok (.istore_n 2, 1) := by decide +kernel
theorem d_78_122 : decode prog_8_method_14_code 122 = .ok (.iconst (0), 1) := by decide +kernel
theorem d_78_123 : decode prog_8_method_14_code 123 = .ok (.istore_n 3, 1) := by decide +kernel
theorem d_78_124 : decode prog_8_method_14_code 124 = .ok (.iload_n 3, 1) := by decide +kernel
theorem d_78_125 : decode prog_8_method_14_code 125 = .ok (.aload_n 0, 1) := by decide +kernel
theorem d_78_126 : decode prog_8_method_14_code 126 = .ok (.getfield 13, 3) := by decide +kernel
theorem d_78_129 : decode prog_8_method_14_code 129 = .ok (.iload_n 1, 1) := by decide +kernel
theorem d_78_130 : decode prog_8_method_14_code 130 = .ok (.iaload, 1) := by decide +kernel
theorem d_78_131 : decode prog_8_method_14_code 131 = .ok (.if_icmp .ge (48), 3) := by decide +kernel
theorem d_78_134 : decode prog_8_method_14_code 134 = .ok (.aload_n 0, 1) := by decide +kernel
theorem d_78_135 : decode prog_8_method_14_code 135 = .ok (.iload_n 1, 1) := by decide +kernel
theorem d_78_136 : decode prog_8_method_14_code 136 = .ok (.iconst (0), 1) := by decide +kernel
theorem d_78_137 : decode prog_8_method_14_code 137 = .ok (.iload_n 3, 1) := by decide +kernel
theorem d_78_138 : decode prog_8_method_14_code 138 = .ok (.invokevirtual 116, 3) := by decide +kernel
theorem d_78_141 : decode prog_8_method_14_code 141 = .ok (.ifCond .eq (32), 3) := by decide +kernel
theorem d_78_144 : decode prog_8_method_14_code 144 = .ok (.aload_n 0, 1) := by decide +kernel
theorem d_78_145 : decode prog_8_method_14_code 145 = .ok (.getfield 23, 3) := by decide +kernel
theorem d_78_148 : decode prog_8_method_14_code 148 = .ok (.bipush (13), 2) := by decide +kernel
theorem d_78_150 : decode prog_8_method_14_code 150 = .ok (.aload_n 0, 1) := by decide +kernel
theorem d_78_151 : decode prog_8_method_14_code 151 = .ok (.getfield 7, 3) := by decide +kernel
theorem d_78_154 : decode prog_8_method_14_code 154 = .ok (.iload_n 1, 1) := by decide +kernel
theorem d_78_155 : decode prog_8_method_14_code 155 = .ok (.iaload, 1) := by decide +kernel
theorem d_78_156 : decode prog_8_method_14_code 156 = .ok (.aload_n 0, 1) := by decide +kernel
theorem d_78_157 : decode prog_8_method_14_code 157 = .ok (.getfield 61, 3) := by decide +kernel
theorem d_78_160 : decode prog_8_method_14_code 160 = .ok (.isub, 1) := by decide +kernel
theorem d_78_161 : decode prog_8_method_14_code 161 = .ok (.imul, 1) := by decide +kernel
theorem d_78_162 : decode prog_8_method_14_code 162 = .ok (.aload_n 0, 1) := by decide +kernel
theorem d_78_163 : decode prog_8_method_14_code 163 = .ok (.getfield 16, 3) := by decide +kernel
theorem d_78_166 : decode prog_8_method_14_code 166 = .ok (.iload_n 2, 1) := by decide +kernel
theorem d_78_167 : decode prog_8_method_14_code 167 = .ok (.iload_n 3, 1) := by decide +kernel
theorem d_78_168 : decode prog_8_method_14_code 168 = .ok (.iadd, 1) := by decide +kernel
theorem d_78_169 : decode prog_8_method_14_code 169 = .ok (.iaload, 1) := by decide +kernel
theorem d_78_170 : decode prog_8_method_14_code 170 = .ok (.iadd, 1) := by decide +kernel
theorem d_78_171 : decode prog_8_method_14_code 171 = .ok (.iconst (1), 1) := by decide +kernel
theorem d_78_172 : decode prog_8_method_14_code 172 = .ok (.bastore, 1) := by decide +kernel
theorem d_78_173 : decode prog_8_method_14_code 173 = .ok (.iinc 3 (1), 3) := by decide +kernel
theorem d_78_176 : decode prog_8_method_14_code 176 = .ok (.goto (-52), 3) := by decide +kernel
theorem d_78_179 : decode prog_8_method_14_code 179 = .ok (.iinc 1 (1), 3) := by decide +kernel
theorem d_78_182 : decode prog_8_method_14_code 182 = .ok (.goto (-74), 3) := by decide +kernel
theorem d_78_185 : decode prog_8_method_14_code 185 = .ok (.iconst (0), 1) := by decide +kernel
theorem d_78_186 : decode prog_8_method_14_code 186 = .ok (.istore_n 1, 1) := by decide +kernel
theorem d_78_187 : decode prog_8_method_14_code 187 = .ok (.iload_n 1, 1) := by decide +kernel
theorem d_78_188 : decode prog_8_method_14_code 188 = .ok (.aload_n 0, 1) := by decide +kernel
theorem d_78_189 : decode prog_8_method_14_code 189 = .ok (.getfield 64, 3) := by decide +kernel
theorem d_78_192 : decode prog_8_method_14_code 192 = .ok (.if_icmp .ge (121), 3) := by decide +kernel
theorem d_78_195 : decode prog_8_method_14_code 195 = .ok (.iconst (0), 1) := by decide +kernel
theorem d_78_196 : decode prog_8_method_14_code 196 = .ok (.istore_n 2, 1) := by decide +kernel
theorem d_78_197 : decode prog_8_method_14_code 197 = .ok (.iload_n 2, 1) := by decide +kernel
theorem d_78_198 : decode prog_8_method_14_code 198 = .ok (.aload_n 0, 1) := by decide +kernel
theorem d_78_199 : decode prog_8_method_14_code 199 = .ok (.getfield 64, 3) := by decide +kernel
theorem d_78_202 : decode prog_8_method_14_code 202 = .ok (.if_icmp .ge (105), 3) := by decide +kernel
theorem d_78_205 : decode prog_8_method_14_code 205 = .ok (.iconst (0), 1) := by decide +kernel
theorem d_78_206 : decode prog_8_method_14_code 206 = .ok (.istore_n 3, 1) := by decide +kernel
theorem d_78_207 : decode prog_8_method_14_code 207 = .ok (.iload_n 3, 1) := by decide +kernel
theorem d_78_208 : decode prog_8_method_14_code 208 = .ok (.aload_n 0, 1) := by decide +kernel
theorem d_78_209 : decode prog_8_method_14_code 209 = .ok (.getfield 61, 3) := by decide +kernel
theorem d_78_212 : decode prog_8_method_14_code 212 = .ok (.aload_n 0, 1) := by decide +kernel
theorem d_78_213 : decode prog_8_method_14_code 213 = .ok (.getfield 64, 3) := by decide +kernel
theorem d_78_216 : decode prog_8_method_14_code 216 = .ok (.iadd, 1) := by decide +kernel
theorem d_78_217 : decode prog_8_method_14_code 217 = .ok (.if_icmp .ge (84), 3) := by decide +kernel
theorem d_78_220 : decode prog_8_method_14_code 220 = .ok (.aload_n 0, 1) := by decide +kernel
theorem d_78_221 : decode prog_8_method_14_code 221 = .ok (.getfield 23, 3) := by decide +kernel
theorem d_78_224 : decode prog_8_method_14_code 224 = .ok (.bipush (13), 2) := by decide +kernel
theorem d_78_226 : decode prog_8_method_14_code 226 = .ok (.iload_n 2, 1) := by decide +kernel
theorem d_78_227 : decode prog_8_method_14_code 227 = .ok (.imul, 1) := by decide +kernel
theorem d_78_228 : decode prog_8_method_14_code 228 = .ok (.aload_n 0, 1) := by decide +kernel
theorem d_78_229 : decode prog_8_method_14_code 229 = .ok (.getfield 61, 3) := by decide +kernel
theorem d_78_232 : decode prog_8_method_14_code 232 = .ok (.iadd, 1) := by decide +kernel
theorem d_78_233 : decode prog_8_method_14_code 233 = .ok (.iload_n 1, 1) := by decide +kernel
theorem d_78_234 : decode prog_8_method_14_code 234 = .ok (.iadd, 1) := by decide +kernel
theorem d_78_235 : decode prog_8_method_14_code 235 = .ok (.baload, 1) := by decide +kernel
theorem d_78_236 : decode prog_8_method_14_code 236 = .ok (.ifCond .eq (21), 3) := by decide +kernel
theorem d_78_239 : decode prog_8_method_14_code 239 = .ok (.aload_n 0, 1) := by decide +kernel
theorem d_78_240 : decode prog_8_method_14_code 240 = .ok (.getfield 23, 3) := by decide +kernel
theorem d_78_243 : decode prog_8_method_14_code 243 = .ok (.bipush (13), 2) := by decide +kernel
theorem d_78_245 : decode prog_8_method_14_code 245 = .ok (.iload_n 1, 1) := by decide +kernel
theorem d_78_246 : decode prog_8_method_14_code 246 = .ok (.imul, 1) := by decide +kernel
theorem d_78_247 : decode prog_8_method_14_code 247 = .ok (.iload_n 3, 1) := by decide +kernel
theorem d_78_248 : decode prog_8_method_14_code 248 = .ok (.iadd, 1) := by decide +kernel
theorem d_78_249 : decode prog_8_method_14_code 249 = .ok (.baload, 1) := by decide +kernel
theorem d_78_250 : decode prog_8_method_14_code 250 = .ok (.ifCond .eq (7), 3) := by decide +kernel
theorem d_78_253 : decode prog_8_method_14_code 253 = .ok (.iconst (1), 1) := by decide +kernel
theorem d_78_254 : decode prog_8_method_14_code 254 = .ok (.goto (4), 3) := by decide +kernel
theorem d_78_257 : decode prog_8_method_14_code 257 = .ok (.iconst (0), 1) := by decide +kernel
theorem d_78_258 : decode prog_8_method_14_code 258 = .ok (.istore 4, 2) := by decide +kernel
theorem d_78_260 : decode prog_8_method_14_code 260 = .ok (.aload_n 0, 1) := by decide +kernel
theorem d_78_261 : decode prog_8_method_14_code 261 = .ok (.getfield 23, 3) := by decide +kernel
theorem d_78_264 : decode prog_8_method_14_code 264 = .ok (.bipush (13), 2) := by decide +kernel
theorem d_78_266 : decode prog_8_method_14_code 266 = .ok (.iload_n 2, 1) := by decide +kernel
theorem d_78_267 : decode prog_8_method_14_code 267 = .ok (.imul, 1) := by decide +kernel
theorem d_78_268 : decode prog_8_method_14_code 268 = .ok (.iload_n 3, 1) := by decide +kernel
theorem d_78_269 : decode prog_8_method_14_code 269 = .ok (.iadd, 1) := by decide +kernel
theorem d_78_270 : decode prog_8_method_14_code 270 = .ok (.aload_n 0, 1) := by decide +kernel
theorem d_78_271 : decode prog_8_method_14_code 271 = .ok (.getfield 23, 3) := by decide +kernel
theorem d_78_274 : decode prog_8_method_14_code 274 = .ok (.bipush (13), 2) := by decide +kernel
theorem d_78_276 : decode prog_8_method_14_code 276 = .ok (.iload_n 2, 1) := by decide +kernel
theorem d_78_277 : decode prog_8_method_14_code 277 = .ok (.imul, 1) := by decide +kernel
theorem d_78_278 : decode prog_8_method_14_code 278 = .ok (.iload_n 3, 1) := by decide +kernel
theorem d_78_279 : decode prog_8_method_14_code 279 = .ok (.iadd, 1) := by decide +kernel
theorem d_78_280 : decode prog_8_method_14_code 280 = .ok (.baload, 1) := by decide +kernel
theorem d_78_281 : decode prog_8_method_14_code 281 = .ok (.ifCond .ne (8), 3) := by decide +kernel
theorem d_78_284 : decode prog_8_method_14_code 284 = .ok (.iload 4, 2) := by decide +kernel
theorem d_78_286 : decode prog_8_method_14_code 286 = .ok (.ifCond .eq (7), 3) := by decide +kernel
theorem d_78_289 : decode prog_8_method_14_code 289 = .ok (.iconst (1), 1) := by decide +kernel
theorem d_78_290 : decode prog_8_method_14_code 290 = .ok (.goto (4), 3) := by decide +kernel
theorem d_78_293 : decode prog_8_method_14_code 293 = .ok (.iconst (0), 1) := by decide +kernel
theorem d_78_294 : decode prog_8_method_14_code 294 = .ok (.bastore, 1) := by decide +kernel
theorem d_78_295 : decode prog_8_method_14_code 295 = .ok (.iinc 3 (1), 3) := by decide +kernel
theorem d_78_298 : decode prog_8_method_14_code 298 = .ok (.goto (-91), 3) := by decide +kernel
theorem d_78_301 : decode prog_8_method_14_code 301 = .ok (.iinc 2 (1), 3) := by decide +kernel
theorem d_78_304 : decode prog_8_method_14_code 304 = .ok (.goto (-107), 3) := by decide +kernel
theorem d_78_307 : decode prog_8_method_14_code 307 = .ok (.iinc 1 (1), 3) := by decide +kernel
theorem d_78_310 : decode prog_8_method_14_code 310 = .ok (.goto (-123), 3) := by decide +kernel
theorem d_78_313 : decode prog_8_method_14_code 313 = .ok (.return_, 1) := by decide +kernel
theorem it_78_0 (Ls : Nat) (xs : Nat → Int32) : xPI Ls xs md_78 0 (.inl (xs_c (0) 1)) := by
  exact xs_iconst_ok d_78_0 (by decide)
theorem it_78_1 (Ls : Nat) (xs : Nat → Int32) : xPI Ls xs md_78 1 (.inl (xs_is 5 1 2)) := by
  exact xs_istore_n_ok d_78_1 rfl
theorem it_78_2 (Ls : Nat) (xs : Nat → Int32) : xPI Ls xs md_78 2 (.inl (xs_il 1 3)) := by
  exact xs_iload_n_ok d_78_2 rfl
theorem it_78_3 (Ls : Nat) (xs : Nat → Int32) : xPI Ls xs md_78 3 (.inl (xs_c (6) 5)) := by
  exact xs_bipush_ok d_78_3 (by decide)
theorem it_78_5 (Ls : Nat) (xs : Nat → Int32) : xPI Ls xs md_78 5 (.inl (xs_ic_ge 21 8)) := by
  exact xs_ic_ge_ok d_78_5 (by decide)
theorem it_78_8 (Ls : Nat) (xs : Nat → Int32) : xPI Ls xs md_78 8 (.inl (xs_al 0 9)) := by
  exact xs_aload_n_ok d_78_8 rfl
theorem it_78_9 (Ls : Nat) (xs : Nat → Int32) : xPI Ls xs md_78 9 (.inl (xs_gf 6 8 12)) := by
  exact xs_gf_ok d_78_9 (C := R_6) (T := T_6) (N := N_6) rfl in_6 (by decide) tw_795
theorem it_78_12 (Ls : Nat) (xs : Nat → Int32) : xPI Ls xs md_78 12 (.inl (xs_il 1 13)) := by
  exact xs_iload_n_ok d_78_12 rfl
theorem it_78_13 (Ls : Nat) (xs : Nat → Int32) : xPI Ls xs md_78 13 (.inl (xs_c (0) 14)) := by
  exact xs_iconst_ok d_78_13 (by decide)
theorem it_78_14 (Ls : Nat) (xs : Nat → Int32) : xPI Ls xs md_78 14 (.inl (xs_zas 15)) := by
  exact xs_zas_ok d_78_14
theorem it_78_15 (Ls : Nat) (xs : Nat → Int32) : xPI Ls xs md_78 15 (.inl (xs_inc 5 1 (1) 18)) := by
  exact xs_iinc_ok d_78_15 (by decide)
theorem it_78_18 (Ls : Nat) (xs : Nat → Int32) : xPI Ls xs md_78 18 (.inl (xs_goto 2)) := by
  exact xs_goto_ok d_78_18 (by decide)
theorem it_78_21 (Ls : Nat) (xs : Nat → Int32) : xPI Ls xs md_78 21 (.inl (xs_c (0) 22)) := by
  exact xs_iconst_ok d_78_21 (by decide)
theorem it_78_22 (Ls : Nat) (xs : Nat → Int32) : xPI Ls xs md_78 22 (.inl (xs_is 5 1 23)) := by
  exact xs_istore_n_ok d_78_22 rfl
theorem it_78_23 (Ls : Nat) (xs : Nat → Int32) : xPI Ls xs md_78 23 (.inl (xs_il 1 24)) := by
  exact xs_iload_n_ok d_78_23 rfl
theorem it_78_24 (Ls : Nat) (xs : Nat → Int32) : xPI Ls xs md_78 24 (.inl (xs_c (78) 26)) := by
  exact xs_bipush_ok d_78_24 (by decide)
theorem it_78_26 (Ls : Nat) (xs : Nat → Int32) : xPI Ls xs md_78 26 (.inl (xs_ic_ge 42 29)) := by
  exact xs_ic_ge_ok d_78_26 (by decide)
theorem it_78_29 (Ls : Nat) (xs : Nat → Int32) : xPI Ls xs md_78 29 (.inl (xs_al 0 30)) := by
  exact xs_aload_n_ok d_78_29 rfl
theorem it_78_30 (Ls : Nat) (xs : Nat → Int32) : xPI Ls xs md_78 30 (.inl (xs_gf 6 9 33)) := by
  exact xs_gf_ok d_78_30 (C := R_6) (T := T_6) (N := N_6) rfl in_6 (by decide) tw_796
theorem it_78_33 (Ls : Nat) (xs : Nat → Int32) : xPI Ls xs md_78 33 (.inl (xs_il 1 34)) := by
  exact xs_iload_n_ok d_78_33 rfl
theorem it_78_34 (Ls : Nat) (xs : Nat → Int32) : xPI Ls xs md_78 34 (.inl (xs_c (0) 35)) := by
  exact xs_iconst_ok d_78_34 (by decide)
theorem it_78_35 (Ls : Nat) (xs : Nat → Int32) : xPI Ls xs md_78 35 (.inl (xs_zas 36)) := by
  exact xs_zas_ok d_78_35
theorem it_78_36 (Ls : Nat) (xs : Nat → Int32) : xPI Ls xs md_78 36 (.inl (xs_inc 5 1 (1) 39)) := by
  exact xs_iinc_ok d_78_36 (by decide)
theorem it_78_39 (Ls : Nat) (xs : Nat → Int32) : xPI Ls xs md_78 39 (.inl (xs_goto 23)) := by
  exact xs_goto_ok d_78_39 (by decide)
theorem it_78_42 (Ls : Nat) (xs : Nat → Int32) : xPI Ls xs md_78 42 (.inl (xs_c (0) 43)) := by
  exact xs_iconst_ok d_78_42 (by decide)
theorem it_78_43 (Ls : Nat) (xs : Nat → Int32) : xPI Ls xs md_78 43 (.inl (xs_is 5 1 44)) := by
  exact xs_istore_n_ok d_78_43 rfl
theorem it_78_44 (Ls : Nat) (xs : Nat → Int32) : xPI Ls xs md_78 44 (.inl (xs_il 1 45)) := by
  exact xs_iload_n_ok d_78_44 rfl
theorem it_78_45 (Ls : Nat) (xs : Nat → Int32) : xPI Ls xs md_78 45 (.inl (xs_al 0 46)) := by
  exact xs_aload_n_ok d_78_45 rfl
theorem it_78_46 (Ls : Nat) (xs : Nat → Int32) : xPI Ls xs md_78 46 (.inl (xs_gf 6 2 49)) := by
  exact xs_gf_ok d_78_46 (C := R_6) (T := T_6) (N := N_6) rfl in_6 (by decide) tw_789
theorem it_78_49 (Ls : Nat) (xs : Nat → Int32) : xPI Ls xs md_78 49 (.inl (xs_ic_ge 106 52)) := by
  exact xs_ic_ge_ok d_78_49 (by decide)
theorem it_78_52 (Ls : Nat) (xs : Nat → Int32) : xPI Ls xs md_78 52 (.inl (xs_c (0) 53)) := by
  exact xs_iconst_ok d_78_52 (by decide)
theorem it_78_53 (Ls : Nat) (xs : Nat → Int32) : xPI Ls xs md_78 53 (.inl (xs_is 5 2 54)) := by
  exact xs_istore_n_ok d_78_53 rfl
theorem it_78_54 (Ls : Nat) (xs : Nat → Int32) : xPI Ls xs md_78 54 (.inl (xs_il 2 55)) := by
  exact xs_iload_n_ok d_78_54 rfl
theorem it_78_55 (Ls : Nat) (xs : Nat → Int32) : xPI Ls xs md_78 55 (.inl (xs_al 0 56)) := by
  exact xs_aload_n_ok d_78_55 rfl
theorem it_78_56 (Ls : Nat) (xs : Nat → Int32) : xPI Ls xs md_78 56 (.inl (xs_gf 6 3 59)) := by
  exact xs_gf_ok d_78_56 (C := R_6) (T := T_6) (N := N_6) rfl in_6 (by decide) tw_790
theorem it_78_59 (Ls : Nat) (xs : Nat → Int32) : xPI Ls xs md_78 59 (.inl (xs_ic_ge 100 62)) := by
  exact xs_ic_ge_ok d_78_59 (by decide)
theorem it_78_62 (Ls : Nat) (xs : Nat → Int32) : xPI Ls xs md_78 62 (.inl (xs_al 0 63)) := by
  exact xs_aload_n_ok d_78_62 rfl
theorem it_78_63 (Ls : Nat) (xs : Nat → Int32) : xPI Ls xs md_78 63 (.inl (xs_il 2 64)) := by
  exact xs_iload_n_ok d_78_63 rfl
theorem it_78_64 (Ls : Nat) (xs : Nat → Int32) : xPI Ls xs md_78 64 (.inl (xs_c (0) 65)) := by
  exact xs_iconst_ok d_78_64 (by decide)
theorem it_78_65 (Ls : Nat) (xs : Nat → Int32) : xPI Ls xs md_78 65 (.inl (xs_al 0 66)) := by
  exact xs_aload_n_ok d_78_65 rfl
theorem it_78_66 (Ls : Nat) (xs : Nat → Int32) : xPI Ls xs md_78 66 (.inl (xs_gf 6 6 69)) := by
  exact xs_gf_ok d_78_66 (C := R_6) (T := T_6) (N := N_6) rfl in_6 (by decide) tw_793
theorem it_78_69 (Ls : Nat) (xs : Nat → Int32) : xPI Ls xs md_78 69 (.inl (xs_il 2 70)) := by
  exact xs_iload_n_ok d_78_69 rfl
theorem it_78_70 (Ls : Nat) (xs : Nat → Int32) : xPI Ls xs md_78 70 (.inl (xs_ia Ls xs 71)) := by
  exact xs_ia_ok d_78_70
theorem it_78_71 (Ls : Nat) (xs : Nat → Int32) : xPI Ls xs md_78 71 (.inr (.inl (77, 4, 8, []))) := by
  exact ⟨md_77, rfl, tw_7, by decide, ⟨by decide, by decide⟩, Or.inr (Or.inr ⟨6, R_6, T_6, N_6, 116, 3, rfl, rfl, rfl, rfl, d_78_71, tw_899, tw_901, ts_TableMakerModel_allEmpty, by decide +kernel, (fun x q h => by cases h)⟩)⟩
theorem it_78_74 (Ls : Nat) (xs : Nat → Int32) : xPI Ls xs md_78 74 (.inl (xs_if_eq 94 77)) := by
  exact xs_if_eq_ok d_78_74 (by decide)
theorem it_78_77 (Ls : Nat) (xs : Nat → Int32) : xPI Ls xs md_78 77 (.inl (xs_al 0 78)) := by
  exact xs_aload_n_ok d_78_77 rfl
theorem it_78_78 (Ls : Nat) (xs : Nat → Int32) : xPI Ls xs md_78 78 (.inl (xs_gf 6 8 81)) := by
  exact xs_gf_ok d_78_78 (C := R_6) (T := T_6) (N := N_6) rfl in_6 (by decide) tw_795
theorem it_78_81 (Ls : Nat) (xs : Nat → Int32) : xPI Ls xs md_78 81 (.inl (xs_al 0 82)) := by
  exact xs_aload_n_ok d_78_81 rfl
theorem it_78_82 (Ls : Nat) (xs : Nat → Int32) : xPI Ls xs md_78 82 (.inl (xs_gf 6 5 85)) := by
  exact xs_gf_ok d_78_82 (C := R_6) (T := T_6) (N := N_6) rfl in_6 (by decide) tw_792
theorem it_78_85 (Ls : Nat) (xs : Nat → Int32) : xPI Ls xs md_78 85 (.inl (xs_il 2 86)) := by
  exact xs_iload_n_ok d_78_85 rfl
theorem it_78_86 (Ls : Nat) (xs : Nat → Int32) : xPI Ls xs md_78 86 (.inl (xs_ia Ls xs 87)) := by
  exact xs_ia_ok d_78_86
theorem it_78_87 (Ls : Nat) (xs : Nat → Int32) : xPI Ls xs md_78 87 (.inl (xs_al 0 88)) := by
  exact xs_aload_n_ok d_78_87 rfl
theorem it_78_88 (Ls : Nat) (xs : Nat → Int32) : xPI Ls xs md_78 88 (.inl (xs_gf 6 1 91)) := by
  exact xs_gf_ok d_78_88 (C := R_6) (T := T_6) (N := N_6) rfl in_6 (by decide) tw_788
theorem it_78_91 (Ls : Nat) (xs : Nat → Int32) : xPI Ls xs md_78 91 (.inl (xs_isub 92)) := by
  exact xs_isub_ok d_78_91
theorem it_78_92 (Ls : Nat) (xs : Nat → Int32) : xPI Ls xs md_78 92 (.inl (xs_c (1) 93)) := by
  exact xs_iconst_ok d_78_92 (by decide)
theorem it_78_93 (Ls : Nat) (xs : Nat → Int32) : xPI Ls xs md_78 93 (.inl (xs_zas 94)) := by
  exact xs_zas_ok d_78_93
theorem it_78_94 (Ls : Nat) (xs : Nat → Int32) : xPI Ls xs md_78 94 (.inl (xs_inc 5 2 (1) 97)) := by
  exact xs_iinc_ok d_78_94 (by decide)
theorem it_78_97 (Ls : Nat) (xs : Nat → Int32) : xPI Ls xs md_78 97 (.inl (xs_goto 54)) := by
  exact xs_goto_ok d_78_97 (by decide)
theorem it_78_100 (Ls : Nat) (xs : Nat → Int32) : xPI Ls xs md_78 100 (.inl (xs_inc 5 1 (1) 103)) := by
  exact xs_iinc_ok d_78_100 (by decide)
theorem it_78_103 (Ls : Nat) (xs : Nat → Int32) : xPI Ls xs md_78 103 (.inl (xs_goto 44)) := by
  exact xs_goto_ok d_78_103 (by decide)
theorem it_78_106 (Ls : Nat) (xs : Nat → Int32) : xPI Ls xs md_78 106 (.inl (xs_c (0) 107)) := by
  exact xs_iconst_ok d_78_106 (by decide)
theorem it_78_107 (Ls : Nat) (xs : Nat → Int32) : xPI Ls xs md_78 107 (.inl (xs_is 5 1 108)) := by
  exact xs_istore_n_ok d_78_107 rfl
theorem it_78_108 (Ls : Nat) (xs : Nat → Int32) : xPI Ls xs md_78 108 (.inl (xs_il 1 109)) := by
  exact xs_iload_n_ok d_78_108 rfl
theorem it_78_109 (Ls : Nat) (xs : Nat → Int32) : xPI Ls xs md_78 109 (.inl (xs_al 0 110)) := by
  exact xs_aload_n_ok d_78_109 rfl
theorem it_78_110 (Ls : Nat) (xs : Nat → Int32) : xPI Ls xs md_78 110 (.inl (xs_gf 6 3 113)) := by
  exact xs_gf_ok d_78_110 (C := R_6) (T := T_6) (N := N_6) rfl in_6 (by decide) tw_790
theorem it_78_113 (Ls : Nat) (xs : Nat → Int32) : xPI Ls xs md_78 113 (.inl (xs_ic_ge 185 116)) := by
  exact xs_ic_ge_ok d_78_113 (by decide)
theorem it_78_116 (Ls : Nat) (xs : Nat → Int32) : xPI Ls xs md_78 116 (.inl (xs_al 0 117)) := by
  exact xs_aload_n_ok d_78_116 rfl
theorem it_78_117 (Ls : Nat) (xs : Nat → Int32) : xPI Ls xs md_78 117 (.inl (xs_il 1 118)) := by
  exact xs_iload_n_ok d_78_117 rfl
theorem it_78_118 (Ls : Nat) (xs : Nat → Int32) : xPI Ls xs md_78 118 (.inr (.inl (76, 2, 8, []))) := by
  exact ⟨md_76, rfl, tw_7, by decide, ⟨by decide, by decide⟩, Or.inr (Or.inr ⟨6, R_6, T_6, N_6, 109, 1, rfl, rfl, rfl, rfl, d_78_118, tw_903, tw_905, ts_TableMakerModel_beginOf, by decide +kernel, (fun x q h => by cases h)⟩)⟩
theorem it_78_121 (Ls : Nat) (xs : Nat → Int32) : xPI Ls xs md_78 121 (.inl (xs_is 5 2 122)) := by
  exact xs_istore_n_ok d_78_121 rfl
theorem it_78_122 (Ls : Nat) (xs : Nat → Int32) : xPI Ls xs md_78 122 (.inl (xs_c (0) 123)) := by
  exact xs_iconst_ok d_78_122 (by decide)
theorem it_78_123 (Ls : Nat) (xs : Nat → Int32) : xPI Ls xs md_78 123 (.inl (xs_is 5 3 124)) := by
  exact xs_istore_n_ok d_78_123 rfl
theorem it_78_124 (Ls : Nat) (xs : Nat → Int32) : xPI Ls xs md_78 124 (.inl (xs_il 3 125)) := by
  exact xs_iload_n_ok d_78_124 rfl
theorem it_78_125 (Ls : Nat) (xs : Nat → Int32) : xPI Ls xs md_78 125 (.inl (xs_al 0 126)) := by
  exact xs_aload_n_ok d_78_125 rfl
theorem it_78_126 (Ls : Nat) (xs : Nat → Int32) : xPI Ls xs md_78 126 (.inl (xs_gf 6 6 129)) := by
  exact xs_gf_ok d_78_126 (C := R_6) (T := T_6) (N := N_6) rfl in_6 (by decide) tw_793
theorem it_78_129 (Ls : Nat) (xs : Nat → Int32) : xPI Ls xs md_78 129 (.inl (xs_il 1 130)) := by
  exact xs_iload_n_ok d_78_129 rfl
theorem it_78_130 (Ls : Nat) (xs : Nat → Int32) : xPI Ls xs md_78 130 (.inl (xs_ia Ls xs 131)) := by
  exact xs_ia_ok d_78_130
theorem it_78_131 (Ls : Nat) (xs : Nat → Int32) : xPI Ls xs md_78 131 (.inl (xs_ic_ge 179 134)) := by
  exact xs_ic_ge_ok d_78_131 (by decide)
theorem it_78_134 (Ls : Nat) (xs : Nat → Int32) : xPI Ls xs md_78 134 (.inl (xs_al 0 135)) := by
  exact xs_aload_n_ok d_78_134 rfl
theorem it_78_135 (Ls : Nat) (xs : Nat → Int32) : xPI Ls xs md_78 135 (.inl (xs_il 1 136)) := by
  exact xs_iload_n_ok d_78_135 rfl
theorem it_78_136 (Ls : Nat) (xs : Nat → Int32) : xPI Ls xs md_78 136 (.inl (xs_c (0) 137)) := by
  exact xs_iconst_ok d_78_136 (by decide)
theorem it_78_137 (Ls : Nat) (xs : Nat → Int32) : xPI Ls xs md_78 137 (.inl (xs_il 3 138)) := by
  exact xs_iload_n_ok d_78_137 rfl
theorem it_78_138 (Ls : Nat) (xs : Nat → Int32) : xPI Ls xs md_78 138 (.inr (.inl (77, 4, 8, []))) := by
  exact ⟨md_77, rfl, tw_7, by decide, ⟨by decide, by decide⟩, Or.inr (Or.inr ⟨6, R_6, T_6, N_6, 116, 3, rfl, rfl, rfl, rfl, d_78_138, tw_899, tw_901, ts_TableMakerModel_allEmpty, by decide +kernel, (fun x q h => by cases h)⟩)⟩
theorem it_78_141 (Ls : Nat) (xs : Nat → Int32) : xPI Ls xs md_78 141 (.inl (xs_if_eq 173 144)) := by
  exact xs_if_eq_ok d_78_141 (by decide)
theorem it_78_144 (Ls : Nat) (xs : Nat → Int32) : xPI Ls xs md_78 144 (.inl (xs_al 0 145)) := by
  exact xs_aload_n_ok d_78_144 rfl
theorem it_78_145 (Ls : Nat) (xs : Nat → Int32) : xPI Ls xs md_78 145 (.inl (xs_gf 6 9 148)) := by
  exact xs_gf_ok d_78_145 (C := R_6) (T := T_6) (N := N_6) rfl in_6 (by decide) tw_796
theorem it_78_148 (Ls : Nat) (xs : Nat → Int32) : xPI Ls xs md_78 148 (.inl (xs_c (13) 150)) := by
  exact xs_bipush_ok d_78_148 (by decide)
theorem it_78_150 (Ls : Nat) (xs : Nat → Int32) : xPI Ls xs md_78 150 (.inl (xs_al 0 151)) := by
  exact xs_aload_n_ok d_78_150 rfl
theorem it_78_151 (Ls : Nat) (xs : Nat → Int32) : xPI Ls xs md_78 151 (.inl (xs_gf 6 5 154)) := by
  exact xs_gf_ok d_78_151 (C := R_6) (T := T_6) (N := N_6) rfl in_6 (by decide) tw_792
theorem it_78_154 (Ls : Nat) (xs : Nat → Int32) : xPI Ls xs md_78 154 (.inl (xs_il 1 155)) := by
  exact xs_iload_n_ok d_78_154 rfl
theorem it_78_155 (Ls : Nat) (xs : Nat → Int32) : xPI Ls xs md_78 155 (.inl (xs_ia Ls xs 156)) := by
  exact xs_ia_ok d_78_155
theorem it_78_156 (Ls : Nat) (xs : Nat → Int32) : xPI Ls xs md_78 156 (.inl (xs_al 0 157)) := by
  exact xs_aload_n_ok d_78_156 rfl
theorem it_78_157 (Ls : Nat) (xs : Nat → Int32) : xPI Ls xs md_78 157 (.inl (xs_gf 6 1 160)) := by
  exact xs_gf_ok d_78_157 (C := R_6) (T := T_6) (N := N_6) rfl in_6 (by decide) tw_788
theorem it_78_160 (Ls : Nat) (xs : Nat → Int32) : xPI Ls xs md_78 160 (.inl (xs_isub 161)) := by
  exact xs_isub_ok d_78_160
theorem it_78_161 (Ls : Nat) (xs : Nat → Int32) : xPI Ls xs md_78 161 (.inl (xs_imul 162)) := by
  exact xs_imul_ok d_78_161
theorem it_78_162 (Ls : Nat) (xs : Nat → Int32) : xPI Ls xs md_78 162 (.inl (xs_al 0 163)) := by
  exact xs_aload_n_ok d_78_162 rfl
theorem it_78_163 (Ls : Nat) (xs : Nat → Int32) : xPI Ls xs md_78 163 (.inl (xs_gf 6 7 166)) := by
  exact xs_gf_ok d_78_163 (C := R_6) (T := T_6) (N := N_6) rfl in_6 (by decide) tw_794
theorem it_78_166 (Ls : Nat) (xs : Nat → Int32) : xPI Ls xs md_78 166 (.inl (xs_il 2 167)) := by
  exact xs_iload_n_ok d_78_166 rfl
theorem it_78_167 (Ls : Nat) (xs : Nat → Int32) : xPI Ls xs md_78 167 (.inl (xs_il 3 168)) := by
  exact xs_iload_n_ok d_78_167 rfl
theorem it_78_168 (Ls : Nat) (xs : Nat → Int32) : xPI Ls xs md_78 168 (.inl (xs_iadd 169)) := by
  exact xs_iadd_ok d_78_168
theorem it_78_169 (Ls : Nat) (xs : Nat → Int32) : xPI Ls xs md_78 169 (.inl (xs_ia Ls xs 170)) := by
  exact xs_ia_ok d_78_169
theorem it_78_170 (Ls : Nat) (xs : Nat → Int32) : xPI Ls xs md_78 170 (.inl (xs_iadd 171)) := by
  exact xs_iadd_ok d_78_170
theorem it_78_171 (Ls : Nat) (xs : Nat → Int32) : xPI Ls xs md_78 171 (.inl (xs_c (1) 172)) := by
  exact xs_iconst_ok d_78_171 (by decide)
theorem it_78_172 (Ls : Nat) (xs : Nat → Int32) : xPI Ls xs md_78 172 (.inl (xs_zas 173)) := by
  exact xs_zas_ok d_78_172
theorem it_78_173 (Ls : Nat) (xs : Nat → Int32) : xPI Ls xs md_78 173 (.inl (xs_inc 5 3 (1) 176)) := by
  exact xs_iinc_ok d_78_173 (by decide)
theorem it_78_176 (Ls : Nat) (xs : Nat → Int32) : xPI Ls xs md_78 176 (.inl (xs_goto 124)) := by
  exact xs_goto_ok d_78_176 (by decide)
theorem it_78_179 (Ls : Nat) (xs : Nat → Int32) : xPI Ls xs md_78 179 (.inl (xs_inc 5 1 (1) 182)) := by
  exact xs_iinc_ok d_78_179 (by decide)
theorem it_78_182 (Ls : Nat) (xs : Nat → Int32) : xPI Ls xs md_78 182 (.inl (xs_goto 108)) := by
  exact xs_goto_ok d_78_182 (by decide)
theorem it_78_185 (Ls : Nat) (xs : Nat → Int32) : xPI Ls xs md_78 185 (.inl (xs_c (0) 186)) := by
  exact xs_iconst_ok d_78_185 (by decide)
theorem it_78_186 (Ls : Nat) (xs : Nat → Int32) : xPI Ls xs md_78 186 (.inl (xs_is 5 1 187)) := by
  exact xs_istore_n_ok d_78_186 rfl
theorem it_78_187 (Ls : Nat) (xs : Nat → Int32) : xPI Ls xs md_78 187 (.inl (xs_il 1 188)) := by
  exact xs_iload_n_ok d_78_187 rfl
theorem it_78_188 (Ls : Nat) (xs : Nat → Int32) : xPI Ls xs md_78 188 (.inl (xs_al 0 189)) := by
  exact xs_aload_n_ok d_78_188 rfl
theorem it_78_189 (Ls : Nat) (xs : Nat → Int32) : xPI Ls xs md_78 189 (.inl (xs_gf 6 2 192)) := by
  exact xs_gf_ok d_78_189 (C := R_6) (T := T_6) (N := N_6) rfl in_6 (by decide) tw_789
theorem it_78_192 (Ls : Nat) (xs : Nat → Int32) : xPI Ls xs md_78 192 (.inl (xs_ic_ge 313 195)) := by
  exact xs_ic_ge_ok d_78_192 (by decide)
theorem it_78_195 (Ls : Nat) (xs : Nat → Int32) : xPI Ls xs md_78 195 (.inl (xs_c (0) 196)) := by
  exact xs_iconst_ok d_78_195 (by decide)
theorem it_78_196 (Ls : Nat) (xs : Nat → Int32) : xPI Ls xs md_78 196 (.inl (xs_is 5 2 197)) := by
  exact xs_istore_n_ok d_78_196 rfl
theorem it_78_197 (Ls : Nat) (xs : Nat → Int32) : xPI Ls xs md_78 197 (.inl (xs_il 2 198)) := by
  exact xs_iload_n_ok d_78_197 rfl
theorem it_78_198 (Ls : Nat) (xs : Nat → Int32) : xPI Ls xs md_78 198 (.inl (xs_al 0 199)) := by
  exact xs_aload_n_ok d_78_198 rfl
theorem it_78_199 (Ls : Nat) (xs : Nat → Int32) : xPI Ls xs md_78 199 (.inl (xs_gf 6 2 202)) := by
  exact xs_gf_ok d_78_199 (C := R_6) (T := T_6) (N := N_6) rfl in_6 (by decide) tw_789
theorem it_78_202 (Ls : Nat) (xs : Nat → Int32) : xPI Ls xs md_78 202 (.inl (xs_ic_ge 307 205)) := by
  exact xs_ic_ge_ok d_78_202 (by decide)
theorem it_78_205 (Ls : Nat) (xs : Nat → Int32) : xPI Ls xs md_78 205 (.inl (xs_c (0) 206)) := by
  exact xs_iconst_ok d_78_205 (by decide)
theorem it_78_206 (Ls : Nat) (xs : Nat → Int32) : xPI Ls xs md_78 206 (.inl (xs_is 5 3 207)) := by
  exact xs_istore_n_ok d_78_206 rfl
theorem it_78_207 (Ls : Nat) (xs : Nat → Int32) : xPI Ls xs md_78 207 (.inl (xs_il 3 208)) := by
  exact xs_iload_n_ok d_78_207 rfl
theorem it_78_208 (Ls : Nat) (xs : Nat → Int32) : xPI Ls xs md_78 208 (.inl (xs_al 0 209)) := by
  exact xs_aload_n_ok d_78_208 rfl
theorem it_78_209 (Ls : Nat) (xs : Nat → Int32) : xPI Ls xs md_78 209 (.inl (xs_gf 6 1 212)) := by
  exact xs_gf_ok d_78_209 (C := R_6) (T := T_6) (N := N_6) rfl in_6 (by decide) tw_788
theorem it_78_212 (Ls : Nat) (xs : Nat → Int32) : xPI Ls xs md_78 212 (.inl (xs_al 0 213)) := by
  exact xs_aload_n_ok d_78_212 rfl
theorem it_78_213 (Ls : Nat) (xs : Nat → Int32) : xPI Ls xs md_78 213 (.inl (xs_gf 6 2 216)) := by
  exact xs_gf_ok d_78_213 (C := R_6) (T := T_6) (N := N_6) rfl in_6 (by decide) tw_789
theorem it_78_216 (Ls : Nat) (xs : Nat → Int32) : xPI Ls xs md_78 216 (.inl (xs_iadd 217)) := by
  exact xs_iadd_ok d_78_216
theorem it_78_217 (Ls : Nat) (xs : Nat → Int32) : xPI Ls xs md_78 217 (.inl (xs_ic_ge 301 220)) := by
  exact xs_ic_ge_ok d_78_217 (by decide)
theorem it_78_220 (Ls : Nat) (xs : Nat → Int32) : xPI Ls xs md_78 220 (.inl (xs_al 0 221)) := by
  exact xs_aload_n_ok d_78_220 rfl
theorem it_78_221 (Ls : Nat) (xs : Nat → Int32) : xPI Ls xs md_78 221 (.inl (xs_gf 6 9 224)) := by
  exact xs_gf_ok d_78_221 (C := R_6) (T := T_6) (N := N_6) rfl in_6 (by decide) tw_796
theorem it_78_224 (Ls : Nat) (xs : Nat → Int32) : xPI Ls xs md_78 224 (.inl (xs_c (13) 226)) := by
  exact xs_bipush_ok d_78_224 (by decide)
theorem it_78_226 (Ls : Nat) (xs : Nat → Int32) : xPI Ls xs md_78 226 (.inl (xs_il 2 227)) := by
  exact xs_iload_n_ok d_78_226 rfl
theorem it_78_227 (Ls : Nat) (xs : Nat → Int32) : xPI Ls xs md_78 227 (.inl (xs_imul 228)) := by
  exact xs_imul_ok d_78_227
theorem it_78_228 (Ls : Nat) (xs : Nat → Int32) : xPI Ls xs md_78 228 (.inl (xs_al 0 229)) := by
  exact xs_aload_n_ok d_78_228 rfl
theorem it_78_229 (Ls : Nat) (xs : Nat → Int32) : xPI Ls xs md_78 229 (.inl (xs_gf 6 1 232)) := by
  exact xs_gf_ok d_78_229 (C := R_6) (T := T_6) (N := N_6) rfl in_6 (by decide) tw_788
theorem it_78_232 (Ls : Nat) (xs : Nat → Int32) : xPI Ls xs md_78 232 (.inl (xs_iadd 233)) := by
  exact xs_iadd_ok d_78_232
theorem it_78_233 (Ls : Nat) (xs : Nat → Int32) : xPI Ls xs md_78 233 (.inl (xs_il 1 234)) := by
  exact xs_iload_n_ok d_78_233 rfl
theorem it_78_234 (Ls : Nat) (xs : Nat → Int32) : xPI Ls xs md_78 234 (.inl (xs_iadd 235)) := by
  exact xs_iadd_ok d_78_234
theorem it_78_235 (Ls : Nat) (xs : Nat → Int32) : xPI Ls xs md_78 235 (.inl (xs_za 236)) := by
  exact xs_za_ok d_78_235
theorem it_78_236 (Ls : Nat) (xs : Nat → Int32) : xPI Ls xs md_78 236 (.inl (xs_if_eq 257 239)) := by
  exact xs_if_eq_ok d_78_236 (by decide)
theorem it_78_239 (Ls : Nat) (xs : Nat → Int32) : xPI Ls xs md_78 239 (.inl (xs_al 0 240)) := by
  exact xs_aload_n_ok d_78_239 rfl
theorem it_78_240 (Ls : Nat) (xs : Nat → Int32) : xPI Ls xs md_78 240 (.inl (xs_gf 6 9 243)) := by
  exact xs_gf_ok d_78_240 (C := R_6) (T := T_6) (N := N_6) rfl in_6 (by decide) tw_796
theorem it_78_243 (Ls : Nat) (xs : Nat → Int32) : xPI Ls xs md_78 243 (.inl (xs_c (13) 245)) := by
  exact xs_bipush_ok d_78_243 (by decide)
theorem it_78_245 (Ls : Nat) (xs : Nat → Int32) : xPI Ls xs md_78 245 (.inl (xs_il 1 246)) := by
  exact xs_iload_n_ok d_78_245 rfl
theorem it_78_246 (Ls : Nat) (xs : Nat → Int32) : xPI Ls xs md_78 246 (.inl (xs_imul 247)) := by
  exact xs_imul_ok d_78_246
theorem it_78_247 (Ls : Nat) (xs : Nat → Int32) : xPI Ls xs md_78 247 (.inl (xs_il 3 248)) := by
  exact xs_iload_n_ok d_78_247 rfl
theorem it_78_248 (Ls : Nat) (xs : Nat → Int32) : xPI Ls xs md_78 248 (.inl (xs_iadd 249)) := by
  exact xs_iadd_ok d_78_248
theorem it_78_249 (Ls : Nat) (xs : Nat → Int32) : xPI Ls xs md_78 249 (.inl (xs_za 250)) := by
  exact xs_za_ok d_78_249
theorem it_78_250 (Ls : Nat) (xs : Nat → Int32) : xPI Ls xs md_78 250 (.inl (xs_if_eq 257 253)) := by
  exact xs_if_eq_ok d_78_250 (by decide)
theorem it_78_253 (Ls : Nat) (xs : Nat → Int32) : xPI Ls xs md_78 253 (.inl (xs_c (1) 254)) := by
  exact xs_iconst_ok d_78_253 (by decide)
theorem it_78_254 (Ls : Nat) (xs : Nat → Int32) : xPI Ls xs md_78 254 (.inl (xs_goto 258)) := by
  exact xs_goto_ok d_78_254 (by decide)
theorem it_78_257 (Ls : Nat) (xs : Nat → Int32) : xPI Ls xs md_78 257 (.inl (xs_c (0) 258)) := by
  exact xs_iconst_ok d_78_257 (by decide)
theorem it_78_258 (Ls : Nat) (xs : Nat → Int32) : xPI Ls xs md_78 258 (.inl (xs_is 5 4 260)) := by
  exact xs_istore_ok d_78_258
theorem it_78_260 (Ls : Nat) (xs : Nat → Int32) : xPI Ls xs md_78 260 (.inl (xs_al 0 261)) := by
  exact xs_aload_n_ok d_78_260 rfl
theorem it_78_261 (Ls : Nat) (xs : Nat → Int32) : xPI Ls xs md_78 261 (.inl (xs_gf 6 9 264)) := by
  exact xs_gf_ok d_78_261 (C := R_6) (T := T_6) (N := N_6) rfl in_6 (by decide) tw_796
theorem it_78_264 (Ls : Nat) (xs : Nat → Int32) : xPI Ls xs md_78 264 (.inl (xs_c (13) 266)) := by
  exact xs_bipush_ok d_78_264 (by decide)
theorem it_78_266 (Ls : Nat) (xs : Nat → Int32) : xPI Ls xs md_78 266 (.inl (xs_il 2 267)) := by
  exact xs_iload_n_ok d_78_266 rfl
theorem it_78_267 (Ls : Nat) (xs : Nat → Int32) : xPI Ls xs md_78 267 (.inl (xs_imul 268)) := by
  exact xs_imul_ok d_78_267
theorem it_78_268 (Ls : Nat) (xs : Nat → Int32) : xPI Ls xs md_78 268 (.inl (xs_il 3 269)) := by
  exact xs_iload_n_ok d_78_268 rfl
theorem it_78_269 (Ls : Nat) (xs : Nat → Int32) : xPI Ls xs md_78 269 (.inl (xs_iadd 270)) := by
  exact xs_iadd_ok d_78_269
theorem it_78_270 (Ls : Nat) (xs : Nat → Int32) : xPI Ls xs md_78 270 (.inl (xs_al 0 271)) := by
  exact xs_aload_n_ok d_78_270 rfl
theorem it_78_271 (Ls : Nat) (xs : Nat → Int32) : xPI Ls xs md_78 271 (.inl (xs_gf 6 9 274)) := by
  exact xs_gf_ok d_78_271 (C := R_6) (T := T_6) (N := N_6) rfl in_6 (by decide) tw_796
theorem it_78_274 (Ls : Nat) (xs : Nat → Int32) : xPI Ls xs md_78 274 (.inl (xs_c (13) 276)) := by
  exact xs_bipush_ok d_78_274 (by decide)
theorem it_78_276 (Ls : Nat) (xs : Nat → Int32) : xPI Ls xs md_78 276 (.inl (xs_il 2 277)) := by
  exact xs_iload_n_ok d_78_276 rfl
theorem it_78_277 (Ls : Nat) (xs : Nat → Int32) : xPI Ls xs md_78 277 (.inl (xs_imul 278)) := by
  exact xs_imul_ok d_78_277
theorem it_78_278 (Ls : Nat) (xs : Nat → Int32) : xPI Ls xs md_78 278 (.inl (xs_il 3 279)) := by
  exact xs_iload_n_ok d_78_278 rfl
theorem it_78_279 (Ls : Nat) (xs : Nat → Int32) : xPI Ls xs md_78 279 (.inl (xs_iadd 280)) := by
  exact xs_iadd_ok d_78_279
theorem it_78_280 (Ls : Nat) (xs : Nat → Int32) : xPI Ls xs md_78 280 (.inl (xs_za 281)) := by
  exact xs_za_ok d_78_280
theorem it_78_281 (Ls : Nat) (xs : Nat → Int32) : xPI Ls xs md_78 281 (.inl (xs_if_ne 289 284)) := by
  exact xs_if_ne_ok d_78_281 (by decide)
theorem it_78_284 (Ls : Nat) (xs : Nat → Int32) : xPI Ls xs md_78 284 (.inl (xs_il 4 286)) := by
  exact xs_iload_ok d_78_284
theorem it_78_286 (Ls : Nat) (xs : Nat → Int32) : xPI Ls xs md_78 286 (.inl (xs_if_eq 293 289)) := by
  exact xs_if_eq_ok d_78_286 (by decide)
theorem it_78_289 (Ls : Nat) (xs : Nat → Int32) : xPI Ls xs md_78 289 (.inl (xs_c (1) 290)) := by
  exact xs_iconst_ok d_78_289 (by decide)
theorem it_78_290 (Ls : Nat) (xs : Nat → Int32) : xPI Ls xs md_78 290 (.inl (xs_goto 294)) := by
  exact xs_goto_ok d_78_290 (by decide)
theorem it_78_293 (Ls : Nat) (xs : Nat → Int32) : xPI Ls xs md_78 293 (.inl (xs_c (0) 294)) := by
  exact xs_iconst_ok d_78_293 (by decide)
theorem it_78_294 (Ls : Nat) (xs : Nat → Int32) : xPI Ls xs md_78 294 (.inl (xs_zas 295)) := by
  exact xs_zas_ok d_78_294
theorem it_78_295 (Ls : Nat) (xs : Nat → Int32) : xPI Ls xs md_78 295 (.inl (xs_inc 5 3 (1) 298)) := by
  exact xs_iinc_ok d_78_295 (by decide)
theorem it_78_298 (Ls : Nat) (xs : Nat → Int32) : xPI Ls xs md_78 298 (.inl (xs_goto 207)) := by
  exact xs_goto_ok d_78_298 (by decide)
theorem it_78_301 (Ls : Nat) (xs : Nat → Int32) : xPI Ls xs md_78 301 (.inl (xs_inc 5 2 (1) 304)) := by
  exact xs_iinc_ok d_78_301 (by decide)
theorem it_78_304 (Ls : Nat) (xs : Nat → Int32) : xPI Ls xs md_78 304 (.inl (xs_goto 197)) := by
  exact xs_goto_ok d_78_304 (by decide)
theorem it_78_307 (Ls : Nat) (xs : Nat → Int32) : xPI Ls xs md_78 307 (.inl (xs_inc 5 1 (1) 310)) := by
  exact xs_iinc_ok d_78_307 (by decide)
theorem it_78_310 (Ls : Nat) (xs : Nat → Int32) : xPI Ls xs md_78 310 (.inl (xs_goto 187)) := by
  exact xs_goto_ok d_78_310 (by decide)
theorem it_78_313 (Ls : Nat) (xs : Nat → Int32) : xPI Ls xs md_78 313 (.inr (.inr 0)) := by
  exact ⟨rfl, d_78_313⟩
def K_78 (Ls : Nat) (xs : Nat → Int32) : Nat → Option xK := xbt 156 (xbt 77 (xbt 36 (xbt 18 (xbt 8 (xbt 2 (xbt 1 (xlf 0 (.inl (xs_c (0) 1))) (xlf 1 (.inl (xs_is 5 1 2)))) (xbt 3 (xlf 2 (.inl (xs_il 1 3))) (xbt 5 (xlf 3 (.inl (xs_c (6) 5))) (xlf 5 (.inl (xs_ic_ge 21 8)))))) (xbt 13 (xbt 9 (xlf 8 (.inl (xs_al 0 9))) (xbt 12 (xlf 9 (.inl (xs_gf 6 8 12))) (xlf 12 (.inl (xs_il 1 13))))) (xbt 14 (xlf 13 (.inl (xs_c (0) 14))) (xbt 15 (xlf 14 (.inl (xs_zas 15))) (xlf 15 (.inl (xs_inc 5 1 (1) 18))))))) (xbt 26 (xbt 22 (xbt 21 (xlf 18 (.inl (xs_goto 2))) (xlf 21 (.inl (xs_c (0) 22)))) (xbt 23 (xlf 22 (.inl (xs_is 5 1 23))) (xbt 24 (xlf 23 (.inl (xs_il 1 24))) (xlf 24 (.inl (xs_c (78) 26)))))) (xbt 33 (xbt 29 (xlf 26 (.inl (xs_ic_ge 42 29))) (xbt 30 (xlf 29 (.inl (xs_al 0 30))) (xlf 30 (.inl (xs_gf 6 9 33))))) (xbt 34 (xlf 33 (.inl (xs_il 1 34))) (xbt 35 (xlf 34 (.inl (xs_c (0) 35))) (xlf 35 (.inl (xs_zas 36)))))))) (xbt 55 (xbt 45 (xbt 42 (xbt 39 (xlf 36 (.inl (xs_inc 5 1 (1) 39))) (xlf 39 (.inl (xs_goto 23)))) (xbt 43 (xlf 42 (.inl (xs_c (0) 43))) (xbt 44 (xlf 43 (.inl (xs_is 5 1 44))) (xlf 44 (.inl (xs_il 1 45)))))) (xbt 52 (xbt 46 (xlf 45 (.inl (xs_al 0 46))) (xbt 49 (xlf 46 (.inl (xs_gf 6 2 49))) (xlf 49 (.inl (xs_ic_ge 106 52))))) (xbt 53 (xlf 52 (.inl (xs_c (0) 53))) (xbt 54 (xlf 53 (.inl (xs_is 5 2 54))) (xlf 54 (.inl (xs_il 2 55))))))) (xbt 65 (xbt 62 (xbt 56 (xlf 55 (.inl (xs_al 0 56))) (xbt 59 (xlf 56 (.inl (xs_gf 6 3 59))) (xlf 59 (.inl (xs_ic_ge 100 62))))) (xbt 63 (xlf 62 (.inl (xs_al 0 63))) (xbt 64 (xlf 63 (.inl (xs_il 2 64))) (xlf 64 (.inl (xs_c (0) 65)))))) (xbt 70 (xbt 66 (xlf 65 (.inl (xs_al 0 66))) (xbt 69 (xlf 66 (.inl (xs_gf 6 6 69))) (xlf 69 (.inl (xs_il 2 70))))) (xbt 71 (xlf 70 (.inl (xs_ia Ls xs 71))) (xbt 74 (xlf 71 (.inr (.inl (77, 4, 8, [])))) (xlf 74 (.inl (xs_if_eq 94 77))))))))) (xbt 118 (xbt 94 (xbt 86 (xbt 81 (xbt 78 (xlf 77 (.inl (xs_al 0 78))) (xlf 78 (.inl (xs_gf 6 8 81)))) (xbt 82 (xlf 81 (.inl (xs_al 0 82))) (xbt 85 (xlf 82 (.inl (xs_gf 6 5 85))) (xlf 85 (.inl (xs_il 2 86)))))) (xbt 91 (xbt 87 (xlf 86 (.inl (xs_ia Ls xs 87))) (xbt 88 (xlf 87 (.inl (xs_al 0 88))) (xlf 88 (.inl (xs_gf 6 1 91))))) (xbt 92 (xlf 91 (.inl (xs_isub 92))) (xbt 93 (xlf 92 (.inl (xs_c (1) 93))) (xlf 93 (.inl (xs_zas 94))))))) (xbt 108 (xbt 103 (xbt 97 (xlf 94 (.inl (xs_inc 5 2 (1) 97))) (xbt 100 (xlf 97 (.inl (xs_goto 54))) (xlf 100 (.inl (xs_inc 5 1 (1) 103))))) (xbt 106 (xlf 103 (.inl (xs_goto 44))) (xbt 107 (xlf 106 (.inl (xs_c (0) 107))) (xlf 107 (.inl (xs_is 5 1 108)))))) (xbt 113 (xbt 109 (xlf 108 (.inl (xs_il 1 109))) (xbt 110 (xlf 109 (.inl (xs_al 0 110))) (xlf 110 (.inl (xs_gf 6 3 113))))) (xbt 116 (xlf 113 (.inl (xs_ic_ge 185 116))) (xbt 117 (xlf 116 (.inl (xs_al 0 117))) (xlf 117 (.inl (xs_il 1 118)))))))) (xbt 135 (xbt 125 (xbt 122 (xbt 121 (xlf 118 (.inr (.inl (76, 2, 8, [])))) (xlf 121 (.inl (xs_is 5 2 122)))) (xbt 123 (xlf 122 (.inl (xs_c (0) 123))) (xbt 124 (xlf 123 (.inl (xs_is 5 3 124))) (xlf 124 (.inl (xs_il 3 125)))))) (xbt 130 (xbt 126 (xlf 125 (.inl (xs_al 0 126))) (xbt 129 (xlf 126 (.inl (xs_gf 6 6 129))) (xlf 129 (.inl (xs_il 1 130))))) (xbt 131 (xlf 130 (.inl (xs_ia Ls xs 131))) (xbt 134 (xlf 131 (.inl (xs_ic_ge 179 134))) (xlf 134 (.inl (xs_al 0 135))))))) (xbt 145 (xbt 138 (xbt 136 (xlf 135 (.inl (xs_il 1 136))) (xbt 137 (xlf 136 (.inl (xs_c (0) 137))) (xlf 137 (.inl (xs_il 3 138))))) (xbt 141 (xlf 138 (.inr (.inl (77, 4, 8, [])))) (xbt 144 (xlf 141 (.inl (xs_if_eq 173 144))) (xlf 144 (.inl (xs_al 0 145)))))) (xbt 151 (xbt 148 (xlf 145 (.inl (xs_gf 6 9 148))) (xbt 150 (xlf 148 (.inl (xs_c (13) 150))) (xlf 150 (.inl (xs_al 0 151))))) (xbt 154 (xlf 151 (.inl (xs_gf 6 5 154))) (xbt 155 (xlf 154 (.inl (xs_il 1 155))) (xlf 155 (.inl (xs_ia Ls xs 156)))))))))) (xbt 233 (xbt 195 (xbt 171 (xbt 163 (xbt 160 (xbt 157 (xlf 156 (.inl (xs_al 0 157))) (xlf 157 (.inl (xs_gf 6 1 160)))) (xbt 161 (xlf 160 (.inl (xs_isub 161))) (xbt 162 (xlf 161 (.inl (xs_imul 162))) (xlf 162 (.inl (xs_al 0 163)))))) (xbt 168 (xbt 166 (xlf 163 (.inl (xs_gf 6 7 166))) (xbt 167 (xlf 166 (.inl (xs_il 2 167))) (xlf 167 (.inl (xs_il 3 168))))) (xbt 169 (xlf 168 (.inl (xs_iadd 169))) (xbt 170 (xlf 169 (.inl (xs_ia Ls xs 170))) (xlf 170 (.inl (xs_iadd 171))))))) (xbt 185 (xbt 176 (xbt 172 (xlf 171 (.inl (xs_c (1) 172))) (xbt 173 (xlf 172 (.inl (xs_zas 173))) (xlf 173 (.inl (xs_inc 5 3 (1) 176))))) (xbt 179 (xlf 176 (.inl (xs_goto 124))) (xbt 182 (xlf 179 (.inl (xs_inc 5 1 (1) 182))) (xlf 182 (.inl (xs_goto 108)))))) (xbt 188 (xbt 186 (xlf 185 (.inl (xs_c (0) 186))) (xbt 187 (xlf 186 (.inl (xs_is 5 1 187))) (xlf 187 (.inl (xs_il 1 188))))) (xbt 189 (xlf 188 (.inl (xs_al 0 189))) (xbt 192 (xlf 189 (.inl (xs_gf 6 2 192))) (xlf 192 (.inl (xs_ic_ge 313 195)))))))) (xbt 212 (xbt 202 (xbt 197 (xbt 196 (xlf 195 (.inl (xs_c (0) 196))) (xlf 196 (.inl (xs_is 5 2 197)))) (xbt 198 (xlf 197 (.inl (xs_il 2 198))) (xbt 199 (xlf 198 (.inl (xs_al 0 199))) (xlf 199 (.inl (xs_gf 6 2 202)))))) (xbt 207 (xbt 205 (xlf 202 (.inl (xs_ic_ge 307 205))) (xbt 206 (xlf 205 (.inl (xs_c (0) 206))) (xlf 206 (.inl (xs_is 5 3 207))))) (xbt 208 (xlf 207 (.inl (xs_il 3 208))) (xbt 209 (xlf 208 (.inl (xs_al 0 209))) (xlf 209 (.inl (xs_gf 6 1 212))))))) (xbt 224 (xbt 217 (xbt 213 (xlf 212 (.inl (xs_al 0 213))) (xbt 216 (xlf 213 (.inl (xs_gf 6 2 216))) (xlf 216 (.inl (xs_iadd 217))))) (xbt 220 (xlf 217 (.inl (xs_ic_ge 301 220))) (xbt 221 (xlf 220 (.inl (xs_al 0 221))) (xlf 221 (.inl (xs_gf 6 9 224)))))) (xbt 228 (xbt 226 (xlf 224 (.inl (xs_c (13) 226))) (xbt 227 (xlf 226 (.inl (xs_il 2 227))) (xlf 227 (.inl (xs_imul 228))))) (xbt 229 (xlf 228 (.inl (xs_al 0 229))) (xbt 232 (xlf 229 (.inl (xs_gf 6 1 232))) (xlf 232 (.inl (xs_iadd 233))))))))) (xbt 269 (xbt 249 (xbt 240 (xbt 235 (xbt 234 (xlf 233 (.inl (xs_il 1 234))) (xlf 234 (.inl (xs_iadd 235)))) (xbt 236 (xlf 235 (.inl (xs_za 236))) (xbt 239 (xlf 236 (.inl (xs_if_eq 257 239))) (xlf 239 (.inl (xs_al 0 240)))))) (xbt 246 (xbt 243 (xlf 240 (.inl (xs_gf 6 9 243))) (xbt 245 (xlf 243 (.inl (xs_c (13) 245))) (xlf 245 (.inl (xs_il 1 246))))) (xbt 247 (xlf 246 (.inl (xs_imul 247))) (xbt 248 (xlf 247 (.inl (xs_il 3 248))) (xlf 248 (.inl (xs_iadd 249))))))) (xbt 260 (xbt 254 (xbt 250 (xlf 249 (.inl (xs_za 250))) (xbt 253 (xlf 250 (.inl (xs_if_eq 257 253))) (xlf 253 (.inl (xs_c (1) 254))))) (xbt 257 (xlf 254 (.inl (xs_goto 258))) (xbt 258 (xlf 257 (.inl (xs_c (0) 258))) (xlf 258 (.inl (xs_is 5 4 260)))))) (xbt 266 (xbt 261 (xlf 260 (.inl (xs_al 0 261))) (xbt 264 (xlf 261 (.inl (xs_gf 6 9 264))) (xlf 264 (.inl (xs_c (13) 266))))) (xbt 267 (xlf 266 (.inl (xs_il 2 267))) (xbt 268 (xlf 267 (.inl (xs_imul 268))) (xlf 268 (.inl (xs_il 3 269)))))))) (xbt 286 (xbt 277 (xbt 271 (xbt 270 (xlf 269 (.inl (xs_iadd 270))) (xlf 270 (.inl (xs_al 0 271)))) (xbt 274 (xlf 271 (.inl (xs_gf 6 9 274))) (xbt 276 (xlf 274 (.inl (xs_c (13) 276))) (xlf 276 (.inl (xs_il 2 277)))))) (xbt 280 (xbt 278 (xlf 277 (.inl (xs_imul 278))) (xbt 279 (xlf 278 (.inl (xs_il 3 279))) (xlf 279 (.inl (xs_iadd 280))))) (xbt 281 (xlf 280 (.inl (xs_za 281))) (xbt 284 (xlf 281 (.inl (xs_if_ne 289 284))) (xlf 284 (.inl (xs_il 4 286))))))) (xbt 298 (xbt 293 (xbt 289 (xlf 286 (.inl (xs_if_eq 293 289))) (xbt 290 (xlf 289 (.inl (xs_c (1) 290))) (xlf 290 (.inl (xs_goto 294))))) (xbt 294 (xlf 293 (.inl (xs_c (0) 294))) (xbt 295 (xlf 294 (.inl (xs_zas 295))) (xlf 295 (.inl (xs_inc 5 3 (1) 298)))))) (xbt 307 (xbt 301 (xlf 298 (.inl (xs_goto 207))) (xbt 304 (xlf 301 (.inl (xs_inc 5 2 (1) 304))) (xlf 304 (.inl (xs_goto 197))))) (xbt 310 (xlf 307 (.inl (xs_inc 5 1 (1) 310))) (xbt 313 (xlf 310 (.inl (xs_goto 187))) (xlf 313 (.inr (.inr 0))))))))))
theorem ok_78 (Ls : Nat) (xs : Nat → Int32) : ∀ pc it, K_78 Ls xs pc = some it → xPI Ls xs md_78 pc it := by
  unfold K_78
  exact xbt_ok (xbt_ok (xbt_ok (xbt_ok (xbt_ok (xbt_ok (xbt_ok (xlf_ok (it_78_0 Ls xs)) (xlf_ok (it_78_1 Ls xs))) (xbt_ok (xlf_ok (it_78_2 Ls xs)) (xbt_ok (xlf_ok (it_78_3 Ls xs)) (xlf_ok (it_78_5 Ls xs))))) (xbt_ok (xbt_ok (xlf_ok (it_78_8 Ls xs)) (xbt_ok (xlf_ok (it_78_9 Ls xs)) (xlf_ok (it_78_12 Ls xs)))) (xbt_ok (xlf_ok (it_78_13 Ls xs)) (xbt_ok (xlf_ok (it_78_14 Ls xs)) (xlf_ok (it_78_15 Ls xs)))))) (xbt_ok (xbt_ok (xbt_ok (xlf_ok (it_78_18 Ls xs)) (xlf_ok (it_78_21 Ls xs))) (xbt_ok (xlf_ok (it_78_22 Ls xs)) (xbt_ok (xlf_ok (it_78_23 Ls xs)) (xlf_ok (it_78_24 Ls xs))))) (xbt_ok (xbt_ok (xlf_ok (it_78_26 Ls xs)) (xbt_ok (xlf_ok (it_78_29 Ls xs)) (xlf_ok (it_78_30 Ls xs)))) (xbt_ok (xlf_ok (it_78_33 Ls xs)) (xbt_ok (xlf_ok (it_78_34 Ls xs)) (xlf_ok (it_78_35 Ls xs))))))) (xbt_ok (xbt_ok (xbt_ok (xbt_ok (xlf_ok (it_78_36 Ls xs)) (xlf_ok (it_78_39 Ls xs))) (xbt_ok (xlf_ok (it_78_42 Ls xs)) (xbt_ok (xlf_ok (it_78_43 Ls xs)) (xlf_ok (it_78_44 Ls xs))))) (xbt_ok (xbt_ok (xlf_ok (it_78_45 Ls xs)) (xbt_ok (xlf_ok (it_78_46 Ls xs)) (xlf_ok (it_78_49 Ls xs)))) (xbt_ok (xlf_ok (it_78_52 Ls xs)) (xbt_ok (xlf_ok (it_78_53 Ls xs)) (xlf_ok (it_78_54 Ls xs)))))) (xbt_ok (xbt_ok (xbt_ok (xlf_ok (it_78_55 Ls xs)) (xbt_ok (xlf_ok (it_78_56 Ls xs)) (xlf_ok (it_78_59 Ls xs)))) (xbt_ok (xlf_ok (it_78_62 Ls xs)) (xbt_ok (xlf_ok (it_78_63 Ls xs)) (xlf_ok (it_78_64 Ls xs))))) (xbt_ok (xbt_ok (xlf_ok (it_78_65 Ls xs)) (xbt_ok (xlf_ok (it_78_66 Ls xs)) (xlf_ok (it_78_69 Ls xs)))) (xbt_ok (xlf_ok (it_78_70 Ls xs)) (xbt_ok (xlf_ok (it_78_71 Ls xs)) (xlf_ok (it_78_74 Ls xs)))))))) (xbt_ok (xbt_ok (xbt_ok (xbt_ok (xbt_ok (xlf_ok (it_78_77 Ls xs)) (xlf_ok (it_78_78 Ls xs))) (xbt_ok (xlf_ok (it_78_81 Ls xs)) (xbt_ok (xlf_ok (it_78_82 Ls xs)) (xlf_ok (it_78_85 Ls xs))))) (xbt_ok (xbt_ok (xlf_ok (it_78_86 Ls xs)) (xbt_ok (xlf_ok (it_78_87 Ls xs)) (xlf_ok (it_78_88 Ls xs)))) (xbt_ok (xlf_ok (it_78_91 Ls xs)) (xbt_ok (xlf_ok (it_78_92 Ls xs)) (xlf_ok (it_78_93 Ls xs)))))) (xbt_ok (xbt_ok (xbt_ok (xlf_ok (it_78_94 Ls xs)) (xbt_ok (xlf_ok (it_78_97 Ls xs)) (xlf_ok (it_78_100 Ls xs)))) (xbt_ok (xlf_ok (it_78_103 Ls xs)) (xbt_ok (xlf_ok (it_78_106 Ls xs)) (xlf_ok (it_78_107 Ls xs))))) (xbt_ok (xbt_ok (xlf_ok (it_78_108 Ls xs)) (xbt_ok (xlf_ok (it_78_109 Ls xs)) (xlf_ok (it_78_110 Ls xs)))) (xbt_ok (xlf_ok (it_78_113 Ls xs)) (xbt_ok (xlf_ok (it_78_116 Ls xs)) (xlf_ok (it_78_117 Ls xs))))))) (xbt_ok (xbt_ok (xbt_ok (xbt_ok (xlf_ok (it_78_118 Ls xs)) (xlf_ok (it_78_121 Ls xs))) (xbt_ok (xlf_ok (it_78_122 Ls xs)) (xbt_ok (xlf_ok (it_78_123 Ls xs)) (xlf_ok (it_78_124 Ls xs))))) (xbt_ok (xbt_ok (xlf_ok (it_78_125 Ls xs)) (xbt_ok (xlf_ok (it_78_126 Ls xs)) (xlf_ok (it_78_129 Ls xs)))) (xbt_ok (xlf_ok (it_78_130 Ls xs)) (xbt_ok (xlf_ok (it_78_131 Ls xs)) (xlf_ok (it_78_134 Ls xs)))))) (xbt_ok (xbt_ok (xbt_ok (xlf_ok (it_78_135 Ls xs)) (xbt_ok (xlf_ok (it_78_136 Ls xs)) (xlf_ok (it_78_137 Ls xs)))) (xbt_ok (xlf_ok (it_78_138 Ls xs)) (xbt_ok (xlf_ok (it_78_141 Ls xs)) (xlf_ok (it_78_144 Ls xs))))) (xbt_ok (xbt_ok (xlf_ok (it_78_145 Ls xs)) (xbt_ok (xlf_ok (it_78_148 Ls xs)) (xlf_ok (it_78_150 Ls xs)))) (xbt_ok (xlf_ok (it_78_151 Ls xs)) (xbt_ok (xlf_ok (it_78_154 Ls xs)) (xlf_ok (it_78_155 Ls xs))))))))) (xbt_ok (xbt_ok (xbt_ok (xbt_ok (xbt_ok (xbt_ok (xlf_ok (it_78_156 Ls xs)) (xlf_ok (it_78_157 Ls xs))) (xbt_ok (xlf_ok (it_78_160 Ls xs)) (xbt_ok (xlf_ok (it_78_161 Ls xs)) (xlf_ok (it_78_162 Ls xs))))) (xbt_ok (xbt_ok (xlf_ok (it_78_163 Ls xs)) (xbt_ok (xlf_ok (it_78_166 Ls xs)) (xlf_ok (it_78_167 Ls xs)))) (xbt_ok (xlf_ok (it_78_168 Ls xs)) (xbt_ok (xlf_ok (it_78_169 Ls xs)) (xlf_ok (it_78_170 Ls xs)))))) (xbt_ok (xbt_ok (xbt_ok (xlf_ok (it_78_171 Ls xs)) (xbt_ok (xlf_ok (it_78_172 Ls xs)) (xlf_ok (it_78_173 Ls xs)))) (xbt_ok (xlf_ok (it_78_176 Ls xs)) (xbt_ok (xlf_ok (it_78_179 Ls xs)) (xlf_ok (it_78_182 Ls xs))))) (xbt_ok (xbt_ok (xlf_ok (it_78_185 Ls xs)) (xbt_ok (xlf_ok (it_78_186 Ls xs)) (xlf_ok (it_78_187 Ls xs)))) (xbt_ok (xlf_ok (it_78_188 Ls xs)) (xbt_ok (xlf_ok (it_78_189 Ls xs)) (xlf_ok (it_78_192 Ls xs))))))) (xbt_ok (xbt_ok (xbt_ok (xbt_ok (xlf_ok (it_78_195 Ls xs)) (xlf_ok (it_78_196 Ls xs))) (xbt_ok (xlf_ok (it_78_197 Ls xs)) (xbt_ok (xlf_ok (it_78_198 Ls xs)) (xlf_ok (it_78_199 Ls xs))))) (xbt_ok (xbt_ok (xlf_ok (it_78_202 Ls xs)) (xbt_ok (xlf_ok (it_78_205 Ls xs)) (xlf_ok (it_78_206 Ls xs)))) (xbt_ok (xlf_ok (it_78_207 Ls xs)) (xbt_ok (xlf_ok (it_78_208 Ls xs)) (xlf_ok (it_78_209 Ls xs)))))) (xbt_ok (xbt_ok (xbt_ok (xlf_ok (it_78_212 Ls xs)) (xbt_ok (xlf_ok (it_78_213 Ls xs)) (xlf_ok (it_78_216 Ls xs)))) (xbt_ok (xlf_ok (it_78_217 Ls xs)) (xbt_ok (xlf_ok (it_78_220 Ls xs)) (xlf_ok (it_78_221 Ls xs))))) (xbt_ok (xbt_ok (xlf_ok (it_78_224 Ls xs)) (xbt_ok (xlf_ok (it_78_226 Ls xs)) (xlf_ok (it_78_227 Ls xs)))) (xbt_ok (xlf_ok (it_78_228 Ls xs)) (xbt_ok (xlf_ok (it_78_229 Ls xs)) (xlf_ok (it_78_232 Ls xs)))))))) (xbt_ok (xbt_ok (xbt_ok (xbt_ok (xbt_ok (xlf_ok (it_78_233 Ls xs)) (xlf_ok (it_78_234 Ls xs))) (xbt_ok (xlf_ok (it_78_235 Ls xs)) (xbt_ok (xlf_ok (it_78_236 Ls xs)) (xlf_ok (it_78_239 Ls xs))))) (xbt_ok (xbt_ok (xlf_ok (it_78_240 Ls xs)) (xbt_ok (xlf_ok (it_78_243 Ls xs)) (xlf_ok (it_78_245 Ls xs)))) (xbt_ok (xlf_ok (it_78_246 Ls xs)) (xbt_ok (xlf_ok (it_78_247 Ls xs)) (xlf_ok (it_78_248 Ls xs)))))) (xbt_ok (xbt_ok (xbt_ok (xlf_ok (it_78_249 Ls xs)) (xbt_ok (xlf_ok (it_78_250 Ls xs)) (xlf_ok (it_78_253 Ls xs)))) (xbt_ok (xlf_ok (it_78_254 Ls xs)) (xbt_ok (xlf_ok (it_78_257 Ls xs)) (xlf_ok (it_78_258 Ls xs))))) (xbt_ok (xbt_ok (xlf_ok (it_78_260 Ls xs)) (xbt_ok (xlf_ok (it_78_261 Ls xs)) (xlf_ok (it_78_264 Ls xs)))) (xbt_ok (xlf_ok (it_78_266 Ls xs)) (xbt_ok (xlf_ok (it_78_267 Ls xs)) (xlf_ok (it_78_268 Ls xs))))))) (xbt_ok (xbt_ok (xbt_ok (xbt_ok (xlf_ok (it_78_269 Ls xs)) (xlf_ok (it_78_270 Ls xs))) (xbt_ok (xlf_ok (it_78_271 Ls xs)) (xbt_ok (xlf_ok (it_78_274 Ls xs)) (xlf_ok (it_78_276 Ls xs))))) (xbt_ok (xbt_ok (xlf_ok (it_78_277 Ls xs)) (xbt_ok (xlf_ok (it_78_278 Ls xs)) (xlf_ok (it_78_279 Ls xs)))) (xbt_ok (xlf_ok (it_78_280 Ls xs)) (xbt_ok (xlf_ok (it_78_281 Ls xs)) (xlf_ok (it_78_284 Ls xs)))))) (xbt_ok (xbt_ok (xbt_ok (xlf_ok (it_78_286 Ls xs)) (xbt_ok (xlf_ok (it_78_289 Ls xs)) (xlf_ok (it_78_290 Ls xs)))) (xbt_ok (xlf_ok (it_78_293 Ls xs)) (xbt_ok (xlf_ok (it_78_294 Ls xs)) (xlf_ok (it_78_295 Ls xs))))) (xbt_ok (xbt_ok (xlf_ok (it_78_298 Ls xs)) (xbt_ok (xlf_ok (it_78_301 Ls xs)) (xlf_ok (it_78_304 Ls xs)))) (xbt_ok (xlf_ok (it_78_307 Ls xs)) (xbt_ok (xlf_ok (it_78_310 Ls xs)) (xlf_ok (it_78_313 Ls xs)))))))))
theorem d_79_0 : decode prog_8_method_15_code 0 = .ok (.iconst (0), 1) := by decide +kernel
theorem d_79_1 : decode prog_8_method_15_code 1 = .ok (.istore_n 2, 1) := by decide +kernel
theorem d_79_2 : decode prog_8_method_15_code 2 = .ok (.iconst (0), 1) := by decide +kernel
theorem d_79_3 : decode prog_8_method_15_code 3 = .ok (.istore_n 3, 1) := by decide +kernel
theorem d_79_4 : decode prog_8_method_15_code 4 = .ok (.iload_n 3, 1) := by decide +kernel
theorem d_79_5 : decode prog_8_method_15_code 5 = .ok (.aload_n 0, 1) := by decide +kernel
theorem d_79_6 : decode prog_8_method_15_code 6 = .ok (.getfield 61, 3) := by decide +kernel
theorem d_79_9 : decode prog_8_method_15_code 9 = .ok (.if_icmp .ge (33), 3) := by decide +kernel
theorem d_79_12 : decode prog_8_method_15_code 12 = .ok (.aload_n 0, 1) := by decide +kernel
theorem d_79_13 : decode prog_8_method_15_code 13 = .ok (.getfield 23, 3) := by decide +kernel
theorem d_79_16 : decode prog_8_method_15_code 16 = .ok (.bipush (13), 2) := by decide +kernel
theorem d_79_18 : decode prog_8_method_15_code 18 = .ok (.iload_n 1, 1) := by decide +kernel
theorem d_79_19 : decode prog_8_method_15_code 19 = .ok (.imul, 1) := by decide +kernel
theorem d_79_20 : decode prog_8_method_15_code 20 = .ok (.iload_n 3, 1) := by decide +kernel
theorem d_79_21 : decode prog_8_method_15_code 21 = .ok (.iadd, 1) := by decide +kernel
theorem d_79_22 : decode prog_8_method_15_code 22 = .ok (.baload, 1) := by decide +kernel
theorem d_79_23 : decode prog_8_method_15_code 23 = .ok (.ifCond .eq (11), 3) := by decide +kernel
theorem d_79_26 : decode prog_8_method_15_code 26 = .ok (.iload_n 2, 1) := by decide +kernel
theorem d_79_27 : decode prog_8_method_15_code 27 = .ok (.iconst (1), 1) := by decide +kernel
theorem d_79_28 : decode prog_8_method_15_code 28 = .ok (.iload_n 3, 1) := by decide +kernel
theorem d_79_30 : decode prog_8_method_15_code 30 = .ok (.ior, 1) := by decide +kernel
theorem d_79_31 : decode prog_8_method_15_code 31 = .ok (.goto (4), 3) := by decide +kernel
theorem d_79_34 : decode prog_8_method_15_code 34 = .ok (.iload_n 2, 1) := by decide +kernel
theorem d_79_35 : decode prog_8_method_15_code 35 = .ok (.istore_n 2, 1) := by decide +kernel
theorem d_79_36 : decode prog_8_method_15_code 36 = .ok (.iinc 3 (1), 3) := by decide +kernel
theorem d_79_39 : decode prog_8_method_15_code 39 = .ok (.goto (-35), 3) := by decide +kernel
theorem d_79_42 : decode prog_8_method_15_code 42 = .ok (.iload_n 2, 1) := by decide +kernel
theorem d_79_43 : decode prog_8_method_15_code 43 = .ok (.ireturn, 1) := by decide +kernel
theorem it_79_0 (Ls : Nat) (xs : Nat → Int32) : xPI Ls xs md_79 0 (.inl (xs_c (0) 1)) := by
  exact xs_iconst_ok d_79_0 (by decide)
theorem it_79_1 (Ls : Nat) (xs : Nat → Int32) : xPI Ls xs md_79 1 (.inl (xs_is 4 2 2)) := by
  exact xs_istore_n_ok d_79_1 rfl
theorem it_79_2 (Ls : Nat) (xs : Nat → Int32) : xPI Ls xs md_79 2 (.inl (xs_c (0) 3)) := by
  exact xs_iconst_ok d_79_2 (by decide)
theorem it_79_3 (Ls : Nat) (xs : Nat → Int32) : xPI Ls xs md_79 3 (.inl (xs_is 4 3 4)) := by
  exact xs_istore_n_ok d_79_3 rfl
theorem it_79_4 (Ls : Nat) (xs : Nat → Int32) : xPI Ls xs md_79 4 (.inl (xs_il 3 5)) := by
  exact xs_iload_n_ok d_79_4 rfl
theorem it_79_5 (Ls : Nat) (xs : Nat → Int32) : xPI Ls xs md_79 5 (.inl (xs_al 0 6)) := by
  exact xs_aload_n_ok d_79_5 rfl
theorem it_79_6 (Ls : Nat) (xs : Nat → Int32) : xPI Ls xs md_79 6 (.inl (xs_gf 6 1 9)) := by
  exact xs_gf_ok d_79_6 (C := R_6) (T := T_6) (N := N_6) rfl in_6 (by decide) tw_788
theorem it_79_9 (Ls : Nat) (xs : Nat → Int32) : xPI Ls xs md_79 9 (.inl (xs_ic_ge 42 12)) := by
  exact xs_ic_ge_ok d_79_9 (by decide)
theorem it_79_12 (Ls : Nat) (xs : Nat → Int32) : xPI Ls xs md_79 12 (.inl (xs_al 0 13)) := by
  exact xs_aload_n_ok d_79_12 rfl
theorem it_79_13 (Ls : Nat) (xs : Nat → Int32) : xPI Ls xs md_79 13 (.inl (xs_gf 6 9 16)) := by
  exact xs_gf_ok d_79_13 (C := R_6) (T := T_6) (N := N_6) rfl in_6 (by decide) tw_796
theorem it_79_16 (Ls : Nat) (xs : Nat → Int32) : xPI Ls xs md_79 16 (.inl (xs_c (13) 18)) := by
  exact xs_bipush_ok d_79_16 (by decide)
theorem it_79_18 (Ls : Nat) (xs : Nat → Int32) : xPI Ls xs md_79 18 (.inl (xs_il 1 19)) := by
  exact xs_iload_n_ok d_79_18 rfl
theorem it_79_19 (Ls : Nat) (xs : Nat → Int32) : xPI Ls xs md_79 19 (.inl (xs_imul 20)) := by
  exact xs_imul_ok d_79_19
theorem it_79_20 (Ls : Nat) (xs : Nat → Int32) : xPI Ls xs md_79 20 (.inl (xs_il 3 21)) := by
  exact xs_iload_n_ok d_79_20 rfl
theorem it_79_21 (Ls : Nat) (xs : Nat → Int32) : xPI Ls xs md_79 21 (.inl (xs_iadd 22)) := by
  exact xs_iadd_ok d_79_21
theorem it_79_22 (Ls : Nat) (xs : Nat → Int32) : xPI Ls xs md_79 22 (.inl (xs_za 23)) := by
  exact xs_za_ok d_79_22
theorem it_79_23 (Ls : Nat) (xs : Nat → Int32) : xPI Ls xs md_79 23 (.inl (xs_if_eq 34 26)) := by
  exact xs_if_eq_ok d_79_23 (by decide)
theorem it_79_26 (Ls : Nat) (xs : Nat → Int32) : xPI Ls xs md_79 26 (.inl (xs_il 2 27)) := by
  exact xs_iload_n_ok d_79_26 rfl
theorem it_79_27 (Ls : Nat) (xs : Nat → Int32) : xPI Ls xs md_79 27 (.inl (xs_c (1) 28)) := by
  exact xs_iconst_ok d_79_27 (by decide)
theorem it_79_28 (Ls : Nat) (xs : Nat → Int32) : xPI Ls xs md_79 28 (.inl (xs_il 3 29)) := by
  exact xs_iload_n_ok d_79_28 rfl
theorem it_79_30 (Ls : Nat) (xs : Nat → Int32) : xPI Ls xs md_79 30 (.inl (xs_ior 31)) := by
  exact xs_ior_ok d_79_30
theorem it_79_31 (Ls : Nat) (xs : Nat → Int32) : xPI Ls xs md_79 31 (.inl (xs_goto 35)) := by
  exact xs_goto_ok d_79_31 (by decide)
theorem it_79_34 (Ls : Nat) (xs : Nat → Int32) : xPI Ls xs md_79 34 (.inl (xs_il 2 35)) := by
  exact xs_iload_n_ok d_79_34 rfl
theorem it_79_35 (Ls : Nat) (xs : Nat → Int32) : xPI Ls xs md_79 35 (.inl (xs_is 4 2 36)) := by
  exact xs_istore_n_ok d_79_35 rfl
theorem it_79_36 (Ls : Nat) (xs : Nat → Int32) : xPI Ls xs md_79 36 (.inl (xs_inc 4 3 (1) 39)) := by
  exact xs_iinc_ok d_79_36 (by decide)
theorem it_79_39 (Ls : Nat) (xs : Nat → Int32) : xPI Ls xs md_79 39 (.inl (xs_goto 4)) := by
  exact xs_goto_ok d_79_39 (by decide)
theorem it_79_42 (Ls : Nat) (xs : Nat → Int32) : xPI Ls xs md_79 42 (.inl (xs_il 2 43)) := by
  exact xs_iload_n_ok d_79_42 rfl
theorem it_79_43 (Ls : Nat) (xs : Nat → Int32) : xPI Ls xs md_79 43 (.inr (.inr 1)) := by
  exact ⟨rfl, d_79_43⟩
def K_79 (Ls : Nat) (xs : Nat → Int32) : Nat → Option xK := xbt 21 (xbt 9 (xbt 3 (xbt 1 (xlf 0 (.inl (xs_c (0) 1))) (xbt 2 (xlf 1 (.inl (xs_is 4 2 2))) (xlf 2 (.inl (xs_c (0) 3))))) (xbt 5 (xbt 4 (xlf 3 (.inl (xs_is 4 3 4))) (xlf 4 (.inl (xs_il 3 5)))) (xbt 6 (xlf 5 (.inl (xs_al 0 6))) (xlf 6 (.inl (xs_gf 6 1 9)))))) (xbt 16 (xbt 12 (xlf 9 (.inl (xs_ic_ge 42 12))) (xbt 13 (xlf 12 (.inl (xs_al 0 13))) (xlf 13 (.inl (xs_gf 6 9 16))))) (xbt 19 (xbt 18 (xlf 16 (.inl (xs_c (13) 18))) (xlf 18 (.inl (xs_il 1 19)))) (xbt 20 (xlf 19 (.inl (xs_imul 20))) (xlf 20 (.inl (xs_il 3 21))))))) (xbt 31 (xbt 26 (xbt 22 (xlf 21 (.inl (xs_iadd 22))) (xbt 23 (xlf 22 (.inl (xs_za 23))) (xlf 23 (.inl (xs_if_eq 34 26))))) (xbt 28 (xbt 27 (xlf 26 (.inl (xs_il 2 27))) (xlf 27 (.inl (xs_c (1) 28)))) (xbt 30 (xlf 28 (.inl (xs_il 3 29))) (xlf 30 (.inl (xs_ior 31)))))) (xbt 36 (xbt 34 (xlf 31 (.inl (xs_goto 35))) (xbt 35 (xlf 34 (.inl (xs_il 2 35))) (xlf 35 (.inl (xs_is 4 2 36))))) (xbt 42 (xbt 39 (xlf 36 (.inl (xs_inc 4 3 (1) 39))) (xlf 39 (.inl (xs_goto 4)))) (xbt 43 (xlf 42 (.inl (xs_il 2 43))) (xlf 43 (.inr (.inr 1)))))))
theorem ok_79 (Ls : Nat) (xs : Nat → Int32) : ∀ pc it, K_79 Ls xs pc = some it → xPI Ls xs md_79 pc it := by
  unfold K_79
  exact xbt_ok (xbt_ok (xbt_ok (xbt_ok (xlf_ok (it_79_0 Ls xs)) (xbt_ok (xlf_ok (it_79_1 Ls xs)) (xlf_ok (it_79_2 Ls xs)))) (xbt_ok (xbt_ok (xlf_ok (it_79_3 Ls xs)) (xlf_ok (it_79_4 Ls xs))) (xbt_ok (xlf_ok (it_79_5 Ls xs)) (xlf_ok (it_79_6 Ls xs))))) (xbt_ok (xbt_ok (xlf_ok (it_79_9 Ls xs)) (xbt_ok (xlf_ok (it_79_12 Ls xs)) (xlf_ok (it_79_13 Ls xs)))) (xbt_ok (xbt_ok (xlf_ok (it_79_16 Ls xs)) (xlf_ok (it_79_18 Ls xs))) (xbt_ok (xlf_ok (it_79_19 Ls xs)) (xlf_ok (it_79_20 Ls xs)))))) (xbt_ok (xbt_ok (xbt_ok (xlf_ok (it_79_21 Ls xs)) (xbt_ok (xlf_ok (it_79_22 Ls xs)) (xlf_ok (it_79_23 Ls xs)))) (xbt_ok (xbt_ok (xlf_ok (it_79_26 Ls xs)) (xlf_ok (it_79_27 Ls xs))) (xbt_ok (xlf_ok (it_79_28 Ls xs)) (xlf_ok (it_79_30 Ls xs))))) (xbt_ok (xbt_ok (xlf_ok (it_79_31 Ls xs)) (xbt_ok (xlf_ok (it_79_34 Ls xs)) (xlf_ok (it_79_35 Ls xs)))) (xbt_ok (xbt_ok (xlf_ok (it_79_36 Ls xs)) (xlf_ok (it_79_39 Ls xs))) (xbt_ok (xlf_ok (it_79_42 Ls xs)) (xlf_ok (it_79_43 Ls xs))))))
theorem d_80_0 : decode prog_8_method_16_code 0 = .ok (.aload_n 0, 1) := by decide +kernel
theorem d_80_1 : decode prog_8_method_16_code 1 = .ok (.aload_n 0, 1) := by decide +kernel
theorem d_80_2 : decode prog_8_method_16_code 2 = .ok (.iload_n 1, 1) := by decide +kernel
theorem d_80_3 : decode prog_8_method_16_code 3 = .ok (.invokevirtual 77, 3) := by decide +kernel
theorem d_80_6 : decode prog_8_method_16_code 6 = .ok (.ifCond .eq (7), 3) := by decide +kernel
theorem d_80_9 : decode prog_8_method_16_code 9 = .ok (.iconst (0), 1) := by decide +kernel
theorem d_80_10 : decode prog_8_method_16_code 10 = .ok (.goto (4), 3) := by decide +kernel
theorem d_80_13 : decode prog_8_method_16_code 13 = .ok (.iconst (1), 1) := by decide +kernel
theorem d_80_14 : decode prog_8_method_16_code 14 = .ok (.putfield 67, 3) := by decide +kernel
theorem d_80_17 : decode prog_8_method_16_code 17 = .ok (.aload_n 0, 1) := by decide +kernel
theorem d_80_18 : decode prog_8_method_16_code 18 = .ok (.getfield 67, 3) := by decide +kernel
theorem d_80_21 : decode prog_8_method_16_code 21 = .ok (.ifCond .ne (21), 3) := by decide +kernel
theorem d_80_24 : decode prog_8_method_16_code 24 = .ok (.aload_n 0, 1) := by decide +kernel
theorem d_80_25 : decode prog_8_method_16_code 25 = .ok (.getfield 19, 3) := by decide +kernel
theorem d_80_28 : decode prog_8_method_16_code 28 = .ok (.iload_n 1, 1) := by decide +kernel
theorem d_80_29 : decode prog_8_method_16_code 29 = .ok (.aload_n 0, 1) := by decide +kernel
theorem d_80_30 : decode prog_8_method_16_code 30 = .ok (.getfield 61, 3) := by decide +kernel
theorem d_80_33 : decode prog_8_method_16_code 33 = .ok (.isub, 1) := by decide +kernel
theorem d_80_34 : decode prog_8_method_16_code 34 = .ok (.baload, 1) := by decide +kernel
theorem d_80_35 : decode prog_8_method_16_code 35 = .ok (.ifCond .eq (7), 3) := by decide +kernel
theorem d_80_38 : decode prog_8_method_16_code 38 = .ok (.iconst (1), 1) := by decide +kernel
theorem d_80_39 : decode prog_8_method_16_code 39 = .ok (.goto (4), 3) := by decide +kernel
theorem d_80_42 : decode prog_8_method_16_code 42 = .ok (.iconst (0), 1) := by decide +kernel
theorem d_80_43 : decode prog_8_method_16_code 43 = .ok (.ireturn, 1) := by decide +kernel
theorem it_80_0 (Ls : Nat) (xs : Nat → Int32) : xPI Ls xs md_80 0 (.inl (xs_al 0 1)) := by
  exact xs_aload_n_ok d_80_0 rfl
theorem it_80_1 (Ls : Nat) (xs : Nat → Int32) : xPI Ls xs md_80 1 (.inl (xs_al 0 2)) := by
  exact xs_aload_n_ok d_80_1 rfl
theorem it_80_2 (Ls : Nat) (xs : Nat → Int32) : xPI Ls xs md_80 2 (.inl (xs_il 1 3)) := by
  exact xs_iload_n_ok d_80_2 rfl
theorem it_80_3 (Ls : Nat) (xs : Nat → Int32) : xPI Ls xs md_80 3 (.inr (.inl (70, 2, 8, []))) := by
  exact ⟨md_70, rfl, tw_7, by decide, ⟨by decide, by decide⟩, Or.inr (Or.inr ⟨6, R_6, T_6, N_6, 77, 1, rfl, rfl, rfl, rfl, d_80_3, tw_884, tw_886, ts_TableMakerModel_isNonterminal, by decide +kernel, (fun x q h => by cases h)⟩)⟩
theorem it_80_6 (Ls : Nat) (xs : Nat → Int32) : xPI Ls xs md_80 6 (.inl (xs_if_eq 13 9)) := by
  exact xs_if_eq_ok d_80_6 (by decide)
theorem it_80_9 (Ls : Nat) (xs : Nat → Int32) : xPI Ls xs md_80 9 (.inl (xs_c (0) 10)) := by
  exact xs_iconst_ok d_80_9 (by decide)
theorem it_80_10 (Ls : Nat) (xs : Nat → Int32) : xPI Ls xs md_80 10 (.inl (xs_goto 14)) := by
  exact xs_goto_ok d_80_10 (by decide)
theorem it_80_13 (Ls : Nat) (xs : Nat → Int32) : xPI Ls xs md_80 13 (.inl (xs_c (1) 14)) := by
  exact xs_iconst_ok d_80_13 (by decide)
theorem it_80_14 (Ls : Nat) (xs : Nat → Int32) : xPI Ls xs md_80 14 (.inl (xs_pf 6 0 0 17)) := by
  exact xs_pf_ok d_80_14 (C := R_6) (T := T_6) (N := N_6) (ty0 := Y_6) rfl in_6 ty_6 nm_6 (by decide) tw_787 (Or.inl rfl) rfl
theorem it_80_17 (Ls : Nat) (xs : Nat → Int32) : xPI Ls xs md_80 17 (.inl (xs_al 0 18)) := by
  exact xs_aload_n_ok d_80_17 rfl
theorem it_80_18 (Ls : Nat) (xs : Nat → Int32) : xPI Ls xs md_80 18 (.inl (xs_gf 6 0 21)) := by
  exact xs_gf_ok d_80_18 (C := R_6) (T := T_6) (N := N_6) rfl in_6 (by decide) tw_787
theorem it_80_21 (Ls : Nat) (xs : Nat → Int32) : xPI Ls xs md_80 21 (.inl (xs_if_ne 42 24)) := by
  exact xs_if_ne_ok d_80_21 (by decide)
theorem it_80_24 (Ls : Nat) (xs : Nat → Int32) : xPI Ls xs md_80 24 (.inl (xs_al 0 25)) := by
  exact xs_aload_n_ok d_80_24 rfl
theorem it_80_25 (Ls : Nat) (xs : Nat → Int32) : xPI Ls xs md_80 25 (.inl (xs_gf 6 8 28)) := by
  exact xs_gf_ok d_80_25 (C := R_6) (T := T_6) (N := N_6) rfl in_6 (by decide) tw_795
theorem it_80_28 (Ls : Nat) (xs : Nat → Int32) : xPI Ls xs md_80 28 (.inl (xs_il 1 29)) := by
  exact xs_iload_n_ok d_80_28 rfl
theorem it_80_29 (Ls : Nat) (xs : Nat → Int32) : xPI Ls xs md_80 29 (.inl (xs_al 0 30)) := by
  exact xs_aload_n_ok d_80_29 rfl
theorem it_80_30 (Ls : Nat) (xs : Nat → Int32) : xPI Ls xs md_80 30 (.inl (xs_gf 6 1 33)) := by
  exact xs_gf_ok d_80_30 (C := R_6) (T := T_6) (N := N_6) rfl in_6 (by decide) tw_788
theorem it_80_33 (Ls : Nat) (xs : Nat → Int32) : xPI Ls xs md_80 33 (.inl (xs_isub 34)) := by
  exact xs_isub_ok d_80_33
theorem it_80_34 (Ls : Nat) (xs : Nat → Int32) : xPI Ls xs md_80 34 (.inl (xs_za 35)) := by
  exact xs_za_ok d_80_34
theorem it_80_35 (Ls : Nat) (xs : Nat → Int32) : xPI Ls xs md_80 35 (.inl (xs_if_eq 42 38)) := by
  exact xs_if_eq_ok d_80_35 (by decide)
theorem it_80_38 (Ls : Nat) (xs : Nat → Int32) : xPI Ls xs md_80 38 (.inl (xs_c (1) 39)) := by
  exact xs_iconst_ok d_80_38 (by decide)
theorem it_80_39 (Ls : Nat) (xs : Nat → Int32) : xPI Ls xs md_80 39 (.inl (xs_goto 43)) := by
  exact xs_goto_ok d_80_39 (by decide)
theorem it_80_42 (Ls : Nat) (xs : Nat → Int32) : xPI Ls xs md_80 42 (.inl (xs_c (0) 43)) := by
  exact xs_iconst_ok d_80_42 (by decide)
theorem it_80_43 (Ls : Nat) (xs : Nat → Int32) : xPI Ls xs md_80 43 (.inr (.inr 2)) := by
  exact ⟨rfl, d_80_43⟩
def K_80 (Ls : Nat) (xs : Nat → Int32) : Nat → Option xK := xbt 24 (xbt 10 (xbt 3 (xbt 1 (xlf 0 (.inl (xs_al 0 1))) (xbt 2 (xlf 1 (.inl (xs_al 0 2))) (xlf 2 (.inl (xs_il 1 3))))) (xbt 6 (xlf 3 (.inr (.inl (70, 2, 8, [])))) (xbt 9 (xlf 6 (.inl (xs_if_eq 13 9))) (xlf 9 (.inl (xs_c (0) 10)))))) (xbt 17 (xbt 13 (xlf 10 (.inl (xs_goto 14))) (xbt 14 (xlf 13 (.inl (xs_c (1) 14))) (xlf 14 (.inl (xs_pf 6 0 0 17))))) (xbt 18 (xlf 17 (.inl (xs_al 0 18))) (xbt 21 (xlf 18 (.inl (xs_gf 6 0 21))) (xlf 21 (.inl (xs_if_ne 42 24))))))) (xbt 34 (xbt 29 (xbt 25 (xlf 24 (.inl (xs_al 0 25))) (xbt 28 (xlf 25 (.inl (xs_gf 6 8 28))) (xlf 28 (.inl (xs_il 1 29))))) (xbt 30 (xlf 29 (.inl (xs_al 0 30))) (xbt 33 (xlf 30 (.inl (xs_gf 6 1 33))) (xlf 33 (.inl (xs_isub 34)))))) (xbt 39 (xbt 35 (xlf 34 (.inl (xs_za 35))) (xbt 38 (xlf 35 (.inl (xs_if_eq 42 38))) (xlf 38 (.inl (xs_c (1) 39))))) (xbt 42 (xlf 39 (.inl (xs_goto 43))) (xbt 43 (xlf 42 (.inl (xs_c (0) 43))) (xlf 43 (.inr (.inr 2)))))))
theorem ok_80 (Ls : Nat) (xs : Nat → Int32) : ∀ pc it, K_80 Ls xs pc = some it → xPI Ls xs md_80 pc it := by
  unfold K_80
  exact xbt_ok (xbt_ok (xbt_ok (xbt_ok (xlf_ok (it_80_0 Ls xs)) (xbt_ok (xlf_ok (it_80_1 Ls xs)) (xlf_ok (it_80_2 Ls xs)))) (xbt_ok (xlf_ok (it_80_3 Ls xs)) (xbt_ok (xlf_ok (it_80_6 Ls xs)) (xlf_ok (it_80_9 Ls xs))))) (xbt_ok (xbt_ok (xlf_ok (it_80_10 Ls xs)) (xbt_ok (xlf_ok (it_80_13 Ls xs)) (xlf_ok (it_80_14 Ls xs)))) (xbt_ok (xlf_ok (it_80_17 Ls xs)) (xbt_ok (xlf_ok (it_80_18 Ls xs)) (xlf_ok (it_80_21 Ls xs)))))) (xbt_ok (xbt_ok (xbt_ok (xlf_ok (it_80_24 Ls xs)) (xbt_ok (xlf_ok (it_80_25 Ls xs)) (xlf_ok (it_80_28 Ls xs)))) (xbt_ok (xlf_ok (it_80_29 Ls xs)) (xbt_ok (xlf_ok (it_80_30 Ls xs)) (xlf_ok (it_80_33 Ls xs))))) (xbt_ok (xbt_ok (xlf_ok (it_80_34 Ls xs)) (xbt_ok (xlf_ok (it_80_35 Ls xs)) (xlf_ok (it_80_38 Ls xs)))) (xbt_ok (xlf_ok (it_80_39 Ls xs)) (xbt_ok (xlf_ok (it_80_42 Ls xs)) (xlf_ok (it_80_43 Ls xs))))))
theorem d_81_0 : decode prog_8_method_17_code 0 = .ok (.aload_n 0, 1) := by decide +kernel
theorem d_81_1 : decode prog_8_method_17_code 1 = .ok (.iload_n 1, 1) := by decide +kernel
theorem d_81_2 : decode prog_8_method_17_code 2 = .ok (.invokevirtual 77, 3) := by decide +kernel
theorem d_81_5 : decode prog_8_method_17_code 5 = .ok (.ifCond .ne (9), 3) := by decide +kernel
theorem d_81_8 : decode prog_8_method_17_code 8 = .ok (.aload_n 0, 1) := by decide +kernel
theorem d_81_9 : decode prog_8_method_17_code 9 = .ok (.iconst (1), 1) := by decide +kernel
theorem d_81_10 : decode prog_8_method_17_code 10 = .ok (.invokevirtual 119, 3) := by decide +kernel
theorem d_81_13 : decode prog_8_method_17_code 13 = .ok (.ireturn, 1) := by decide +kernel
theorem d_81_14 : decode prog_8_method_17_code 14 = .ok (.aload_n 0, 1) := by decide +kernel
theorem d_81_15 : decode prog_8_method_17_code 15 = .ok (.iconst (0), 1) := by decide +kernel
theorem d_81_16 : decode prog_8_method_17_code 16 = .ok (.putfield 67, 3) := by decide +kernel
theorem d_81_19 : decode prog_8_method_17_code 19 = .ok (.aload_n 0, 1) := by decide +kernel
theorem d_81_20 : decode prog_8_method_17_code 20 = .ok (.iload_n 1, 1) := by decide +kernel
theorem d_81_21 : decode prog_8_method_17_code 21 = .ok (.aload_n 0, 1) := by decide +kernel
theorem d_81_22 : decode prog_8_method_17_code 22 = .ok (.getfield 61, 3) := by decide +kernel
theorem d_81_25 : decode prog_8_method_17_code 25 = .ok (.isub, 1) := by decide +kernel
theorem d_81_26 : decode prog_8_method_17_code 26 = .ok (.invokevirtual 122, 3) := by decide +kernel
theorem d_81_29 : decode prog_8_method_17_code 29 = .ok (.ireturn, 1) := by decide +kernel
theorem it_81_0 (Ls : Nat) (xs : Nat → Int32) : xPI Ls xs md_81 0 (.inl (xs_al 0 1)) := by
  exact xs_aload_n_ok d_81_0 rfl
theorem it_81_1 (Ls : Nat) (xs : Nat → Int32) : xPI Ls xs md_81 1 (.inl (xs_il 1 2)) := by
  exact xs_iload_n_ok d_81_1 rfl
theorem it_81_2 (Ls : Nat) (xs : Nat → Int32) : xPI Ls xs md_81 2 (.inr (.inl (70, 2, 8, []))) := by
  exact ⟨md_70, rfl, tw_7, by decide, ⟨by decide, by decide⟩, Or.inr (Or.inr ⟨6, R_6, T_6, N_6, 77, 1, rfl, rfl, rfl, rfl, d_81_2, tw_884, tw_886, ts_TableMakerModel_isNonterminal, by decide +kernel, (fun x q h => by cases h)⟩)⟩
theorem it_81_5 (Ls : Nat) (xs : Nat → Int32) : xPI Ls xs md_81 5 (.inl (xs_if_ne 14 8)) := by
  exact xs_if_ne_ok d_81_5 (by decide)
theorem it_81_8 (Ls : Nat) (xs : Nat → Int32) : xPI Ls xs md_81 8 (.inl (xs_al 0 9)) := by
  exact xs_aload_n_ok d_81_8 rfl
theorem it_81_9 (Ls : Nat) (xs : Nat → Int32) : xPI Ls xs md_81 9 (.inl (xs_c (1) 10)) := by
  exact xs_iconst_ok d_81_9 (by decide)
theorem it_81_10 (Ls : Nat) (xs : Nat → Int32) : xPI Ls xs md_81 10 (.inr (.inl (68, 2, 8, []))) := by
  exact ⟨md_68, rfl, tw_7, by decide, ⟨by decide, by decide⟩, Or.inr (Or.inr ⟨6, R_6, T_6, N_6, 119, 1, rfl, rfl, rfl, rfl, d_81_10, tw_932, tw_934, ts_TableMakerModel_refuse, by decide +kernel, (fun x q h => by cases h)⟩)⟩
theorem it_81_13 (Ls : Nat) (xs : Nat → Int32) : xPI Ls xs md_81 13 (.inr (.inr 1)) := by
  exact ⟨rfl, d_81_13⟩
theorem it_81_14 (Ls : Nat) (xs : Nat → Int32) : xPI Ls xs md_81 14 (.inl (xs_al 0 15)) := by
  exact xs_aload_n_ok d_81_14 rfl
theorem it_81_15 (Ls : Nat) (xs : Nat → Int32) : xPI Ls xs md_81 15 (.inl (xs_c (0) 16)) := by
  exact xs_iconst_ok d_81_15 (by decide)
theorem it_81_16 (Ls : Nat) (xs : Nat → Int32) : xPI Ls xs md_81 16 (.inl (xs_pf 6 0 0 19)) := by
  exact xs_pf_ok d_81_16 (C := R_6) (T := T_6) (N := N_6) (ty0 := Y_6) rfl in_6 ty_6 nm_6 (by decide) tw_787 (Or.inl rfl) rfl
theorem it_81_19 (Ls : Nat) (xs : Nat → Int32) : xPI Ls xs md_81 19 (.inl (xs_al 0 20)) := by
  exact xs_aload_n_ok d_81_19 rfl
theorem it_81_20 (Ls : Nat) (xs : Nat → Int32) : xPI Ls xs md_81 20 (.inl (xs_il 1 21)) := by
  exact xs_iload_n_ok d_81_20 rfl
theorem it_81_21 (Ls : Nat) (xs : Nat → Int32) : xPI Ls xs md_81 21 (.inl (xs_al 0 22)) := by
  exact xs_aload_n_ok d_81_21 rfl
theorem it_81_22 (Ls : Nat) (xs : Nat → Int32) : xPI Ls xs md_81 22 (.inl (xs_gf 6 1 25)) := by
  exact xs_gf_ok d_81_22 (C := R_6) (T := T_6) (N := N_6) rfl in_6 (by decide) tw_788
theorem it_81_25 (Ls : Nat) (xs : Nat → Int32) : xPI Ls xs md_81 25 (.inl (xs_isub 26)) := by
  exact xs_isub_ok d_81_25
theorem it_81_26 (Ls : Nat) (xs : Nat → Int32) : xPI Ls xs md_81 26 (.inr (.inl (79, 2, 8, []))) := by
  exact ⟨md_79, rfl, tw_7, by decide, ⟨by decide, by decide⟩, Or.inr (Or.inr ⟨6, R_6, T_6, N_6, 122, 1, rfl, rfl, rfl, rfl, d_81_26, tw_936, tw_938, ts_TableMakerModel_firstOf, by decide +kernel, (fun x q h => by cases h)⟩)⟩
theorem it_81_29 (Ls : Nat) (xs : Nat → Int32) : xPI Ls xs md_81 29 (.inr (.inr 1)) := by
  exact ⟨rfl, d_81_29⟩
def K_81 (Ls : Nat) (xs : Nat → Int32) : Nat → Option xK := xbt 15 (xbt 8 (xbt 2 (xbt 1 (xlf 0 (.inl (xs_al 0 1))) (xlf 1 (.inl (xs_il 1 2)))) (xbt 5 (xlf 2 (.inr (.inl (70, 2, 8, [])))) (xlf 5 (.inl (xs_if_ne 14 8))))) (xbt 10 (xbt 9 (xlf 8 (.inl (xs_al 0 9))) (xlf 9 (.inl (xs_c (1) 10)))) (xbt 13 (xlf 10 (.inr (.inl (68, 2, 8, [])))) (xbt 14 (xlf 13 (.inr (.inr 1))) (xlf 14 (.inl (xs_al 0 15))))))) (xbt 21 (xbt 19 (xbt 16 (xlf 15 (.inl (xs_c (0) 16))) (xlf 16 (.inl (xs_pf 6 0 0 19)))) (xbt 20 (xlf 19 (.inl (xs_al 0 20))) (xlf 20 (.inl (xs_il 1 21))))) (xbt 25 (xbt 22 (xlf 21 (.inl (xs_al 0 22))) (xlf 22 (.inl (xs_gf 6 1 25)))) (xbt 26 (xlf 25 (.inl (xs_isub 26))) (xbt 29 (xlf 26 (.inr (.inl (79, 2, 8, [])))) (xlf 29 (.inr (.inr 1)))))))
theorem ok_81 (Ls : Nat) (xs : Nat → Int32) : ∀ pc it, K_81 Ls xs pc = some it → xPI Ls xs md_81 pc it := by
  unfold K_81
  exact xbt_ok (xbt_ok (xbt_ok (xbt_ok (xlf_ok (it_81_0 Ls xs)) (xlf_ok (it_81_1 Ls xs))) (xbt_ok (xlf_ok (it_81_2 Ls xs)) (xlf_ok (it_81_5 Ls xs)))) (xbt_ok (xbt_ok (xlf_ok (it_81_8 Ls xs)) (xlf_ok (it_81_9 Ls xs))) (xbt_ok (xlf_ok (it_81_10 Ls xs)) (xbt_ok (xlf_ok (it_81_13 Ls xs)) (xlf_ok (it_81_14 Ls xs)))))) (xbt_ok (xbt_ok (xbt_ok (xlf_ok (it_81_15 Ls xs)) (xlf_ok (it_81_16 Ls xs))) (xbt_ok (xlf_ok (it_81_19 Ls xs)) (xlf_ok (it_81_20 Ls xs)))) (xbt_ok (xbt_ok (xlf_ok (it_81_21 Ls xs)) (xlf_ok (it_81_22 Ls xs))) (xbt_ok (xlf_ok (it_81_25 Ls xs)) (xbt_ok (xlf_ok (it_81_26 Ls xs)) (xlf_ok (it_81_29 Ls xs))))))
theorem d_82_0 : decode prog_8_method_30_code 0 = .ok (.aload_n 0, 1) := by decide +kernel
theorem d_82_1 : decode prog_8_method_30_code 1 = .ok (.getfield 81, 3) := by decide +kernel
theorem d_82_4 : decode prog_8_method_30_code 4 = .ok (.ifCond .ne (10), 3) := by decide +kernel
theorem d_82_7 : decode prog_8_method_30_code 7 = .ok (.aload_n 0, 1) := by decide +kernel
theorem d_82_8 : decode prog_8_method_30_code 8 = .ok (.getfield 85, 3) := by decide +kernel
theorem d_82_11 : decode prog_8_method_30_code 11 = .ok (.ifCond .ne (9), 3) := by decide +kernel
theorem d_82_14 : decode prog_8_method_30_code 14 = .ok (.aload_n 0, 1) := by decide +kernel
theorem d_82_15 : decode prog_8_method_30_code 15 = .ok (.iconst (1), 1) := by decide +kernel
theorem d_82_16 : decode prog_8_method_30_code 16 = .ok (.invokevirtual 119, 3) := by decide +kernel
theorem d_82_19 : decode prog_8_method_30_code 19 = .ok (.ireturn, 1) := by decide +kernel
theorem d_82_20 : decode prog_8_method_30_code 20 = .ok (.aload_n 0, 1) := by decide +kernel
theorem d_82_21 : decode prog_8_method_30_code 21 = .ok (.iconst (-1), 1) := by decide +kernel
theorem d_82_22 : decode prog_8_method_30_code 22 = .ok (.putfield 45, 3) := by decide +kernel
theorem d_82_25 : decode prog_8_method_30_code 25 = .ok (.aload_n 0, 1) := by decide +kernel
theorem d_82_26 : decode prog_8_method_30_code 26 = .ok (.iconst (-1), 1) := by decide +kernel
theorem d_82_27 : decode prog_8_method_30_code 27 = .ok (.putfield 49, 3) := by decide +kernel
theorem d_82_30 : decode prog_8_method_30_code 30 = .ok (.aload_n 0, 1) := by decide +kernel
theorem d_82_34 : decode prog_8_method_30_code 34 = .ok (.istore_n 1, 1) := by decide +kernel
theorem d_82_35 : decode prog_8_method_30_code 35 = .ok (.iload_n 1, 1) := by decide +kernel
theorem d_82_36 : decode prog_8_method_30_code 36 = .ok (.ifCond .eq (7), 3) := by decide +kernel
theorem d_82_39 : decode prog_8_method_30_code 39 = .ok (.aload_n 0, 1) := by decide +kernel
theorem d_82_43 : decode prog_8_method_30_code 43 = .ok (.aload_n 0, 1) := by decide +kernel
theorem d_82_44 : decode prog_8_method_30_code 44 = .ok (.iload_n 1, 1) := by decide +kernel
theorem d_82_45 : decode prog_8_method_30_code 45 = .ok (.ifCond .eq (15), 3) := by decide +kernel
theorem d_82_48 : decode prog_8_method_30_code 48 = .ok (.aload_n 0, 1) := by decide +kernel
theorem d_82_49 : decode prog_8_method_30_code 49 = .ok (.getfield 45, 3) := by decide +kernel
theorem d_82_52 : decode prog_8_method_30_code 52 = .ok (.iconst (-1), 1) := by decide +kernel
theorem d_82_53 : decode prog_8_method_30_code 53 = .ok (.if_icmp .ne (7), 3) := by decide +kernel
theorem d_82_56 : decode prog_8_method_30_code 56 = .ok (.iconst (1), 1) := by decide +kernel
theorem d_82_57 : decode prog_8_method_30_code 57 = .ok (.goto (4), 3) := by decide +kernel
theorem d_82_60 : decode prog_8_method_30_code 60 = .ok (.iconst (0), 1) := by decide +kernel
theorem d_82_61 : decode prog_8_method_30_code 61 = .ok (.putfield 81, 3) := by decide +kernel
theorem d_82_64 : decode prog_8_method_30_code 64 = .ok (.aload_n 0, 1) := by decide +kernel
theorem d_82_65 : decode prog_8_method_30_code 65 = .ok (.aload_n 0, 1) := by decide +kernel
theorem d_82_66 : decode prog_8_method_30_code 66 = .ok (.getfield 81, 3) := by decide +kernel
theorem d_82_69 : decode prog_8_method_30_code 69 = .ok (.ifCond .eq (10), 3) := by decide +kernel
theorem d_82_72 : decode prog_8_method_30_code 72 = .ok (.aload_n 0, 1) := by decide +kernel
theorem d_82_73 : decode prog_8_method_30_code 73 = .ok (.getfield 94, 3) := by decide +kernel
theorem d_82_76 : decode prog_8_method_30_code 76 = .ok (.goto (4), 3) := by decide +kernel
theorem d_82_79 : decode prog_8_method_30_code 79 = .ok (.iconst (0), 1) := by decide +kernel
theorem d_82_80 : decode prog_8_method_30_code 80 = .ok (.putfield 94, 3) := by decide +kernel
theorem d_82_83 : decode prog_8_method_30_code 83 = .ok (.aload_n 0, 1) := by decide +kernel
theorem d_82_84 : decode prog_8_method_30_code 84 = .ok (.aload_n 0, 1) := by decide +kernel
theorem d_82_85 : decode prog_8_method_30_code 85 = .ok (.getfield 81, 3) := by decide +kernel
theorem d_82_88 : decode prog_8_method_30_code 88 = .ok (.ifCond .eq (7), 3) := by decide +kernel
theorem d_82_91 : decode prog_8_method_30_code 91 = .ok (.iconst (0), 1) := by decide +kernel
theorem d_82_92 : decode prog_8_method_30_code 92 = .ok (.goto (12), 3) := by decide +kernel
theorem d_82_95 : decode prog_8_method_30_code 95 = .ok (.iload_n 1, 1) := by decide +kernel
theorem d_82_96 : decode prog_8_method_30_code 96 = .ok (.ifCond .eq (7), 3) := by decide +kernel
theorem d_82_99 : decode prog_8_method_30_code 99 = .ok (.iconst (3), 1) := by decide +kernel
theorem d_82_100 : decode prog_8_method_30_code 100 = .ok (.goto (4), 3) := by decide +kernel
theorem d_82_103 : decode prog_8_method_30_code 103 = .ok (.iconst (2), 1) := by decide +kernel
theorem d_82_104 : decode prog_8_method_30_code 104 = .ok (.putfield 67, 3) := by decide +kernel
theorem d_82_107 : decode prog_8_method_30_code 107 = .ok (.aload_n 0, 1) := by decide +kernel
theorem d_82_108 : decode prog_8_method_30_code 108 = .ok (.getfield 94, 3) := by decide +kernel
theorem d_82_111 : decode prog_8_method_30_code 111 = .ok (.ireturn, 1) := by decide +kernel
theorem it_82_0 (Ls : Nat) (xs : Nat → Int32) : xPI Ls xs md_82 0 (.inl (xs_al 0 1)) := by
  exact xs_aload_n_ok d_82_0 rfl
theorem it_82_1 (Ls : Nat) (xs : Nat → Int32) : xPI Ls xs md_82 1 (.inl (xs_gf 6 15 4)) := by
  exact xs_gf_ok d_82_1 (C := R_6) (T := T_6) (N := N_6) rfl in_6 (by decide) tw_802
theorem it_82_4 (Ls : Nat) (xs : Nat → Int32) : xPI Ls xs md_82 4 (.inl (xs_if_ne 14 7)) := by
  exact xs_if_ne_ok d_82_4 (by decide)
theorem it_82_7 (Ls : Nat) (xs : Nat → Int32) : xPI Ls xs md_82 7 (.inl (xs_al 0 8)) := by
  exact xs_aload_n_ok d_82_7 rfl
theorem it_82_8 (Ls : Nat) (xs : Nat → Int32) : xPI Ls xs md_82 8 (.inl (xs_gf 6 3 11)) := by
  exact xs_gf_ok d_82_8 (C := R_6) (T := T_6) (N := N_6) rfl in_6 (by decide) tw_790
theorem it_82_11 (Ls : Nat) (xs : Nat → Int32) : xPI Ls xs md_82 11 (.inl (xs_if_ne 20 14)) := by
  exact xs_if_ne_ok d_82_11 (by decide)
theorem it_82_14 (Ls : Nat) (xs : Nat → Int32) : xPI Ls xs md_82 14 (.inl (xs_al 0 15)) := by
  exact xs_aload_n_ok d_82_14 rfl
theorem it_82_15 (Ls : Nat) (xs : Nat → Int32) : xPI Ls xs md_82 15 (.inl (xs_c (1) 16)) := by
  exact xs_iconst_ok d_82_15 (by decide)
theorem it_82_16 (Ls : Nat) (xs : Nat → Int32) : xPI Ls xs md_82 16 (.inr (.inl (68, 2, 8, []))) := by
  exact ⟨md_68, rfl, tw_7, by decide, ⟨by decide, by decide⟩, Or.inr (Or.inr ⟨6, R_6, T_6, N_6, 119, 1, rfl, rfl, rfl, rfl, d_82_16, tw_932, tw_934, ts_TableMakerModel_refuse, by decide +kernel, (fun x q h => by cases h)⟩)⟩
theorem it_82_19 (Ls : Nat) (xs : Nat → Int32) : xPI Ls xs md_82 19 (.inr (.inr 1)) := by
  exact ⟨rfl, d_82_19⟩
theorem it_82_20 (Ls : Nat) (xs : Nat → Int32) : xPI Ls xs md_82 20 (.inl (xs_al 0 21)) := by
  exact xs_aload_n_ok d_82_20 rfl
theorem it_82_21 (Ls : Nat) (xs : Nat → Int32) : xPI Ls xs md_82 21 (.inl (xs_c (-1) 22)) := by
  exact xs_iconst_ok d_82_21 (by decide)
theorem it_82_22 (Ls : Nat) (xs : Nat → Int32) : xPI Ls xs md_82 22 (.inl (xs_pf 6 19 0 25)) := by
  exact xs_pf_ok d_82_22 (C := R_6) (T := T_6) (N := N_6) (ty0 := Y_6) rfl in_6 ty_6 nm_6 (by decide) tw_806 (Or.inl rfl) rfl
theorem it_82_25 (Ls : Nat) (xs : Nat → Int32) : xPI Ls xs md_82 25 (.inl (xs_al 0 26)) := by
  exact xs_aload_n_ok d_82_25 rfl
theorem it_82_26 (Ls : Nat) (xs : Nat → Int32) : xPI Ls xs md_82 26 (.inl (xs_c (-1) 27)) := by
  exact xs_iconst_ok d_82_26 (by decide)
theorem it_82_27 (Ls : Nat) (xs : Nat → Int32) : xPI Ls xs md_82 27 (.inl (xs_pf 6 20 0 30)) := by
  exact xs_pf_ok d_82_27 (C := R_6) (T := T_6) (N := N_6) (ty0 := Y_6) rfl in_6 ty_6 nm_6 (by decide) tw_807 (Or.inl rfl) rfl
theorem it_82_30 (Ls : Nat) (xs : Nat → Int32) : xPI Ls xs md_82 30 (.inl (xs_al 0 31)) := by
  exact xs_aload_n_ok d_82_30 rfl
theorem it_82_34 (Ls : Nat) (xs : Nat → Int32) : xPI Ls xs md_82 34 (.inl (xs_is 2 1 35)) := by
  exact xs_istore_n_ok d_82_34 rfl
theorem it_82_35 (Ls : Nat) (xs : Nat → Int32) : xPI Ls xs md_82 35 (.inl (xs_il 1 36)) := by
  exact xs_iload_n_ok d_82_35 rfl
theorem it_82_36 (Ls : Nat) (xs : Nat → Int32) : xPI Ls xs md_82 36 (.inl (xs_if_eq 43 39)) := by
  exact xs_if_eq_ok d_82_36 (by decide)
theorem it_82_39 (Ls : Nat) (xs : Nat → Int32) : xPI Ls xs md_82 39 (.inl (xs_al 0 40)) := by
  exact xs_aload_n_ok d_82_39 rfl
theorem it_82_43 (Ls : Nat) (xs : Nat → Int32) : xPI Ls xs md_82 43 (.inl (xs_al 0 44)) := by
  exact xs_aload_n_ok d_82_43 rfl
theorem it_82_44 (Ls : Nat) (xs : Nat → Int32) : xPI Ls xs md_82 44 (.inl (xs_il 1 45)) := by
  exact xs_iload_n_ok d_82_44 rfl
theorem it_82_45 (Ls : Nat) (xs : Nat → Int32) : xPI Ls xs md_82 45 (.inl (xs_if_eq 60 48)) := by
  exact xs_if_eq_ok d_82_45 (by decide)
theorem it_82_48 (Ls : Nat) (xs : Nat → Int32) : xPI Ls xs md_82 48 (.inl (xs_al 0 49)) := by
  exact xs_aload_n_ok d_82_48 rfl
theorem it_82_49 (Ls : Nat) (xs : Nat → Int32) : xPI Ls xs md_82 49 (.inl (xs_gf 6 19 52)) := by
  exact xs_gf_ok d_82_49 (C := R_6) (T := T_6) (N := N_6) rfl in_6 (by decide) tw_806
theorem it_82_52 (Ls : Nat) (xs : Nat → Int32) : xPI Ls xs md_82 52 (.inl (xs_c (-1) 53)) := by
  exact xs_iconst_ok d_82_52 (by decide)
theorem it_82_53 (Ls : Nat) (xs : Nat → Int32) : xPI Ls xs md_82 53 (.inl (xs_ic_ne 60 56)) := by
  exact xs_ic_ne_ok d_82_53 (by decide)
theorem it_82_56 (Ls : Nat) (xs : Nat → Int32) : xPI Ls xs md_82 56 (.inl (xs_c (1) 57)) := by
  exact xs_iconst_ok d_82_56 (by decide)
theorem it_82_57 (Ls : Nat) (xs : Nat → Int32) : xPI Ls xs md_82 57 (.inl (xs_goto 61)) := by
  exact xs_goto_ok d_82_57 (by decide)
theorem it_82_60 (Ls : Nat) (xs : Nat → Int32) : xPI Ls xs md_82 60 (.inl (xs_c (0) 61)) := by
  exact xs_iconst_ok d_82_60 (by decide)
theorem it_82_61 (Ls : Nat) (xs : Nat → Int32) : xPI Ls xs md_82 61 (.inl (xs_pf 6 15 1 64)) := by
  exact xs_pf_ok d_82_61 (C := R_6) (T := T_6) (N := N_6) (ty0 := Y_6) rfl in_6 ty_6 nm_6 (by decide) tw_802 (Or.inl rfl) rfl
theorem it_82_64 (Ls : Nat) (xs : Nat → Int32) : xPI Ls xs md_82 64 (.inl (xs_al 0 65)) := by
  exact xs_aload_n_ok d_82_64 rfl
theorem it_82_65 (Ls : Nat) (xs : Nat → Int32) : xPI Ls xs md_82 65 (.inl (xs_al 0 66)) := by
  exact xs_aload_n_ok d_82_65 rfl
theorem it_82_66 (Ls : Nat) (xs : Nat → Int32) : xPI Ls xs md_82 66 (.inl (xs_gf 6 15 69)) := by
  exact xs_gf_ok d_82_66 (C := R_6) (T := T_6) (N := N_6) rfl in_6 (by decide) tw_802
theorem it_82_69 (Ls : Nat) (xs : Nat → Int32) : xPI Ls xs md_82 69 (.inl (xs_if_eq 79 72)) := by
  exact xs_if_eq_ok d_82_69 (by decide)
theorem it_82_72 (Ls : Nat) (xs : Nat → Int32) : xPI Ls xs md_82 72 (.inl (xs_al 0 73)) := by
  exact xs_aload_n_ok d_82_72 rfl
theorem it_82_73 (Ls : Nat) (xs : Nat → Int32) : xPI Ls xs md_82 73 (.inl (xs_gf 6 16 76)) := by
  exact xs_gf_ok d_82_73 (C := R_6) (T := T_6) (N := N_6) rfl in_6 (by decide) tw_803
theorem it_82_76 (Ls : Nat) (xs : Nat → Int32) : xPI Ls xs md_82 76 (.inl (xs_goto 80)) := by
  exact xs_goto_ok d_82_76 (by decide)
theorem it_82_79 (Ls : Nat) (xs : Nat → Int32) : xPI Ls xs md_82 79 (.inl (xs_c (0) 80)) := by
  exact xs_iconst_ok d_82_79 (by decide)
theorem it_82_80 (Ls : Nat) (xs : Nat → Int32) : xPI Ls xs md_82 80 (.inl (xs_pf 6 16 0 83)) := by
  exact xs_pf_ok d_82_80 (C := R_6) (T := T_6) (N := N_6) (ty0 := Y_6) rfl in_6 ty_6 nm_6 (by decide) tw_803 (Or.inl rfl) rfl
theorem it_82_83 (Ls : Nat) (xs : Nat → Int32) : xPI Ls xs md_82 83 (.inl (xs_al 0 84)) := by
  exact xs_aload_n_ok d_82_83 rfl
theorem it_82_84 (Ls : Nat) (xs : Nat → Int32) : xPI Ls xs md_82 84 (.inl (xs_al 0 85)) := by
  exact xs_aload_n_ok d_82_84 rfl
theorem it_82_85 (Ls : Nat) (xs : Nat → Int32) : xPI Ls xs md_82 85 (.inl (xs_gf 6 15 88)) := by
  exact xs_gf_ok d_82_85 (C := R_6) (T := T_6) (N := N_6) rfl in_6 (by decide) tw_802
theorem it_82_88 (Ls : Nat) (xs : Nat → Int32) : xPI Ls xs md_82 88 (.inl (xs_if_eq 95 91)) := by
  exact xs_if_eq_ok d_82_88 (by decide)
theorem it_82_91 (Ls : Nat) (xs : Nat → Int32) : xPI Ls xs md_82 91 (.inl (xs_c (0) 92)) := by
  exact xs_iconst_ok d_82_91 (by decide)
theorem it_82_92 (Ls : Nat) (xs : Nat → Int32) : xPI Ls xs md_82 92 (.inl (xs_goto 104)) := by
  exact xs_goto_ok d_82_92 (by decide)
theorem it_82_95 (Ls : Nat) (xs : Nat → Int32) : xPI Ls xs md_82 95 (.inl (xs_il 1 96)) := by
  exact xs_iload_n_ok d_82_95 rfl
theorem it_82_96 (Ls : Nat) (xs : Nat → Int32) : xPI Ls xs md_82 96 (.inl (xs_if_eq 103 99)) := by
  exact xs_if_eq_ok d_82_96 (by decide)
theorem it_82_99 (Ls : Nat) (xs : Nat → Int32) : xPI Ls xs md_82 99 (.inl (xs_c (3) 100)) := by
  exact xs_iconst_ok d_82_99 (by decide)
theorem it_82_100 (Ls : Nat) (xs : Nat → Int32) : xPI Ls xs md_82 100 (.inl (xs_goto 104)) := by
  exact xs_goto_ok d_82_100 (by decide)
theorem it_82_103 (Ls : Nat) (xs : Nat → Int32) : xPI Ls xs md_82 103 (.inl (xs_c (2) 104)) := by
  exact xs_iconst_ok d_82_103 (by decide)
theorem it_82_104 (Ls : Nat) (xs : Nat → Int32) : xPI Ls xs md_82 104 (.inl (xs_pf 6 0 0 107)) := by
  exact xs_pf_ok d_82_104 (C := R_6) (T := T_6) (N := N_6) (ty0 := Y_6) rfl in_6 ty_6 nm_6 (by decide) tw_787 (Or.inl rfl) rfl
theorem it_82_107 (Ls : Nat) (xs : Nat → Int32) : xPI Ls xs md_82 107 (.inl (xs_al 0 108)) := by
  exact xs_aload_n_ok d_82_107 rfl
theorem it_82_108 (Ls : Nat) (xs : Nat → Int32) : xPI Ls xs md_82 108 (.inl (xs_gf 6 16 111)) := by
  exact xs_gf_ok d_82_108 (C := R_6) (T := T_6) (N := N_6) rfl in_6 (by decide) tw_803
theorem it_82_111 (Ls : Nat) (xs : Nat → Int32) : xPI Ls xs md_82 111 (.inr (.inr 1)) := by
  exact ⟨rfl, d_82_111⟩
def K_82 (Ls : Nat) (xs : Nat → Int32) : Nat → Option xK := xbt 56 (xbt 26 (xbt 15 (xbt 7 (xbt 1 (xlf 0 (.inl (xs_al 0 1))) (xbt 4 (xlf 1 (.inl (xs_gf 6 15 4))) (xlf 4 (.inl (xs_if_ne 14 7))))) (xbt 11 (xbt 8 (xlf 7 (.inl (xs_al 0 8))) (xlf 8 (.inl (xs_gf 6 3 11)))) (xbt 14 (xlf 11 (.inl (xs_if_ne 20 14))) (xlf 14 (.inl (xs_al 0 15)))))) (xbt 20 (xbt 16 (xlf 15 (.inl (xs_c (1) 16))) (xbt 19 (xlf 16 (.inr (.inl (68, 2, 8, [])))) (xlf 19 (.inr (.inr 1))))) (xbt 22 (xbt 21 (xlf 20 (.inl (xs_al 0 21))) (xlf 21 (.inl (xs_c (-1) 22)))) (xbt 25 (xlf 22 (.inl (xs_pf 6 19 0 25))) (xlf 25 (.inl (xs_al 0 26))))))) (xbt 43 (xbt 34 (xbt 27 (xlf 26 (.inl (xs_c (-1) 27))) (xbt 30 (xlf 27 (.inl (xs_pf 6 20 0 30))) (xlf 30 (.inl (xs_al 0 31))))) (xbt 36 (xbt 35 (xlf 34 (.inl (xs_is 2 1 35))) (xlf 35 (.inl (xs_il 1 36)))) (xbt 39 (xlf 36 (.inl (xs_if_eq 43 39))) (xlf 39 (.inl (xs_al 0 40)))))) (xbt 48 (xbt 44 (xlf 43 (.inl (xs_al 0 44))) (xbt 45 (xlf 44 (.inl (xs_il 1 45))) (xlf 45 (.inl (xs_if_eq 60 48))))) (xbt 52 (xbt 49 (xlf 48 (.inl (xs_al 0 49))) (xlf 49 (.inl (xs_gf 6 19 52)))) (xbt 53 (xlf 52 (.inl (xs_c (-1) 53))) (xlf 53 (.inl (xs_ic_ne 60 56)))))))) (xbt 84 (xbt 69 (xbt 61 (xbt 57 (xlf 56 (.inl (xs_c (1) 57))) (xbt 60 (xlf 57 (.inl (xs_goto 61))) (xlf 60 (.inl (xs_c (0) 61))))) (xbt 65 (xbt 64 (xlf 61 (.inl (xs_pf 6 15 1 64))) (xlf 64 (.inl (xs_al 0 65)))) (xbt 66 (xlf 65 (.inl (xs_al 0 66))) (xlf 66 (.inl (xs_gf 6 15 69)))))) (xbt 76 (xbt 72 (xlf 69 (.inl (xs_if_eq 79 72))) (xbt 73 (xlf 72 (.inl (xs_al 0 73))) (xlf 73 (.inl (xs_gf 6 16 76))))) (xbt 80 (xbt 79 (xlf 76 (.inl (xs_goto 80))) (xlf 79 (.inl (xs_c (0) 80)))) (xbt 83 (xlf 80 (.inl (xs_pf 6 16 0 83))) (xlf 83 (.inl (xs_al 0 84))))))) (xbt 99 (xbt 91 (xbt 85 (xlf 84 (.inl (xs_al 0 85))) (xbt 88 (xlf 85 (.inl (xs_gf 6 15 88))) (xlf 88 (.inl (xs_if_eq 95 91))))) (xbt 95 (xbt 92 (xlf 91 (.inl (xs_c (0) 92))) (xlf 92 (.inl (xs_goto 104)))) (xbt 96 (xlf 95 (.inl (xs_il 1 96))) (xlf 96 (.inl (xs_if_eq 103 99)))))) (xbt 104 (xbt 100 (xlf 99 (.inl (xs_c (3) 100))) (xbt 103 (xlf 100 (.inl (xs_goto 104))) (xlf 103 (.inl (xs_c (2) 104))))) (xbt 108 (xbt 107 (xlf 104 (.inl (xs_pf 6 0 0 107))) (xlf 107 (.inl (xs_al 0 108)))) (xbt 111 (xlf 108 (.inl (xs_gf 6 16 111))) (xlf 111 (.inr (.inr 1))))))))
theorem ok_82 (Ls : Nat) (xs : Nat → Int32) : ∀ pc it, K_82 Ls xs pc = some it → xPI Ls xs md_82 pc it := by
  unfold K_82
  exact xbt_ok (xbt_ok (xbt_ok (xbt_ok (xbt_ok (xlf_ok (it_82_0 Ls xs)) (xbt_ok (xlf_ok (it_82_1 Ls xs)) (xlf_ok (it_82_4 Ls xs)))) (xbt_ok (xbt_ok (xlf_ok (it_82_7 Ls xs)) (xlf_ok (it_82_8 Ls xs))) (xbt_ok (xlf_ok (it_82_11 Ls xs)) (xlf_ok (it_82_14 Ls xs))))) (xbt_ok (xbt_ok (xlf_ok (it_82_15 Ls xs)) (xbt_ok (xlf_ok (it_82_16 Ls xs)) (xlf_ok (it_82_19 Ls xs)))) (xbt_ok (xbt_ok (xlf_ok (it_82_20 Ls xs)) (xlf_ok (it_82_21 Ls xs))) (xbt_ok (xlf_ok (it_82_22 Ls xs)) (xlf_ok (it_82_25 Ls xs)))))) (xbt_ok (xbt_ok (xbt_ok (xlf_ok (it_82_26 Ls xs)) (xbt_ok (xlf_ok (it_82_27 Ls xs)) (xlf_ok (it_82_30 Ls xs)))) (xbt_ok (xbt_ok (xlf_ok (it_82_34 Ls xs)) (xlf_ok (it_82_35 Ls xs))) (xbt_ok (xlf_ok (it_82_36 Ls xs)) (xlf_ok (it_82_39 Ls xs))))) (xbt_ok (xbt_ok (xlf_ok (it_82_43 Ls xs)) (xbt_ok (xlf_ok (it_82_44 Ls xs)) (xlf_ok (it_82_45 Ls xs)))) (xbt_ok (xbt_ok (xlf_ok (it_82_48 Ls xs)) (xlf_ok (it_82_49 Ls xs))) (xbt_ok (xlf_ok (it_82_52 Ls xs)) (xlf_ok (it_82_53 Ls xs))))))) (xbt_ok (xbt_ok (xbt_ok (xbt_ok (xlf_ok (it_82_56 Ls xs)) (xbt_ok (xlf_ok (it_82_57 Ls xs)) (xlf_ok (it_82_60 Ls xs)))) (xbt_ok (xbt_ok (xlf_ok (it_82_61 Ls xs)) (xlf_ok (it_82_64 Ls xs))) (xbt_ok (xlf_ok (it_82_65 Ls xs)) (xlf_ok (it_82_66 Ls xs))))) (xbt_ok (xbt_ok (xlf_ok (it_82_69 Ls xs)) (xbt_ok (xlf_ok (it_82_72 Ls xs)) (xlf_ok (it_82_73 Ls xs)))) (xbt_ok (xbt_ok (xlf_ok (it_82_76 Ls xs)) (xlf_ok (it_82_79 Ls xs))) (xbt_ok (xlf_ok (it_82_80 Ls xs)) (xlf_ok (it_82_83 Ls xs)))))) (xbt_ok (xbt_ok (xbt_ok (xlf_ok (it_82_84 Ls xs)) (xbt_ok (xlf_ok (it_82_85 Ls xs)) (xlf_ok (it_82_88 Ls xs)))) (xbt_ok (xbt_ok (xlf_ok (it_82_91 Ls xs)) (xlf_ok (it_82_92 Ls xs))) (xbt_ok (xlf_ok (it_82_95 Ls xs)) (xlf_ok (it_82_96 Ls xs))))) (xbt_ok (xbt_ok (xlf_ok (it_82_99 Ls xs)) (xbt_ok (xlf_ok (it_82_100 Ls xs)) (xlf_ok (it_82_103 Ls xs)))) (xbt_ok (xbt_ok (xlf_ok (it_82_104 Ls xs)) (xlf_ok (it_82_107 Ls xs))) (xbt_ok (xlf_ok (it_82_108 Ls xs)) (xlf_ok (it_82_111 Ls xs)))))))
theorem d_83_0 : decode prog_8_method_31_code 0 = .ok (.aload_n 0, 1) := by decide +kernel
theorem d_83_1 : decode prog_8_method_31_code 1 = .ok (.iconst (0), 1) := by decide +kernel
theorem d_83_2 : decode prog_8_method_31_code 2 = .ok (.putfield 67, 3) := by decide +kernel
theorem d_83_5 : decode prog_8_method_31_code 5 = .ok (.iload_n 1, 1) := by decide +kernel
theorem d_83_6 : decode prog_8_method_31_code 6 = .ok (.ifCond .ne (10), 3) := by decide +kernel
theorem d_83_9 : decode prog_8_method_31_code 9 = .ok (.aload_n 0, 1) := by decide +kernel
theorem d_83_10 : decode prog_8_method_31_code 10 = .ok (.getfield 45, 3) := by decide +kernel
theorem d_83_13 : decode prog_8_method_31_code 13 = .ok (.goto (16), 3) := by decide +kernel
theorem d_83_16 : decode prog_8_method_31_code 16 = .ok (.iload_n 1, 1) := by decide +kernel
theorem d_83_17 : decode prog_8_method_31_code 17 = .ok (.iconst (1), 1) := by decide +kernel
theorem d_83_18 : decode prog_8_method_31_code 18 = .ok (.if_icmp .ne (10), 3) := by decide +kernel
theorem d_83_21 : decode prog_8_method_31_code 21 = .ok (.aload_n 0, 1) := by decide +kernel
theorem d_83_22 : decode prog_8_method_31_code 22 = .ok (.getfield 49, 3) := by decide +kernel
theorem d_83_25 : decode prog_8_method_31_code 25 = .ok (.goto (4), 3) := by decide +kernel
theorem d_83_28 : decode prog_8_method_31_code 28 = .ok (.iconst (-1), 1) := by decide +kernel
theorem d_83_29 : decode prog_8_method_31_code 29 = .ok (.ireturn, 1) := by decide +kernel
theorem it_83_0 (Ls : Nat) (xs : Nat → Int32) : xPI Ls xs md_83 0 (.inl (xs_al 0 1)) := by
  exact xs_aload_n_ok d_83_0 rfl
theorem it_83_1 (Ls : Nat) (xs : Nat → Int32) : xPI Ls xs md_83 1 (.inl (xs_c (0) 2)) := by
  exact xs_iconst_ok d_83_1 (by decide)
theorem it_83_2 (Ls : Nat) (xs : Nat → Int32) : xPI Ls xs md_83 2 (.inl (xs_pf 6 0 0 5)) := by
  exact xs_pf_ok d_83_2 (C := R_6) (T := T_6) (N := N_6) (ty0 := Y_6) rfl in_6 ty_6 nm_6 (by decide) tw_787 (Or.inl rfl) rfl
theorem it_83_5 (Ls : Nat) (xs : Nat → Int32) : xPI Ls xs md_83 5 (.inl (xs_il 1 6)) := by
  exact xs_iload_n_ok d_83_5 rfl
theorem it_83_6 (Ls : Nat) (xs : Nat → Int32) : xPI Ls xs md_83 6 (.inl (xs_if_ne 16 9)) := by
  exact xs_if_ne_ok d_83_6 (by decide)
theorem it_83_9 (Ls : Nat) (xs : Nat → Int32) : xPI Ls xs md_83 9 (.inl (xs_al 0 10)) := by
  exact xs_aload_n_ok d_83_9 rfl
theorem it_83_10 (Ls : Nat) (xs : Nat → Int32) : xPI Ls xs md_83 10 (.inl (xs_gf 6 19 13)) := by
  exact xs_gf_ok d_83_10 (C := R_6) (T := T_6) (N := N_6) rfl in_6 (by decide) tw_806
theorem it_83_13 (Ls : Nat) (xs : Nat → Int32) : xPI Ls xs md_83 13 (.inl (xs_goto 29)) := by
  exact xs_goto_ok d_83_13 (by decide)
theorem it_83_16 (Ls : Nat) (xs : Nat → Int32) : xPI Ls xs md_83 16 (.inl (xs_il 1 17)) := by
  exact xs_iload_n_ok d_83_16 rfl
theorem it_83_17 (Ls : Nat) (xs : Nat → Int32) : xPI Ls xs md_83 17 (.inl (xs_c (1) 18)) := by
  exact xs_iconst_ok d_83_17 (by decide)
theorem it_83_18 (Ls : Nat) (xs : Nat → Int32) : xPI Ls xs md_83 18 (.inl (xs_ic_ne 28 21)) := by
  exact xs_ic_ne_ok d_83_18 (by decide)
theorem it_83_21 (Ls : Nat) (xs : Nat → Int32) : xPI Ls xs md_83 21 (.inl (xs_al 0 22)) := by
  exact xs_aload_n_ok d_83_21 rfl
theorem it_83_22 (Ls : Nat) (xs : Nat → Int32) : xPI Ls xs md_83 22 (.inl (xs_gf 6 20 25)) := by
  exact xs_gf_ok d_83_22 (C := R_6) (T := T_6) (N := N_6) rfl in_6 (by decide) tw_807
theorem it_83_25 (Ls : Nat) (xs : Nat → Int32) : xPI Ls xs md_83 25 (.inl (xs_goto 29)) := by
  exact xs_goto_ok d_83_25 (by decide)
theorem it_83_28 (Ls : Nat) (xs : Nat → Int32) : xPI Ls xs md_83 28 (.inl (xs_c (-1) 29)) := by
  exact xs_iconst_ok d_83_28 (by decide)
theorem it_83_29 (Ls : Nat) (xs : Nat → Int32) : xPI Ls xs md_83 29 (.inr (.inr 1)) := by
  exact ⟨rfl, d_83_29⟩
def K_83 (Ls : Nat) (xs : Nat → Int32) : Nat → Option xK := xbt 16 (xbt 6 (xbt 2 (xbt 1 (xlf 0 (.inl (xs_al 0 1))) (xlf 1 (.inl (xs_c (0) 2)))) (xbt 5 (xlf 2 (.inl (xs_pf 6 0 0 5))) (xlf 5 (.inl (xs_il 1 6))))) (xbt 10 (xbt 9 (xlf 6 (.inl (xs_if_ne 16 9))) (xlf 9 (.inl (xs_al 0 10)))) (xbt 13 (xlf 10 (.inl (xs_gf 6 19 13))) (xlf 13 (.inl (xs_goto 29)))))) (xbt 22 (xbt 18 (xbt 17 (xlf 16 (.inl (xs_il 1 17))) (xlf 17 (.inl (xs_c (1) 18)))) (xbt 21 (xlf 18 (.inl (xs_ic_ne 28 21))) (xlf 21 (.inl (xs_al 0 22))))) (xbt 28 (xbt 25 (xlf 22 (.inl (xs_gf 6 20 25))) (xlf 25 (.inl (xs_goto 29)))) (xbt 29 (xlf 28 (.inl (xs_c (-1) 29))) (xlf 29 (.inr (.inr 1))))))
theorem ok_83 (Ls : Nat) (xs : Nat → Int32) : ∀ pc it, K_83 Ls xs pc = some it → xPI Ls xs md_83 pc it := by
  unfold K_83
  exact xbt_ok (xbt_ok (xbt_ok (xbt_ok (xlf_ok (it_83_0 Ls xs)) (xlf_ok (it_83_1 Ls xs))) (xbt_ok (xlf_ok (it_83_2 Ls xs)) (xlf_ok (it_83_5 Ls xs)))) (xbt_ok (xbt_ok (xlf_ok (it_83_6 Ls xs)) (xlf_ok (it_83_9 Ls xs))) (xbt_ok (xlf_ok (it_83_10 Ls xs)) (xlf_ok (it_83_13 Ls xs))))) (xbt_ok (xbt_ok (xbt_ok (xlf_ok (it_83_16 Ls xs)) (xlf_ok (it_83_17 Ls xs))) (xbt_ok (xlf_ok (it_83_18 Ls xs)) (xlf_ok (it_83_21 Ls xs)))) (xbt_ok (xbt_ok (xlf_ok (it_83_22 Ls xs)) (xlf_ok (it_83_25 Ls xs))) (xbt_ok (xlf_ok (it_83_28 Ls xs)) (xlf_ok (it_83_29 Ls xs)))))
theorem d_84_0 : decode prog_8_method_32_code 0 = .ok (.aload_n 0, 1) := by decide +kernel
theorem d_84_1 : decode prog_8_method_32_code 1 = .ok (.iconst (0), 1) := by decide +kernel
theorem d_84_2 : decode prog_8_method_32_code 2 = .ok (.putfield 67, 3) := by decide +kernel
theorem d_84_5 : decode prog_8_method_32_code 5 = .ok (.aload_n 0, 1) := by decide +kernel
theorem d_84_6 : decode prog_8_method_32_code 6 = .ok (.getfield 94, 3) := by decide +kernel
theorem d_84_9 : decode prog_8_method_32_code 9 = .ok (.ireturn, 1) := by decide +kernel
theorem it_84_0 (Ls : Nat) (xs : Nat → Int32) : xPI Ls xs md_84 0 (.inl (xs_al 0 1)) := by
  exact xs_aload_n_ok d_84_0 rfl
theorem it_84_1 (Ls : Nat) (xs : Nat → Int32) : xPI Ls xs md_84 1 (.inl (xs_c (0) 2)) := by
  exact xs_iconst_ok d_84_1 (by decide)
theorem it_84_2 (Ls : Nat) (xs : Nat → Int32) : xPI Ls xs md_84 2 (.inl (xs_pf 6 0 0 5)) := by
  exact xs_pf_ok d_84_2 (C := R_6) (T := T_6) (N := N_6) (ty0 := Y_6) rfl in_6 ty_6 nm_6 (by decide) tw_787 (Or.inl rfl) rfl
theorem it_84_5 (Ls : Nat) (xs : Nat → Int32) : xPI Ls xs md_84 5 (.inl (xs_al 0 6)) := by
  exact xs_aload_n_ok d_84_5 rfl
theorem it_84_6 (Ls : Nat) (xs : Nat → Int32) : xPI Ls xs md_84 6 (.inl (xs_gf 6 16 9)) := by
  exact xs_gf_ok d_84_6 (C := R_6) (T := T_6) (N := N_6) rfl in_6 (by decide) tw_803
theorem it_84_9 (Ls : Nat) (xs : Nat → Int32) : xPI Ls xs md_84 9 (.inr (.inr 1)) := by
  exact ⟨rfl, d_84_9⟩
def K_84 (Ls : Nat) (xs : Nat → Int32) : Nat → Option xK := xbt 5 (xbt 1 (xlf 0 (.inl (xs_al 0 1))) (xbt 2 (xlf 1 (.inl (xs_c (0) 2))) (xlf 2 (.inl (xs_pf 6 0 0 5))))) (xbt 6 (xlf 5 (.inl (xs_al 0 6))) (xbt 9 (xlf 6 (.inl (xs_gf 6 16 9))) (xlf 9 (.inr (.inr 1)))))
theorem ok_84 (Ls : Nat) (xs : Nat → Int32) : ∀ pc it, K_84 Ls xs pc = some it → xPI Ls xs md_84 pc it := by
  unfold K_84
  exact xbt_ok (xbt_ok (xlf_ok (it_84_0 Ls xs)) (xbt_ok (xlf_ok (it_84_1 Ls xs)) (xlf_ok (it_84_2 Ls xs)))) (xbt_ok (xlf_ok (it_84_5 Ls xs)) (xbt_ok (xlf_ok (it_84_6 Ls xs)) (xlf_ok (it_84_9 Ls xs))))
theorem d_85_0 : decode prog_8_method_33_code 0 = .ok (.iload_n 1, 1) := by decide +kernel
theorem d_85_1 : decode prog_8_method_33_code 1 = .ok (.iconst (0), 1) := by decide +kernel
theorem d_85_2 : decode prog_8_method_33_code 2 = .ok (.aload_n 0, 1) := by decide +kernel
theorem d_85_3 : decode prog_8_method_33_code 3 = .ok (.getfield 94, 3) := by decide +kernel
theorem d_85_6 : decode prog_8_method_33_code 6 = .ok (.iconst (1), 1) := by decide +kernel
theorem d_85_7 : decode prog_8_method_33_code 7 = .ok (.isub, 1) := by decide +kernel
theorem d_85_8 : decode prog_8_method_33_code 8 = .ok (.invokestatic 70, 3) := by decide +kernel
theorem d_85_11 : decode prog_8_method_33_code 11 = .ok (.ifCond .ne (7), 3) := by decide +kernel
theorem d_85_14 : decode prog_8_method_33_code 14 = .ok (.iconst (1), 1) := by decide +kernel
theorem d_85_15 : decode prog_8_method_33_code 15 = .ok (.goto (4), 3) := by decide +kernel
theorem d_85_18 : decode prog_8_method_33_code 18 = .ok (.iconst (0), 1) := by decide +kernel
theorem d_85_19 : decode prog_8_method_33_code 19 = .ok (.ireturn, 1) := by decide +kernel
theorem it_85_0 (Ls : Nat) (xs : Nat → Int32) : xPI Ls xs md_85 0 (.inl (xs_il 1 1)) := by
  exact xs_iload_n_ok d_85_0 rfl
theorem it_85_1 (Ls : Nat) (xs : Nat → Int32) : xPI Ls xs md_85 1 (.inl (xs_c (0) 2)) := by
  exact xs_iconst_ok d_85_1 (by decide)
theorem it_85_2 (Ls : Nat) (xs : Nat → Int32) : xPI Ls xs md_85 2 (.inl (xs_al 0 3)) := by
  exact xs_aload_n_ok d_85_2 rfl
theorem it_85_3 (Ls : Nat) (xs : Nat → Int32) : xPI Ls xs md_85 3 (.inl (xs_gf 6 16 6)) := by
  exact xs_gf_ok d_85_3 (C := R_6) (T := T_6) (N := N_6) rfl in_6 (by decide) tw_803
theorem it_85_6 (Ls : Nat) (xs : Nat → Int32) : xPI Ls xs md_85 6 (.inl (xs_c (1) 7)) := by
  exact xs_iconst_ok d_85_6 (by decide)
theorem it_85_7 (Ls : Nat) (xs : Nat → Int32) : xPI Ls xs md_85 7 (.inl (xs_isub 8)) := by
  exact xs_isub_ok d_85_7
theorem it_85_8 (Ls : Nat) (xs : Nat → Int32) : xPI Ls xs md_85 8 (.inr (.inl (69, 3, 0, []))) := by
  exact ⟨md_69, rfl, tw_7, by decide, ⟨by decide, by decide⟩, Or.inl ⟨rfl, rfl, 70, d_85_8, tw_888, tw_889, by decide +kernel⟩⟩
theorem it_85_11 (Ls : Nat) (xs : Nat → Int32) : xPI Ls xs md_85 11 (.inl (xs_if_ne 18 14)) := by
  exact xs_if_ne_ok d_85_11 (by decide)
theorem it_85_14 (Ls : Nat) (xs : Nat → Int32) : xPI Ls xs md_85 14 (.inl (xs_c (1) 15)) := by
  exact xs_iconst_ok d_85_14 (by decide)
theorem it_85_15 (Ls : Nat) (xs : Nat → Int32) : xPI Ls xs md_85 15 (.inl (xs_goto 19)) := by
  exact xs_goto_ok d_85_15 (by decide)
theorem it_85_18 (Ls : Nat) (xs : Nat → Int32) : xPI Ls xs md_85 18 (.inl (xs_c (0) 19)) := by
  exact xs_iconst_ok d_85_18 (by decide)
theorem it_85_19 (Ls : Nat) (xs : Nat → Int32) : xPI Ls xs md_85 19 (.inr (.inr 2)) := by
  exact ⟨rfl, d_85_19⟩
def K_85 (Ls : Nat) (xs : Nat → Int32) : Nat → Option xK := xbt 8 (xbt 3 (xbt 1 (xlf 0 (.inl (xs_il 1 1))) (xbt 2 (xlf 1 (.inl (xs_c (0) 2))) (xlf 2 (.inl (xs_al 0 3))))) (xbt 6 (xlf 3 (.inl (xs_gf 6 16 6))) (xbt 7 (xlf 6 (.inl (xs_c (1) 7))) (xlf 7 (.inl (xs_isub 8)))))) (xbt 15 (xbt 11 (xlf 8 (.inr (.inl (69, 3, 0, [])))) (xbt 14 (xlf 11 (.inl (xs_if_ne 18 14))) (xlf 14 (.inl (xs_c (1) 15))))) (xbt 18 (xlf 15 (.inl (xs_goto 19))) (xbt 19 (xlf 18 (.inl (xs_c (0) 19))) (xlf 19 (.inr (.inr 2))))))
theorem ok_85 (Ls : Nat) (xs : Nat → Int32) : ∀ pc it, K_85 Ls xs pc = some it → xPI Ls xs md_85 pc it := by
  unfold K_85
  exact xbt_ok (xbt_ok (xbt_ok (xlf_ok (it_85_0 Ls xs)) (xbt_ok (xlf_ok (it_85_1 Ls xs)) (xlf_ok (it_85_2 Ls xs)))) (xbt_ok (xlf_ok (it_85_3 Ls xs)) (xbt_ok (xlf_ok (it_85_6 Ls xs)) (xlf_ok (it_85_7 Ls xs))))) (xbt_ok (xbt_ok (xlf_ok (it_85_8 Ls xs)) (xbt_ok (xlf_ok (it_85_11 Ls xs)) (xlf_ok (it_85_14 Ls xs)))) (xbt_ok (xlf_ok (it_85_15 Ls xs)) (xbt_ok (xlf_ok (it_85_18 Ls xs)) (xlf_ok (it_85_19 Ls xs)))))
theorem d_86_0 : decode prog_8_method_34_code 0 = .ok (.aload_n 0, 1) := by decide +kernel
theorem d_86_1 : decode prog_8_method_34_code 1 = .ok (.iload_n 1, 1) := by decide +kernel
theorem d_86_2 : decode prog_8_method_34_code 2 = .ok (.invokevirtual 175, 3) := by decide +kernel
theorem d_86_5 : decode prog_8_method_34_code 5 = .ok (.ifCond .ne (9), 3) := by decide +kernel
theorem d_86_8 : decode prog_8_method_34_code 8 = .ok (.aload_n 0, 1) := by decide +kernel
theorem d_86_9 : decode prog_8_method_34_code 9 = .ok (.iconst (1), 1) := by decide +kernel
theorem d_86_10 : decode prog_8_method_34_code 10 = .ok (.invokevirtual 119, 3) := by decide +kernel
theorem d_86_13 : decode prog_8_method_34_code 13 = .ok (.ireturn, 1) := by decide +kernel
theorem d_86_14 : decode prog_8_method_34_code 14 = .ok (.aload_n 0, 1) := by decide +kernel
theorem d_86_15 : decode prog_8_method_34_code 15 = .ok (.iconst (0), 1) := by decide +kernel
theorem d_86_16 : decode prog_8_method_34_code 16 = .ok (.putfield 67, 3) := by decide +kernel
theorem d_86_19 : decode prog_8_method_34_code 19 = .ok (.iconst (0), 1) := by decide +kernel
theorem d_86_20 : decode prog_8_method_34_code 20 = .ok (.istore_n 2, 1) := by decide +kernel
theorem d_86_21 : decode prog_8_method_34_code 21 = .ok (.iconst (0), 1) := by decide +kernel
theorem d_86_22 : decode prog_8_method_34_code 22 = .ok (.istore_n 3, 1) := by decide +kernel
theorem d_86_23 : decode prog_8_method_34_code 23 = .ok (.iload_n 3, 1) := by decide +kernel
theorem d_86_24 : decode prog_8_method_34_code 24 = .ok (.bipush (8), 2) := by decide +kernel
theorem d_86_26 : decode prog_8_method_34_code 26 = .ok (.aload_n 0, 1) := by decide +kernel
theorem d_86_27 : decode prog_8_method_34_code 27 = .ok (.getfield 125, 3) := by decide +kernel
theorem d_86_30 : decode prog_8_method_34_code 30 = .ok (.imul, 1) := by decide +kernel
theorem d_86_31 : decode prog_8_method_34_code 31 = .ok (.if_icmp .ge (33), 3) := by decide +kernel
theorem d_86_34 : decode prog_8_method_34_code 34 = .ok (.aload_n 0, 1) := by decide +kernel
theorem d_86_35 : decode prog_8_method_34_code 35 = .ok (.iload_n 1, 1) := by decide +kernel
theorem d_86_36 : decode prog_8_method_34_code 36 = .ok (.iload_n 3, 1) := by decide +kernel
theorem d_86_37 : decode prog_8_method_34_code 37 = .ok (.bipush (8), 2) := by decide +kernel
theorem d_86_40 : decode prog_8_method_34_code 40 = .ok (.iload_n 3, 1) := by decide +kernel
theorem d_86_41 : decode prog_8_method_34_code 41 = .ok (.bipush (8), 2) := by decide +kernel
theorem d_86_47 : decode prog_8_method_34_code 47 = .ok (.ifCond .eq (9), 3) := by decide +kernel
theorem d_86_50 : decode prog_8_method_34_code 50 = .ok (.iload_n 2, 1) := by decide +kernel
theorem d_86_51 : decode prog_8_method_34_code 51 = .ok (.iconst (1), 1) := by decide +kernel
theorem d_86_52 : decode prog_8_method_34_code 52 = .ok (.iadd, 1) := by decide +kernel
theorem d_86_53 : decode prog_8_method_34_code 53 = .ok (.goto (4), 3) := by decide +kernel
theorem d_86_56 : decode prog_8_method_34_code 56 = .ok (.iload_n 2, 1) := by decide +kernel
theorem d_86_57 : decode prog_8_method_34_code 57 = .ok (.istore_n 2, 1) := by decide +kernel
theorem d_86_58 : decode prog_8_method_34_code 58 = .ok (.iinc 3 (1), 3) := by decide +kernel
theorem d_86_61 : decode prog_8_method_34_code 61 = .ok (.goto (-38), 3) := by decide +kernel
theorem d_86_64 : decode prog_8_method_34_code 64 = .ok (.iload_n 2, 1) := by decide +kernel
theorem d_86_65 : decode prog_8_method_34_code 65 = .ok (.ireturn, 1) := by decide +kernel
theorem it_86_0 (Ls : Nat) (xs : Nat → Int32) : xPI Ls xs md_86 0 (.inl (xs_al 0 1)) := by
  exact xs_aload_n_ok d_86_0 rfl
theorem it_86_1 (Ls : Nat) (xs : Nat → Int32) : xPI Ls xs md_86 1 (.inl (xs_il 1 2)) := by
  exact xs_iload_n_ok d_86_1 rfl
theorem it_86_2 (Ls : Nat) (xs : Nat → Int32) : xPI Ls xs md_86 2 (.inr (.inl (85, 2, 8, []))) := by
  exact ⟨md_85, rfl, tw_7, by decide, ⟨by decide, by decide⟩, Or.inr (Or.inr ⟨6, R_6, T_6, N_6, 175, 1, rfl, rfl, rfl, rfl, d_86_2, tw_1004, tw_1006, ts_TableMakerModel_isState, by decide +kernel, (fun x q h => by cases h)⟩)⟩
theorem it_86_5 (Ls : Nat) (xs : Nat → Int32) : xPI Ls xs md_86 5 (.inl (xs_if_ne 14 8)) := by
  exact xs_if_ne_ok d_86_5 (by decide)
theorem it_86_8 (Ls : Nat) (xs : Nat → Int32) : xPI Ls xs md_86 8 (.inl (xs_al 0 9)) := by
  exact xs_aload_n_ok d_86_8 rfl
theorem it_86_9 (Ls : Nat) (xs : Nat → Int32) : xPI Ls xs md_86 9 (.inl (xs_c (1) 10)) := by
  exact xs_iconst_ok d_86_9 (by decide)
theorem it_86_10 (Ls : Nat) (xs : Nat → Int32) : xPI Ls xs md_86 10 (.inr (.inl (68, 2, 8, []))) := by
  exact ⟨md_68, rfl, tw_7, by decide, ⟨by decide, by decide⟩, Or.inr (Or.inr ⟨6, R_6, T_6, N_6, 119, 1, rfl, rfl, rfl, rfl, d_86_10, tw_932, tw_934, ts_TableMakerModel_refuse, by decide +kernel, (fun x q h => by cases h)⟩)⟩
theorem it_86_13 (Ls : Nat) (xs : Nat → Int32) : xPI Ls xs md_86 13 (.inr (.inr 1)) := by
  exact ⟨rfl, d_86_13⟩
theorem it_86_14 (Ls : Nat) (xs : Nat → Int32) : xPI Ls xs md_86 14 (.inl (xs_al 0 15)) := by
  exact xs_aload_n_ok d_86_14 rfl
theorem it_86_15 (Ls : Nat) (xs : Nat → Int32) : xPI Ls xs md_86 15 (.inl (xs_c (0) 16)) := by
  exact xs_iconst_ok d_86_15 (by decide)
theorem it_86_16 (Ls : Nat) (xs : Nat → Int32) : xPI Ls xs md_86 16 (.inl (xs_pf 6 0 0 19)) := by
  exact xs_pf_ok d_86_16 (C := R_6) (T := T_6) (N := N_6) (ty0 := Y_6) rfl in_6 ty_6 nm_6 (by decide) tw_787 (Or.inl rfl) rfl
theorem it_86_19 (Ls : Nat) (xs : Nat → Int32) : xPI Ls xs md_86 19 (.inl (xs_c (0) 20)) := by
  exact xs_iconst_ok d_86_19 (by decide)
theorem it_86_20 (Ls : Nat) (xs : Nat → Int32) : xPI Ls xs md_86 20 (.inl (xs_is 4 2 21)) := by
  exact xs_istore_n_ok d_86_20 rfl
theorem it_86_21 (Ls : Nat) (xs : Nat → Int32) : xPI Ls xs md_86 21 (.inl (xs_c (0) 22)) := by
  exact xs_iconst_ok d_86_21 (by decide)
theorem it_86_22 (Ls : Nat) (xs : Nat → Int32) : xPI Ls xs md_86 22 (.inl (xs_is 4 3 23)) := by
  exact xs_istore_n_ok d_86_22 rfl
theorem it_86_23 (Ls : Nat) (xs : Nat → Int32) : xPI Ls xs md_86 23 (.inl (xs_il 3 24)) := by
  exact xs_iload_n_ok d_86_23 rfl
theorem it_86_24 (Ls : Nat) (xs : Nat → Int32) : xPI Ls xs md_86 24 (.inl (xs_c (8) 26)) := by
  exact xs_bipush_ok d_86_24 (by decide)
theorem it_86_26 (Ls : Nat) (xs : Nat → Int32) : xPI Ls xs md_86 26 (.inl (xs_al 0 27)) := by
  exact xs_aload_n_ok d_86_26 rfl
theorem it_86_27 (Ls : Nat) (xs : Nat → Int32) : xPI Ls xs md_86 27 (.inl (xs_gf 6 10 30)) := by
  exact xs_gf_ok d_86_27 (C := R_6) (T := T_6) (N := N_6) rfl in_6 (by decide) tw_797
theorem it_86_30 (Ls : Nat) (xs : Nat → Int32) : xPI Ls xs md_86 30 (.inl (xs_imul 31)) := by
  exact xs_imul_ok d_86_30
theorem it_86_31 (Ls : Nat) (xs : Nat → Int32) : xPI Ls xs md_86 31 (.inl (xs_ic_ge 64 34)) := by
  exact xs_ic_ge_ok d_86_31 (by decide)
theorem it_86_34 (Ls : Nat) (xs : Nat → Int32) : xPI Ls xs md_86 34 (.inl (xs_al 0 35)) := by
  exact xs_aload_n_ok d_86_34 rfl
theorem it_86_35 (Ls : Nat) (xs : Nat → Int32) : xPI Ls xs md_86 35 (.inl (xs_il 1 36)) := by
  exact xs_iload_n_ok d_86_35 rfl
theorem it_86_36 (Ls : Nat) (xs : Nat → Int32) : xPI Ls xs md_86 36 (.inl (xs_il 3 37)) := by
  exact xs_iload_n_ok d_86_36 rfl
theorem it_86_37 (Ls : Nat) (xs : Nat → Int32) : xPI Ls xs md_86 37 (.inl (xs_c (8) 39)) := by
  exact xs_bipush_ok d_86_37 (by decide)
theorem it_86_40 (Ls : Nat) (xs : Nat → Int32) : xPI Ls xs md_86 40 (.inl (xs_il 3 41)) := by
  exact xs_iload_n_ok d_86_40 rfl
theorem it_86_41 (Ls : Nat) (xs : Nat → Int32) : xPI Ls xs md_86 41 (.inl (xs_c (8) 43)) := by
  exact xs_bipush_ok d_86_41 (by decide)
theorem it_86_47 (Ls : Nat) (xs : Nat → Int32) : xPI Ls xs md_86 47 (.inl (xs_if_eq 56 50)) := by
  exact xs_if_eq_ok d_86_47 (by decide)
theorem it_86_50 (Ls : Nat) (xs : Nat → Int32) : xPI Ls xs md_86 50 (.inl (xs_il 2 51)) := by
  exact xs_iload_n_ok d_86_50 rfl
theorem it_86_51 (Ls : Nat) (xs : Nat → Int32) : xPI Ls xs md_86 51 (.inl (xs_c (1) 52)) := by
  exact xs_iconst_ok d_86_51 (by decide)
theorem it_86_52 (Ls : Nat) (xs : Nat → Int32) : xPI Ls xs md_86 52 (.inl (xs_iadd 53)) := by
  exact xs_iadd_ok d_86_52
theorem it_86_53 (Ls : Nat) (xs : Nat → Int32) : xPI Ls xs md_86 53 (.inl (xs_goto 57)) := by
  exact xs_goto_ok d_86_53 (by decide)
theorem it_86_56 (Ls : Nat) (xs : Nat → Int32) : xPI Ls xs md_86 56 (.inl (xs_il 2 57)) := by
  exact xs_iload_n_ok d_86_56 rfl
theorem it_86_57 (Ls : Nat) (xs : Nat → Int32) : xPI Ls xs md_86 57 (.inl (xs_is 4 2 58)) := by
  exact xs_istore_n_ok d_86_57 rfl
theorem it_86_58 (Ls : Nat) (xs : Nat → Int32) : xPI Ls xs md_86 58 (.inl (xs_inc 4 3 (1) 61)) := by
  exact xs_iinc_ok d_86_58 (by decide)
theorem it_86_61 (Ls : Nat) (xs : Nat → Int32) : xPI Ls xs md_86 61 (.inl (xs_goto 23)) := by
  exact xs_goto_ok d_86_61 (by decide)
theorem it_86_64 (Ls : Nat) (xs : Nat → Int32) : xPI Ls xs md_86 64 (.inl (xs_il 2 65)) := by
  exact xs_iload_n_ok d_86_64 rfl
theorem it_86_65 (Ls : Nat) (xs : Nat → Int32) : xPI Ls xs md_86 65 (.inr (.inr 1)) := by
  exact ⟨rfl, d_86_65⟩
def K_86 (Ls : Nat) (xs : Nat → Int32) : Nat → Option xK := xbt 30 (xbt 15 (xbt 8 (xbt 2 (xbt 1 (xlf 0 (.inl (xs_al 0 1))) (xlf 1 (.inl (xs_il 1 2)))) (xbt 5 (xlf 2 (.inr (.inl (85, 2, 8, [])))) (xlf 5 (.inl (xs_if_ne 14 8))))) (xbt 10 (xbt 9 (xlf 8 (.inl (xs_al 0 9))) (xlf 9 (.inl (xs_c (1) 10)))) (xbt 13 (xlf 10 (.inr (.inl (68, 2, 8, [])))) (xbt 14 (xlf 13 (.inr (.inr 1))) (xlf 14 (.inl (xs_al 0 15))))))) (xbt 22 (xbt 19 (xbt 16 (xlf 15 (.inl (xs_c (0) 16))) (xlf 16 (.inl (xs_pf 6 0 0 19)))) (xbt 20 (xlf 19 (.inl (xs_c (0) 20))) (xbt 21 (xlf 20 (.inl (xs_is 4 2 21))) (xlf 21 (.inl (xs_c (0) 22)))))) (xbt 24 (xbt 23 (xlf 22 (.inl (xs_is 4 3 23))) (xlf 23 (.inl (xs_il 3 24)))) (xbt 26 (xlf 24 (.inl (xs_c (8) 26))) (xbt 27 (xlf 26 (.inl (xs_al 0 27))) (xlf 27 (.inl (xs_gf 6 10 30)))))))) (xbt 50 (xbt 36 (xbt 34 (xbt 31 (xlf 30 (.inl (xs_imul 31))) (xlf 31 (.inl (xs_ic_ge 64 34)))) (xbt 35 (xlf 34 (.inl (xs_al 0 35))) (xlf 35 (.inl (xs_il 1 36))))) (xbt 40 (xbt 37 (xlf 36 (.inl (xs_il 3 37))) (xlf 37 (.inl (xs_c (8) 39)))) (xbt 41 (xlf 40 (.inl (xs_il 3 41))) (xbt 47 (xlf 41 (.inl (xs_c (8) 43))) (xlf 47 (.inl (xs_if_eq 56 50))))))) (xbt 57 (xbt 52 (xbt 51 (xlf 50 (.inl (xs_il 2 51))) (xlf 51 (.inl (xs_c (1) 52)))) (xbt 53 (xlf 52 (.inl (xs_iadd 53))) (xbt 56 (xlf 53 (.inl (xs_goto 57))) (xlf 56 (.inl (xs_il 2 57)))))) (xbt 61 (xbt 58 (xlf 57 (.inl (xs_is 4 2 58))) (xlf 58 (.inl (xs_inc 4 3 (1) 61)))) (xbt 64 (xlf 61 (.inl (xs_goto 23))) (xbt 65 (xlf 64 (.inl (xs_il 2 65))) (xlf 65 (.inr (.inr 1))))))))
theorem ok_86 (Ls : Nat) (xs : Nat → Int32) : ∀ pc it, K_86 Ls xs pc = some it → xPI Ls xs md_86 pc it := by
  unfold K_86
  exact xbt_ok (xbt_ok (xbt_ok (xbt_ok (xbt_ok (xlf_ok (it_86_0 Ls xs)) (xlf_ok (it_86_1 Ls xs))) (xbt_ok (xlf_ok (it_86_2 Ls xs)) (xlf_ok (it_86_5 Ls xs)))) (xbt_ok (xbt_ok (xlf_ok (it_86_8 Ls xs)) (xlf_ok (it_86_9 Ls xs))) (xbt_ok (xlf_ok (it_86_10 Ls xs)) (xbt_ok (xlf_ok (it_86_13 Ls xs)) (xlf_ok (it_86_14 Ls xs)))))) (xbt_ok (xbt_ok (xbt_ok (xlf_ok (it_86_15 Ls xs)) (xlf_ok (it_86_16 Ls xs))) (xbt_ok (xlf_ok (it_86_19 Ls xs)) (xbt_ok (xlf_ok (it_86_20 Ls xs)) (xlf_ok (it_86_21 Ls xs))))) (xbt_ok (xbt_ok (xlf_ok (it_86_22 Ls xs)) (xlf_ok (it_86_23 Ls xs))) (xbt_ok (xlf_ok (it_86_24 Ls xs)) (xbt_ok (xlf_ok (it_86_26 Ls xs)) (xlf_ok (it_86_27 Ls xs))))))) (xbt_ok (xbt_ok (xbt_ok (xbt_ok (xlf_ok (it_86_30 Ls xs)) (xlf_ok (it_86_31 Ls xs))) (xbt_ok (xlf_ok (it_86_34 Ls xs)) (xlf_ok (it_86_35 Ls xs)))) (xbt_ok (xbt_ok (xlf_ok (it_86_36 Ls xs)) (xlf_ok (it_86_37 Ls xs))) (xbt_ok (xlf_ok (it_86_40 Ls xs)) (xbt_ok (xlf_ok (it_86_41 Ls xs)) (xlf_ok (it_86_47 Ls xs)))))) (xbt_ok (xbt_ok (xbt_ok (xlf_ok (it_86_50 Ls xs)) (xlf_ok (it_86_51 Ls xs))) (xbt_ok (xlf_ok (it_86_52 Ls xs)) (xbt_ok (xlf_ok (it_86_53 Ls xs)) (xlf_ok (it_86_56 Ls xs))))) (xbt_ok (xbt_ok (xlf_ok (it_86_57 Ls xs)) (xlf_ok (it_86_58 Ls xs))) (xbt_ok (xlf_ok (it_86_61 Ls xs)) (xbt_ok (xlf_ok (it_86_64 Ls xs)) (xlf_ok (it_86_65 Ls xs)))))))
theorem d_87_0 : decode prog_8_method_35_code 0 = .ok (.aload_n 0, 1) := by decide +kernel
theorem d_87_1 : decode prog_8_method_35_code 1 = .ok (.iload_n 1, 1) := by decide +kernel
theorem d_87_2 : decode prog_8_method_35_code 2 = .ok (.invokevirtual 175, 3) := by decide +kernel
theorem d_87_5 : decode prog_8_method_35_code 5 = .ok (.ifCond .eq (16), 3) := by decide +kernel
theorem d_87_8 : decode prog_8_method_35_code 8 = .ok (.iload_n 2, 1) := by decide +kernel
theorem d_87_9 : decode prog_8_method_35_code 9 = .ok (.ifCond .lt (12), 3) := by decide +kernel
theorem d_87_12 : decode prog_8_method_35_code 12 = .ok (.iload_n 3, 1) := by decide +kernel
theorem d_87_13 : decode prog_8_method_35_code 13 = .ok (.iconst (0), 1) := by decide +kernel
theorem d_87_14 : decode prog_8_method_35_code 14 = .ok (.iconst (2), 1) := by decide +kernel
theorem d_87_15 : decode prog_8_method_35_code 15 = .ok (.invokestatic 70, 3) := by decide +kernel
theorem d_87_18 : decode prog_8_method_35_code 18 = .ok (.ifCond .eq (9), 3) := by decide +kernel
theorem d_87_21 : decode prog_8_method_35_code 21 = .ok (.aload_n 0, 1) := by decide +kernel
theorem d_87_22 : decode prog_8_method_35_code 22 = .ok (.iconst (1), 1) := by decide +kernel
theorem d_87_23 : decode prog_8_method_35_code 23 = .ok (.invokevirtual 119, 3) := by decide +kernel
theorem d_87_26 : decode prog_8_method_35_code 26 = .ok (.ireturn, 1) := by decide +kernel
theorem d_87_27 : decode prog_8_method_35_code 27 = .ok (.iload_n 2, 1) := by decide +kernel
theorem d_87_28 : decode prog_8_method_35_code 28 = .ok (.istore 4, 2) := by decide +kernel
theorem d_87_30 : decode prog_8_method_35_code 30 = .ok (.iconst (0), 1) := by decide +kernel
theorem d_87_31 : decode prog_8_method_35_code 31 = .ok (.istore 5, 2) := by decide +kernel
theorem d_87_33 : decode prog_8_method_35_code 33 = .ok (.iload 5, 2) := by decide +kernel
theorem d_87_35 : decode prog_8_method_35_code 35 = .ok (.bipush (8), 2) := by decide +kernel
theorem d_87_37 : decode prog_8_method_35_code 37 = .ok (.aload_n 0, 1) := by decide +kernel
theorem d_87_38 : decode prog_8_method_35_code 38 = .ok (.getfield 125, 3) := by decide +kernel
theorem d_87_41 : decode prog_8_method_35_code 41 = .ok (.imul, 1) := by decide +kernel
theorem d_87_42 : decode prog_8_method_35_code 42 = .ok (.if_icmp .ge (122), 3) := by decide +kernel
theorem d_87_45 : decode prog_8_method_35_code 45 = .ok (.aload_n 0, 1) := by decide +kernel
theorem d_87_46 : decode prog_8_method_35_code 46 = .ok (.iload_n 1, 1) := by decide +kernel
theorem d_87_47 : decode prog_8_method_35_code 47 = .ok (.iload 5, 2) := by decide +kernel
theorem d_87_49 : decode prog_8_method_35_code 49 = .ok (.bipush (8), 2) := by decide +kernel
theorem d_87_52 : decode prog_8_method_35_code 52 = .ok (.iload 5, 2) := by decide +kernel
theorem d_87_54 : decode prog_8_method_35_code 54 = .ok (.bipush (8), 2) := by decide +kernel
theorem d_87_60 : decode prog_8_method_35_code 60 = .ok (.istore 6, 2) := by decide +kernel
theorem d_87_62 : decode prog_8_method_35_code 62 = .ok (.iload 6, 2) := by decide +kernel
theorem d_87_64 : decode prog_8_method_35_code 64 = .ok (.ifCond .eq (78), 3) := by decide +kernel
theorem d_87_67 : decode prog_8_method_35_code 67 = .ok (.iload 4, 2) := by decide +kernel
theorem d_87_69 : decode prog_8_method_35_code 69 = .ok (.ifCond .ne (73), 3) := by decide +kernel
theorem d_87_72 : decode prog_8_method_35_code 72 = .ok (.aload_n 0, 1) := by decide +kernel
theorem d_87_73 : decode prog_8_method_35_code 73 = .ok (.iconst (0), 1) := by decide +kernel
theorem d_87_74 : decode prog_8_method_35_code 74 = .ok (.putfield 67, 3) := by decide +kernel
theorem d_87_77 : decode prog_8_method_35_code 77 = .ok (.iload_n 3, 1) := by decide +kernel
theorem d_87_78 : decode prog_8_method_35_code 78 = .ok (.ifCond .ne (16), 3) := by decide +kernel
theorem d_87_81 : decode prog_8_method_35_code 81 = .ok (.aload_n 0, 1) := by decide +kernel
theorem d_87_82 : decode prog_8_method_35_code 82 = .ok (.getfield 29, 3) := by decide +kernel
theorem d_87_85 : decode prog_8_method_35_code 85 = .ok (.iload 5, 2) := by decide +kernel
theorem d_87_87 : decode prog_8_method_35_code 87 = .ok (.bipush (8), 2) := by decide +kernel
theorem d_87_90 : decode prog_8_method_35_code 90 = .ok (.iaload, 1) := by decide +kernel
theorem d_87_91 : decode prog_8_method_35_code 91 = .ok (.goto (50), 3) := by decide +kernel
theorem d_87_94 : decode prog_8_method_35_code 94 = .ok (.iload_n 3, 1) := by decide +kernel
theorem d_87_95 : decode prog_8_method_35_code 95 = .ok (.iconst (1), 1) := by decide +kernel
theorem d_87_96 : decode prog_8_method_35_code 96 = .ok (.if_icmp .ne (16), 3) := by decide +kernel
theorem d_87_99 : decode prog_8_method_35_code 99 = .ok (.aload_n 0, 1) := by decide +kernel
theorem d_87_100 : decode prog_8_method_35_code 100 = .ok (.getfield 32, 3) := by decide +kernel
theorem d_87_103 : decode prog_8_method_35_code 103 = .ok (.iload 5, 2) := by decide +kernel
theorem d_87_105 : decode prog_8_method_35_code 105 = .ok (.bipush (8), 2) := by decide +kernel
theorem d_87_108 : decode prog_8_method_35_code 108 = .ok (.iaload, 1) := by decide +kernel
theorem d_87_109 : decode prog_8_method_35_code 109 = .ok (.goto (32), 3) := by decide +kernel
theorem d_87_112 : decode prog_8_method_35_code 112 = .ok (.iload 5, 2) := by decide +kernel
theorem d_87_114 : decode prog_8_method_35_code 114 = .ok (.bipush (8), 2) := by decide +kernel
theorem d_87_117 : decode prog_8_method_35_code 117 = .ok (.aload_n 0, 1) := by decide +kernel
theorem d_87_118 : decode prog_8_method_35_code 118 = .ok (.getfield 61, 3) := by decide +kernel
theorem d_87_121 : decode prog_8_method_35_code 121 = .ok (.if_icmp .ne (15), 3) := by decide +kernel
theorem d_87_124 : decode prog_8_method_35_code 124 = .ok (.aload_n 0, 1) := by decide +kernel
theorem d_87_125 : decode prog_8_method_35_code 125 = .ok (.getfield 61, 3) := by decide +kernel
theorem d_87_128 : decode prog_8_method_35_code 128 = .ok (.aload_n 0, 1) := by decide +kernel
theorem d_87_129 : decode prog_8_method_35_code 129 = .ok (.getfield 64, 3) := by decide +kernel
theorem d_87_132 : decode prog_8_method_35_code 132 = .ok (.iadd, 1) := by decide +kernel
theorem d_87_133 : decode prog_8_method_35_code 133 = .ok (.goto (8), 3) := by decide +kernel
theorem d_87_136 : decode prog_8_method_35_code 136 = .ok (.iload 5, 2) := by decide +kernel
theorem d_87_138 : decode prog_8_method_35_code 138 = .ok (.bipush (8), 2) := by decide +kernel
theorem d_87_141 : decode prog_8_method_35_code 141 = .ok (.ireturn, 1) := by decide +kernel
theorem d_87_142 : decode prog_8_method_35_code 142 = .ok (.iload 6, 2) := by decide +kernel
theorem d_87_144 : decode prog_8_method_35_code 144 = .ok (.ifCond .eq (10), 3) := by decide +kernel
theorem d_87_147 : decode prog_8_method_35_code 147 = .ok (.iload 4, 2) := by decide +kernel
theorem d_87_149 : decode prog_8_method_35_code 149 = .ok (.iconst (1), 1) := by decide +kernel
theorem d_87_150 : decode prog_8_method_35_code 150 = .ok (.isub, 1) := by decide +kernel
theorem d_87_151 : decode prog_8_method_35_code 151 = .ok (.goto (5), 3) := by decide +kernel
theorem d_87_154 : decode prog_8_method_35_code 154 = .ok (.iload 4, 2) := by decide +kernel
theorem d_87_156 : decode prog_8_method_35_code 156 = .ok (.istore 4, 2) := by decide +kernel
theorem d_87_158 : decode prog_8_method_35_code 158 = .ok (.iinc 5 (1), 3) := by decide +kernel
theorem d_87_161 : decode prog_8_method_35_code 161 = .ok (.goto (-128), 3) := by decide +kernel
theorem d_87_164 : decode prog_8_method_35_code 164 = .ok (.aload_n 0, 1) := by decide +kernel
theorem d_87_165 : decode prog_8_method_35_code 165 = .ok (.iconst (1), 1) := by decide +kernel
theorem d_87_166 : decode prog_8_method_35_code 166 = .ok (.invokevirtual 119, 3) := by decide +kernel
theorem d_87_169 : decode prog_8_method_35_code 169 = .ok (.ireturn, 1) := by decide +kernel
theorem it_87_0 (Ls : Nat) (xs : Nat → Int32) : xPI Ls xs md_87 0 (.inl (xs_al 0 1)) := by
  exact xs_aload_n_ok d_87_0 rfl
theorem it_87_1 (Ls : Nat) (xs : Nat → Int32) : xPI Ls xs md_87 1 (.inl (xs_il 1 2)) := by
  exact xs_iload_n_ok d_87_1 rfl
theorem it_87_2 (Ls : Nat) (xs : Nat → Int32) : xPI Ls xs md_87 2 (.inr (.inl (85, 2, 8, []))) := by
  exact ⟨md_85, rfl, tw_7, by decide, ⟨by decide, by decide⟩, Or.inr (Or.inr ⟨6, R_6, T_6, N_6, 175, 1, rfl, rfl, rfl, rfl, d_87_2, tw_1004, tw_1006, ts_TableMakerModel_isState, by decide +kernel, (fun x q h => by cases h)⟩)⟩
theorem it_87_5 (Ls : Nat) (xs : Nat → Int32) : xPI Ls xs md_87 5 (.inl (xs_if_eq 21 8)) := by
  exact xs_if_eq_ok d_87_5 (by decide)
theorem it_87_8 (Ls : Nat) (xs : Nat → Int32) : xPI Ls xs md_87 8 (.inl (xs_il 2 9)) := by
  exact xs_iload_n_ok d_87_8 rfl
theorem it_87_9 (Ls : Nat) (xs : Nat → Int32) : xPI Ls xs md_87 9 (.inl (xs_if_lt 21 12)) := by
  exact xs_if_lt_ok d_87_9 (by decide)
theorem it_87_12 (Ls : Nat) (xs : Nat → Int32) : xPI Ls xs md_87 12 (.inl (xs_il 3 13)) := by
  exact xs_iload_n_ok d_87_12 rfl
theorem it_87_13 (Ls : Nat) (xs : Nat → Int32) : xPI Ls xs md_87 13 (.inl (xs_c (0) 14)) := by
  exact xs_iconst_ok d_87_13 (by decide)
theorem it_87_14 (Ls : Nat) (xs : Nat → Int32) : xPI Ls xs md_87 14 (.inl (xs_c (2) 15)) := by
  exact xs_iconst_ok d_87_14 (by decide)
theorem it_87_15 (Ls : Nat) (xs : Nat → Int32) : xPI Ls xs md_87 15 (.inr (.inl (69, 3, 0, []))) := by
  exact ⟨md_69, rfl, tw_7, by decide, ⟨by decide, by decide⟩, Or.inl ⟨rfl, rfl, 70, d_87_15, tw_888, tw_889, by decide +kernel⟩⟩
theorem it_87_18 (Ls : Nat) (xs : Nat → Int32) : xPI Ls xs md_87 18 (.inl (xs_if_eq 27 21)) := by
  exact xs_if_eq_ok d_87_18 (by decide)
theorem it_87_21 (Ls : Nat) (xs : Nat → Int32) : xPI Ls xs md_87 21 (.inl (xs_al 0 22)) := by
  exact xs_aload_n_ok d_87_21 rfl
theorem it_87_22 (Ls : Nat) (xs : Nat → Int32) : xPI Ls xs md_87 22 (.inl (xs_c (1) 23)) := by
  exact xs_iconst_ok d_87_22 (by decide)
theorem it_87_23 (Ls : Nat) (xs : Nat → Int32) : xPI Ls xs md_87 23 (.inr (.inl (68, 2, 8, []))) := by
  exact ⟨md_68, rfl, tw_7, by decide, ⟨by decide, by decide⟩, Or.inr (Or.inr ⟨6, R_6, T_6, N_6, 119, 1, rfl, rfl, rfl, rfl, d_87_23, tw_932, tw_934, ts_TableMakerModel_refuse, by decide +kernel, (fun x q h => by cases h)⟩)⟩
theorem it_87_26 (Ls : Nat) (xs : Nat → Int32) : xPI Ls xs md_87 26 (.inr (.inr 1)) := by
  exact ⟨rfl, d_87_26⟩
theorem it_87_27 (Ls : Nat) (xs : Nat → Int32) : xPI Ls xs md_87 27 (.inl (xs_il 2 28)) := by
  exact xs_iload_n_ok d_87_27 rfl
theorem it_87_28 (Ls : Nat) (xs : Nat → Int32) : xPI Ls xs md_87 28 (.inl (xs_is 7 4 30)) := by
  exact xs_istore_ok d_87_28
theorem it_87_30 (Ls : Nat) (xs : Nat → Int32) : xPI Ls xs md_87 30 (.inl (xs_c (0) 31)) := by
  exact xs_iconst_ok d_87_30 (by decide)
theorem it_87_31 (Ls : Nat) (xs : Nat → Int32) : xPI Ls xs md_87 31 (.inl (xs_is 7 5 33)) := by
  exact xs_istore_ok d_87_31
theorem it_87_33 (Ls : Nat) (xs : Nat → Int32) : xPI Ls xs md_87 33 (.inl (xs_il 5 35)) := by
  exact xs_iload_ok d_87_33
theorem it_87_35 (Ls : Nat) (xs : Nat → Int32) : xPI Ls xs md_87 35 (.inl (xs_c (8) 37)) := by
  exact xs_bipush_ok d_87_35 (by decide)
theorem it_87_37 (Ls : Nat) (xs : Nat → Int32) : xPI Ls xs md_87 37 (.inl (xs_al 0 38)) := by
  exact xs_aload_n_ok d_87_37 rfl
theorem it_87_38 (Ls : Nat) (xs : Nat → Int32) : xPI Ls xs md_87 38 (.inl (xs_gf 6 10 41)) := by
  exact xs_gf_ok d_87_38 (C := R_6) (T := T_6) (N := N_6) rfl in_6 (by decide) tw_797
theorem it_87_41 (Ls : Nat) (xs : Nat → Int32) : xPI Ls xs md_87 41 (.inl (xs_imul 42)) := by
  exact xs_imul_ok d_87_41
theorem it_87_42 (Ls : Nat) (xs : Nat → Int32) : xPI Ls xs md_87 42 (.inl (xs_ic_ge 164 45)) := by
  exact xs_ic_ge_ok d_87_42 (by decide)
theorem it_87_45 (Ls : Nat) (xs : Nat → Int32) : xPI Ls xs md_87 45 (.inl (xs_al 0 46)) := by
  exact xs_aload_n_ok d_87_45 rfl
theorem it_87_46 (Ls : Nat) (xs : Nat → Int32) : xPI Ls xs md_87 46 (.inl (xs_il 1 47)) := by
  exact xs_iload_n_ok d_87_46 rfl
theorem it_87_47 (Ls : Nat) (xs : Nat → Int32) : xPI Ls xs md_87 47 (.inl (xs_il 5 49)) := by
  exact xs_iload_ok d_87_47
theorem it_87_49 (Ls : Nat) (xs : Nat → Int32) : xPI Ls xs md_87 49 (.inl (xs_c (8) 51)) := by
  exact xs_bipush_ok d_87_49 (by decide)
theorem it_87_52 (Ls : Nat) (xs : Nat → Int32) : xPI Ls xs md_87 52 (.inl (xs_il 5 54)) := by
  exact xs_iload_ok d_87_52
theorem it_87_54 (Ls : Nat) (xs : Nat → Int32) : xPI Ls xs md_87 54 (.inl (xs_c (8) 56)) := by
  exact xs_bipush_ok d_87_54 (by decide)
theorem it_87_60 (Ls : Nat) (xs : Nat → Int32) : xPI Ls xs md_87 60 (.inl (xs_is 7 6 62)) := by
  exact xs_istore_ok d_87_60
theorem it_87_62 (Ls : Nat) (xs : Nat → Int32) : xPI Ls xs md_87 62 (.inl (xs_il 6 64)) := by
  exact xs_iload_ok d_87_62
theorem it_87_64 (Ls : Nat) (xs : Nat → Int32) : xPI Ls xs md_87 64 (.inl (xs_if_eq 142 67)) := by
  exact xs_if_eq_ok d_87_64 (by decide)
theorem it_87_67 (Ls : Nat) (xs : Nat → Int32) : xPI Ls xs md_87 67 (.inl (xs_il 4 69)) := by
  exact xs_iload_ok d_87_67
theorem it_87_69 (Ls : Nat) (xs : Nat → Int32) : xPI Ls xs md_87 69 (.inl (xs_if_ne 142 72)) := by
  exact xs_if_ne_ok d_87_69 (by decide)
theorem it_87_72 (Ls : Nat) (xs : Nat → Int32) : xPI Ls xs md_87 72 (.inl (xs_al 0 73)) := by
  exact xs_aload_n_ok d_87_72 rfl
theorem it_87_73 (Ls : Nat) (xs : Nat → Int32) : xPI Ls xs md_87 73 (.inl (xs_c (0) 74)) := by
  exact xs_iconst_ok d_87_73 (by decide)
theorem it_87_74 (Ls : Nat) (xs : Nat → Int32) : xPI Ls xs md_87 74 (.inl (xs_pf 6 0 0 77)) := by
  exact xs_pf_ok d_87_74 (C := R_6) (T := T_6) (N := N_6) (ty0 := Y_6) rfl in_6 ty_6 nm_6 (by decide) tw_787 (Or.inl rfl) rfl
theorem it_87_77 (Ls : Nat) (xs : Nat → Int32) : xPI Ls xs md_87 77 (.inl (xs_il 3 78)) := by
  exact xs_iload_n_ok d_87_77 rfl
theorem it_87_78 (Ls : Nat) (xs : Nat → Int32) : xPI Ls xs md_87 78 (.inl (xs_if_ne 94 81)) := by
  exact xs_if_ne_ok d_87_78 (by decide)
theorem it_87_81 (Ls : Nat) (xs : Nat → Int32) : xPI Ls xs md_87 81 (.inl (xs_al 0 82)) := by
  exact xs_aload_n_ok d_87_81 rfl
theorem it_87_82 (Ls : Nat) (xs : Nat → Int32) : xPI Ls xs md_87 82 (.inl (xs_gf 6 12 85)) := by
  exact xs_gf_ok d_87_82 (C := R_6) (T := T_6) (N := N_6) rfl in_6 (by decide) tw_799
theorem it_87_85 (Ls : Nat) (xs : Nat → Int32) : xPI Ls xs md_87 85 (.inl (xs_il 5 87)) := by
  exact xs_iload_ok d_87_85
theorem it_87_87 (Ls : Nat) (xs : Nat → Int32) : xPI Ls xs md_87 87 (.inl (xs_c (8) 89)) := by
  exact xs_bipush_ok d_87_87 (by decide)
theorem it_87_90 (Ls : Nat) (xs : Nat → Int32) : xPI Ls xs md_87 90 (.inl (xs_ia Ls xs 91)) := by
  exact xs_ia_ok d_87_90
theorem it_87_91 (Ls : Nat) (xs : Nat → Int32) : xPI Ls xs md_87 91 (.inl (xs_goto 141)) := by
  exact xs_goto_ok d_87_91 (by decide)
theorem it_87_94 (Ls : Nat) (xs : Nat → Int32) : xPI Ls xs md_87 94 (.inl (xs_il 3 95)) := by
  exact xs_iload_n_ok d_87_94 rfl
theorem it_87_95 (Ls : Nat) (xs : Nat → Int32) : xPI Ls xs md_87 95 (.inl (xs_c (1) 96)) := by
  exact xs_iconst_ok d_87_95 (by decide)
theorem it_87_96 (Ls : Nat) (xs : Nat → Int32) : xPI Ls xs md_87 96 (.inl (xs_ic_ne 112 99)) := by
  exact xs_ic_ne_ok d_87_96 (by decide)
theorem it_87_99 (Ls : Nat) (xs : Nat → Int32) : xPI Ls xs md_87 99 (.inl (xs_al 0 100)) := by
  exact xs_aload_n_ok d_87_99 rfl
theorem it_87_100 (Ls : Nat) (xs : Nat → Int32) : xPI Ls xs md_87 100 (.inl (xs_gf 6 13 103)) := by
  exact xs_gf_ok d_87_100 (C := R_6) (T := T_6) (N := N_6) rfl in_6 (by decide) tw_800
theorem it_87_103 (Ls : Nat) (xs : Nat → Int32) : xPI Ls xs md_87 103 (.inl (xs_il 5 105)) := by
  exact xs_iload_ok d_87_103
theorem it_87_105 (Ls : Nat) (xs : Nat → Int32) : xPI Ls xs md_87 105 (.inl (xs_c (8) 107)) := by
  exact xs_bipush_ok d_87_105 (by decide)
theorem it_87_108 (Ls : Nat) (xs : Nat → Int32) : xPI Ls xs md_87 108 (.inl (xs_ia Ls xs 109)) := by
  exact xs_ia_ok d_87_108
theorem it_87_109 (Ls : Nat) (xs : Nat → Int32) : xPI Ls xs md_87 109 (.inl (xs_goto 141)) := by
  exact xs_goto_ok d_87_109 (by decide)
theorem it_87_112 (Ls : Nat) (xs : Nat → Int32) : xPI Ls xs md_87 112 (.inl (xs_il 5 114)) := by
  exact xs_iload_ok d_87_112
theorem it_87_114 (Ls : Nat) (xs : Nat → Int32) : xPI Ls xs md_87 114 (.inl (xs_c (8) 116)) := by
  exact xs_bipush_ok d_87_114 (by decide)
theorem it_87_117 (Ls : Nat) (xs : Nat → Int32) : xPI Ls xs md_87 117 (.inl (xs_al 0 118)) := by
  exact xs_aload_n_ok d_87_117 rfl
theorem it_87_118 (Ls : Nat) (xs : Nat → Int32) : xPI Ls xs md_87 118 (.inl (xs_gf 6 1 121)) := by
  exact xs_gf_ok d_87_118 (C := R_6) (T := T_6) (N := N_6) rfl in_6 (by decide) tw_788
theorem it_87_121 (Ls : Nat) (xs : Nat → Int32) : xPI Ls xs md_87 121 (.inl (xs_ic_ne 136 124)) := by
  exact xs_ic_ne_ok d_87_121 (by decide)
theorem it_87_124 (Ls : Nat) (xs : Nat → Int32) : xPI Ls xs md_87 124 (.inl (xs_al 0 125)) := by
  exact xs_aload_n_ok d_87_124 rfl
theorem it_87_125 (Ls : Nat) (xs : Nat → Int32) : xPI Ls xs md_87 125 (.inl (xs_gf 6 1 128)) := by
  exact xs_gf_ok d_87_125 (C := R_6) (T := T_6) (N := N_6) rfl in_6 (by decide) tw_788
theorem it_87_128 (Ls : Nat) (xs : Nat → Int32) : xPI Ls xs md_87 128 (.inl (xs_al 0 129)) := by
  exact xs_aload_n_ok d_87_128 rfl
theorem it_87_129 (Ls : Nat) (xs : Nat → Int32) : xPI Ls xs md_87 129 (.inl (xs_gf 6 2 132)) := by
  exact xs_gf_ok d_87_129 (C := R_6) (T := T_6) (N := N_6) rfl in_6 (by decide) tw_789
theorem it_87_132 (Ls : Nat) (xs : Nat → Int32) : xPI Ls xs md_87 132 (.inl (xs_iadd 133)) := by
  exact xs_iadd_ok d_87_132
theorem it_87_133 (Ls : Nat) (xs : Nat → Int32) : xPI Ls xs md_87 133 (.inl (xs_goto 141)) := by
  exact xs_goto_ok d_87_133 (by decide)
theorem it_87_136 (Ls : Nat) (xs : Nat → Int32) : xPI Ls xs md_87 136 (.inl (xs_il 5 138)) := by
  exact xs_iload_ok d_87_136
theorem it_87_138 (Ls : Nat) (xs : Nat → Int32) : xPI Ls xs md_87 138 (.inl (xs_c (8) 140)) := by
  exact xs_bipush_ok d_87_138 (by decide)
theorem it_87_141 (Ls : Nat) (xs : Nat → Int32) : xPI Ls xs md_87 141 (.inr (.inr 1)) := by
  exact ⟨rfl, d_87_141⟩
theorem it_87_142 (Ls : Nat) (xs : Nat → Int32) : xPI Ls xs md_87 142 (.inl (xs_il 6 144)) := by
  exact xs_iload_ok d_87_142
theorem it_87_144 (Ls : Nat) (xs : Nat → Int32) : xPI Ls xs md_87 144 (.inl (xs_if_eq 154 147)) := by
  exact xs_if_eq_ok d_87_144 (by decide)
theorem it_87_147 (Ls : Nat) (xs : Nat → Int32) : xPI Ls xs md_87 147 (.inl (xs_il 4 149)) := by
  exact xs_iload_ok d_87_147
theorem it_87_149 (Ls : Nat) (xs : Nat → Int32) : xPI Ls xs md_87 149 (.inl (xs_c (1) 150)) := by
  exact xs_iconst_ok d_87_149 (by decide)
theorem it_87_150 (Ls : Nat) (xs : Nat → Int32) : xPI Ls xs md_87 150 (.inl (xs_isub 151)) := by
  exact xs_isub_ok d_87_150
theorem it_87_151 (Ls : Nat) (xs : Nat → Int32) : xPI Ls xs md_87 151 (.inl (xs_goto 156)) := by
  exact xs_goto_ok d_87_151 (by decide)
theorem it_87_154 (Ls : Nat) (xs : Nat → Int32) : xPI Ls xs md_87 154 (.inl (xs_il 4 156)) := by
  exact xs_iload_ok d_87_154
theorem it_87_156 (Ls : Nat) (xs : Nat → Int32) : xPI Ls xs md_87 156 (.inl (xs_is 7 4 158)) := by
  exact xs_istore_ok d_87_156
theorem it_87_158 (Ls : Nat) (xs : Nat → Int32) : xPI Ls xs md_87 158 (.inl (xs_inc 7 5 (1) 161)) := by
  exact xs_iinc_ok d_87_158 (by decide)
theorem it_87_161 (Ls : Nat) (xs : Nat → Int32) : xPI Ls xs md_87 161 (.inl (xs_goto 33)) := by
  exact xs_goto_ok d_87_161 (by decide)
theorem it_87_164 (Ls : Nat) (xs : Nat → Int32) : xPI Ls xs md_87 164 (.inl (xs_al 0 165)) := by
  exact xs_aload_n_ok d_87_164 rfl
theorem it_87_165 (Ls : Nat) (xs : Nat → Int32) : xPI Ls xs md_87 165 (.inl (xs_c (1) 166)) := by
  exact xs_iconst_ok d_87_165 (by decide)
theorem it_87_166 (Ls : Nat) (xs : Nat → Int32) : xPI Ls xs md_87 166 (.inr (.inl (68, 2, 8, []))) := by
  exact ⟨md_68, rfl, tw_7, by decide, ⟨by decide, by decide⟩, Or.inr (Or.inr ⟨6, R_6, T_6, N_6, 119, 1, rfl, rfl, rfl, rfl, d_87_166, tw_932, tw_934, ts_TableMakerModel_refuse, by decide +kernel, (fun x q h => by cases h)⟩)⟩
theorem it_87_169 (Ls : Nat) (xs : Nat → Int32) : xPI Ls xs md_87 169 (.inr (.inr 1)) := by
  exact ⟨rfl, d_87_169⟩
def K_87 (Ls : Nat) (xs : Nat → Int32) : Nat → Option xK := xbt 82 (xbt 37 (xbt 18 (xbt 9 (xbt 2 (xbt 1 (xlf 0 (.inl (xs_al 0 1))) (xlf 1 (.inl (xs_il 1 2)))) (xbt 5 (xlf 2 (.inr (.inl (85, 2, 8, [])))) (xbt 8 (xlf 5 (.inl (xs_if_eq 21 8))) (xlf 8 (.inl (xs_il 2 9)))))) (xbt 13 (xbt 12 (xlf 9 (.inl (xs_if_lt 21 12))) (xlf 12 (.inl (xs_il 3 13)))) (xbt 14 (xlf 13 (.inl (xs_c (0) 14))) (xbt 15 (xlf 14 (.inl (xs_c (2) 15))) (xlf 15 (.inr (.inl (69, 3, 0, [])))))))) (xbt 27 (xbt 22 (xbt 21 (xlf 18 (.inl (xs_if_eq 27 21))) (xlf 21 (.inl (xs_al 0 22)))) (xbt 23 (xlf 22 (.inl (xs_c (1) 23))) (xbt 26 (xlf 23 (.inr (.inl (68, 2, 8, [])))) (xlf 26 (.inr (.inr 1)))))) (xbt 31 (xbt 28 (xlf 27 (.inl (xs_il 2 28))) (xbt 30 (xlf 28 (.inl (xs_is 7 4 30))) (xlf 30 (.inl (xs_c (0) 31))))) (xbt 33 (xlf 31 (.inl (xs_is 7 5 33))) (xbt 35 (xlf 33 (.inl (xs_il 5 35))) (xlf 35 (.inl (xs_c (8) 37)))))))) (xbt 60 (xbt 46 (xbt 41 (xbt 38 (xlf 37 (.inl (xs_al 0 38))) (xlf 38 (.inl (xs_gf 6 10 41)))) (xbt 42 (xlf 41 (.inl (xs_imul 42))) (xbt 45 (xlf 42 (.inl (xs_ic_ge 164 45))) (xlf 45 (.inl (xs_al 0 46)))))) (xbt 49 (xbt 47 (xlf 46 (.inl (xs_il 1 47))) (xlf 47 (.inl (xs_il 5 49)))) (xbt 52 (xlf 49 (.inl (xs_c (8) 51))) (xbt 54 (xlf 52 (.inl (xs_il 5 54))) (xlf 54 (.inl (xs_c (8) 56))))))) (xbt 72 (xbt 64 (xbt 62 (xlf 60 (.inl (xs_is 7 6 62))) (xlf 62 (.inl (xs_il 6 64)))) (xbt 67 (xlf 64 (.inl (xs_if_eq 142 67))) (xbt 69 (xlf 67 (.inl (xs_il 4 69))) (xlf 69 (.inl (xs_if_ne 142 72)))))) (xbt 77 (xbt 73 (xlf 72 (.inl (xs_al 0 73))) (xbt 74 (xlf 73 (.inl (xs_c (0) 74))) (xlf 74 (.inl (xs_pf 6 0 0 77))))) (xbt 78 (xlf 77 (.inl (xs_il 3 78))) (xbt 81 (xlf 78 (.inl (xs_if_ne 94 81))) (xlf 81 (.inl (xs_al 0 82))))))))) (xbt 128 (xbt 103 (xbt 94 (xbt 87 (xbt 85 (xlf 82 (.inl (xs_gf 6 12 85))) (xlf 85 (.inl (xs_il 5 87)))) (xbt 90 (xlf 87 (.inl (xs_c (8) 89))) (xbt 91 (xlf 90 (.inl (xs_ia Ls xs 91))) (xlf 91 (.inl (xs_goto 141)))))) (xbt 96 (xbt 95 (xlf 94 (.inl (xs_il 3 95))) (xlf 95 (.inl (xs_c (1) 96)))) (xbt 99 (xlf 96 (.inl (xs_ic_ne 112 99))) (xbt 100 (xlf 99 (.inl (xs_al 0 100))) (xlf 100 (.inl (xs_gf 6 13 103))))))) (xbt 114 (xbt 108 (xbt 105 (xlf 103 (.inl (xs_il 5 105))) (xlf 105 (.inl (xs_c (8) 107)))) (xbt 109 (xlf 108 (.inl (xs_ia Ls xs 109))) (xbt 112 (xlf 109 (.inl (xs_goto 141))) (xlf 112 (.inl (xs_il 5 114)))))) (xbt 121 (xbt 117 (xlf 114 (.inl (xs_c (8) 116))) (xbt 118 (xlf 117 (.inl (xs_al 0 118))) (xlf 118 (.inl (xs_gf 6 1 121))))) (xbt 124 (xlf 121 (.inl (xs_ic_ne 136 124))) (xbt 125 (xlf 124 (.inl (xs_al 0 125))) (xlf 125 (.inl (xs_gf 6 1 128)))))))) (xbt 149 (xbt 138 (xbt 132 (xbt 129 (xlf 128 (.inl (xs_al 0 129))) (xlf 129 (.inl (xs_gf 6 2 132)))) (xbt 133 (xlf 132 (.inl (xs_iadd 133))) (xbt 136 (xlf 133 (.inl (xs_goto 141))) (xlf 136 (.inl (xs_il 5 138)))))) (xbt 142 (xbt 141 (xlf 138 (.inl (xs_c (8) 140))) (xlf 141 (.inr (.inr 1)))) (xbt 144 (xlf 142 (.inl (xs_il 6 144))) (xbt 147 (xlf 144 (.inl (xs_if_eq 154 147))) (xlf 147 (.inl (xs_il 4 149))))))) (xbt 158 (xbt 151 (xbt 150 (xlf 149 (.inl (xs_c (1) 150))) (xlf 150 (.inl (xs_isub 151)))) (xbt 154 (xlf 151 (.inl (xs_goto 156))) (xbt 156 (xlf 154 (.inl (xs_il 4 156))) (xlf 156 (.inl (xs_is 7 4 158)))))) (xbt 165 (xbt 161 (xlf 158 (.inl (xs_inc 7 5 (1) 161))) (xbt 164 (xlf 161 (.inl (xs_goto 33))) (xlf 164 (.inl (xs_al 0 165))))) (xbt 166 (xlf 165 (.inl (xs_c (1) 166))) (xbt 169 (xlf 166 (.inr (.inl (68, 2, 8, [])))) (xlf 169 (.inr (.inr 1)))))))))
theorem ok_87 (Ls : Nat) (xs : Nat → Int32) : ∀ pc it, K_87 Ls xs pc = some it → xPI Ls xs md_87 pc it := by
  unfold K_87
  exact xbt_ok (xbt_ok (xbt_ok (xbt_ok (xbt_ok (xbt_ok (xlf_ok (it_87_0 Ls xs)) (xlf_ok (it_87_1 Ls xs))) (xbt_ok (xlf_ok (it_87_2 Ls xs)) (xbt_ok (xlf_ok (it_87_5 Ls xs)) (xlf_ok (it_87_8 Ls xs))))) (xbt_ok (xbt_ok (xlf_ok (it_87_9 Ls xs)) (xlf_ok (it_87_12 Ls xs))) (xbt_ok (xlf_ok (it_87_13 Ls xs)) (xbt_ok (xlf_ok (it_87_14 Ls xs)) (xlf_ok (it_87_15 Ls xs)))))) (xbt_ok (xbt_ok (xbt_ok (xlf_ok (it_87_18 Ls xs)) (xlf_ok (it_87_21 Ls xs))) (xbt_ok (xlf_ok (it_87_22 Ls xs)) (xbt_ok (xlf_ok (it_87_23 Ls xs)) (xlf_ok (it_87_26 Ls xs))))) (xbt_ok (xbt_ok (xlf_ok (it_87_27 Ls xs)) (xbt_ok (xlf_ok (it_87_28 Ls xs)) (xlf_ok (it_87_30 Ls xs)))) (xbt_ok (xlf_ok (it_87_31 Ls xs)) (xbt_ok (xlf_ok (it_87_33 Ls xs)) (xlf_ok (it_87_35 Ls xs))))))) (xbt_ok (xbt_ok (xbt_ok (xbt_ok (xlf_ok (it_87_37 Ls xs)) (xlf_ok (it_87_38 Ls xs))) (xbt_ok (xlf_ok (it_87_41 Ls xs)) (xbt_ok (xlf_ok (it_87_42 Ls xs)) (xlf_ok (it_87_45 Ls xs))))) (xbt_ok (xbt_ok (xlf_ok (it_87_46 Ls xs)) (xlf_ok (it_87_47 Ls xs))) (xbt_ok (xlf_ok (it_87_49 Ls xs)) (xbt_ok (xlf_ok (it_87_52 Ls xs)) (xlf_ok (it_87_54 Ls xs)))))) (xbt_ok (xbt_ok (xbt_ok (xlf_ok (it_87_60 Ls xs)) (xlf_ok (it_87_62 Ls xs))) (xbt_ok (xlf_ok (it_87_64 Ls xs)) (xbt_ok (xlf_ok (it_87_67 Ls xs)) (xlf_ok (it_87_69 Ls xs))))) (xbt_ok (xbt_ok (xlf_ok (it_87_72 Ls xs)) (xbt_ok (xlf_ok (it_87_73 Ls xs)) (xlf_ok (it_87_74 Ls xs)))) (xbt_ok (xlf_ok (it_87_77 Ls xs)) (xbt_ok (xlf_ok (it_87_78 Ls xs)) (xlf_ok (it_87_81 Ls xs)))))))) (xbt_ok (xbt_ok (xbt_ok (xbt_ok (xbt_ok (xlf_ok (it_87_82 Ls xs)) (xlf_ok (it_87_85 Ls xs))) (xbt_ok (xlf_ok (it_87_87 Ls xs)) (xbt_ok (xlf_ok (it_87_90 Ls xs)) (xlf_ok (it_87_91 Ls xs))))) (xbt_ok (xbt_ok (xlf_ok (it_87_94 Ls xs)) (xlf_ok (it_87_95 Ls xs))) (xbt_ok (xlf_ok (it_87_96 Ls xs)) (xbt_ok (xlf_ok (it_87_99 Ls xs)) (xlf_ok (it_87_100 Ls xs)))))) (xbt_ok (xbt_ok (xbt_ok (xlf_ok (it_87_103 Ls xs)) (xlf_ok (it_87_105 Ls xs))) (xbt_ok (xlf_ok (it_87_108 Ls xs)) (xbt_ok (xlf_ok (it_87_109 Ls xs)) (xlf_ok (it_87_112 Ls xs))))) (xbt_ok (xbt_ok (xlf_ok (it_87_114 Ls xs)) (xbt_ok (xlf_ok (it_87_117 Ls xs)) (xlf_ok (it_87_118 Ls xs)))) (xbt_ok (xlf_ok (it_87_121 Ls xs)) (xbt_ok (xlf_ok (it_87_124 Ls xs)) (xlf_ok (it_87_125 Ls xs))))))) (xbt_ok (xbt_ok (xbt_ok (xbt_ok (xlf_ok (it_87_128 Ls xs)) (xlf_ok (it_87_129 Ls xs))) (xbt_ok (xlf_ok (it_87_132 Ls xs)) (xbt_ok (xlf_ok (it_87_133 Ls xs)) (xlf_ok (it_87_136 Ls xs))))) (xbt_ok (xbt_ok (xlf_ok (it_87_138 Ls xs)) (xlf_ok (it_87_141 Ls xs))) (xbt_ok (xlf_ok (it_87_142 Ls xs)) (xbt_ok (xlf_ok (it_87_144 Ls xs)) (xlf_ok (it_87_147 Ls xs)))))) (xbt_ok (xbt_ok (xbt_ok (xlf_ok (it_87_149 Ls xs)) (xlf_ok (it_87_150 Ls xs))) (xbt_ok (xlf_ok (it_87_151 Ls xs)) (xbt_ok (xlf_ok (it_87_154 Ls xs)) (xlf_ok (it_87_156 Ls xs))))) (xbt_ok (xbt_ok (xlf_ok (it_87_158 Ls xs)) (xbt_ok (xlf_ok (it_87_161 Ls xs)) (xlf_ok (it_87_164 Ls xs)))) (xbt_ok (xlf_ok (it_87_165 Ls xs)) (xbt_ok (xlf_ok (it_87_166 Ls xs)) (xlf_ok (it_87_169 Ls xs))))))))
theorem d_88_0 : decode prog_8_method_36_code 0 = .ok (.aload_n 0, 1) := by decide +kernel
theorem d_88_1 : decode prog_8_method_36_code 1 = .ok (.iload_n 1, 1) := by decide +kernel
theorem d_88_2 : decode prog_8_method_36_code 2 = .ok (.invokevirtual 175, 3) := by decide +kernel
theorem d_88_5 : decode prog_8_method_36_code 5 = .ok (.ifCond .eq (30), 3) := by decide +kernel
theorem d_88_8 : decode prog_8_method_36_code 8 = .ok (.iload_n 2, 1) := by decide +kernel
theorem d_88_9 : decode prog_8_method_36_code 9 = .ok (.iconst (0), 1) := by decide +kernel
theorem d_88_10 : decode prog_8_method_36_code 10 = .ok (.aload_n 0, 1) := by decide +kernel
theorem d_88_11 : decode prog_8_method_36_code 11 = .ok (.getfield 61, 3) := by decide +kernel
theorem d_88_14 : decode prog_8_method_36_code 14 = .ok (.iconst (1), 1) := by decide +kernel
theorem d_88_15 : decode prog_8_method_36_code 15 = .ok (.isub, 1) := by decide +kernel
theorem d_88_16 : decode prog_8_method_36_code 16 = .ok (.invokestatic 70, 3) := by decide +kernel
theorem d_88_19 : decode prog_8_method_36_code 19 = .ok (.ifCond .eq (22), 3) := by decide +kernel
theorem d_88_22 : decode prog_8_method_36_code 22 = .ok (.iload_n 2, 1) := by decide +kernel
theorem d_88_23 : decode prog_8_method_36_code 23 = .ok (.aload_n 0, 1) := by decide +kernel
theorem d_88_24 : decode prog_8_method_36_code 24 = .ok (.getfield 61, 3) := by decide +kernel
theorem d_88_27 : decode prog_8_method_36_code 27 = .ok (.aload_n 0, 1) := by decide +kernel
theorem d_88_28 : decode prog_8_method_36_code 28 = .ok (.getfield 64, 3) := by decide +kernel
theorem d_88_31 : decode prog_8_method_36_code 31 = .ok (.iadd, 1) := by decide +kernel
theorem d_88_32 : decode prog_8_method_36_code 32 = .ok (.if_icmp .eq (9), 3) := by decide +kernel
theorem d_88_35 : decode prog_8_method_36_code 35 = .ok (.aload_n 0, 1) := by decide +kernel
theorem d_88_36 : decode prog_8_method_36_code 36 = .ok (.iconst (1), 1) := by decide +kernel
theorem d_88_37 : decode prog_8_method_36_code 37 = .ok (.invokevirtual 119, 3) := by decide +kernel
theorem d_88_40 : decode prog_8_method_36_code 40 = .ok (.ireturn, 1) := by decide +kernel
theorem d_88_41 : decode prog_8_method_36_code 41 = .ok (.aload_n 0, 1) := by decide +kernel
theorem d_88_42 : decode prog_8_method_36_code 42 = .ok (.iconst (0), 1) := by decide +kernel
theorem d_88_43 : decode prog_8_method_36_code 43 = .ok (.putfield 67, 3) := by decide +kernel
theorem d_88_46 : decode prog_8_method_36_code 46 = .ok (.aload_n 0, 1) := by decide +kernel
theorem d_88_47 : decode prog_8_method_36_code 47 = .ok (.iload_n 1, 1) := by decide +kernel
theorem d_88_48 : decode prog_8_method_36_code 48 = .ok (.iload_n 2, 1) := by decide +kernel
theorem d_88_49 : decode prog_8_method_36_code 49 = .ok (.aload_n 0, 1) := by decide +kernel
theorem d_88_50 : decode prog_8_method_36_code 50 = .ok (.getfield 61, 3) := by decide +kernel
theorem d_88_53 : decode prog_8_method_36_code 53 = .ok (.if_icmp .ge (7), 3) := by decide +kernel
theorem d_88_56 : decode prog_8_method_36_code 56 = .ok (.iload_n 2, 1) := by decide +kernel
theorem d_88_57 : decode prog_8_method_36_code 57 = .ok (.goto (7), 3) := by decide +kernel
theorem d_88_60 : decode prog_8_method_36_code 60 = .ok (.aload_n 0, 1) := by decide +kernel
theorem d_88_61 : decode prog_8_method_36_code 61 = .ok (.getfield 61, 3) := by decide +kernel
theorem d_88_67 : decode prog_8_method_36_code 67 = .ok (.ireturn, 1) := by decide +kernel
theorem it_88_0 (Ls : Nat) (xs : Nat → Int32) : xPI Ls xs md_88 0 (.inl (xs_al 0 1)) := by
  exact xs_aload_n_ok d_88_0 rfl
theorem it_88_1 (Ls : Nat) (xs : Nat → Int32) : xPI Ls xs md_88 1 (.inl (xs_il 1 2)) := by
  exact xs_iload_n_ok d_88_1 rfl
theorem it_88_2 (Ls : Nat) (xs : Nat → Int32) : xPI Ls xs md_88 2 (.inr (.inl (85, 2, 8, []))) := by
  exact ⟨md_85, rfl, tw_7, by decide, ⟨by decide, by decide⟩, Or.inr (Or.inr ⟨6, R_6, T_6, N_6, 175, 1, rfl, rfl, rfl, rfl, d_88_2, tw_1004, tw_1006, ts_TableMakerModel_isState, by decide +kernel, (fun x q h => by cases h)⟩)⟩
theorem it_88_5 (Ls : Nat) (xs : Nat → Int32) : xPI Ls xs md_88 5 (.inl (xs_if_eq 35 8)) := by
  exact xs_if_eq_ok d_88_5 (by decide)
theorem it_88_8 (Ls : Nat) (xs : Nat → Int32) : xPI Ls xs md_88 8 (.inl (xs_il 2 9)) := by
  exact xs_iload_n_ok d_88_8 rfl
theorem it_88_9 (Ls : Nat) (xs : Nat → Int32) : xPI Ls xs md_88 9 (.inl (xs_c (0) 10)) := by
  exact xs_iconst_ok d_88_9 (by decide)
theorem it_88_10 (Ls : Nat) (xs : Nat → Int32) : xPI Ls xs md_88 10 (.inl (xs_al 0 11)) := by
  exact xs_aload_n_ok d_88_10 rfl
theorem it_88_11 (Ls : Nat) (xs : Nat → Int32) : xPI Ls xs md_88 11 (.inl (xs_gf 6 1 14)) := by
  exact xs_gf_ok d_88_11 (C := R_6) (T := T_6) (N := N_6) rfl in_6 (by decide) tw_788
theorem it_88_14 (Ls : Nat) (xs : Nat → Int32) : xPI Ls xs md_88 14 (.inl (xs_c (1) 15)) := by
  exact xs_iconst_ok d_88_14 (by decide)
theorem it_88_15 (Ls : Nat) (xs : Nat → Int32) : xPI Ls xs md_88 15 (.inl (xs_isub 16)) := by
  exact xs_isub_ok d_88_15
theorem it_88_16 (Ls : Nat) (xs : Nat → Int32) : xPI Ls xs md_88 16 (.inr (.inl (69, 3, 0, []))) := by
  exact ⟨md_69, rfl, tw_7, by decide, ⟨by decide, by decide⟩, Or.inl ⟨rfl, rfl, 70, d_88_16, tw_888, tw_889, by decide +kernel⟩⟩
theorem it_88_19 (Ls : Nat) (xs : Nat → Int32) : xPI Ls xs md_88 19 (.inl (xs_if_eq 41 22)) := by
  exact xs_if_eq_ok d_88_19 (by decide)
theorem it_88_22 (Ls : Nat) (xs : Nat → Int32) : xPI Ls xs md_88 22 (.inl (xs_il 2 23)) := by
  exact xs_iload_n_ok d_88_22 rfl
theorem it_88_23 (Ls : Nat) (xs : Nat → Int32) : xPI Ls xs md_88 23 (.inl (xs_al 0 24)) := by
  exact xs_aload_n_ok d_88_23 rfl
theorem it_88_24 (Ls : Nat) (xs : Nat → Int32) : xPI Ls xs md_88 24 (.inl (xs_gf 6 1 27)) := by
  exact xs_gf_ok d_88_24 (C := R_6) (T := T_6) (N := N_6) rfl in_6 (by decide) tw_788
theorem it_88_27 (Ls : Nat) (xs : Nat → Int32) : xPI Ls xs md_88 27 (.inl (xs_al 0 28)) := by
  exact xs_aload_n_ok d_88_27 rfl
theorem it_88_28 (Ls : Nat) (xs : Nat → Int32) : xPI Ls xs md_88 28 (.inl (xs_gf 6 2 31)) := by
  exact xs_gf_ok d_88_28 (C := R_6) (T := T_6) (N := N_6) rfl in_6 (by decide) tw_789
theorem it_88_31 (Ls : Nat) (xs : Nat → Int32) : xPI Ls xs md_88 31 (.inl (xs_iadd 32)) := by
  exact xs_iadd_ok d_88_31
theorem it_88_32 (Ls : Nat) (xs : Nat → Int32) : xPI Ls xs md_88 32 (.inl (xs_ic_eq 41 35)) := by
  exact xs_ic_eq_ok d_88_32 (by decide)
theorem it_88_35 (Ls : Nat) (xs : Nat → Int32) : xPI Ls xs md_88 35 (.inl (xs_al 0 36)) := by
  exact xs_aload_n_ok d_88_35 rfl
theorem it_88_36 (Ls : Nat) (xs : Nat → Int32) : xPI Ls xs md_88 36 (.inl (xs_c (1) 37)) := by
  exact xs_iconst_ok d_88_36 (by decide)
theorem it_88_37 (Ls : Nat) (xs : Nat → Int32) : xPI Ls xs md_88 37 (.inr (.inl (68, 2, 8, []))) := by
  exact ⟨md_68, rfl, tw_7, by decide, ⟨by decide, by decide⟩, Or.inr (Or.inr ⟨6, R_6, T_6, N_6, 119, 1, rfl, rfl, rfl, rfl, d_88_37, tw_932, tw_934, ts_TableMakerModel_refuse, by decide +kernel, (fun x q h => by cases h)⟩)⟩
theorem it_88_40 (Ls : Nat) (xs : Nat → Int32) : xPI Ls xs md_88 40 (.inr (.inr 1)) := by
  exact ⟨rfl, d_88_40⟩
theorem it_88_41 (Ls : Nat) (xs : Nat → Int32) : xPI Ls xs md_88 41 (.inl (xs_al 0 42)) := by
  exact xs_aload_n_ok d_88_41 rfl
theorem it_88_42 (Ls : Nat) (xs : Nat → Int32) : xPI Ls xs md_88 42 (.inl (xs_c (0) 43)) := by
  exact xs_iconst_ok d_88_42 (by decide)
theorem it_88_43 (Ls : Nat) (xs : Nat → Int32) : xPI Ls xs md_88 43 (.inl (xs_pf 6 0 0 46)) := by
  exact xs_pf_ok d_88_43 (C := R_6) (T := T_6) (N := N_6) (ty0 := Y_6) rfl in_6 ty_6 nm_6 (by decide) tw_787 (Or.inl rfl) rfl
theorem it_88_46 (Ls : Nat) (xs : Nat → Int32) : xPI Ls xs md_88 46 (.inl (xs_al 0 47)) := by
  exact xs_aload_n_ok d_88_46 rfl
theorem it_88_47 (Ls : Nat) (xs : Nat → Int32) : xPI Ls xs md_88 47 (.inl (xs_il 1 48)) := by
  exact xs_iload_n_ok d_88_47 rfl
theorem it_88_48 (Ls : Nat) (xs : Nat → Int32) : xPI Ls xs md_88 48 (.inl (xs_il 2 49)) := by
  exact xs_iload_n_ok d_88_48 rfl
theorem it_88_49 (Ls : Nat) (xs : Nat → Int32) : xPI Ls xs md_88 49 (.inl (xs_al 0 50)) := by
  exact xs_aload_n_ok d_88_49 rfl
theorem it_88_50 (Ls : Nat) (xs : Nat → Int32) : xPI Ls xs md_88 50 (.inl (xs_gf 6 1 53)) := by
  exact xs_gf_ok d_88_50 (C := R_6) (T := T_6) (N := N_6) rfl in_6 (by decide) tw_788
theorem it_88_53 (Ls : Nat) (xs : Nat → Int32) : xPI Ls xs md_88 53 (.inl (xs_ic_ge 60 56)) := by
  exact xs_ic_ge_ok d_88_53 (by decide)
theorem it_88_56 (Ls : Nat) (xs : Nat → Int32) : xPI Ls xs md_88 56 (.inl (xs_il 2 57)) := by
  exact xs_iload_n_ok d_88_56 rfl
theorem it_88_57 (Ls : Nat) (xs : Nat → Int32) : xPI Ls xs md_88 57 (.inl (xs_goto 64)) := by
  exact xs_goto_ok d_88_57 (by decide)
theorem it_88_60 (Ls : Nat) (xs : Nat → Int32) : xPI Ls xs md_88 60 (.inl (xs_al 0 61)) := by
  exact xs_aload_n_ok d_88_60 rfl
theorem it_88_61 (Ls : Nat) (xs : Nat → Int32) : xPI Ls xs md_88 61 (.inl (xs_gf 6 1 64)) := by
  exact xs_gf_ok d_88_61 (C := R_6) (T := T_6) (N := N_6) rfl in_6 (by decide) tw_788
theorem it_88_67 (Ls : Nat) (xs : Nat → Int32) : xPI Ls xs md_88 67 (.inr (.inr 1)) := by
  exact ⟨rfl, d_88_67⟩
def K_88 (Ls : Nat) (xs : Nat → Int32) : Nat → Option xK := xbt 32 (xbt 15 (xbt 8 (xbt 2 (xbt 1 (xlf 0 (.inl (xs_al 0 1))) (xlf 1 (.inl (xs_il 1 2)))) (xbt 5 (xlf 2 (.inr (.inl (85, 2, 8, [])))) (xlf 5 (.inl (xs_if_eq 35 8))))) (xbt 10 (xbt 9 (xlf 8 (.inl (xs_il 2 9))) (xlf 9 (.inl (xs_c (0) 10)))) (xbt 11 (xlf 10 (.inl (xs_al 0 11))) (xbt 14 (xlf 11 (.inl (xs_gf 6 1 14))) (xlf 14 (.inl (xs_c (1) 15))))))) (xbt 23 (xbt 19 (xbt 16 (xlf 15 (.inl (xs_isub 16))) (xlf 16 (.inr (.inl (69, 3, 0, []))))) (xbt 22 (xlf 19 (.inl (xs_if_eq 41 22))) (xlf 22 (.inl (xs_il 2 23))))) (xbt 27 (xbt 24 (xlf 23 (.inl (xs_al 0 24))) (xlf 24 (.inl (xs_gf 6 1 27)))) (xbt 28 (xlf 27 (.inl (xs_al 0 28))) (xbt 31 (xlf 28 (.inl (xs_gf 6 2 31))) (xlf 31 (.inl (xs_iadd 32)))))))) (xbt 47 (xbt 40 (xbt 36 (xbt 35 (xlf 32 (.inl (xs_ic_eq 41 35))) (xlf 35 (.inl (xs_al 0 36)))) (xbt 37 (xlf 36 (.inl (xs_c (1) 37))) (xlf 37 (.inr (.inl (68, 2, 8, [])))))) (xbt 42 (xbt 41 (xlf 40 (.inr (.inr 1))) (xlf 41 (.inl (xs_al 0 42)))) (xbt 43 (xlf 42 (.inl (xs_c (0) 43))) (xbt 46 (xlf 43 (.inl (xs_pf 6 0 0 46))) (xlf 46 (.inl (xs_al 0 47))))))) (xbt 56 (xbt 49 (xbt 48 (xlf 47 (.inl (xs_il 1 48))) (xlf 48 (.inl (xs_il 2 49)))) (xbt 50 (xlf 49 (.inl (xs_al 0 50))) (xbt 53 (xlf 50 (.inl (xs_gf 6 1 53))) (xlf 53 (.inl (xs_ic_ge 60 56)))))) (xbt 60 (xbt 57 (xlf 56 (.inl (xs_il 2 57))) (xlf 57 (.inl (xs_goto 64)))) (xbt 61 (xlf 60 (.inl (xs_al 0 61))) (xbt 67 (xlf 61 (.inl (xs_gf 6 1 64))) (xlf 67 (.inr (.inr 1))))))))
theorem ok_88 (Ls : Nat) (xs : Nat → Int32) : ∀ pc it, K_88 Ls xs pc = some it → xPI Ls xs md_88 pc it := by
  unfold K_88
  exact xbt_ok (xbt_ok (xbt_ok (xbt_ok (xbt_ok (xlf_ok (it_88_0 Ls xs)) (xlf_ok (it_88_1 Ls xs))) (xbt_ok (xlf_ok (it_88_2 Ls xs)) (xlf_ok (it_88_5 Ls xs)))) (xbt_ok (xbt_ok (xlf_ok (it_88_8 Ls xs)) (xlf_ok (it_88_9 Ls xs))) (xbt_ok (xlf_ok (it_88_10 Ls xs)) (xbt_ok (xlf_ok (it_88_11 Ls xs)) (xlf_ok (it_88_14 Ls xs)))))) (xbt_ok (xbt_ok (xbt_ok (xlf_ok (it_88_15 Ls xs)) (xlf_ok (it_88_16 Ls xs))) (xbt_ok (xlf_ok (it_88_19 Ls xs)) (xlf_ok (it_88_22 Ls xs)))) (xbt_ok (xbt_ok (xlf_ok (it_88_23 Ls xs)) (xlf_ok (it_88_24 Ls xs))) (xbt_ok (xlf_ok (it_88_27 Ls xs)) (xbt_ok (xlf_ok (it_88_28 Ls xs)) (xlf_ok (it_88_31 Ls xs))))))) (xbt_ok (xbt_ok (xbt_ok (xbt_ok (xlf_ok (it_88_32 Ls xs)) (xlf_ok (it_88_35 Ls xs))) (xbt_ok (xlf_ok (it_88_36 Ls xs)) (xlf_ok (it_88_37 Ls xs)))) (xbt_ok (xbt_ok (xlf_ok (it_88_40 Ls xs)) (xlf_ok (it_88_41 Ls xs))) (xbt_ok (xlf_ok (it_88_42 Ls xs)) (xbt_ok (xlf_ok (it_88_43 Ls xs)) (xlf_ok (it_88_46 Ls xs)))))) (xbt_ok (xbt_ok (xbt_ok (xlf_ok (it_88_47 Ls xs)) (xlf_ok (it_88_48 Ls xs))) (xbt_ok (xlf_ok (it_88_49 Ls xs)) (xbt_ok (xlf_ok (it_88_50 Ls xs)) (xlf_ok (it_88_53 Ls xs))))) (xbt_ok (xbt_ok (xlf_ok (it_88_56 Ls xs)) (xlf_ok (it_88_57 Ls xs))) (xbt_ok (xlf_ok (it_88_60 Ls xs)) (xbt_ok (xlf_ok (it_88_61 Ls xs)) (xlf_ok (it_88_67 Ls xs)))))))
theorem d_89_0 : decode prog_8_method_37_code 0 = .ok (.aload_n 0, 1) := by decide +kernel
theorem d_89_1 : decode prog_8_method_37_code 1 = .ok (.iload_n 1, 1) := by decide +kernel
theorem d_89_2 : decode prog_8_method_37_code 2 = .ok (.invokevirtual 175, 3) := by decide +kernel
theorem d_89_5 : decode prog_8_method_37_code 5 = .ok (.ifCond .eq (11), 3) := by decide +kernel
theorem d_89_8 : decode prog_8_method_37_code 8 = .ok (.aload_n 0, 1) := by decide +kernel
theorem d_89_9 : decode prog_8_method_37_code 9 = .ok (.iload_n 2, 1) := by decide +kernel
theorem d_89_10 : decode prog_8_method_37_code 10 = .ok (.invokevirtual 77, 3) := by decide +kernel
theorem d_89_13 : decode prog_8_method_37_code 13 = .ok (.ifCond .ne (9), 3) := by decide +kernel
theorem d_89_16 : decode prog_8_method_37_code 16 = .ok (.aload_n 0, 1) := by decide +kernel
theorem d_89_17 : decode prog_8_method_37_code 17 = .ok (.iconst (1), 1) := by decide +kernel
theorem d_89_18 : decode prog_8_method_37_code 18 = .ok (.invokevirtual 119, 3) := by decide +kernel
theorem d_89_21 : decode prog_8_method_37_code 21 = .ok (.ireturn, 1) := by decide +kernel
theorem d_89_22 : decode prog_8_method_37_code 22 = .ok (.aload_n 0, 1) := by decide +kernel
theorem d_89_23 : decode prog_8_method_37_code 23 = .ok (.iconst (0), 1) := by decide +kernel
theorem d_89_24 : decode prog_8_method_37_code 24 = .ok (.putfield 67, 3) := by decide +kernel
theorem d_89_27 : decode prog_8_method_37_code 27 = .ok (.aload_n 0, 1) := by decide +kernel
theorem d_89_28 : decode prog_8_method_37_code 28 = .ok (.getfield 42, 3) := by decide +kernel
theorem d_89_31 : decode prog_8_method_37_code 31 = .ok (.bipush (13), 2) := by decide +kernel
theorem d_89_33 : decode prog_8_method_37_code 33 = .ok (.iload_n 1, 1) := by decide +kernel
theorem d_89_34 : decode prog_8_method_37_code 34 = .ok (.imul, 1) := by decide +kernel
theorem d_89_35 : decode prog_8_method_37_code 35 = .ok (.iload_n 2, 1) := by decide +kernel
theorem d_89_36 : decode prog_8_method_37_code 36 = .ok (.iadd, 1) := by decide +kernel
theorem d_89_37 : decode prog_8_method_37_code 37 = .ok (.iaload, 1) := by decide +kernel
theorem d_89_38 : decode prog_8_method_37_code 38 = .ok (.ireturn, 1) := by decide +kernel
theorem it_89_0 (Ls : Nat) (xs : Nat → Int32) : xPI Ls xs md_89 0 (.inl (xs_al 0 1)) := by
  exact xs_aload_n_ok d_89_0 rfl
theorem it_89_1 (Ls : Nat) (xs : Nat → Int32) : xPI Ls xs md_89 1 (.inl (xs_il 1 2)) := by
  exact xs_iload_n_ok d_89_1 rfl
theorem it_89_2 (Ls : Nat) (xs : Nat → Int32) : xPI Ls xs md_89 2 (.inr (.inl (85, 2, 8, []))) := by
  exact ⟨md_85, rfl, tw_7, by decide, ⟨by decide, by decide⟩, Or.inr (Or.inr ⟨6, R_6, T_6, N_6, 175, 1, rfl, rfl, rfl, rfl, d_89_2, tw_1004, tw_1006, ts_TableMakerModel_isState, by decide +kernel, (fun x q h => by cases h)⟩)⟩
theorem it_89_5 (Ls : Nat) (xs : Nat → Int32) : xPI Ls xs md_89 5 (.inl (xs_if_eq 16 8)) := by
  exact xs_if_eq_ok d_89_5 (by decide)
theorem it_89_8 (Ls : Nat) (xs : Nat → Int32) : xPI Ls xs md_89 8 (.inl (xs_al 0 9)) := by
  exact xs_aload_n_ok d_89_8 rfl
theorem it_89_9 (Ls : Nat) (xs : Nat → Int32) : xPI Ls xs md_89 9 (.inl (xs_il 2 10)) := by
  exact xs_iload_n_ok d_89_9 rfl
theorem it_89_10 (Ls : Nat) (xs : Nat → Int32) : xPI Ls xs md_89 10 (.inr (.inl (70, 2, 8, []))) := by
  exact ⟨md_70, rfl, tw_7, by decide, ⟨by decide, by decide⟩, Or.inr (Or.inr ⟨6, R_6, T_6, N_6, 77, 1, rfl, rfl, rfl, rfl, d_89_10, tw_884, tw_886, ts_TableMakerModel_isNonterminal, by decide +kernel, (fun x q h => by cases h)⟩)⟩
theorem it_89_13 (Ls : Nat) (xs : Nat → Int32) : xPI Ls xs md_89 13 (.inl (xs_if_ne 22 16)) := by
  exact xs_if_ne_ok d_89_13 (by decide)
theorem it_89_16 (Ls : Nat) (xs : Nat → Int32) : xPI Ls xs md_89 16 (.inl (xs_al 0 17)) := by
  exact xs_aload_n_ok d_89_16 rfl
theorem it_89_17 (Ls : Nat) (xs : Nat → Int32) : xPI Ls xs md_89 17 (.inl (xs_c (1) 18)) := by
  exact xs_iconst_ok d_89_17 (by decide)
theorem it_89_18 (Ls : Nat) (xs : Nat → Int32) : xPI Ls xs md_89 18 (.inr (.inl (68, 2, 8, []))) := by
  exact ⟨md_68, rfl, tw_7, by decide, ⟨by decide, by decide⟩, Or.inr (Or.inr ⟨6, R_6, T_6, N_6, 119, 1, rfl, rfl, rfl, rfl, d_89_18, tw_932, tw_934, ts_TableMakerModel_refuse, by decide +kernel, (fun x q h => by cases h)⟩)⟩
theorem it_89_21 (Ls : Nat) (xs : Nat → Int32) : xPI Ls xs md_89 21 (.inr (.inr 1)) := by
  exact ⟨rfl, d_89_21⟩
theorem it_89_22 (Ls : Nat) (xs : Nat → Int32) : xPI Ls xs md_89 22 (.inl (xs_al 0 23)) := by
  exact xs_aload_n_ok d_89_22 rfl
theorem it_89_23 (Ls : Nat) (xs : Nat → Int32) : xPI Ls xs md_89 23 (.inl (xs_c (0) 24)) := by
  exact xs_iconst_ok d_89_23 (by decide)
theorem it_89_24 (Ls : Nat) (xs : Nat → Int32) : xPI Ls xs md_89 24 (.inl (xs_pf 6 0 0 27)) := by
  exact xs_pf_ok d_89_24 (C := R_6) (T := T_6) (N := N_6) (ty0 := Y_6) rfl in_6 ty_6 nm_6 (by decide) tw_787 (Or.inl rfl) rfl
theorem it_89_27 (Ls : Nat) (xs : Nat → Int32) : xPI Ls xs md_89 27 (.inl (xs_al 0 28)) := by
  exact xs_aload_n_ok d_89_27 rfl
theorem it_89_28 (Ls : Nat) (xs : Nat → Int32) : xPI Ls xs md_89 28 (.inl (xs_gf 6 18 31)) := by
  exact xs_gf_ok d_89_28 (C := R_6) (T := T_6) (N := N_6) rfl in_6 (by decide) tw_805
theorem it_89_31 (Ls : Nat) (xs : Nat → Int32) : xPI Ls xs md_89 31 (.inl (xs_c (13) 33)) := by
  exact xs_bipush_ok d_89_31 (by decide)
theorem it_89_33 (Ls : Nat) (xs : Nat → Int32) : xPI Ls xs md_89 33 (.inl (xs_il 1 34)) := by
  exact xs_iload_n_ok d_89_33 rfl
theorem it_89_34 (Ls : Nat) (xs : Nat → Int32) : xPI Ls xs md_89 34 (.inl (xs_imul 35)) := by
  exact xs_imul_ok d_89_34
theorem it_89_35 (Ls : Nat) (xs : Nat → Int32) : xPI Ls xs md_89 35 (.inl (xs_il 2 36)) := by
  exact xs_iload_n_ok d_89_35 rfl
theorem it_89_36 (Ls : Nat) (xs : Nat → Int32) : xPI Ls xs md_89 36 (.inl (xs_iadd 37)) := by
  exact xs_iadd_ok d_89_36
theorem it_89_37 (Ls : Nat) (xs : Nat → Int32) : xPI Ls xs md_89 37 (.inl (xs_ia Ls xs 38)) := by
  exact xs_ia_ok d_89_37
theorem it_89_38 (Ls : Nat) (xs : Nat → Int32) : xPI Ls xs md_89 38 (.inr (.inr 1)) := by
  exact ⟨rfl, d_89_38⟩
def K_89 (Ls : Nat) (xs : Nat → Int32) : Nat → Option xK := xbt 22 (xbt 10 (xbt 5 (xbt 1 (xlf 0 (.inl (xs_al 0 1))) (xbt 2 (xlf 1 (.inl (xs_il 1 2))) (xlf 2 (.inr (.inl (85, 2, 8, [])))))) (xbt 8 (xlf 5 (.inl (xs_if_eq 16 8))) (xbt 9 (xlf 8 (.inl (xs_al 0 9))) (xlf 9 (.inl (xs_il 2 10)))))) (xbt 17 (xbt 13 (xlf 10 (.inr (.inl (70, 2, 8, [])))) (xbt 16 (xlf 13 (.inl (xs_if_ne 22 16))) (xlf 16 (.inl (xs_al 0 17))))) (xbt 18 (xlf 17 (.inl (xs_c (1) 18))) (xbt 21 (xlf 18 (.inr (.inl (68, 2, 8, [])))) (xlf 21 (.inr (.inr 1))))))) (xbt 33 (xbt 27 (xbt 23 (xlf 22 (.inl (xs_al 0 23))) (xbt 24 (xlf 23 (.inl (xs_c (0) 24))) (xlf 24 (.inl (xs_pf 6 0 0 27))))) (xbt 28 (xlf 27 (.inl (xs_al 0 28))) (xbt 31 (xlf 28 (.inl (xs_gf 6 18 31))) (xlf 31 (.inl (xs_c (13) 33)))))) (xbt 36 (xbt 34 (xlf 33 (.inl (xs_il 1 34))) (xbt 35 (xlf 34 (.inl (xs_imul 35))) (xlf 35 (.inl (xs_il 2 36))))) (xbt 37 (xlf 36 (.inl (xs_iadd 37))) (xbt 38 (xlf 37 (.inl (xs_ia Ls xs 38))) (xlf 38 (.inr (.inr 1)))))))
theorem ok_89 (Ls : Nat) (xs : Nat → Int32) : ∀ pc it, K_89 Ls xs pc = some it → xPI Ls xs md_89 pc it := by
  unfold K_89
  exact xbt_ok (xbt_ok (xbt_ok (xbt_ok (xlf_ok (it_89_0 Ls xs)) (xbt_ok (xlf_ok (it_89_1 Ls xs)) (xlf_ok (it_89_2 Ls xs)))) (xbt_ok (xlf_ok (it_89_5 Ls xs)) (xbt_ok (xlf_ok (it_89_8 Ls xs)) (xlf_ok (it_89_9 Ls xs))))) (xbt_ok (xbt_ok (xlf_ok (it_89_10 Ls xs)) (xbt_ok (xlf_ok (it_89_13 Ls xs)) (xlf_ok (it_89_16 Ls xs)))) (xbt_ok (xlf_ok (it_89_17 Ls xs)) (xbt_ok (xlf_ok (it_89_18 Ls xs)) (xlf_ok (it_89_21 Ls xs)))))) (xbt_ok (xbt_ok (xbt_ok (xlf_ok (it_89_22 Ls xs)) (xbt_ok (xlf_ok (it_89_23 Ls xs)) (xlf_ok (it_89_24 Ls xs)))) (xbt_ok (xlf_ok (it_89_27 Ls xs)) (xbt_ok (xlf_ok (it_89_28 Ls xs)) (xlf_ok (it_89_31 Ls xs))))) (xbt_ok (xbt_ok (xlf_ok (it_89_33 Ls xs)) (xbt_ok (xlf_ok (it_89_34 Ls xs)) (xlf_ok (it_89_35 Ls xs)))) (xbt_ok (xlf_ok (it_89_36 Ls xs)) (xbt_ok (xlf_ok (it_89_37 Ls xs)) (xlf_ok (it_89_38 Ls xs))))))
theorem d_90_0 : decode prog_8_method_38_code 0 = .ok (.aload_n 0, 1) := by decide +kernel
theorem d_90_1 : decode prog_8_method_38_code 1 = .ok (.aload_n 0, 1) := by decide +kernel
theorem d_90_2 : decode prog_8_method_38_code 2 = .ok (.getfield 81, 3) := by decide +kernel
theorem d_90_5 : decode prog_8_method_38_code 5 = .ok (.ifCond .eq (7), 3) := by decide +kernel
theorem d_90_8 : decode prog_8_method_38_code 8 = .ok (.iconst (0), 1) := by decide +kernel
theorem d_90_9 : decode prog_8_method_38_code 9 = .ok (.goto (4), 3) := by decide +kernel
theorem d_90_12 : decode prog_8_method_38_code 12 = .ok (.iconst (1), 1) := by decide +kernel
theorem d_90_13 : decode prog_8_method_38_code 13 = .ok (.putfield 67, 3) := by decide +kernel
theorem d_90_16 : decode prog_8_method_38_code 16 = .ok (.aload_n 0, 1) := by decide +kernel
theorem d_90_17 : decode prog_8_method_38_code 17 = .ok (.getfield 67, 3) := by decide +kernel
theorem d_90_20 : decode prog_8_method_38_code 20 = .ok (.ifCond .le (4), 3) := by decide +kernel
theorem d_90_23 : decode prog_8_method_38_code 23 = .ok (.return_, 1) := by decide +kernel
theorem d_90_24 : decode prog_8_method_38_code 24 = .ok (.aload_n 0, 1) := by decide +kernel
theorem d_90_25 : decode prog_8_method_38_code 25 = .ok (.iconst (1), 1) := by decide +kernel
theorem d_90_26 : decode prog_8_method_38_code 26 = .ok (.putfield 97, 3) := by decide +kernel
theorem d_90_29 : decode prog_8_method_38_code 29 = .ok (.aload_n 0, 1) := by decide +kernel
theorem d_90_30 : decode prog_8_method_38_code 30 = .ok (.iconst (1), 1) := by decide +kernel
theorem d_90_31 : decode prog_8_method_38_code 31 = .ok (.putfield 100, 3) := by decide +kernel
theorem d_90_34 : decode prog_8_method_38_code 34 = .ok (.aload_n 0, 1) := by decide +kernel
theorem d_90_35 : decode prog_8_method_38_code 35 = .ok (.getfield 55, 3) := by decide +kernel
theorem d_90_38 : decode prog_8_method_38_code 38 = .ok (.iconst (0), 1) := by decide +kernel
theorem d_90_39 : decode prog_8_method_38_code 39 = .ok (.iconst (0), 1) := by decide +kernel
theorem d_90_40 : decode prog_8_method_38_code 40 = .ok (.iastore, 1) := by decide +kernel
theorem d_90_41 : decode prog_8_method_38_code 41 = .ok (.aload_n 0, 1) := by decide +kernel
theorem d_90_42 : decode prog_8_method_38_code 42 = .ok (.iconst (0), 1) := by decide +kernel
theorem d_90_43 : decode prog_8_method_38_code 43 = .ok (.putfield 103, 3) := by decide +kernel
theorem d_90_46 : decode prog_8_method_38_code 46 = .ok (.return_, 1) := by decide +kernel
theorem it_90_0 (Ls : Nat) (xs : Nat → Int32) : xPI Ls xs md_90 0 (.inl (xs_al 0 1)) := by
  exact xs_aload_n_ok d_90_0 rfl
theorem it_90_1 (Ls : Nat) (xs : Nat → Int32) : xPI Ls xs md_90 1 (.inl (xs_al 0 2)) := by
  exact xs_aload_n_ok d_90_1 rfl
theorem it_90_2 (Ls : Nat) (xs : Nat → Int32) : xPI Ls xs md_90 2 (.inl (xs_gf 6 15 5)) := by
  exact xs_gf_ok d_90_2 (C := R_6) (T := T_6) (N := N_6) rfl in_6 (by decide) tw_802
theorem it_90_5 (Ls : Nat) (xs : Nat → Int32) : xPI Ls xs md_90 5 (.inl (xs_if_eq 12 8)) := by
  exact xs_if_eq_ok d_90_5 (by decide)
theorem it_90_8 (Ls : Nat) (xs : Nat → Int32) : xPI Ls xs md_90 8 (.inl (xs_c (0) 9)) := by
  exact xs_iconst_ok d_90_8 (by decide)
theorem it_90_9 (Ls : Nat) (xs : Nat → Int32) : xPI Ls xs md_90 9 (.inl (xs_goto 13)) := by
  exact xs_goto_ok d_90_9 (by decide)
theorem it_90_12 (Ls : Nat) (xs : Nat → Int32) : xPI Ls xs md_90 12 (.inl (xs_c (1) 13)) := by
  exact xs_iconst_ok d_90_12 (by decide)
theorem it_90_13 (Ls : Nat) (xs : Nat → Int32) : xPI Ls xs md_90 13 (.inl (xs_pf 6 0 0 16)) := by
  exact xs_pf_ok d_90_13 (C := R_6) (T := T_6) (N := N_6) (ty0 := Y_6) rfl in_6 ty_6 nm_6 (by decide) tw_787 (Or.inl rfl) rfl
theorem it_90_16 (Ls : Nat) (xs : Nat → Int32) : xPI Ls xs md_90 16 (.inl (xs_al 0 17)) := by
  exact xs_aload_n_ok d_90_16 rfl
theorem it_90_17 (Ls : Nat) (xs : Nat → Int32) : xPI Ls xs md_90 17 (.inl (xs_gf 6 0 20)) := by
  exact xs_gf_ok d_90_17 (C := R_6) (T := T_6) (N := N_6) rfl in_6 (by decide) tw_787
theorem it_90_20 (Ls : Nat) (xs : Nat → Int32) : xPI Ls xs md_90 20 (.inl (xs_if_le 24 23)) := by
  exact xs_if_le_ok d_90_20 (by decide)
theorem it_90_23 (Ls : Nat) (xs : Nat → Int32) : xPI Ls xs md_90 23 (.inr (.inr 0)) := by
  exact ⟨rfl, d_90_23⟩
theorem it_90_24 (Ls : Nat) (xs : Nat → Int32) : xPI Ls xs md_90 24 (.inl (xs_al 0 25)) := by
  exact xs_aload_n_ok d_90_24 rfl
theorem it_90_25 (Ls : Nat) (xs : Nat → Int32) : xPI Ls xs md_90 25 (.inl (xs_c (1) 26)) := by
  exact xs_iconst_ok d_90_25 (by decide)
theorem it_90_26 (Ls : Nat) (xs : Nat → Int32) : xPI Ls xs md_90 26 (.inl (xs_pf 6 23 0 29)) := by
  exact xs_pf_ok d_90_26 (C := R_6) (T := T_6) (N := N_6) (ty0 := Y_6) rfl in_6 ty_6 nm_6 (by decide) tw_810 (Or.inl rfl) rfl
theorem it_90_29 (Ls : Nat) (xs : Nat → Int32) : xPI Ls xs md_90 29 (.inl (xs_al 0 30)) := by
  exact xs_aload_n_ok d_90_29 rfl
theorem it_90_30 (Ls : Nat) (xs : Nat → Int32) : xPI Ls xs md_90 30 (.inl (xs_c (1) 31)) := by
  exact xs_iconst_ok d_90_30 (by decide)
theorem it_90_31 (Ls : Nat) (xs : Nat → Int32) : xPI Ls xs md_90 31 (.inl (xs_pf 6 24 0 34)) := by
  exact xs_pf_ok d_90_31 (C := R_6) (T := T_6) (N := N_6) (ty0 := Y_6) rfl in_6 ty_6 nm_6 (by decide) tw_811 (Or.inl rfl) rfl
theorem it_90_34 (Ls : Nat) (xs : Nat → Int32) : xPI Ls xs md_90 34 (.inl (xs_al 0 35)) := by
  exact xs_aload_n_ok d_90_34 rfl
theorem it_90_35 (Ls : Nat) (xs : Nat → Int32) : xPI Ls xs md_90 35 (.inl (xs_gf 6 25 38)) := by
  exact xs_gf_ok d_90_35 (C := R_6) (T := T_6) (N := N_6) rfl in_6 (by decide) tw_812
theorem it_90_38 (Ls : Nat) (xs : Nat → Int32) : xPI Ls xs md_90 38 (.inl (xs_c (0) 39)) := by
  exact xs_iconst_ok d_90_38 (by decide)
theorem it_90_39 (Ls : Nat) (xs : Nat → Int32) : xPI Ls xs md_90 39 (.inl (xs_c (0) 40)) := by
  exact xs_iconst_ok d_90_39 (by decide)
theorem it_90_40 (Ls : Nat) (xs : Nat → Int32) : xPI Ls xs md_90 40 (.inl (xs_ias 41)) := by
  exact xs_ias_ok d_90_40
theorem it_90_41 (Ls : Nat) (xs : Nat → Int32) : xPI Ls xs md_90 41 (.inl (xs_al 0 42)) := by
  exact xs_aload_n_ok d_90_41 rfl
theorem it_90_42 (Ls : Nat) (xs : Nat → Int32) : xPI Ls xs md_90 42 (.inl (xs_c (0) 43)) := by
  exact xs_iconst_ok d_90_42 (by decide)
theorem it_90_43 (Ls : Nat) (xs : Nat → Int32) : xPI Ls xs md_90 43 (.inl (xs_pf 6 26 0 46)) := by
  exact xs_pf_ok d_90_43 (C := R_6) (T := T_6) (N := N_6) (ty0 := Y_6) rfl in_6 ty_6 nm_6 (by decide) tw_813 (Or.inl rfl) rfl
theorem it_90_46 (Ls : Nat) (xs : Nat → Int32) : xPI Ls xs md_90 46 (.inr (.inr 0)) := by
  exact ⟨rfl, d_90_46⟩
def K_90 (Ls : Nat) (xs : Nat → Int32) : Nat → Option xK := xbt 25 (xbt 12 (xbt 5 (xbt 1 (xlf 0 (.inl (xs_al 0 1))) (xbt 2 (xlf 1 (.inl (xs_al 0 2))) (xlf 2 (.inl (xs_gf 6 15 5))))) (xbt 8 (xlf 5 (.inl (xs_if_eq 12 8))) (xbt 9 (xlf 8 (.inl (xs_c (0) 9))) (xlf 9 (.inl (xs_goto 13)))))) (xbt 17 (xbt 13 (xlf 12 (.inl (xs_c (1) 13))) (xbt 16 (xlf 13 (.inl (xs_pf 6 0 0 16))) (xlf 16 (.inl (xs_al 0 17))))) (xbt 23 (xbt 20 (xlf 17 (.inl (xs_gf 6 0 20))) (xlf 20 (.inl (xs_if_le 24 23)))) (xbt 24 (xlf 23 (.inr (.inr 0))) (xlf 24 (.inl (xs_al 0 25))))))) (xbt 38 (xbt 30 (xbt 26 (xlf 25 (.inl (xs_c (1) 26))) (xbt 29 (xlf 26 (.inl (xs_pf 6 23 0 29))) (xlf 29 (.inl (xs_al 0 30))))) (xbt 34 (xbt 31 (xlf 30 (.inl (xs_c (1) 31))) (xlf 31 (.inl (xs_pf 6 24 0 34)))) (xbt 35 (xlf 34 (.inl (xs_al 0 35))) (xlf 35 (.inl (xs_gf 6 25 38)))))) (xbt 41 (xbt 39 (xlf 38 (.inl (xs_c (0) 39))) (xbt 40 (xlf 39 (.inl (xs_c (0) 40))) (xlf 40 (.inl (xs_ias 41))))) (xbt 43 (xbt 42 (xlf 41 (.inl (xs_al 0 42))) (xlf 42 (.inl (xs_c (0) 43)))) (xbt 46 (xlf 43 (.inl (xs_pf 6 26 0 46))) (xlf 46 (.inr (.inr 0)))))))
theorem ok_90 (Ls : Nat) (xs : Nat → Int32) : ∀ pc it, K_90 Ls xs pc = some it → xPI Ls xs md_90 pc it := by
  unfold K_90
  exact xbt_ok (xbt_ok (xbt_ok (xbt_ok (xlf_ok (it_90_0 Ls xs)) (xbt_ok (xlf_ok (it_90_1 Ls xs)) (xlf_ok (it_90_2 Ls xs)))) (xbt_ok (xlf_ok (it_90_5 Ls xs)) (xbt_ok (xlf_ok (it_90_8 Ls xs)) (xlf_ok (it_90_9 Ls xs))))) (xbt_ok (xbt_ok (xlf_ok (it_90_12 Ls xs)) (xbt_ok (xlf_ok (it_90_13 Ls xs)) (xlf_ok (it_90_16 Ls xs)))) (xbt_ok (xbt_ok (xlf_ok (it_90_17 Ls xs)) (xlf_ok (it_90_20 Ls xs))) (xbt_ok (xlf_ok (it_90_23 Ls xs)) (xlf_ok (it_90_24 Ls xs)))))) (xbt_ok (xbt_ok (xbt_ok (xlf_ok (it_90_25 Ls xs)) (xbt_ok (xlf_ok (it_90_26 Ls xs)) (xlf_ok (it_90_29 Ls xs)))) (xbt_ok (xbt_ok (xlf_ok (it_90_30 Ls xs)) (xlf_ok (it_90_31 Ls xs))) (xbt_ok (xlf_ok (it_90_34 Ls xs)) (xlf_ok (it_90_35 Ls xs))))) (xbt_ok (xbt_ok (xlf_ok (it_90_38 Ls xs)) (xbt_ok (xlf_ok (it_90_39 Ls xs)) (xlf_ok (it_90_40 Ls xs)))) (xbt_ok (xbt_ok (xlf_ok (it_90_41 Ls xs)) (xlf_ok (it_90_42 Ls xs))) (xbt_ok (xlf_ok (it_90_43 Ls xs)) (xlf_ok (it_90_46 Ls xs))))))
theorem d_91_0 : decode prog_8_method_40_code 0 = .ok (.aload_n 0, 1) := by decide +kernel
theorem d_91_1 : decode prog_8_method_40_code 1 = .ok (.iload_n 1, 1) := by decide +kernel
theorem d_91_2 : decode prog_8_method_40_code 2 = .ok (.iconst (0), 1) := by decide +kernel
theorem d_91_3 : decode prog_8_method_40_code 3 = .ok (.aload_n 0, 1) := by decide +kernel
theorem d_91_4 : decode prog_8_method_40_code 4 = .ok (.getfield 61, 3) := by decide +kernel
theorem d_91_7 : decode prog_8_method_40_code 7 = .ok (.iconst (1), 1) := by decide +kernel
theorem d_91_8 : decode prog_8_method_40_code 8 = .ok (.isub, 1) := by decide +kernel
theorem d_91_9 : decode prog_8_method_40_code 9 = .ok (.invokestatic 70, 3) := by decide +kernel
theorem d_91_12 : decode prog_8_method_40_code 12 = .ok (.ifCond .eq (7), 3) := by decide +kernel
theorem d_91_15 : decode prog_8_method_40_code 15 = .ok (.iconst (1), 1) := by decide +kernel
theorem d_91_16 : decode prog_8_method_40_code 16 = .ok (.goto (25), 3) := by decide +kernel
theorem d_91_19 : decode prog_8_method_40_code 19 = .ok (.aload_n 0, 1) := by decide +kernel
theorem d_91_20 : decode prog_8_method_40_code 20 = .ok (.getfield 97, 3) := by decide +kernel
theorem d_91_23 : decode prog_8_method_40_code 23 = .ok (.iconst (1), 1) := by decide +kernel
theorem d_91_24 : decode prog_8_method_40_code 24 = .ok (.if_icmp .ne (12), 3) := by decide +kernel
theorem d_91_27 : decode prog_8_method_40_code 27 = .ok (.aload_n 0, 1) := by decide +kernel
theorem d_91_28 : decode prog_8_method_40_code 28 = .ok (.getfield 100, 3) := by decide +kernel
theorem d_91_31 : decode prog_8_method_40_code 31 = .ok (.bipush (60), 2) := by decide +kernel
theorem d_91_33 : decode prog_8_method_40_code 33 = .ok (.if_icmp .lt (7), 3) := by decide +kernel
theorem d_91_36 : decode prog_8_method_40_code 36 = .ok (.iconst (2), 1) := by decide +kernel
theorem d_91_37 : decode prog_8_method_40_code 37 = .ok (.goto (4), 3) := by decide +kernel
theorem d_91_40 : decode prog_8_method_40_code 40 = .ok (.iconst (0), 1) := by decide +kernel
theorem d_91_41 : decode prog_8_method_40_code 41 = .ok (.putfield 67, 3) := by decide +kernel
theorem d_91_44 : decode prog_8_method_40_code 44 = .ok (.aload_n 0, 1) := by decide +kernel
theorem d_91_45 : decode prog_8_method_40_code 45 = .ok (.getfield 67, 3) := by decide +kernel
theorem d_91_48 : decode prog_8_method_40_code 48 = .ok (.ifCond .le (5), 3) := by decide +kernel
theorem d_91_51 : decode prog_8_method_40_code 51 = .ok (.iconst (0), 1) := by decide +kernel
theorem d_91_52 : decode prog_8_method_40_code 52 = .ok (.ireturn, 1) := by decide +kernel
theorem d_91_53 : decode prog_8_method_40_code 53 = .ok (.aload_n 0, 1) := by decide +kernel
theorem d_91_54 : decode prog_8_method_40_code 54 = .ok (.iload_n 1, 1) := by decide +kernel
theorem d_91_58 : decode prog_8_method_40_code 58 = .ok (.istore_n 2, 1) := by decide +kernel
theorem d_91_59 : decode prog_8_method_40_code 59 = .ok (.aload_n 0, 1) := by decide +kernel
theorem d_91_60 : decode prog_8_method_40_code 60 = .ok (.iload_n 2, 1) := by decide +kernel
theorem d_91_61 : decode prog_8_method_40_code 61 = .ok (.ifCond .ne (7), 3) := by decide +kernel
theorem d_91_64 : decode prog_8_method_40_code 64 = .ok (.iconst (3), 1) := by decide +kernel
theorem d_91_65 : decode prog_8_method_40_code 65 = .ok (.goto (4), 3) := by decide +kernel
theorem d_91_68 : decode prog_8_method_40_code 68 = .ok (.iconst (1), 1) := by decide +kernel
theorem d_91_69 : decode prog_8_method_40_code 69 = .ok (.putfield 97, 3) := by decide +kernel
theorem d_91_72 : decode prog_8_method_40_code 72 = .ok (.iload_n 2, 1) := by decide +kernel
theorem d_91_73 : decode prog_8_method_40_code 73 = .ok (.ifCond .ne (5), 3) := by decide +kernel
theorem d_91_76 : decode prog_8_method_40_code 76 = .ok (.iconst (0), 1) := by decide +kernel
theorem d_91_77 : decode prog_8_method_40_code 77 = .ok (.ireturn, 1) := by decide +kernel
theorem d_91_78 : decode prog_8_method_40_code 78 = .ok (.aload_n 0, 1) := by decide +kernel
theorem d_91_79 : decode prog_8_method_40_code 79 = .ok (.getfield 55, 3) := by decide +kernel
theorem d_91_82 : decode prog_8_method_40_code 82 = .ok (.aload_n 0, 1) := by decide +kernel
theorem d_91_83 : decode prog_8_method_40_code 83 = .ok (.getfield 100, 3) := by decide +kernel
theorem d_91_86 : decode prog_8_method_40_code 86 = .ok (.iload_n 2, 1) := by decide +kernel
theorem d_91_87 : decode prog_8_method_40_code 87 = .ok (.iconst (1), 1) := by decide +kernel
theorem d_91_88 : decode prog_8_method_40_code 88 = .ok (.isub, 1) := by decide +kernel
theorem d_91_89 : decode prog_8_method_40_code 89 = .ok (.iastore, 1) := by decide +kernel
theorem d_91_90 : decode prog_8_method_40_code 90 = .ok (.aload_n 0, 1) := by decide +kernel
theorem d_91_91 : decode prog_8_method_40_code 91 = .ok (.dup, 1) := by decide +kernel
theorem d_91_92 : decode prog_8_method_40_code 92 = .ok (.getfield 100, 3) := by decide +kernel
theorem d_91_95 : decode prog_8_method_40_code 95 = .ok (.iconst (1), 1) := by decide +kernel
theorem d_91_96 : decode prog_8_method_40_code 96 = .ok (.iadd, 1) := by decide +kernel
theorem d_91_97 : decode prog_8_method_40_code 97 = .ok (.putfield 100, 3) := by decide +kernel
theorem d_91_100 : decode prog_8_method_40_code 100 = .ok (.iconst (1), 1) := by decide +kernel
theorem d_91_101 : decode prog_8_method_40_code 101 = .ok (.ireturn, 1) := by decide +kernel
theorem it_91_0 (Ls : Nat) (xs : Nat → Int32) : xPI Ls xs md_91 0 (.inl (xs_al 0 1)) := by
  exact xs_aload_n_ok d_91_0 rfl
theorem it_91_1 (Ls : Nat) (xs : Nat → Int32) : xPI Ls xs md_91 1 (.inl (xs_il 1 2)) := by
  exact xs_iload_n_ok d_91_1 rfl
theorem it_91_2 (Ls : Nat) (xs : Nat → Int32) : xPI Ls xs md_91 2 (.inl (xs_c (0) 3)) := by
  exact xs_iconst_ok d_91_2 (by decide)
theorem it_91_3 (Ls : Nat) (xs : Nat → Int32) : xPI Ls xs md_91 3 (.inl (xs_al 0 4)) := by
  exact xs_aload_n_ok d_91_3 rfl
theorem it_91_4 (Ls : Nat) (xs : Nat → Int32) : xPI Ls xs md_91 4 (.inl (xs_gf 6 1 7)) := by
  exact xs_gf_ok d_91_4 (C := R_6) (T := T_6) (N := N_6) rfl in_6 (by decide) tw_788
theorem it_91_7 (Ls : Nat) (xs : Nat → Int32) : xPI Ls xs md_91 7 (.inl (xs_c (1) 8)) := by
  exact xs_iconst_ok d_91_7 (by decide)
theorem it_91_8 (Ls : Nat) (xs : Nat → Int32) : xPI Ls xs md_91 8 (.inl (xs_isub 9)) := by
  exact xs_isub_ok d_91_8
theorem it_91_9 (Ls : Nat) (xs : Nat → Int32) : xPI Ls xs md_91 9 (.inr (.inl (69, 3, 0, []))) := by
  exact ⟨md_69, rfl, tw_7, by decide, ⟨by decide, by decide⟩, Or.inl ⟨rfl, rfl, 70, d_91_9, tw_888, tw_889, by decide +kernel⟩⟩
theorem it_91_12 (Ls : Nat) (xs : Nat → Int32) : xPI Ls xs md_91 12 (.inl (xs_if_eq 19 15)) := by
  exact xs_if_eq_ok d_91_12 (by decide)
theorem it_91_15 (Ls : Nat) (xs : Nat → Int32) : xPI Ls xs md_91 15 (.inl (xs_c (1) 16)) := by
  exact xs_iconst_ok d_91_15 (by decide)
theorem it_91_16 (Ls : Nat) (xs : Nat → Int32) : xPI Ls xs md_91 16 (.inl (xs_goto 41)) := by
  exact xs_goto_ok d_91_16 (by decide)
theorem it_91_19 (Ls : Nat) (xs : Nat → Int32) : xPI Ls xs md_91 19 (.inl (xs_al 0 20)) := by
  exact xs_aload_n_ok d_91_19 rfl
theorem it_91_20 (Ls : Nat) (xs : Nat → Int32) : xPI Ls xs md_91 20 (.inl (xs_gf 6 23 23)) := by
  exact xs_gf_ok d_91_20 (C := R_6) (T := T_6) (N := N_6) rfl in_6 (by decide) tw_810
theorem it_91_23 (Ls : Nat) (xs : Nat → Int32) : xPI Ls xs md_91 23 (.inl (xs_c (1) 24)) := by
  exact xs_iconst_ok d_91_23 (by decide)
theorem it_91_24 (Ls : Nat) (xs : Nat → Int32) : xPI Ls xs md_91 24 (.inl (xs_ic_ne 36 27)) := by
  exact xs_ic_ne_ok d_91_24 (by decide)
theorem it_91_27 (Ls : Nat) (xs : Nat → Int32) : xPI Ls xs md_91 27 (.inl (xs_al 0 28)) := by
  exact xs_aload_n_ok d_91_27 rfl
theorem it_91_28 (Ls : Nat) (xs : Nat → Int32) : xPI Ls xs md_91 28 (.inl (xs_gf 6 24 31)) := by
  exact xs_gf_ok d_91_28 (C := R_6) (T := T_6) (N := N_6) rfl in_6 (by decide) tw_811
theorem it_91_31 (Ls : Nat) (xs : Nat → Int32) : xPI Ls xs md_91 31 (.inl (xs_c (60) 33)) := by
  exact xs_bipush_ok d_91_31 (by decide)
theorem it_91_33 (Ls : Nat) (xs : Nat → Int32) : xPI Ls xs md_91 33 (.inl (xs_ic_lt 40 36)) := by
  exact xs_ic_lt_ok d_91_33 (by decide)
theorem it_91_36 (Ls : Nat) (xs : Nat → Int32) : xPI Ls xs md_91 36 (.inl (xs_c (2) 37)) := by
  exact xs_iconst_ok d_91_36 (by decide)
theorem it_91_37 (Ls : Nat) (xs : Nat → Int32) : xPI Ls xs md_91 37 (.inl (xs_goto 41)) := by
  exact xs_goto_ok d_91_37 (by decide)
theorem it_91_40 (Ls : Nat) (xs : Nat → Int32) : xPI Ls xs md_91 40 (.inl (xs_c (0) 41)) := by
  exact xs_iconst_ok d_91_40 (by decide)
theorem it_91_41 (Ls : Nat) (xs : Nat → Int32) : xPI Ls xs md_91 41 (.inl (xs_pf 6 0 0 44)) := by
  exact xs_pf_ok d_91_41 (C := R_6) (T := T_6) (N := N_6) (ty0 := Y_6) rfl in_6 ty_6 nm_6 (by decide) tw_787 (Or.inl rfl) rfl
theorem it_91_44 (Ls : Nat) (xs : Nat → Int32) : xPI Ls xs md_91 44 (.inl (xs_al 0 45)) := by
  exact xs_aload_n_ok d_91_44 rfl
theorem it_91_45 (Ls : Nat) (xs : Nat → Int32) : xPI Ls xs md_91 45 (.inl (xs_gf 6 0 48)) := by
  exact xs_gf_ok d_91_45 (C := R_6) (T := T_6) (N := N_6) rfl in_6 (by decide) tw_787
theorem it_91_48 (Ls : Nat) (xs : Nat → Int32) : xPI Ls xs md_91 48 (.inl (xs_if_le 53 51)) := by
  exact xs_if_le_ok d_91_48 (by decide)
theorem it_91_51 (Ls : Nat) (xs : Nat → Int32) : xPI Ls xs md_91 51 (.inl (xs_c (0) 52)) := by
  exact xs_iconst_ok d_91_51 (by decide)
theorem it_91_52 (Ls : Nat) (xs : Nat → Int32) : xPI Ls xs md_91 52 (.inr (.inr 2)) := by
  exact ⟨rfl, d_91_52⟩
theorem it_91_53 (Ls : Nat) (xs : Nat → Int32) : xPI Ls xs md_91 53 (.inl (xs_al 0 54)) := by
  exact xs_aload_n_ok d_91_53 rfl
theorem it_91_54 (Ls : Nat) (xs : Nat → Int32) : xPI Ls xs md_91 54 (.inl (xs_il 1 55)) := by
  exact xs_iload_n_ok d_91_54 rfl
theorem it_91_58 (Ls : Nat) (xs : Nat → Int32) : xPI Ls xs md_91 58 (.inl (xs_is 3 2 59)) := by
  exact xs_istore_n_ok d_91_58 rfl
theorem it_91_59 (Ls : Nat) (xs : Nat → Int32) : xPI Ls xs md_91 59 (.inl (xs_al 0 60)) := by
  exact xs_aload_n_ok d_91_59 rfl
theorem it_91_60 (Ls : Nat) (xs : Nat → Int32) : xPI Ls xs md_91 60 (.inl (xs_il 2 61)) := by
  exact xs_iload_n_ok d_91_60 rfl
theorem it_91_61 (Ls : Nat) (xs : Nat → Int32) : xPI Ls xs md_91 61 (.inl (xs_if_ne 68 64)) := by
  exact xs_if_ne_ok d_91_61 (by decide)
theorem it_91_64 (Ls : Nat) (xs : Nat → Int32) : xPI Ls xs md_91 64 (.inl (xs_c (3) 65)) := by
  exact xs_iconst_ok d_91_64 (by decide)
theorem it_91_65 (Ls : Nat) (xs : Nat → Int32) : xPI Ls xs md_91 65 (.inl (xs_goto 69)) := by
  exact xs_goto_ok d_91_65 (by decide)
theorem it_91_68 (Ls : Nat) (xs : Nat → Int32) : xPI Ls xs md_91 68 (.inl (xs_c (1) 69)) := by
  exact xs_iconst_ok d_91_68 (by decide)
theorem it_91_69 (Ls : Nat) (xs : Nat → Int32) : xPI Ls xs md_91 69 (.inl (xs_pf 6 23 0 72)) := by
  exact xs_pf_ok d_91_69 (C := R_6) (T := T_6) (N := N_6) (ty0 := Y_6) rfl in_6 ty_6 nm_6 (by decide) tw_810 (Or.inl rfl) rfl
theorem it_91_72 (Ls : Nat) (xs : Nat → Int32) : xPI Ls xs md_91 72 (.inl (xs_il 2 73)) := by
  exact xs_iload_n_ok d_91_72 rfl
theorem it_91_73 (Ls : Nat) (xs : Nat → Int32) : xPI Ls xs md_91 73 (.inl (xs_if_ne 78 76)) := by
  exact xs_if_ne_ok d_91_73 (by decide)
theorem it_91_76 (Ls : Nat) (xs : Nat → Int32) : xPI Ls xs md_91 76 (.inl (xs_c (0) 77)) := by
  exact xs_iconst_ok d_91_76 (by decide)
theorem it_91_77 (Ls : Nat) (xs : Nat → Int32) : xPI Ls xs md_91 77 (.inr (.inr 2)) := by
  exact ⟨rfl, d_91_77⟩
theorem it_91_78 (Ls : Nat) (xs : Nat → Int32) : xPI Ls xs md_91 78 (.inl (xs_al 0 79)) := by
  exact xs_aload_n_ok d_91_78 rfl
theorem it_91_79 (Ls : Nat) (xs : Nat → Int32) : xPI Ls xs md_91 79 (.inl (xs_gf 6 25 82)) := by
  exact xs_gf_ok d_91_79 (C := R_6) (T := T_6) (N := N_6) rfl in_6 (by decide) tw_812
theorem it_91_82 (Ls : Nat) (xs : Nat → Int32) : xPI Ls xs md_91 82 (.inl (xs_al 0 83)) := by
  exact xs_aload_n_ok d_91_82 rfl
theorem it_91_83 (Ls : Nat) (xs : Nat → Int32) : xPI Ls xs md_91 83 (.inl (xs_gf 6 24 86)) := by
  exact xs_gf_ok d_91_83 (C := R_6) (T := T_6) (N := N_6) rfl in_6 (by decide) tw_811
theorem it_91_86 (Ls : Nat) (xs : Nat → Int32) : xPI Ls xs md_91 86 (.inl (xs_il 2 87)) := by
  exact xs_iload_n_ok d_91_86 rfl
theorem it_91_87 (Ls : Nat) (xs : Nat → Int32) : xPI Ls xs md_91 87 (.inl (xs_c (1) 88)) := by
  exact xs_iconst_ok d_91_87 (by decide)
theorem it_91_88 (Ls : Nat) (xs : Nat → Int32) : xPI Ls xs md_91 88 (.inl (xs_isub 89)) := by
  exact xs_isub_ok d_91_88
theorem it_91_89 (Ls : Nat) (xs : Nat → Int32) : xPI Ls xs md_91 89 (.inl (xs_ias 90)) := by
  exact xs_ias_ok d_91_89
theorem it_91_90 (Ls : Nat) (xs : Nat → Int32) : xPI Ls xs md_91 90 (.inl (xs_al 0 91)) := by
  exact xs_aload_n_ok d_91_90 rfl
theorem it_91_91 (Ls : Nat) (xs : Nat → Int32) : xPI Ls xs md_91 91 (.inl (xs_dup 92)) := by
  exact xs_dup_ok d_91_91
theorem it_91_92 (Ls : Nat) (xs : Nat → Int32) : xPI Ls xs md_91 92 (.inl (xs_gf 6 24 95)) := by
  exact xs_gf_ok d_91_92 (C := R_6) (T := T_6) (N := N_6) rfl in_6 (by decide) tw_811
theorem it_91_95 (Ls : Nat) (xs : Nat → Int32) : xPI Ls xs md_91 95 (.inl (xs_c (1) 96)) := by
  exact xs_iconst_ok d_91_95 (by decide)
theorem it_91_96 (Ls : Nat) (xs : Nat → Int32) : xPI Ls xs md_91 96 (.inl (xs_iadd 97)) := by
  exact xs_iadd_ok d_91_96
theorem it_91_97 (Ls : Nat) (xs : Nat → Int32) : xPI Ls xs md_91 97 (.inl (xs_pf 6 24 0 100)) := by
  exact xs_pf_ok d_91_97 (C := R_6) (T := T_6) (N := N_6) (ty0 := Y_6) rfl in_6 ty_6 nm_6 (by decide) tw_811 (Or.inl rfl) rfl
theorem it_91_100 (Ls : Nat) (xs : Nat → Int32) : xPI Ls xs md_91 100 (.inl (xs_c (1) 101)) := by
  exact xs_iconst_ok d_91_100 (by decide)
theorem it_91_101 (Ls : Nat) (xs : Nat → Int32) : xPI Ls xs md_91 101 (.inr (.inr 2)) := by
  exact ⟨rfl, d_91_101⟩
def K_91 (Ls : Nat) (xs : Nat → Int32) : Nat → Option xK := xbt 54 (xbt 24 (xbt 9 (xbt 3 (xbt 1 (xlf 0 (.inl (xs_al 0 1))) (xbt 2 (xlf 1 (.inl (xs_il 1 2))) (xlf 2 (.inl (xs_c (0) 3))))) (xbt 7 (xbt 4 (xlf 3 (.inl (xs_al 0 4))) (xlf 4 (.inl (xs_gf 6 1 7)))) (xbt 8 (xlf 7 (.inl (xs_c (1) 8))) (xlf 8 (.inl (xs_isub 9)))))) (xbt 16 (xbt 12 (xlf 9 (.inr (.inl (69, 3, 0, [])))) (xbt 15 (xlf 12 (.inl (xs_if_eq 19 15))) (xlf 15 (.inl (xs_c (1) 16))))) (xbt 20 (xbt 19 (xlf 16 (.inl (xs_goto 41))) (xlf 19 (.inl (xs_al 0 20)))) (xbt 23 (xlf 20 (.inl (xs_gf 6 23 23))) (xlf 23 (.inl (xs_c (1) 24))))))) (xbt 40 (xbt 31 (xbt 27 (xlf 24 (.inl (xs_ic_ne 36 27))) (xbt 28 (xlf 27 (.inl (xs_al 0 28))) (xlf 28 (.inl (xs_gf 6 24 31))))) (xbt 36 (xbt 33 (xlf 31 (.inl (xs_c (60) 33))) (xlf 33 (.inl (xs_ic_lt 40 36)))) (xbt 37 (xlf 36 (.inl (xs_c (2) 37))) (xlf 37 (.inl (xs_goto 41)))))) (xbt 48 (xbt 44 (xbt 41 (xlf 40 (.inl (xs_c (0) 41))) (xlf 41 (.inl (xs_pf 6 0 0 44)))) (xbt 45 (xlf 44 (.inl (xs_al 0 45))) (xlf 45 (.inl (xs_gf 6 0 48))))) (xbt 52 (xbt 51 (xlf 48 (.inl (xs_if_le 53 51))) (xlf 51 (.inl (xs_c (0) 52)))) (xbt 53 (xlf 52 (.inr (.inr 2))) (xlf 53 (.inl (xs_al 0 54)))))))) (xbt 79 (xbt 68 (xbt 60 (xbt 58 (xlf 54 (.inl (xs_il 1 55))) (xbt 59 (xlf 58 (.inl (xs_is 3 2 59))) (xlf 59 (.inl (xs_al 0 60))))) (xbt 64 (xbt 61 (xlf 60 (.inl (xs_il 2 61))) (xlf 61 (.inl (xs_if_ne 68 64)))) (xbt 65 (xlf 64 (.inl (xs_c (3) 65))) (xlf 65 (.inl (xs_goto 69)))))) (xbt 73 (xbt 69 (xlf 68 (.inl (xs_c (1) 69))) (xbt 72 (xlf 69 (.inl (xs_pf 6 23 0 72))) (xlf 72 (.inl (xs_il 2 73))))) (xbt 77 (xbt 76 (xlf 73 (.inl (xs_if_ne 78 76))) (xlf 76 (.inl (xs_c (0) 77)))) (xbt 78 (xlf 77 (.inr (.inr 2))) (xlf 78 (.inl (xs_al 0 79))))))) (xbt 90 (xbt 86 (xbt 82 (xlf 79 (.inl (xs_gf 6 25 82))) (xbt 83 (xlf 82 (.inl (xs_al 0 83))) (xlf 83 (.inl (xs_gf 6 24 86))))) (xbt 88 (xbt 87 (xlf 86 (.inl (xs_il 2 87))) (xlf 87 (.inl (xs_c (1) 88)))) (xbt 89 (xlf 88 (.inl (xs_isub 89))) (xlf 89 (.inl (xs_ias 90)))))) (xbt 96 (xbt 92 (xbt 91 (xlf 90 (.inl (xs_al 0 91))) (xlf 91 (.inl (xs_dup 92)))) (xbt 95 (xlf 92 (.inl (xs_gf 6 24 95))) (xlf 95 (.inl (xs_c (1) 96))))) (xbt 100 (xbt 97 (xlf 96 (.inl (xs_iadd 97))) (xlf 97 (.inl (xs_pf 6 24 0 100)))) (xbt 101 (xlf 100 (.inl (xs_c (1) 101))) (xlf 101 (.inr (.inr 2))))))))
theorem ok_91 (Ls : Nat) (xs : Nat → Int32) : ∀ pc it, K_91 Ls xs pc = some it → xPI Ls xs md_91 pc it := by
  unfold K_91
  exact xbt_ok (xbt_ok (xbt_ok (xbt_ok (xbt_ok (xlf_ok (it_91_0 Ls xs)) (xbt_ok (xlf_ok (it_91_1 Ls xs)) (xlf_ok (it_91_2 Ls xs)))) (xbt_ok (xbt_ok (xlf_ok (it_91_3 Ls xs)) (xlf_ok (it_91_4 Ls xs))) (xbt_ok (xlf_ok (it_91_7 Ls xs)) (xlf_ok (it_91_8 Ls xs))))) (xbt_ok (xbt_ok (xlf_ok (it_91_9 Ls xs)) (xbt_ok (xlf_ok (it_91_12 Ls xs)) (xlf_ok (it_91_15 Ls xs)))) (xbt_ok (xbt_ok (xlf_ok (it_91_16 Ls xs)) (xlf_ok (it_91_19 Ls xs))) (xbt_ok (xlf_ok (it_91_20 Ls xs)) (xlf_ok (it_91_23 Ls xs)))))) (xbt_ok (xbt_ok (xbt_ok (xlf_ok (it_91_24 Ls xs)) (xbt_ok (xlf_ok (it_91_27 Ls xs)) (xlf_ok (it_91_28 Ls xs)))) (xbt_ok (xbt_ok (xlf_ok (it_91_31 Ls xs)) (xlf_ok (it_91_33 Ls xs))) (xbt_ok (xlf_ok (it_91_36 Ls xs)) (xlf_ok (it_91_37 Ls xs))))) (xbt_ok (xbt_ok (xbt_ok (xlf_ok (it_91_40 Ls xs)) (xlf_ok (it_91_41 Ls xs))) (xbt_ok (xlf_ok (it_91_44 Ls xs)) (xlf_ok (it_91_45 Ls xs)))) (xbt_ok (xbt_ok (xlf_ok (it_91_48 Ls xs)) (xlf_ok (it_91_51 Ls xs))) (xbt_ok (xlf_ok (it_91_52 Ls xs)) (xlf_ok (it_91_53 Ls xs))))))) (xbt_ok (xbt_ok (xbt_ok (xbt_ok (xlf_ok (it_91_54 Ls xs)) (xbt_ok (xlf_ok (it_91_58 Ls xs)) (xlf_ok (it_91_59 Ls xs)))) (xbt_ok (xbt_ok (xlf_ok (it_91_60 Ls xs)) (xlf_ok (it_91_61 Ls xs))) (xbt_ok (xlf_ok (it_91_64 Ls xs)) (xlf_ok (it_91_65 Ls xs))))) (xbt_ok (xbt_ok (xlf_ok (it_91_68 Ls xs)) (xbt_ok (xlf_ok (it_91_69 Ls xs)) (xlf_ok (it_91_72 Ls xs)))) (xbt_ok (xbt_ok (xlf_ok (it_91_73 Ls xs)) (xlf_ok (it_91_76 Ls xs))) (xbt_ok (xlf_ok (it_91_77 Ls xs)) (xlf_ok (it_91_78 Ls xs)))))) (xbt_ok (xbt_ok (xbt_ok (xlf_ok (it_91_79 Ls xs)) (xbt_ok (xlf_ok (it_91_82 Ls xs)) (xlf_ok (it_91_83 Ls xs)))) (xbt_ok (xbt_ok (xlf_ok (it_91_86 Ls xs)) (xlf_ok (it_91_87 Ls xs))) (xbt_ok (xlf_ok (it_91_88 Ls xs)) (xlf_ok (it_91_89 Ls xs))))) (xbt_ok (xbt_ok (xbt_ok (xlf_ok (it_91_90 Ls xs)) (xlf_ok (it_91_91 Ls xs))) (xbt_ok (xlf_ok (it_91_92 Ls xs)) (xlf_ok (it_91_95 Ls xs)))) (xbt_ok (xbt_ok (xlf_ok (it_91_96 Ls xs)) (xlf_ok (it_91_97 Ls xs))) (xbt_ok (xlf_ok (it_91_100 Ls xs)) (xlf_ok (it_91_101 Ls xs)))))))
theorem d_92_0 : decode prog_8_method_41_code 0 = .ok (.aload_n 0, 1) := by decide +kernel
theorem d_92_1 : decode prog_8_method_41_code 1 = .ok (.aload_n 0, 1) := by decide +kernel
theorem d_92_2 : decode prog_8_method_41_code 2 = .ok (.getfield 97, 3) := by decide +kernel
theorem d_92_5 : decode prog_8_method_41_code 5 = .ok (.iconst (1), 1) := by decide +kernel
theorem d_92_6 : decode prog_8_method_41_code 6 = .ok (.if_icmp .ne (7), 3) := by decide +kernel
theorem d_92_9 : decode prog_8_method_41_code 9 = .ok (.iconst (0), 1) := by decide +kernel
theorem d_92_10 : decode prog_8_method_41_code 10 = .ok (.goto (4), 3) := by decide +kernel
theorem d_92_13 : decode prog_8_method_41_code 13 = .ok (.iconst (1), 1) := by decide +kernel
theorem d_92_14 : decode prog_8_method_41_code 14 = .ok (.putfield 67, 3) := by decide +kernel
theorem d_92_17 : decode prog_8_method_41_code 17 = .ok (.aload_n 0, 1) := by decide +kernel
theorem d_92_18 : decode prog_8_method_41_code 18 = .ok (.getfield 67, 3) := by decide +kernel
theorem d_92_21 : decode prog_8_method_41_code 21 = .ok (.ifCond .le (5), 3) := by decide +kernel
theorem d_92_24 : decode prog_8_method_41_code 24 = .ok (.iconst (0), 1) := by decide +kernel
theorem d_92_25 : decode prog_8_method_41_code 25 = .ok (.ireturn, 1) := by decide +kernel
theorem d_92_26 : decode prog_8_method_41_code 26 = .ok (.aload_n 0, 1) := by decide +kernel
theorem d_92_27 : decode prog_8_method_41_code 27 = .ok (.aload_n 0, 1) := by decide +kernel
theorem d_92_28 : decode prog_8_method_41_code 28 = .ok (.getfield 61, 3) := by decide +kernel
theorem d_92_34 : decode prog_8_method_41_code 34 = .ok (.sipush (1000), 3) := by decide +kernel
theorem d_92_37 : decode prog_8_method_41_code 37 = .ok (.if_icmp .ne (7), 3) := by decide +kernel
theorem d_92_40 : decode prog_8_method_41_code 40 = .ok (.iconst (1), 1) := by decide +kernel
theorem d_92_41 : decode prog_8_method_41_code 41 = .ok (.goto (4), 3) := by decide +kernel
theorem d_92_44 : decode prog_8_method_41_code 44 = .ok (.iconst (0), 1) := by decide +kernel
theorem d_92_45 : decode prog_8_method_41_code 45 = .ok (.istore_n 1, 1) := by decide +kernel
theorem d_92_46 : decode prog_8_method_41_code 46 = .ok (.aload_n 0, 1) := by decide +kernel
theorem d_92_47 : decode prog_8_method_41_code 47 = .ok (.iload_n 1, 1) := by decide +kernel
theorem d_92_48 : decode prog_8_method_41_code 48 = .ok (.ifCond .eq (7), 3) := by decide +kernel
theorem d_92_51 : decode prog_8_method_41_code 51 = .ok (.iconst (2), 1) := by decide +kernel
theorem d_92_52 : decode prog_8_method_41_code 52 = .ok (.goto (4), 3) := by decide +kernel
theorem d_92_55 : decode prog_8_method_41_code 55 = .ok (.iconst (3), 1) := by decide +kernel
theorem d_92_56 : decode prog_8_method_41_code 56 = .ok (.putfield 97, 3) := by decide +kernel
theorem d_92_59 : decode prog_8_method_41_code 59 = .ok (.iload_n 1, 1) := by decide +kernel
theorem d_92_60 : decode prog_8_method_41_code 60 = .ok (.ireturn, 1) := by decide +kernel
theorem it_92_0 (Ls : Nat) (xs : Nat → Int32) : xPI Ls xs md_92 0 (.inl (xs_al 0 1)) := by
  exact xs_aload_n_ok d_92_0 rfl
theorem it_92_1 (Ls : Nat) (xs : Nat → Int32) : xPI Ls xs md_92 1 (.inl (xs_al 0 2)) := by
  exact xs_aload_n_ok d_92_1 rfl
theorem it_92_2 (Ls : Nat) (xs : Nat → Int32) : xPI Ls xs md_92 2 (.inl (xs_gf 6 23 5)) := by
  exact xs_gf_ok d_92_2 (C := R_6) (T := T_6) (N := N_6) rfl in_6 (by decide) tw_810
theorem it_92_5 (Ls : Nat) (xs : Nat → Int32) : xPI Ls xs md_92 5 (.inl (xs_c (1) 6)) := by
  exact xs_iconst_ok d_92_5 (by decide)
theorem it_92_6 (Ls : Nat) (xs : Nat → Int32) : xPI Ls xs md_92 6 (.inl (xs_ic_ne 13 9)) := by
  exact xs_ic_ne_ok d_92_6 (by decide)
theorem it_92_9 (Ls : Nat) (xs : Nat → Int32) : xPI Ls xs md_92 9 (.inl (xs_c (0) 10)) := by
  exact xs_iconst_ok d_92_9 (by decide)
theorem it_92_10 (Ls : Nat) (xs : Nat → Int32) : xPI Ls xs md_92 10 (.inl (xs_goto 14)) := by
  exact xs_goto_ok d_92_10 (by decide)
theorem it_92_13 (Ls : Nat) (xs : Nat → Int32) : xPI Ls xs md_92 13 (.inl (xs_c (1) 14)) := by
  exact xs_iconst_ok d_92_13 (by decide)
theorem it_92_14 (Ls : Nat) (xs : Nat → Int32) : xPI Ls xs md_92 14 (.inl (xs_pf 6 0 0 17)) := by
  exact xs_pf_ok d_92_14 (C := R_6) (T := T_6) (N := N_6) (ty0 := Y_6) rfl in_6 ty_6 nm_6 (by decide) tw_787 (Or.inl rfl) rfl
theorem it_92_17 (Ls : Nat) (xs : Nat → Int32) : xPI Ls xs md_92 17 (.inl (xs_al 0 18)) := by
  exact xs_aload_n_ok d_92_17 rfl
theorem it_92_18 (Ls : Nat) (xs : Nat → Int32) : xPI Ls xs md_92 18 (.inl (xs_gf 6 0 21)) := by
  exact xs_gf_ok d_92_18 (C := R_6) (T := T_6) (N := N_6) rfl in_6 (by decide) tw_787
theorem it_92_21 (Ls : Nat) (xs : Nat → Int32) : xPI Ls xs md_92 21 (.inl (xs_if_le 26 24)) := by
  exact xs_if_le_ok d_92_21 (by decide)
theorem it_92_24 (Ls : Nat) (xs : Nat → Int32) : xPI Ls xs md_92 24 (.inl (xs_c (0) 25)) := by
  exact xs_iconst_ok d_92_24 (by decide)
theorem it_92_25 (Ls : Nat) (xs : Nat → Int32) : xPI Ls xs md_92 25 (.inr (.inr 2)) := by
  exact ⟨rfl, d_92_25⟩
theorem it_92_26 (Ls : Nat) (xs : Nat → Int32) : xPI Ls xs md_92 26 (.inl (xs_al 0 27)) := by
  exact xs_aload_n_ok d_92_26 rfl
theorem it_92_27 (Ls : Nat) (xs : Nat → Int32) : xPI Ls xs md_92 27 (.inl (xs_al 0 28)) := by
  exact xs_aload_n_ok d_92_27 rfl
theorem it_92_28 (Ls : Nat) (xs : Nat → Int32) : xPI Ls xs md_92 28 (.inl (xs_gf 6 1 31)) := by
  exact xs_gf_ok d_92_28 (C := R_6) (T := T_6) (N := N_6) rfl in_6 (by decide) tw_788
theorem it_92_34 (Ls : Nat) (xs : Nat → Int32) : xPI Ls xs md_92 34 (.inl (xs_c (1000) 37)) := by
  exact xs_sipush_ok d_92_34 (by decide)
theorem it_92_37 (Ls : Nat) (xs : Nat → Int32) : xPI Ls xs md_92 37 (.inl (xs_ic_ne 44 40)) := by
  exact xs_ic_ne_ok d_92_37 (by decide)
theorem it_92_40 (Ls : Nat) (xs : Nat → Int32) : xPI Ls xs md_92 40 (.inl (xs_c (1) 41)) := by
  exact xs_iconst_ok d_92_40 (by decide)
theorem it_92_41 (Ls : Nat) (xs : Nat → Int32) : xPI Ls xs md_92 41 (.inl (xs_goto 45)) := by
  exact xs_goto_ok d_92_41 (by decide)
theorem it_92_44 (Ls : Nat) (xs : Nat → Int32) : xPI Ls xs md_92 44 (.inl (xs_c (0) 45)) := by
  exact xs_iconst_ok d_92_44 (by decide)
theorem it_92_45 (Ls : Nat) (xs : Nat → Int32) : xPI Ls xs md_92 45 (.inl (xs_is 2 1 46)) := by
  exact xs_istore_n_ok d_92_45 rfl
theorem it_92_46 (Ls : Nat) (xs : Nat → Int32) : xPI Ls xs md_92 46 (.inl (xs_al 0 47)) := by
  exact xs_aload_n_ok d_92_46 rfl
theorem it_92_47 (Ls : Nat) (xs : Nat → Int32) : xPI Ls xs md_92 47 (.inl (xs_il 1 48)) := by
  exact xs_iload_n_ok d_92_47 rfl
theorem it_92_48 (Ls : Nat) (xs : Nat → Int32) : xPI Ls xs md_92 48 (.inl (xs_if_eq 55 51)) := by
  exact xs_if_eq_ok d_92_48 (by decide)
theorem it_92_51 (Ls : Nat) (xs : Nat → Int32) : xPI Ls xs md_92 51 (.inl (xs_c (2) 52)) := by
  exact xs_iconst_ok d_92_51 (by decide)
theorem it_92_52 (Ls : Nat) (xs : Nat → Int32) : xPI Ls xs md_92 52 (.inl (xs_goto 56)) := by
  exact xs_goto_ok d_92_52 (by decide)
theorem it_92_55 (Ls : Nat) (xs : Nat → Int32) : xPI Ls xs md_92 55 (.inl (xs_c (3) 56)) := by
  exact xs_iconst_ok d_92_55 (by decide)
theorem it_92_56 (Ls : Nat) (xs : Nat → Int32) : xPI Ls xs md_92 56 (.inl (xs_pf 6 23 0 59)) := by
  exact xs_pf_ok d_92_56 (C := R_6) (T := T_6) (N := N_6) (ty0 := Y_6) rfl in_6 ty_6 nm_6 (by decide) tw_810 (Or.inl rfl) rfl
theorem it_92_59 (Ls : Nat) (xs : Nat → Int32) : xPI Ls xs md_92 59 (.inl (xs_il 1 60)) := by
  exact xs_iload_n_ok d_92_59 rfl
theorem it_92_60 (Ls : Nat) (xs : Nat → Int32) : xPI Ls xs md_92 60 (.inr (.inr 2)) := by
  exact ⟨rfl, d_92_60⟩
def K_92 (Ls : Nat) (xs : Nat → Int32) : Nat → Option xK := xbt 28 (xbt 14 (xbt 6 (xbt 2 (xbt 1 (xlf 0 (.inl (xs_al 0 1))) (xlf 1 (.inl (xs_al 0 2)))) (xbt 5 (xlf 2 (.inl (xs_gf 6 23 5))) (xlf 5 (.inl (xs_c (1) 6))))) (xbt 10 (xbt 9 (xlf 6 (.inl (xs_ic_ne 13 9))) (xlf 9 (.inl (xs_c (0) 10)))) (xbt 13 (xlf 10 (.inl (xs_goto 14))) (xlf 13 (.inl (xs_c (1) 14)))))) (xbt 24 (xbt 18 (xbt 17 (xlf 14 (.inl (xs_pf 6 0 0 17))) (xlf 17 (.inl (xs_al 0 18)))) (xbt 21 (xlf 18 (.inl (xs_gf 6 0 21))) (xlf 21 (.inl (xs_if_le 26 24))))) (xbt 26 (xbt 25 (xlf 24 (.inl (xs_c (0) 25))) (xlf 25 (.inr (.inr 2)))) (xbt 27 (xlf 26 (.inl (xs_al 0 27))) (xlf 27 (.inl (xs_al 0 28))))))) (xbt 47 (xbt 41 (xbt 37 (xbt 34 (xlf 28 (.inl (xs_gf 6 1 31))) (xlf 34 (.inl (xs_c (1000) 37)))) (xbt 40 (xlf 37 (.inl (xs_ic_ne 44 40))) (xlf 40 (.inl (xs_c (1) 41))))) (xbt 45 (xbt 44 (xlf 41 (.inl (xs_goto 45))) (xlf 44 (.inl (xs_c (0) 45)))) (xbt 46 (xlf 45 (.inl (xs_is 2 1 46))) (xlf 46 (.inl (xs_al 0 47)))))) (xbt 55 (xbt 51 (xbt 48 (xlf 47 (.inl (xs_il 1 48))) (xlf 48 (.inl (xs_if_eq 55 51)))) (xbt 52 (xlf 51 (.inl (xs_c (2) 52))) (xlf 52 (.inl (xs_goto 56))))) (xbt 59 (xbt 56 (xlf 55 (.inl (xs_c (3) 56))) (xlf 56 (.inl (xs_pf 6 23 0 59)))) (xbt 60 (xlf 59 (.inl (xs_il 1 60))) (xlf 60 (.inr (.inr 2)))))))
theorem ok_92 (Ls : Nat) (xs : Nat → Int32) : ∀ pc it, K_92 Ls xs pc = some it → xPI Ls xs md_92 pc it := by
  unfold K_92
  exact xbt_ok (xbt_ok (xbt_ok (xbt_ok (xbt_ok (xlf_ok (it_92_0 Ls xs)) (xlf_ok (it_92_1 Ls xs))) (xbt_ok (xlf_ok (it_92_2 Ls xs)) (xlf_ok (it_92_5 Ls xs)))) (xbt_ok (xbt_ok (xlf_ok (it_92_6 Ls xs)) (xlf_ok (it_92_9 Ls xs))) (xbt_ok (xlf_ok (it_92_10 Ls xs)) (xlf_ok (it_92_13 Ls xs))))) (xbt_ok (xbt_ok (xbt_ok (xlf_ok (it_92_14 Ls xs)) (xlf_ok (it_92_17 Ls xs))) (xbt_ok (xlf_ok (it_92_18 Ls xs)) (xlf_ok (it_92_21 Ls xs)))) (xbt_ok (xbt_ok (xlf_ok (it_92_24 Ls xs)) (xlf_ok (it_92_25 Ls xs))) (xbt_ok (xlf_ok (it_92_26 Ls xs)) (xlf_ok (it_92_27 Ls xs)))))) (xbt_ok (xbt_ok (xbt_ok (xbt_ok (xlf_ok (it_92_28 Ls xs)) (xlf_ok (it_92_34 Ls xs))) (xbt_ok (xlf_ok (it_92_37 Ls xs)) (xlf_ok (it_92_40 Ls xs)))) (xbt_ok (xbt_ok (xlf_ok (it_92_41 Ls xs)) (xlf_ok (it_92_44 Ls xs))) (xbt_ok (xlf_ok (it_92_45 Ls xs)) (xlf_ok (it_92_46 Ls xs))))) (xbt_ok (xbt_ok (xbt_ok (xlf_ok (it_92_47 Ls xs)) (xlf_ok (it_92_48 Ls xs))) (xbt_ok (xlf_ok (it_92_51 Ls xs)) (xlf_ok (it_92_52 Ls xs)))) (xbt_ok (xbt_ok (xlf_ok (it_92_55 Ls xs)) (xlf_ok (it_92_56 Ls xs))) (xbt_ok (xlf_ok (it_92_59 Ls xs)) (xlf_ok (it_92_60 Ls xs))))))
theorem d_93_0 : decode prog_8_method_42_code 0 = .ok (.aload_n 0, 1) := by decide +kernel
theorem d_93_1 : decode prog_8_method_42_code 1 = .ok (.iconst (0), 1) := by decide +kernel
theorem d_93_2 : decode prog_8_method_42_code 2 = .ok (.putfield 67, 3) := by decide +kernel
theorem d_93_5 : decode prog_8_method_42_code 5 = .ok (.aload_n 0, 1) := by decide +kernel
theorem d_93_6 : decode prog_8_method_42_code 6 = .ok (.getfield 97, 3) := by decide +kernel
theorem d_93_9 : decode prog_8_method_42_code 9 = .ok (.ireturn, 1) := by decide +kernel
theorem it_93_0 (Ls : Nat) (xs : Nat → Int32) : xPI Ls xs md_93 0 (.inl (xs_al 0 1)) := by
  exact xs_aload_n_ok d_93_0 rfl
theorem it_93_1 (Ls : Nat) (xs : Nat → Int32) : xPI Ls xs md_93 1 (.inl (xs_c (0) 2)) := by
  exact xs_iconst_ok d_93_1 (by decide)
theorem it_93_2 (Ls : Nat) (xs : Nat → Int32) : xPI Ls xs md_93 2 (.inl (xs_pf 6 0 0 5)) := by
  exact xs_pf_ok d_93_2 (C := R_6) (T := T_6) (N := N_6) (ty0 := Y_6) rfl in_6 ty_6 nm_6 (by decide) tw_787 (Or.inl rfl) rfl
theorem it_93_5 (Ls : Nat) (xs : Nat → Int32) : xPI Ls xs md_93 5 (.inl (xs_al 0 6)) := by
  exact xs_aload_n_ok d_93_5 rfl
theorem it_93_6 (Ls : Nat) (xs : Nat → Int32) : xPI Ls xs md_93 6 (.inl (xs_gf 6 23 9)) := by
  exact xs_gf_ok d_93_6 (C := R_6) (T := T_6) (N := N_6) rfl in_6 (by decide) tw_810
theorem it_93_9 (Ls : Nat) (xs : Nat → Int32) : xPI Ls xs md_93 9 (.inr (.inr 1)) := by
  exact ⟨rfl, d_93_9⟩
def K_93 (Ls : Nat) (xs : Nat → Int32) : Nat → Option xK := xbt 5 (xbt 1 (xlf 0 (.inl (xs_al 0 1))) (xbt 2 (xlf 1 (.inl (xs_c (0) 2))) (xlf 2 (.inl (xs_pf 6 0 0 5))))) (xbt 6 (xlf 5 (.inl (xs_al 0 6))) (xbt 9 (xlf 6 (.inl (xs_gf 6 23 9))) (xlf 9 (.inr (.inr 1)))))
theorem ok_93 (Ls : Nat) (xs : Nat → Int32) : ∀ pc it, K_93 Ls xs pc = some it → xPI Ls xs md_93 pc it := by
  unfold K_93
  exact xbt_ok (xbt_ok (xlf_ok (it_93_0 Ls xs)) (xbt_ok (xlf_ok (it_93_1 Ls xs)) (xlf_ok (it_93_2 Ls xs)))) (xbt_ok (xlf_ok (it_93_5 Ls xs)) (xbt_ok (xlf_ok (it_93_6 Ls xs)) (xlf_ok (it_93_9 Ls xs))))
theorem d_94_0 : decode prog_8_method_43_code 0 = .ok (.aload_n 0, 1) := by decide +kernel
theorem d_94_1 : decode prog_8_method_43_code 1 = .ok (.iconst (0), 1) := by decide +kernel
theorem d_94_2 : decode prog_8_method_43_code 2 = .ok (.putfield 67, 3) := by decide +kernel
theorem d_94_5 : decode prog_8_method_43_code 5 = .ok (.aload_n 0, 1) := by decide +kernel
theorem d_94_6 : decode prog_8_method_43_code 6 = .ok (.getfield 100, 3) := by decide +kernel
theorem d_94_9 : decode prog_8_method_43_code 9 = .ok (.ireturn, 1) := by decide +kernel
theorem it_94_0 (Ls : Nat) (xs : Nat → Int32) : xPI Ls xs md_94 0 (.inl (xs_al 0 1)) := by
  exact xs_aload_n_ok d_94_0 rfl
theorem it_94_1 (Ls : Nat) (xs : Nat → Int32) : xPI Ls xs md_94 1 (.inl (xs_c (0) 2)) := by
  exact xs_iconst_ok d_94_1 (by decide)
theorem it_94_2 (Ls : Nat) (xs : Nat → Int32) : xPI Ls xs md_94 2 (.inl (xs_pf 6 0 0 5)) := by
  exact xs_pf_ok d_94_2 (C := R_6) (T := T_6) (N := N_6) (ty0 := Y_6) rfl in_6 ty_6 nm_6 (by decide) tw_787 (Or.inl rfl) rfl
theorem it_94_5 (Ls : Nat) (xs : Nat → Int32) : xPI Ls xs md_94 5 (.inl (xs_al 0 6)) := by
  exact xs_aload_n_ok d_94_5 rfl
theorem it_94_6 (Ls : Nat) (xs : Nat → Int32) : xPI Ls xs md_94 6 (.inl (xs_gf 6 24 9)) := by
  exact xs_gf_ok d_94_6 (C := R_6) (T := T_6) (N := N_6) rfl in_6 (by decide) tw_811
theorem it_94_9 (Ls : Nat) (xs : Nat → Int32) : xPI Ls xs md_94 9 (.inr (.inr 1)) := by
  exact ⟨rfl, d_94_9⟩
def K_94 (Ls : Nat) (xs : Nat → Int32) : Nat → Option xK := xbt 5 (xbt 1 (xlf 0 (.inl (xs_al 0 1))) (xbt 2 (xlf 1 (.inl (xs_c (0) 2))) (xlf 2 (.inl (xs_pf 6 0 0 5))))) (xbt 6 (xlf 5 (.inl (xs_al 0 6))) (xbt 9 (xlf 6 (.inl (xs_gf 6 24 9))) (xlf 9 (.inr (.inr 1)))))
theorem ok_94 (Ls : Nat) (xs : Nat → Int32) : ∀ pc it, K_94 Ls xs pc = some it → xPI Ls xs md_94 pc it := by
  unfold K_94
  exact xbt_ok (xbt_ok (xlf_ok (it_94_0 Ls xs)) (xbt_ok (xlf_ok (it_94_1 Ls xs)) (xlf_ok (it_94_2 Ls xs)))) (xbt_ok (xlf_ok (it_94_5 Ls xs)) (xbt_ok (xlf_ok (it_94_6 Ls xs)) (xlf_ok (it_94_9 Ls xs))))
theorem d_95_0 : decode prog_8_method_44_code 0 = .ok (.aload_n 0, 1) := by decide +kernel
theorem d_95_1 : decode prog_8_method_44_code 1 = .ok (.iconst (0), 1) := by decide +kernel
theorem d_95_2 : decode prog_8_method_44_code 2 = .ok (.putfield 67, 3) := by decide +kernel
theorem d_95_5 : decode prog_8_method_44_code 5 = .ok (.aload_n 0, 1) := by decide +kernel
theorem d_95_6 : decode prog_8_method_44_code 6 = .ok (.getfield 103, 3) := by decide +kernel
theorem d_95_9 : decode prog_8_method_44_code 9 = .ok (.ireturn, 1) := by decide +kernel
theorem it_95_0 (Ls : Nat) (xs : Nat → Int32) : xPI Ls xs md_95 0 (.inl (xs_al 0 1)) := by
  exact xs_aload_n_ok d_95_0 rfl
theorem it_95_1 (Ls : Nat) (xs : Nat → Int32) : xPI Ls xs md_95 1 (.inl (xs_c (0) 2)) := by
  exact xs_iconst_ok d_95_1 (by decide)
theorem it_95_2 (Ls : Nat) (xs : Nat → Int32) : xPI Ls xs md_95 2 (.inl (xs_pf 6 0 0 5)) := by
  exact xs_pf_ok d_95_2 (C := R_6) (T := T_6) (N := N_6) (ty0 := Y_6) rfl in_6 ty_6 nm_6 (by decide) tw_787 (Or.inl rfl) rfl
theorem it_95_5 (Ls : Nat) (xs : Nat → Int32) : xPI Ls xs md_95 5 (.inl (xs_al 0 6)) := by
  exact xs_aload_n_ok d_95_5 rfl
theorem it_95_6 (Ls : Nat) (xs : Nat → Int32) : xPI Ls xs md_95 6 (.inl (xs_gf 6 26 9)) := by
  exact xs_gf_ok d_95_6 (C := R_6) (T := T_6) (N := N_6) rfl in_6 (by decide) tw_813
theorem it_95_9 (Ls : Nat) (xs : Nat → Int32) : xPI Ls xs md_95 9 (.inr (.inr 1)) := by
  exact ⟨rfl, d_95_9⟩
def K_95 (Ls : Nat) (xs : Nat → Int32) : Nat → Option xK := xbt 5 (xbt 1 (xlf 0 (.inl (xs_al 0 1))) (xbt 2 (xlf 1 (.inl (xs_c (0) 2))) (xlf 2 (.inl (xs_pf 6 0 0 5))))) (xbt 6 (xlf 5 (.inl (xs_al 0 6))) (xbt 9 (xlf 6 (.inl (xs_gf 6 26 9))) (xlf 9 (.inr (.inr 1)))))
theorem ok_95 (Ls : Nat) (xs : Nat → Int32) : ∀ pc it, K_95 Ls xs pc = some it → xPI Ls xs md_95 pc it := by
  unfold K_95
  exact xbt_ok (xbt_ok (xlf_ok (it_95_0 Ls xs)) (xbt_ok (xlf_ok (it_95_1 Ls xs)) (xlf_ok (it_95_2 Ls xs)))) (xbt_ok (xlf_ok (it_95_5 Ls xs)) (xbt_ok (xlf_ok (it_95_6 Ls xs)) (xlf_ok (it_95_9 Ls xs))))
theorem d_96_0 : decode prog_8_method_45_code 0 = .ok (.iload_n 1, 1) := by decide +kernel
theorem d_96_1 : decode prog_8_method_45_code 1 = .ok (.iconst (0), 1) := by decide +kernel
theorem d_96_2 : decode prog_8_method_45_code 2 = .ok (.aload_n 0, 1) := by decide +kernel
theorem d_96_3 : decode prog_8_method_45_code 3 = .ok (.getfield 103, 3) := by decide +kernel
theorem d_96_6 : decode prog_8_method_45_code 6 = .ok (.iconst (1), 1) := by decide +kernel
theorem d_96_7 : decode prog_8_method_45_code 7 = .ok (.isub, 1) := by decide +kernel
theorem d_96_8 : decode prog_8_method_45_code 8 = .ok (.invokestatic 70, 3) := by decide +kernel
theorem d_96_11 : decode prog_8_method_45_code 11 = .ok (.ifCond .ne (10), 3) := by decide +kernel
theorem d_96_14 : decode prog_8_method_45_code 14 = .ok (.iload_n 1, 1) := by decide +kernel
theorem d_96_15 : decode prog_8_method_45_code 15 = .ok (.sipush (199), 3) := by decide +kernel
theorem d_96_18 : decode prog_8_method_45_code 18 = .ok (.if_icmp .le (9), 3) := by decide +kernel
theorem d_96_21 : decode prog_8_method_45_code 21 = .ok (.aload_n 0, 1) := by decide +kernel
theorem d_96_22 : decode prog_8_method_45_code 22 = .ok (.iconst (1), 1) := by decide +kernel
theorem d_96_23 : decode prog_8_method_45_code 23 = .ok (.invokevirtual 119, 3) := by decide +kernel
theorem d_96_26 : decode prog_8_method_45_code 26 = .ok (.ireturn, 1) := by decide +kernel
theorem d_96_27 : decode prog_8_method_45_code 27 = .ok (.aload_n 0, 1) := by decide +kernel
theorem d_96_28 : decode prog_8_method_45_code 28 = .ok (.iconst (0), 1) := by decide +kernel
theorem d_96_29 : decode prog_8_method_45_code 29 = .ok (.putfield 67, 3) := by decide +kernel
theorem d_96_32 : decode prog_8_method_45_code 32 = .ok (.aload_n 0, 1) := by decide +kernel
theorem d_96_33 : decode prog_8_method_45_code 33 = .ok (.getfield 58, 3) := by decide +kernel
theorem d_96_36 : decode prog_8_method_45_code 36 = .ok (.iload_n 1, 1) := by decide +kernel
theorem d_96_37 : decode prog_8_method_45_code 37 = .ok (.iaload, 1) := by decide +kernel
theorem d_96_38 : decode prog_8_method_45_code 38 = .ok (.ireturn, 1) := by decide +kernel
theorem it_96_0 (Ls : Nat) (xs : Nat → Int32) : xPI Ls xs md_96 0 (.inl (xs_il 1 1)) := by
  exact xs_iload_n_ok d_96_0 rfl
theorem it_96_1 (Ls : Nat) (xs : Nat → Int32) : xPI Ls xs md_96 1 (.inl (xs_c (0) 2)) := by
  exact xs_iconst_ok d_96_1 (by decide)
theorem it_96_2 (Ls : Nat) (xs : Nat → Int32) : xPI Ls xs md_96 2 (.inl (xs_al 0 3)) := by
  exact xs_aload_n_ok d_96_2 rfl
theorem it_96_3 (Ls : Nat) (xs : Nat → Int32) : xPI Ls xs md_96 3 (.inl (xs_gf 6 26 6)) := by
  exact xs_gf_ok d_96_3 (C := R_6) (T := T_6) (N := N_6) rfl in_6 (by decide) tw_813
theorem it_96_6 (Ls : Nat) (xs : Nat → Int32) : xPI Ls xs md_96 6 (.inl (xs_c (1) 7)) := by
  exact xs_iconst_ok d_96_6 (by decide)
theorem it_96_7 (Ls : Nat) (xs : Nat → Int32) : xPI Ls xs md_96 7 (.inl (xs_isub 8)) := by
  exact xs_isub_ok d_96_7
theorem it_96_8 (Ls : Nat) (xs : Nat → Int32) : xPI Ls xs md_96 8 (.inr (.inl (69, 3, 0, []))) := by
  exact ⟨md_69, rfl, tw_7, by decide, ⟨by decide, by decide⟩, Or.inl ⟨rfl, rfl, 70, d_96_8, tw_888, tw_889, by decide +kernel⟩⟩
theorem it_96_11 (Ls : Nat) (xs : Nat → Int32) : xPI Ls xs md_96 11 (.inl (xs_if_ne 21 14)) := by
  exact xs_if_ne_ok d_96_11 (by decide)
theorem it_96_14 (Ls : Nat) (xs : Nat → Int32) : xPI Ls xs md_96 14 (.inl (xs_il 1 15)) := by
  exact xs_iload_n_ok d_96_14 rfl
theorem it_96_15 (Ls : Nat) (xs : Nat → Int32) : xPI Ls xs md_96 15 (.inl (xs_c (199) 18)) := by
  exact xs_sipush_ok d_96_15 (by decide)
theorem it_96_18 (Ls : Nat) (xs : Nat → Int32) : xPI Ls xs md_96 18 (.inl (xs_ic_le 27 21)) := by
  exact xs_ic_le_ok d_96_18 (by decide)
theorem it_96_21 (Ls : Nat) (xs : Nat → Int32) : xPI Ls xs md_96 21 (.inl (xs_al 0 22)) := by
  exact xs_aload_n_ok d_96_21 rfl
theorem it_96_22 (Ls : Nat) (xs : Nat → Int32) : xPI Ls xs md_96 22 (.inl (xs_c (1) 23)) := by
  exact xs_iconst_ok d_96_22 (by decide)
theorem it_96_23 (Ls : Nat) (xs : Nat → Int32) : xPI Ls xs md_96 23 (.inr (.inl (68, 2, 8, []))) := by
  exact ⟨md_68, rfl, tw_7, by decide, ⟨by decide, by decide⟩, Or.inr (Or.inr ⟨6, R_6, T_6, N_6, 119, 1, rfl, rfl, rfl, rfl, d_96_23, tw_932, tw_934, ts_TableMakerModel_refuse, by decide +kernel, (fun x q h => by cases h)⟩)⟩
theorem it_96_26 (Ls : Nat) (xs : Nat → Int32) : xPI Ls xs md_96 26 (.inr (.inr 1)) := by
  exact ⟨rfl, d_96_26⟩
theorem it_96_27 (Ls : Nat) (xs : Nat → Int32) : xPI Ls xs md_96 27 (.inl (xs_al 0 28)) := by
  exact xs_aload_n_ok d_96_27 rfl
theorem it_96_28 (Ls : Nat) (xs : Nat → Int32) : xPI Ls xs md_96 28 (.inl (xs_c (0) 29)) := by
  exact xs_iconst_ok d_96_28 (by decide)
theorem it_96_29 (Ls : Nat) (xs : Nat → Int32) : xPI Ls xs md_96 29 (.inl (xs_pf 6 0 0 32)) := by
  exact xs_pf_ok d_96_29 (C := R_6) (T := T_6) (N := N_6) (ty0 := Y_6) rfl in_6 ty_6 nm_6 (by decide) tw_787 (Or.inl rfl) rfl
theorem it_96_32 (Ls : Nat) (xs : Nat → Int32) : xPI Ls xs md_96 32 (.inl (xs_al 0 33)) := by
  exact xs_aload_n_ok d_96_32 rfl
theorem it_96_33 (Ls : Nat) (xs : Nat → Int32) : xPI Ls xs md_96 33 (.inl (xs_gf 6 27 36)) := by
  exact xs_gf_ok d_96_33 (C := R_6) (T := T_6) (N := N_6) rfl in_6 (by decide) tw_814
theorem it_96_36 (Ls : Nat) (xs : Nat → Int32) : xPI Ls xs md_96 36 (.inl (xs_il 1 37)) := by
  exact xs_iload_n_ok d_96_36 rfl
theorem it_96_37 (Ls : Nat) (xs : Nat → Int32) : xPI Ls xs md_96 37 (.inl (xs_ia Ls xs 38)) := by
  exact xs_ia_ok d_96_37
theorem it_96_38 (Ls : Nat) (xs : Nat → Int32) : xPI Ls xs md_96 38 (.inr (.inr 1)) := by
  exact ⟨rfl, d_96_38⟩
def K_96 (Ls : Nat) (xs : Nat → Int32) : Nat → Option xK := xbt 21 (xbt 7 (xbt 2 (xbt 1 (xlf 0 (.inl (xs_il 1 1))) (xlf 1 (.inl (xs_c (0) 2)))) (xbt 3 (xlf 2 (.inl (xs_al 0 3))) (xbt 6 (xlf 3 (.inl (xs_gf 6 26 6))) (xlf 6 (.inl (xs_c (1) 7)))))) (xbt 14 (xbt 8 (xlf 7 (.inl (xs_isub 8))) (xbt 11 (xlf 8 (.inr (.inl (69, 3, 0, [])))) (xlf 11 (.inl (xs_if_ne 21 14))))) (xbt 15 (xlf 14 (.inl (xs_il 1 15))) (xbt 18 (xlf 15 (.inl (xs_c (199) 18))) (xlf 18 (.inl (xs_ic_le 27 21))))))) (xbt 29 (xbt 26 (xbt 22 (xlf 21 (.inl (xs_al 0 22))) (xbt 23 (xlf 22 (.inl (xs_c (1) 23))) (xlf 23 (.inr (.inl (68, 2, 8, [])))))) (xbt 27 (xlf 26 (.inr (.inr 1))) (xbt 28 (xlf 27 (.inl (xs_al 0 28))) (xlf 28 (.inl (xs_c (0) 29)))))) (xbt 36 (xbt 32 (xlf 29 (.inl (xs_pf 6 0 0 32))) (xbt 33 (xlf 32 (.inl (xs_al 0 33))) (xlf 33 (.inl (xs_gf 6 27 36))))) (xbt 37 (xlf 36 (.inl (xs_il 1 37))) (xbt 38 (xlf 37 (.inl (xs_ia Ls xs 38))) (xlf 38 (.inr (.inr 1)))))))
theorem ok_96 (Ls : Nat) (xs : Nat → Int32) : ∀ pc it, K_96 Ls xs pc = some it → xPI Ls xs md_96 pc it := by
  unfold K_96
  exact xbt_ok (xbt_ok (xbt_ok (xbt_ok (xlf_ok (it_96_0 Ls xs)) (xlf_ok (it_96_1 Ls xs))) (xbt_ok (xlf_ok (it_96_2 Ls xs)) (xbt_ok (xlf_ok (it_96_3 Ls xs)) (xlf_ok (it_96_6 Ls xs))))) (xbt_ok (xbt_ok (xlf_ok (it_96_7 Ls xs)) (xbt_ok (xlf_ok (it_96_8 Ls xs)) (xlf_ok (it_96_11 Ls xs)))) (xbt_ok (xlf_ok (it_96_14 Ls xs)) (xbt_ok (xlf_ok (it_96_15 Ls xs)) (xlf_ok (it_96_18 Ls xs)))))) (xbt_ok (xbt_ok (xbt_ok (xlf_ok (it_96_21 Ls xs)) (xbt_ok (xlf_ok (it_96_22 Ls xs)) (xlf_ok (it_96_23 Ls xs)))) (xbt_ok (xlf_ok (it_96_26 Ls xs)) (xbt_ok (xlf_ok (it_96_27 Ls xs)) (xlf_ok (it_96_28 Ls xs))))) (xbt_ok (xbt_ok (xlf_ok (it_96_29 Ls xs)) (xbt_ok (xlf_ok (it_96_32 Ls xs)) (xlf_ok (it_96_33 Ls xs)))) (xbt_ok (xlf_ok (it_96_36 Ls xs)) (xbt_ok (xlf_ok (it_96_37 Ls xs)) (xlf_ok (it_96_38 Ls xs))))))
theorem d_97_0 : decode prog_19_method_103_code 0 = .ok (.iconst (0), 1) := by decide +kernel
theorem d_97_1 : decode prog_19_method_103_code 1 = .ok (.istore_n 2, 1) := by decide +kernel
theorem d_97_2 : decode prog_19_method_103_code 2 = .ok (.aload_n 0, 1) := by decide +kernel
theorem d_97_3 : decode prog_19_method_103_code 3 = .ok (.arraylength, 1) := by decide +kernel
theorem d_97_4 : decode prog_19_method_103_code 4 = .ok (.istore_n 3, 1) := by decide +kernel
theorem d_97_5 : decode prog_19_method_103_code 5 = .ok (.iload_n 2, 1) := by decide +kernel
theorem d_97_6 : decode prog_19_method_103_code 6 = .ok (.iload_n 3, 1) := by decide +kernel
theorem d_97_7 : decode prog_19_method_103_code 7 = .ok (.if_icmp .ge (13), 3) := by decide +kernel
theorem d_97_10 : decode prog_19_method_103_code 10 = .ok (.aload_n 0, 1) := by decide +kernel
theorem d_97_11 : decode prog_19_method_103_code 11 = .ok (.iload_n 2, 1) := by decide +kernel
theorem d_97_12 : decode prog_19_method_103_code 12 = .ok (.iload_n 1, 1) := by decide +kernel
theorem d_97_13 : decode prog_19_method_103_code 13 = .ok (.iastore, 1) := by decide +kernel
theorem d_97_14 : decode prog_19_method_103_code 14 = .ok (.iinc 2 (1), 3) := by decide +kernel
theorem d_97_17 : decode prog_19_method_103_code 17 = .ok (.goto (-12), 3) := by decide +kernel
theorem d_97_20 : decode prog_19_method_103_code 20 = .ok (.return_, 1) := by decide +kernel
theorem it_97_0 (Ls : Nat) (xs : Nat → Int32) : xPI Ls xs md_97 0 (.inl (xs_c (0) 1)) := by
  exact xs_iconst_ok d_97_0 (by decide)
theorem it_97_1 (Ls : Nat) (xs : Nat → Int32) : xPI Ls xs md_97 1 (.inl (xs_is 4 2 2)) := by
  exact xs_istore_n_ok d_97_1 rfl
theorem it_97_2 (Ls : Nat) (xs : Nat → Int32) : xPI Ls xs md_97 2 (.inl (xs_al 0 3)) := by
  exact xs_aload_n_ok d_97_2 rfl
theorem it_97_3 (Ls : Nat) (xs : Nat → Int32) : xPI Ls xs md_97 3 (.inl (xs_len Ls 4)) := by
  exact xs_len_ok d_97_3
theorem it_97_4 (Ls : Nat) (xs : Nat → Int32) : xPI Ls xs md_97 4 (.inl (xs_is 4 3 5)) := by
  exact xs_istore_n_ok d_97_4 rfl
theorem it_97_5 (Ls : Nat) (xs : Nat → Int32) : xPI Ls xs md_97 5 (.inl (xs_il 2 6)) := by
  exact xs_iload_n_ok d_97_5 rfl
theorem it_97_6 (Ls : Nat) (xs : Nat → Int32) : xPI Ls xs md_97 6 (.inl (xs_il 3 7)) := by
  exact xs_iload_n_ok d_97_6 rfl
theorem it_97_7 (Ls : Nat) (xs : Nat → Int32) : xPI Ls xs md_97 7 (.inl (xs_ic_ge 20 10)) := by
  exact xs_ic_ge_ok d_97_7 (by decide)
theorem it_97_10 (Ls : Nat) (xs : Nat → Int32) : xPI Ls xs md_97 10 (.inl (xs_al 0 11)) := by
  exact xs_aload_n_ok d_97_10 rfl
theorem it_97_11 (Ls : Nat) (xs : Nat → Int32) : xPI Ls xs md_97 11 (.inl (xs_il 2 12)) := by
  exact xs_iload_n_ok d_97_11 rfl
theorem it_97_12 (Ls : Nat) (xs : Nat → Int32) : xPI Ls xs md_97 12 (.inl (xs_il 1 13)) := by
  exact xs_iload_n_ok d_97_12 rfl
theorem it_97_13 (Ls : Nat) (xs : Nat → Int32) : xPI Ls xs md_97 13 (.inl (xs_ias 14)) := by
  exact xs_ias_ok d_97_13
theorem it_97_14 (Ls : Nat) (xs : Nat → Int32) : xPI Ls xs md_97 14 (.inl (xs_inc 4 2 (1) 17)) := by
  exact xs_iinc_ok d_97_14 (by decide)
theorem it_97_17 (Ls : Nat) (xs : Nat → Int32) : xPI Ls xs md_97 17 (.inl (xs_goto 5)) := by
  exact xs_goto_ok d_97_17 (by decide)
theorem it_97_20 (Ls : Nat) (xs : Nat → Int32) : xPI Ls xs md_97 20 (.inr (.inr 0)) := by
  exact ⟨rfl, d_97_20⟩
def K_97 (Ls : Nat) (xs : Nat → Int32) : Nat → Option xK := xbt 7 (xbt 3 (xbt 1 (xlf 0 (.inl (xs_c (0) 1))) (xbt 2 (xlf 1 (.inl (xs_is 4 2 2))) (xlf 2 (.inl (xs_al 0 3))))) (xbt 5 (xbt 4 (xlf 3 (.inl (xs_len Ls 4))) (xlf 4 (.inl (xs_is 4 3 5)))) (xbt 6 (xlf 5 (.inl (xs_il 2 6))) (xlf 6 (.inl (xs_il 3 7)))))) (xbt 13 (xbt 11 (xbt 10 (xlf 7 (.inl (xs_ic_ge 20 10))) (xlf 10 (.inl (xs_al 0 11)))) (xbt 12 (xlf 11 (.inl (xs_il 2 12))) (xlf 12 (.inl (xs_il 1 13))))) (xbt 17 (xbt 14 (xlf 13 (.inl (xs_ias 14))) (xlf 14 (.inl (xs_inc 4 2 (1) 17)))) (xbt 20 (xlf 17 (.inl (xs_goto 5))) (xlf 20 (.inr (.inr 0))))))
theorem ok_97 (Ls : Nat) (xs : Nat → Int32) : ∀ pc it, K_97 Ls xs pc = some it → xPI Ls xs md_97 pc it := by
  unfold K_97
  exact xbt_ok (xbt_ok (xbt_ok (xlf_ok (it_97_0 Ls xs)) (xbt_ok (xlf_ok (it_97_1 Ls xs)) (xlf_ok (it_97_2 Ls xs)))) (xbt_ok (xbt_ok (xlf_ok (it_97_3 Ls xs)) (xlf_ok (it_97_4 Ls xs))) (xbt_ok (xlf_ok (it_97_5 Ls xs)) (xlf_ok (it_97_6 Ls xs))))) (xbt_ok (xbt_ok (xbt_ok (xlf_ok (it_97_7 Ls xs)) (xlf_ok (it_97_10 Ls xs))) (xbt_ok (xlf_ok (it_97_11 Ls xs)) (xlf_ok (it_97_12 Ls xs)))) (xbt_ok (xbt_ok (xlf_ok (it_97_13 Ls xs)) (xlf_ok (it_97_14 Ls xs))) (xbt_ok (xlf_ok (it_97_17 Ls xs)) (xlf_ok (it_97_20 Ls xs)))))
theorem d_98_0 : decode prog_14_method_69_code 0 = .ok (.iload_n 0, 1) := by decide +kernel
theorem d_98_1 : decode prog_14_method_69_code 1 = .ok (.iload_n 1, 1) := by decide +kernel
theorem d_98_2 : decode prog_14_method_69_code 2 = .ok (.if_icmp .gt (7), 3) := by decide +kernel
theorem d_98_5 : decode prog_14_method_69_code 5 = .ok (.iload_n 0, 1) := by decide +kernel
theorem d_98_6 : decode prog_14_method_69_code 6 = .ok (.goto (4), 3) := by decide +kernel
theorem d_98_9 : decode prog_14_method_69_code 9 = .ok (.iload_n 1, 1) := by decide +kernel
theorem d_98_10 : decode prog_14_method_69_code 10 = .ok (.ireturn, 1) := by decide +kernel
theorem it_98_0 (Ls : Nat) (xs : Nat → Int32) : xPI Ls xs md_98 0 (.inl (xs_il 0 1)) := by
  exact xs_iload_n_ok d_98_0 rfl
theorem it_98_1 (Ls : Nat) (xs : Nat → Int32) : xPI Ls xs md_98 1 (.inl (xs_il 1 2)) := by
  exact xs_iload_n_ok d_98_1 rfl
theorem it_98_2 (Ls : Nat) (xs : Nat → Int32) : xPI Ls xs md_98 2 (.inl (xs_ic_gt 9 5)) := by
  exact xs_ic_gt_ok d_98_2 (by decide)
theorem it_98_5 (Ls : Nat) (xs : Nat → Int32) : xPI Ls xs md_98 5 (.inl (xs_il 0 6)) := by
  exact xs_iload_n_ok d_98_5 rfl
theorem it_98_6 (Ls : Nat) (xs : Nat → Int32) : xPI Ls xs md_98 6 (.inl (xs_goto 10)) := by
  exact xs_goto_ok d_98_6 (by decide)
theorem it_98_9 (Ls : Nat) (xs : Nat → Int32) : xPI Ls xs md_98 9 (.inl (xs_il 1 10)) := by
  exact xs_iload_n_ok d_98_9 rfl
theorem it_98_10 (Ls : Nat) (xs : Nat → Int32) : xPI Ls xs md_98 10 (.inr (.inr 1)) := by
  exact ⟨rfl, d_98_10⟩
def K_98 (Ls : Nat) (xs : Nat → Int32) : Nat → Option xK := xbt 5 (xbt 1 (xlf 0 (.inl (xs_il 0 1))) (xbt 2 (xlf 1 (.inl (xs_il 1 2))) (xlf 2 (.inl (xs_ic_gt 9 5))))) (xbt 9 (xbt 6 (xlf 5 (.inl (xs_il 0 6))) (xlf 6 (.inl (xs_goto 10)))) (xbt 10 (xlf 9 (.inl (xs_il 1 10))) (xlf 10 (.inr (.inr 1)))))
theorem ok_98 (Ls : Nat) (xs : Nat → Int32) : ∀ pc it, K_98 Ls xs pc = some it → xPI Ls xs md_98 pc it := by
  unfold K_98
  exact xbt_ok (xbt_ok (xlf_ok (it_98_0 Ls xs)) (xbt_ok (xlf_ok (it_98_1 Ls xs)) (xlf_ok (it_98_2 Ls xs)))) (xbt_ok (xbt_ok (xlf_ok (it_98_5 Ls xs)) (xlf_ok (it_98_6 Ls xs))) (xbt_ok (xlf_ok (it_98_9 Ls xs)) (xlf_ok (it_98_10 Ls xs))))
