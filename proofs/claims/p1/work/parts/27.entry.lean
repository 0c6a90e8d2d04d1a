/-! What holds at the law's entry. -/
section ENT
variable {s : State} {b : Nat}
theorem x_arr {A : Array Value} {ty : FieldType} (h : (Cond.arrayClass ty).before A s = true) : ∃ cA, ArrOfT s cA ty ∧ s.vm.findClass ("[" ++ ty.toString) = some cA := by
  obtain ⟨cA, kA, comp, h1, h2, h3⟩ := Cond.arrayClass_spec h
  exact ⟨cA, fun n z => ⟨fun k h => (by cases h), kA, h2, comp, h3⟩, h1⟩
theorem x_arrA {A : Array Value} {ty : FieldType} (h : (Cond.arrayOver (.array ty)).before A s = true) : ∃ cA, ArrOfT s cA (.array ty) ∧ s.vm.findClass ("[" ++ (FieldType.array ty).toString) = some cA := by
  obtain ⟨comp, cA, kA, h1, h2, h3, h4⟩ := Cond.arrayOver_specA h
  exact ⟨cA, fun n z => ⟨fun k h => (by cases h), kA, h2, comp, h3⟩, h4⟩
theorem x_known {A : Array Value} (hT : ∀ w ∈ xTs, w.before A s = true) (hao : (Cond.arrayOver (.array .int)).before A s = true) : ∃ (D : va_G) (ca : Nat → ClassId), va_K D vwC [(ca 0, .int), (ca 1, .boolean), (ca 2, .long), (ca 3, .array .int)] s := by
  obtain ⟨c0, i0, k0⟩ := u_known (T := T_0) (N := N_0) hT in_0 (hT (.instantiable "TableMaker" 5) (xTs_in (List.mem_of_getElem? (i := 20) (by decide +kernel)) (by decide +kernel)))
  obtain ⟨c1, i1, k1⟩ := u_known (T := T_1) (N := N_1) hT in_1 (hT (.instantiable "TableMaker$Grammar" 8) (xTs_in (List.mem_of_getElem? (i := 28) (by decide +kernel)) (by decide +kernel)))
  obtain ⟨c2, i2, k2⟩ := u_known (T := T_2) (N := N_2) hT in_2 (hT (.instantiable "TableMaker$Places" 7) (xTs_in (List.mem_of_getElem? (i := 67) (by decide +kernel)) (by decide +kernel)))
  obtain ⟨c3, i3, k3⟩ := u_known (T := T_3) (N := N_3) hT in_3 (hT (.instantiable "TableMaker$States" 5) (xTs_in (List.mem_of_getElem? (i := 61) (by decide +kernel)) (by decide +kernel)))
  obtain ⟨c4, i4, k4⟩ := u_known (T := T_4) (N := N_4) hT in_4 (hT (.instantiable "TableMaker$Actions" 5) (xTs_in (List.mem_of_getElem? (i := 117) (by decide +kernel)) (by decide +kernel)))
  obtain ⟨c5, i5, k5⟩ := u_known (T := T_5) (N := N_5) hT in_5 (hT (.instantiable "TableMaker$Driver" 9) (xTs_in (List.mem_of_getElem? (i := 144) (by decide +kernel)) (by decide +kernel)))
  obtain ⟨c6, i6, k6⟩ := u_known (T := T_6) (N := N_6) hT in_6 (hT (.instantiable "TableMakerModel" 29) (xTs_in (List.mem_of_getElem? (i := 782) (by decide +kernel)) (by decide +kernel)))
  obtain ⟨a0, r0, n0⟩ := x_arr (hT (.arrayClass .int) (xTs_in (List.mem_of_getElem? (i := 58) (by decide +kernel)) (by decide +kernel)))
  obtain ⟨a1, r1, n1⟩ := x_arr (hT (.arrayClass .boolean) (xTs_in (List.mem_of_getElem? (i := 59) (by decide +kernel)) (by decide +kernel)))
  obtain ⟨a2, r2, n2⟩ := x_arr (hT (.arrayClass .long) (xTs_in (List.mem_of_getElem? (i := 875) (by decide +kernel)) (by decide +kernel)))
  obtain ⟨a3, r3, n3⟩ := x_arrA hao
  refine ⟨(fun c => [c0, c1, c2, c3, c4, c5, c6].getD c c0, fun c => [i0, i1, i2, i3, i4, i5, i6].getD c i0), fun k => [a0, a1, a2, a3].getD k a0, fun c q hq => ?_, fun k q hq => ?_⟩
  · match c, hq with
    | 0, hq => cases hq; exact k0
    | 1, hq => cases hq; exact k1
    | 2, hq => cases hq; exact k2
    | 3, hq => cases hq; exact k3
    | 4, hq => cases hq; exact k4
    | 5, hq => cases hq; exact k5
    | 6, hq => cases hq; exact k6
    | _ + 7, hq => cases hq
  · match k, hq with
    | 0, hq => cases hq; exact ⟨r0, n0⟩
    | 1, hq => cases hq; exact ⟨r1, n1⟩
    | 2, hq => cases hq; exact ⟨r2, n2⟩
    | 3, hq => cases hq; exact ⟨r3, n3⟩
    | _ + 4, hq => cases hq
theorem x_str_55 {A : Array Value} (hT : ∀ w ∈ tables_1, w.before A s = true) (hN : (Jvm.Cond.and given_1 narrow_1).before A s = true) : ∃ a, vk_R "TableMaker" 55 "no nonterminal" a s := by
  obtain ⟨a, _, _, _, h, -⟩ := Cond.exactly_spec (flat_of_before _ hN (.exactly (.string "TableMaker" 55) "java/lang/String") (by decide +kernel))
  exact ⟨a, vk_R.of (hT _ (List.mem_of_getElem? (i := 316) (by decide +kernel))) h⟩
theorem x_str_66 {A : Array Value} (hT : ∀ w ∈ tables_1, w.before A s = true) (hN : (Jvm.Cond.and given_1 narrow_1).before A s = true) : ∃ a, vk_R "TableMaker" 66 "there is a table, or no room" a s := by
  obtain ⟨a, _, _, _, h, -⟩ := Cond.exactly_spec (flat_of_before _ hN (.exactly (.string "TableMaker" 66) "java/lang/String") (by decide +kernel))
  exact ⟨a, vk_R.of (hT _ (List.mem_of_getElem? (i := 356) (by decide +kernel))) h⟩
theorem x_str_79 {A : Array Value} (hT : ∀ w ∈ tables_1, w.before A s = true) (hN : (Jvm.Cond.and given_1 narrow_1).before A s = true) : ∃ a, vk_R "TableMaker" 79 "no symbol" a s := by
  obtain ⟨a, _, _, _, h, -⟩ := Cond.exactly_spec (flat_of_before _ hN (.exactly (.string "TableMaker" 79) "java/lang/String") (by decide +kernel))
  exact ⟨a, vk_R.of (hT _ (List.mem_of_getElem? (i := 378) (by decide +kernel))) h⟩
theorem x_str_84 {A : Array Value} (hT : ∀ w ∈ tables_1, w.before A s = true) (hN : (Jvm.Cond.and given_1 narrow_1).before A s = true) : ∃ a, vk_R "TableMaker" 84 "there is a table, no production, or no room" a s := by
  obtain ⟨a, _, _, _, h, -⟩ := Cond.exactly_spec (flat_of_before _ hN (.exactly (.string "TableMaker" 84) "java/lang/String") (by decide +kernel))
  exact ⟨a, vk_R.of (hT _ (List.mem_of_getElem? (i := 383) (by decide +kernel))) h⟩
theorem x_str_99 {A : Array Value} (hT : ∀ w ∈ tables_1, w.before A s = true) (hN : (Jvm.Cond.and given_1 narrow_1).before A s = true) : ∃ a, vk_R "TableMaker" 99 "there is a table, or no production" a s := by
  obtain ⟨a, _, _, _, h, -⟩ := Cond.exactly_spec (flat_of_before _ hN (.exactly (.string "TableMaker" 99) "java/lang/String") (by decide +kernel))
  exact ⟨a, vk_R.of (hT _ (List.mem_of_getElem? (i := 401) (by decide +kernel))) h⟩
theorem x_str_132 {A : Array Value} (hT : ∀ w ∈ tables_1, w.before A s = true) (hN : (Jvm.Cond.and given_1 narrow_1).before A s = true) : ∃ a, vk_R "TableMaker" 132 "no such state" a s := by
  obtain ⟨a, _, _, _, h, -⟩ := Cond.exactly_spec (flat_of_before _ hN (.exactly (.string "TableMaker" 132) "java/lang/String") (by decide +kernel))
  exact ⟨a, vk_R.of (hT _ (List.mem_of_getElem? (i := 613) (by decide +kernel))) h⟩
theorem x_str_138 {A : Array Value} (hT : ∀ w ∈ tables_1, w.before A s = true) (hN : (Jvm.Cond.and given_1 narrow_1).before A s = true) : ∃ a, vk_R "TableMaker" 138 "no such item" a s := by
  obtain ⟨a, _, _, _, h, -⟩ := Cond.exactly_spec (flat_of_before _ hN (.exactly (.string "TableMaker" 138) "java/lang/String") (by decide +kernel))
  exact ⟨a, vk_R.of (hT _ (List.mem_of_getElem? (i := 637) (by decide +kernel))) h⟩
theorem x_str_140 {A : Array Value} (hT : ∀ w ∈ tables_1, w.before A s = true) (hN : (Jvm.Cond.and given_1 narrow_1).before A s = true) : ∃ a, vk_R "TableMaker" 140 "no such part of an item" a s := by
  obtain ⟨a, _, _, _, h, -⟩ := Cond.exactly_spec (flat_of_before _ hN (.exactly (.string "TableMaker" 140) "java/lang/String") (by decide +kernel))
  exact ⟨a, vk_R.of (hT _ (List.mem_of_getElem? (i := 638) (by decide +kernel))) h⟩
theorem x_str_149 {A : Array Value} (hT : ∀ w ∈ tables_1, w.before A s = true) (hN : (Jvm.Cond.and given_1 narrow_1).before A s = true) : ∃ a, vk_R "TableMaker" 149 "no such state or symbol" a s := by
  obtain ⟨a, _, _, _, h, -⟩ := Cond.exactly_spec (flat_of_before _ hN (.exactly (.string "TableMaker" 149) "java/lang/String") (by decide +kernel))
  exact ⟨a, vk_R.of (hT _ (List.mem_of_getElem? (i := 670) (by decide +kernel))) h⟩
theorem x_str_167 {A : Array Value} (hT : ∀ w ∈ tables_1, w.before A s = true) (hN : (Jvm.Cond.and given_1 narrow_1).before A s = true) : ∃ a, vk_R "TableMaker" 167 "no table" a s := by
  obtain ⟨a, _, _, _, h, -⟩ := Cond.exactly_spec (flat_of_before _ hN (.exactly (.string "TableMaker" 167) "java/lang/String") (by decide +kernel))
  exact ⟨a, vk_R.of (hT _ (List.mem_of_getElem? (i := 707) (by decide +kernel))) h⟩
theorem x_str_175 {A : Array Value} (hT : ∀ w ∈ tables_1, w.before A s = true) (hN : (Jvm.Cond.and given_1 narrow_1).before A s = true) : ∃ a, vk_R "TableMaker" 175 "no terminal" a s := by
  obtain ⟨a, _, _, _, h, -⟩ := Cond.exactly_spec (flat_of_before _ hN (.exactly (.string "TableMaker" 175) "java/lang/String") (by decide +kernel))
  exact ⟨a, vk_R.of (hT _ (List.mem_of_getElem? (i := 720) (by decide +kernel))) h⟩
theorem x_str_183 {A : Array Value} (hT : ∀ w ∈ tables_1, w.before A s = true) (hN : (Jvm.Cond.and given_1 narrow_1).before A s = true) : ∃ a, vk_R "TableMaker" 183 "no row goes on, or the stack is full" a s := by
  obtain ⟨a, _, _, _, h, -⟩ := Cond.exactly_spec (flat_of_before _ hN (.exactly (.string "TableMaker" 183) "java/lang/String") (by decide +kernel))
  exact ⟨a, vk_R.of (hT _ (List.mem_of_getElem? (i := 721) (by decide +kernel))) h⟩
theorem x_str_188 {A : Array Value} (hT : ∀ w ∈ tables_1, w.before A s = true) (hN : (Jvm.Cond.and given_1 narrow_1).before A s = true) : ∃ a, vk_R "TableMaker" 188 "no row goes on" a s := by
  obtain ⟨a, _, _, _, h, -⟩ := Cond.exactly_spec (flat_of_before _ hN (.exactly (.string "TableMaker" 188) "java/lang/String") (by decide +kernel))
  exact ⟨a, vk_R.of (hT _ (List.mem_of_getElem? (i := 760) (by decide +kernel))) h⟩
theorem x_str_199 {A : Array Value} (hT : ∀ w ∈ tables_1, w.before A s = true) (hN : (Jvm.Cond.and given_1 narrow_1).before A s = true) : ∃ a, vk_R "TableMaker" 199 "no such production" a s := by
  obtain ⟨a, _, _, _, h, -⟩ := Cond.exactly_spec (flat_of_before _ hN (.exactly (.string "TableMaker" 199) "java/lang/String") (by decide +kernel))
  exact ⟨a, vk_R.of (hT _ (List.mem_of_getElem? (i := 776) (by decide +kernel))) h⟩
theorem x_ex {A : Array Value} (hT : ∀ w ∈ tables_1, w.before A s = true) (hN : (Jvm.Cond.and given_1 narrow_1).before A s = true) : xEx xstrs s.heap s := by
  refine ⟨List.forall_mem_cons.mpr ⟨va_Nw.of rfl (hT _ (List.mem_of_getElem? (i := 277) (by decide +kernel))), List.forall_mem_cons.mpr ⟨va_Nw.of rfl (hT _ (List.mem_of_getElem? (i := 279) (by decide +kernel))), List.forall_mem_cons.mpr ⟨va_Nw.of rfl (hT _ (List.mem_of_getElem? (i := 281) (by decide +kernel))), fun _ h => absurd h List.not_mem_nil⟩⟩⟩, List.forall_mem_cons.mpr ⟨va_Nw.of rfl (hT _ (List.mem_of_getElem? (i := 275) (by decide +kernel))), List.forall_mem_cons.mpr ⟨va_Nw.of rfl (hT _ (List.mem_of_getElem? (i := 349) (by decide +kernel))), List.forall_mem_cons.mpr ⟨va_Nw.of rfl (hT _ (List.mem_of_getElem? (i := 606) (by decide +kernel))), fun _ h => absurd h List.not_mem_nil⟩⟩⟩, List.forall_mem_cons.mpr ⟨?_, fun _ h => absurd h List.not_mem_nil⟩, List.forall_mem_cons.mpr ⟨⟨?_, ?_⟩, List.forall_mem_cons.mpr ⟨⟨?_, ?_⟩, fun _ h => absurd h List.not_mem_nil⟩⟩, List.forall_mem_cons.mpr ⟨x_str_55 hT hN, List.forall_mem_cons.mpr ⟨x_str_66 hT hN, List.forall_mem_cons.mpr ⟨x_str_79 hT hN, List.forall_mem_cons.mpr ⟨x_str_84 hT hN, List.forall_mem_cons.mpr ⟨x_str_99 hT hN, List.forall_mem_cons.mpr ⟨x_str_132 hT hN, List.forall_mem_cons.mpr ⟨x_str_138 hT hN, List.forall_mem_cons.mpr ⟨x_str_140 hT hN, List.forall_mem_cons.mpr ⟨x_str_149 hT hN, List.forall_mem_cons.mpr ⟨x_str_167 hT hN, List.forall_mem_cons.mpr ⟨x_str_175 hT hN, List.forall_mem_cons.mpr ⟨x_str_183 hT hN, List.forall_mem_cons.mpr ⟨x_str_188 hT hN, List.forall_mem_cons.mpr ⟨x_str_199 hT hN, fun _ h => absurd h List.not_mem_nil⟩⟩⟩⟩⟩⟩⟩⟩⟩⟩⟩⟩⟩⟩⟩
  · exact flat_of_before _ hN (.not (.castable "java/lang/IllegalStateException" "java/lang/IllegalArgumentException")) (by decide +kernel)
  · exact hT (.laysStatic "java/lang/Throwable" "UNASSIGNED_STACK" "[Ljava/lang/StackTraceElement;") (List.mem_of_getElem? (i := 300) (by decide +kernel))
  · exact flat_of_before _ hN (.isRef (.static "java/lang/Throwable" "UNASSIGNED_STACK" "[Ljava/lang/StackTraceElement;")) (by decide +kernel)
  · exact hT (.laysStatic "java/lang/Throwable" "SUPPRESSED_SENTINEL" "Ljava/util/List;") (List.mem_of_getElem? (i := 302) (by decide +kernel))
  · exact flat_of_before _ hN (.isRef (.static "java/lang/Throwable" "SUPPRESSED_SENTINEL" "Ljava/util/List;")) (by decide +kernel)
end ENT
