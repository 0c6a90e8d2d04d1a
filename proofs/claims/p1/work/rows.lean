section
-- ===== PART A: goes FIRST, ahead of the names: the tables' words, and 'selects' of the private methods out of them =====
/-- a private method of a class that the tables say can be made, by its rows of tables_1 -/
def lw_okq (q : MethodName × Nat) : Prop := (q.1.cls ≠ "java/lang/invoke/MethodHandle" ∧ q.1.cls ≠ "java/lang/invoke/VarHandle") ∧ Cond.instantiable q.1.cls q.2 ∈ tables_1 ∧ Cond.privateMethod q.1 ∈ tables_1 ∧ Cond.instanceMethod q.1 ∈ tables_1
theorem lw_p0 : lw_okq (⟨"java/lang/Throwable", "fillInStackTrace", "(I)Ljava/lang/Throwable;"⟩, 6) := ⟨⟨by decide +kernel, by decide +kernel⟩, List.mem_of_getElem? (i := 314) (by decide +kernel), List.mem_of_getElem? (i := 312) (by decide +kernel), List.mem_of_getElem? (i := 313) (by decide +kernel)⟩
theorem lw_p1 : lw_okq (⟨"TableMaker$Grammar", "growEmpties", "()Z"⟩, 8) := ⟨⟨by decide +kernel, by decide +kernel⟩, List.mem_of_getElem? (i := 28) (by decide +kernel), List.mem_of_getElem? (i := 414) (by decide +kernel), List.mem_of_getElem? (i := 415) (by decide +kernel)⟩
theorem lw_p2 : lw_okq (⟨"TableMaker$Grammar", "growFirsts", "()Z"⟩, 8) := ⟨⟨by decide +kernel, by decide +kernel⟩, List.mem_of_getElem? (i := 28) (by decide +kernel), List.mem_of_getElem? (i := 435) (by decide +kernel), List.mem_of_getElem? (i := 436) (by decide +kernel)⟩
theorem lw_p3 : lw_okq (⟨"TableMaker$Places", "layProduction", "(LTableMaker$Grammar;I)V"⟩, 7) := ⟨⟨by decide +kernel, by decide +kernel⟩, List.mem_of_getElem? (i := 67) (by decide +kernel), List.mem_of_getElem? (i := 451) (by decide +kernel), List.mem_of_getElem? (i := 452) (by decide +kernel)⟩
theorem lw_p4 : lw_okq (⟨"TableMaker$States", "close", "([I)V"⟩, 5) := ⟨⟨by decide +kernel, by decide +kernel⟩, List.mem_of_getElem? (i := 61) (by decide +kernel), List.mem_of_getElem? (i := 465) (by decide +kernel), List.mem_of_getElem? (i := 466) (by decide +kernel)⟩
theorem lw_p5 : lw_okq (⟨"TableMaker$States", "addLeads", "([I)Z"⟩, 5) := ⟨⟨by decide +kernel, by decide +kernel⟩, List.mem_of_getElem? (i := 61) (by decide +kernel), List.mem_of_getElem? (i := 469) (by decide +kernel), List.mem_of_getElem? (i := 470) (by decide +kernel)⟩
theorem lw_p6 : lw_okq (⟨"TableMaker$States", "addStarts", "([III)Z"⟩, 5) := ⟨⟨by decide +kernel, by decide +kernel⟩, List.mem_of_getElem? (i := 61) (by decide +kernel), List.mem_of_getElem? (i := 486) (by decide +kernel), List.mem_of_getElem? (i := 487) (by decide +kernel)⟩
theorem lw_p7 : lw_okq (⟨"TableMaker$States", "collectGotos", "(I)Z"⟩, 5) := ⟨⟨by decide +kernel, by decide +kernel⟩, List.mem_of_getElem? (i := 61) (by decide +kernel), List.mem_of_getElem? (i := 499) (by decide +kernel), List.mem_of_getElem? (i := 500) (by decide +kernel)⟩
theorem lw_p8 : lw_okq (⟨"TableMaker$States", "stepOver", "([II[I)Z"⟩, 5) := ⟨⟨by decide +kernel, by decide +kernel⟩, List.mem_of_getElem? (i := 61) (by decide +kernel), List.mem_of_getElem? (i := 503) (by decide +kernel), List.mem_of_getElem? (i := 504) (by decide +kernel)⟩
theorem lw_p9 : lw_okq (⟨"TableMaker$States", "find", "([I)I"⟩, 5) := ⟨⟨by decide +kernel, by decide +kernel⟩, List.mem_of_getElem? (i := 61) (by decide +kernel), List.mem_of_getElem? (i := 507) (by decide +kernel), List.mem_of_getElem? (i := 508) (by decide +kernel)⟩
theorem lw_p10 : lw_okq (⟨"TableMaker$States", "isSame", "([I[I)Z"⟩, 5) := ⟨⟨by decide +kernel, by decide +kernel⟩, List.mem_of_getElem? (i := 61) (by decide +kernel), List.mem_of_getElem? (i := 511) (by decide +kernel), List.mem_of_getElem? (i := 512) (by decide +kernel)⟩
theorem lw_p11 : lw_okq (⟨"TableMaker$Actions", "decideOne", "(II)Z"⟩, 5) := ⟨⟨by decide +kernel, by decide +kernel⟩, List.mem_of_getElem? (i := 117) (by decide +kernel), List.mem_of_getElem? (i := 539) (by decide +kernel), List.mem_of_getElem? (i := 540) (by decide +kernel)⟩
theorem lw_p12 : lw_okq (⟨"TableMaker$Actions", "shiftOf", "(II)I"⟩, 5) := ⟨⟨by decide +kernel, by decide +kernel⟩, List.mem_of_getElem? (i := 117) (by decide +kernel), List.mem_of_getElem? (i := 543) (by decide +kernel), List.mem_of_getElem? (i := 544) (by decide +kernel)⟩
theorem lw_p13 : lw_okq (⟨"TableMaker", "isState", "(I)Z"⟩, 5) := ⟨⟨by decide +kernel, by decide +kernel⟩, List.mem_of_getElem? (i := 20) (by decide +kernel), List.mem_of_getElem? (i := 601) (by decide +kernel), List.mem_of_getElem? (i := 602) (by decide +kernel)⟩
theorem lw_p14 : lw_okq (⟨"TableMaker$States", "partAt", "(IIII)I"⟩, 5) := ⟨⟨by decide +kernel, by decide +kernel⟩, List.mem_of_getElem? (i := 61) (by decide +kernel), List.mem_of_getElem? (i := 644) (by decide +kernel), List.mem_of_getElem? (i := 645) (by decide +kernel)⟩
theorem lw_p15 : lw_okq (⟨"TableMaker$Driver", "settle", "(I)Z"⟩, 9) := ⟨⟨by decide +kernel, by decide +kernel⟩, List.mem_of_getElem? (i := 144) (by decide +kernel), List.mem_of_getElem? (i := 730) (by decide +kernel), List.mem_of_getElem? (i := 731) (by decide +kernel)⟩
def lw_privs_1 : List (MethodName × Nat) := [(⟨"java/lang/Throwable", "fillInStackTrace", "(I)Ljava/lang/Throwable;"⟩, 6), (⟨"TableMaker$Grammar", "growEmpties", "()Z"⟩, 8), (⟨"TableMaker$Grammar", "growFirsts", "()Z"⟩, 8), (⟨"TableMaker$Places", "layProduction", "(LTableMaker$Grammar;I)V"⟩, 7), (⟨"TableMaker$States", "close", "([I)V"⟩, 5), (⟨"TableMaker$States", "addLeads", "([I)Z"⟩, 5), (⟨"TableMaker$States", "addStarts", "([III)Z"⟩, 5), (⟨"TableMaker$States", "collectGotos", "(I)Z"⟩, 5), (⟨"TableMaker$States", "stepOver", "([II[I)Z"⟩, 5), (⟨"TableMaker$States", "find", "([I)I"⟩, 5), (⟨"TableMaker$States", "isSame", "([I[I)Z"⟩, 5), (⟨"TableMaker$Actions", "decideOne", "(II)Z"⟩, 5), (⟨"TableMaker$Actions", "shiftOf", "(II)I"⟩, 5), (⟨"TableMaker", "isState", "(I)Z"⟩, 5), (⟨"TableMaker$States", "partAt", "(IIII)I"⟩, 5), (⟨"TableMaker$Driver", "settle", "(I)Z"⟩, 9)]
theorem lw_r1 : ∀ q ∈ lw_privs_1, lw_okq q := List.forall_mem_cons.mpr ⟨lw_p0, List.forall_mem_cons.mpr ⟨lw_p1, List.forall_mem_cons.mpr ⟨lw_p2, List.forall_mem_cons.mpr ⟨lw_p3, List.forall_mem_cons.mpr ⟨lw_p4, List.forall_mem_cons.mpr ⟨lw_p5, List.forall_mem_cons.mpr ⟨lw_p6, List.forall_mem_cons.mpr ⟨lw_p7, List.forall_mem_cons.mpr ⟨lw_p8, List.forall_mem_cons.mpr ⟨lw_p9, List.forall_mem_cons.mpr ⟨lw_p10, List.forall_mem_cons.mpr ⟨lw_p11, List.forall_mem_cons.mpr ⟨lw_p12, List.forall_mem_cons.mpr ⟨lw_p13, List.forall_mem_cons.mpr ⟨lw_p14, List.forall_mem_cons.mpr ⟨lw_p15, fun _ h => absurd h List.not_mem_nil⟩⟩⟩⟩⟩⟩⟩⟩⟩⟩⟩⟩⟩⟩⟩⟩
theorem lw_p16 : lw_okq (⟨"TableMaker$Driver", "refuse", "()Z"⟩, 9) := ⟨⟨by decide +kernel, by decide +kernel⟩, List.mem_of_getElem? (i := 144) (by decide +kernel), List.mem_of_getElem? (i := 734) (by decide +kernel), List.mem_of_getElem? (i := 735) (by decide +kernel)⟩
theorem lw_p17 : lw_okq (⟨"TableMaker$Driver", "put", "(I)V"⟩, 9) := ⟨⟨by decide +kernel, by decide +kernel⟩, List.mem_of_getElem? (i := 144) (by decide +kernel), List.mem_of_getElem? (i := 738) (by decide +kernel), List.mem_of_getElem? (i := 739) (by decide +kernel)⟩
theorem lw_p18 : lw_okq (⟨"TableMaker$Driver", "reduce", "(I)Z"⟩, 9) := ⟨⟨by decide +kernel, by decide +kernel⟩, List.mem_of_getElem? (i := 144) (by decide +kernel), List.mem_of_getElem? (i := 742) (by decide +kernel), List.mem_of_getElem? (i := 743) (by decide +kernel)⟩
theorem lw_p19 : lw_okq (⟨"TableMaker$Driver", "keepUsed", "(I)V"⟩, 9) := ⟨⟨by decide +kernel, by decide +kernel⟩, List.mem_of_getElem? (i := 144) (by decide +kernel), List.mem_of_getElem? (i := 749) (by decide +kernel), List.mem_of_getElem? (i := 750) (by decide +kernel)⟩
theorem lw_p20 : lw_okq (⟨"TableMakerModel", "isNonterminal", "(I)Z"⟩, 29) := ⟨⟨by decide +kernel, by decide +kernel⟩, List.mem_of_getElem? (i := 782) (by decide +kernel), List.mem_of_getElem? (i := 885) (by decide +kernel), List.mem_of_getElem? (i := 886) (by decide +kernel)⟩
theorem lw_p21 : lw_okq (⟨"TableMakerModel", "changed", "()V"⟩, 29) := ⟨⟨by decide +kernel, by decide +kernel⟩, List.mem_of_getElem? (i := 782) (by decide +kernel), List.mem_of_getElem? (i := 892) (by decide +kernel), List.mem_of_getElem? (i := 893) (by decide +kernel)⟩
theorem lw_p22 : lw_okq (⟨"TableMakerModel", "relate", "()V"⟩, 29) := ⟨⟨by decide +kernel, by decide +kernel⟩, List.mem_of_getElem? (i := 782) (by decide +kernel), List.mem_of_getElem? (i := 896) (by decide +kernel), List.mem_of_getElem? (i := 897) (by decide +kernel)⟩
theorem lw_p23 : lw_okq (⟨"TableMakerModel", "allEmpty", "(III)Z"⟩, 29) := ⟨⟨by decide +kernel, by decide +kernel⟩, List.mem_of_getElem? (i := 782) (by decide +kernel), List.mem_of_getElem? (i := 900) (by decide +kernel), List.mem_of_getElem? (i := 901) (by decide +kernel)⟩
theorem lw_p24 : lw_okq (⟨"TableMakerModel", "beginOf", "(I)I"⟩, 29) := ⟨⟨by decide +kernel, by decide +kernel⟩, List.mem_of_getElem? (i := 782) (by decide +kernel), List.mem_of_getElem? (i := 904) (by decide +kernel), List.mem_of_getElem? (i := 905) (by decide +kernel)⟩
theorem lw_p25 : lw_okq (⟨"TableMakerModel", "isEmpty", "(I)Z"⟩, 29) := ⟨⟨by decide +kernel, by decide +kernel⟩, List.mem_of_getElem? (i := 782) (by decide +kernel), List.mem_of_getElem? (i := 908) (by decide +kernel), List.mem_of_getElem? (i := 909) (by decide +kernel)⟩
theorem lw_p26 : lw_okq (⟨"TableMakerModel", "refuse", "(I)I"⟩, 29) := ⟨⟨by decide +kernel, by decide +kernel⟩, List.mem_of_getElem? (i := 782) (by decide +kernel), List.mem_of_getElem? (i := 933) (by decide +kernel), List.mem_of_getElem? (i := 934) (by decide +kernel)⟩
theorem lw_p27 : lw_okq (⟨"TableMakerModel", "firstOf", "(I)I"⟩, 29) := ⟨⟨by decide +kernel, by decide +kernel⟩, List.mem_of_getElem? (i := 782) (by decide +kernel), List.mem_of_getElem? (i := 937) (by decide +kernel), List.mem_of_getElem? (i := 938) (by decide +kernel)⟩
theorem lw_p28 : lw_okq (⟨"TableMakerModel", "makeStates", "()Z"⟩, 29) := ⟨⟨by decide +kernel, by decide +kernel⟩, List.mem_of_getElem? (i := 782) (by decide +kernel), List.mem_of_getElem? (i := 945) (by decide +kernel), List.mem_of_getElem? (i := 946) (by decide +kernel)⟩
theorem lw_p29 : lw_okq (⟨"TableMakerModel", "layPlaces", "()V"⟩, 29) := ⟨⟨by decide +kernel, by decide +kernel⟩, List.mem_of_getElem? (i := 782) (by decide +kernel), List.mem_of_getElem? (i := 949) (by decide +kernel), List.mem_of_getElem? (i := 950) (by decide +kernel)⟩
theorem lw_p30 : lw_okq (⟨"TableMakerModel", "addPlace", "(III)V"⟩, 29) := ⟨⟨by decide +kernel, by decide +kernel⟩, List.mem_of_getElem? (i := 782) (by decide +kernel), List.mem_of_getElem? (i := 953) (by decide +kernel), List.mem_of_getElem? (i := 954) (by decide +kernel)⟩
theorem lw_p31 : lw_okq (⟨"TableMakerModel", "empty", "(I)V"⟩, 29) := ⟨⟨by decide +kernel, by decide +kernel⟩, List.mem_of_getElem? (i := 782) (by decide +kernel), List.mem_of_getElem? (i := 957) (by decide +kernel), List.mem_of_getElem? (i := 958) (by decide +kernel)⟩
def lw_privs_2 : List (MethodName × Nat) := [(⟨"TableMaker$Driver", "refuse", "()Z"⟩, 9), (⟨"TableMaker$Driver", "put", "(I)V"⟩, 9), (⟨"TableMaker$Driver", "reduce", "(I)Z"⟩, 9), (⟨"TableMaker$Driver", "keepUsed", "(I)V"⟩, 9), (⟨"TableMakerModel", "isNonterminal", "(I)Z"⟩, 29), (⟨"TableMakerModel", "changed", "()V"⟩, 29), (⟨"TableMakerModel", "relate", "()V"⟩, 29), (⟨"TableMakerModel", "allEmpty", "(III)Z"⟩, 29), (⟨"TableMakerModel", "beginOf", "(I)I"⟩, 29), (⟨"TableMakerModel", "isEmpty", "(I)Z"⟩, 29), (⟨"TableMakerModel", "refuse", "(I)I"⟩, 29), (⟨"TableMakerModel", "firstOf", "(I)I"⟩, 29), (⟨"TableMakerModel", "makeStates", "()Z"⟩, 29), (⟨"TableMakerModel", "layPlaces", "()V"⟩, 29), (⟨"TableMakerModel", "addPlace", "(III)V"⟩, 29), (⟨"TableMakerModel", "empty", "(I)V"⟩, 29)]
theorem lw_r2 : ∀ q ∈ lw_privs_2, lw_okq q := List.forall_mem_cons.mpr ⟨lw_p16, List.forall_mem_cons.mpr ⟨lw_p17, List.forall_mem_cons.mpr ⟨lw_p18, List.forall_mem_cons.mpr ⟨lw_p19, List.forall_mem_cons.mpr ⟨lw_p20, List.forall_mem_cons.mpr ⟨lw_p21, List.forall_mem_cons.mpr ⟨lw_p22, List.forall_mem_cons.mpr ⟨lw_p23, List.forall_mem_cons.mpr ⟨lw_p24, List.forall_mem_cons.mpr ⟨lw_p25, List.forall_mem_cons.mpr ⟨lw_p26, List.forall_mem_cons.mpr ⟨lw_p27, List.forall_mem_cons.mpr ⟨lw_p28, List.forall_mem_cons.mpr ⟨lw_p29, List.forall_mem_cons.mpr ⟨lw_p30, List.forall_mem_cons.mpr ⟨lw_p31, fun _ h => absurd h List.not_mem_nil⟩⟩⟩⟩⟩⟩⟩⟩⟩⟩⟩⟩⟩⟩⟩⟩
theorem lw_p32 : lw_okq (⟨"TableMakerModel", "add", "(III)V"⟩, 29) := ⟨⟨by decide +kernel, by decide +kernel⟩, List.mem_of_getElem? (i := 782) (by decide +kernel), List.mem_of_getElem? (i := 961) (by decide +kernel), List.mem_of_getElem? (i := 962) (by decide +kernel)⟩
theorem lw_p33 : lw_okq (⟨"TableMakerModel", "has", "(III)Z"⟩, 29) := ⟨⟨by decide +kernel, by decide +kernel⟩, List.mem_of_getElem? (i := 782) (by decide +kernel), List.mem_of_getElem? (i := 965) (by decide +kernel), List.mem_of_getElem? (i := 966) (by decide +kernel)⟩
theorem lw_p34 : lw_okq (⟨"TableMakerModel", "close", "(I)V"⟩, 29) := ⟨⟨by decide +kernel, by decide +kernel⟩, List.mem_of_getElem? (i := 782) (by decide +kernel), List.mem_of_getElem? (i := 969) (by decide +kernel), List.mem_of_getElem? (i := 970) (by decide +kernel)⟩
theorem lw_p35 : lw_okq (⟨"TableMakerModel", "follows", "(II)I"⟩, 29) := ⟨⟨by decide +kernel, by decide +kernel⟩, List.mem_of_getElem? (i := 782) (by decide +kernel), List.mem_of_getElem? (i := 973) (by decide +kernel), List.mem_of_getElem? (i := 974) (by decide +kernel)⟩
theorem lw_p36 : lw_okq (⟨"TableMakerModel", "lead", "(II)I"⟩, 29) := ⟨⟨by decide +kernel, by decide +kernel⟩, List.mem_of_getElem? (i := 782) (by decide +kernel), List.mem_of_getElem? (i := 977) (by decide +kernel), List.mem_of_getElem? (i := 978) (by decide +kernel)⟩
theorem lw_p37 : lw_okq (⟨"TableMakerModel", "same", "(II)Z"⟩, 29) := ⟨⟨by decide +kernel, by decide +kernel⟩, List.mem_of_getElem? (i := 782) (by decide +kernel), List.mem_of_getElem? (i := 981) (by decide +kernel), List.mem_of_getElem? (i := 982) (by decide +kernel)⟩
theorem lw_p38 : lw_okq (⟨"TableMakerModel", "findConflict", "()V"⟩, 29) := ⟨⟨by decide +kernel, by decide +kernel⟩, List.mem_of_getElem? (i := 782) (by decide +kernel), List.mem_of_getElem? (i := 985) (by decide +kernel), List.mem_of_getElem? (i := 986) (by decide +kernel)⟩
theorem lw_p39 : lw_okq (⟨"TableMakerModel", "actionOf", "(II)I"⟩, 29) := ⟨⟨by decide +kernel, by decide +kernel⟩, List.mem_of_getElem? (i := 782) (by decide +kernel), List.mem_of_getElem? (i := 989) (by decide +kernel), List.mem_of_getElem? (i := 990) (by decide +kernel)⟩
theorem lw_p40 : lw_okq (⟨"TableMakerModel", "isState", "(I)Z"⟩, 29) := ⟨⟨by decide +kernel, by decide +kernel⟩, List.mem_of_getElem? (i := 782) (by decide +kernel), List.mem_of_getElem? (i := 1005) (by decide +kernel), List.mem_of_getElem? (i := 1006) (by decide +kernel)⟩
theorem lw_p41 : lw_okq (⟨"TableMakerModel", "look", "(I)I"⟩, 29) := ⟨⟨by decide +kernel, by decide +kernel⟩, List.mem_of_getElem? (i := 782) (by decide +kernel), List.mem_of_getElem? (i := 1029) (by decide +kernel), List.mem_of_getElem? (i := 1030) (by decide +kernel)⟩
def lw_privs_3 : List (MethodName × Nat) := [(⟨"TableMakerModel", "add", "(III)V"⟩, 29), (⟨"TableMakerModel", "has", "(III)Z"⟩, 29), (⟨"TableMakerModel", "close", "(I)V"⟩, 29), (⟨"TableMakerModel", "follows", "(II)I"⟩, 29), (⟨"TableMakerModel", "lead", "(II)I"⟩, 29), (⟨"TableMakerModel", "same", "(II)Z"⟩, 29), (⟨"TableMakerModel", "findConflict", "()V"⟩, 29), (⟨"TableMakerModel", "actionOf", "(II)I"⟩, 29), (⟨"TableMakerModel", "isState", "(I)Z"⟩, 29), (⟨"TableMakerModel", "look", "(I)I"⟩, 29)]
theorem lw_r3 : ∀ q ∈ lw_privs_3, lw_okq q := List.forall_mem_cons.mpr ⟨lw_p32, List.forall_mem_cons.mpr ⟨lw_p33, List.forall_mem_cons.mpr ⟨lw_p34, List.forall_mem_cons.mpr ⟨lw_p35, List.forall_mem_cons.mpr ⟨lw_p36, List.forall_mem_cons.mpr ⟨lw_p37, List.forall_mem_cons.mpr ⟨lw_p38, List.forall_mem_cons.mpr ⟨lw_p39, List.forall_mem_cons.mpr ⟨lw_p40, List.forall_mem_cons.mpr ⟨lw_p41, fun _ h => absurd h List.not_mem_nil⟩⟩⟩⟩⟩⟩⟩⟩⟩⟩
def lw_privs : List (MethodName × Nat) := lw_privs_1 ++ (lw_privs_2 ++ (lw_privs_3))
def lw_tbl : List Cond := k2_sels lw_privs ++ tables_1
theorem lw_privs_ok : ∀ q ∈ lw_privs, lw_okq q := by
  show ∀ q ∈ lw_privs_1 ++ (lw_privs_2 ++ (lw_privs_3)), lw_okq q
  exact List.forall_mem_append.mpr ⟨lw_r1, List.forall_mem_append.mpr ⟨lw_r2, lw_r3⟩⟩
end
section
/-! Rows of one instruction each over a heap whose every cell is known by its address: what the instruction does to the whole heap (no cell but the one written changes). -/
theorem vr_outer (c : ClassId) (N h0 : Nat) : ∀ i : Nat, Jvm.Free.Multi.outerC c N h0 i = arrV c N (fun j => va_rf (if j < i then some (h0 + 1 + j) else none))
  | 0 => by
    show ({ cls := c, slots := Array.replicate N .null, vm := .none } : Cell) = _
    rw [arrV_new]
    refine congrArg (arrV c N) (funext fun j => ?_)
    simp [va_rf]
  | i + 1 => by
    show (Jvm.Free.Multi.outerC c N h0 i).setSlot i (.ref (h0 + 1 + i)) = _
    rw [vr_outer c N h0 i, arrV_store]
    refine congrArg (arrV c N) (funext fun j => ?_)
    by_cases e : j = i
    · subst e
      simp [updV, va_rf]
    · by_cases h : j < i
      · simp [updV, e, h, Nat.lt_succ_of_lt h]
      · simp [updV, e, h, show ¬ j < i + 1 by omega]
section XR
variable {p : Program} {l : Launch} {e : Env} {R : Room} {s : State} {m : MethodId} {args : Array Value} {below : List Frame} {meth : Method} {c : Code} {H : Heap} {locs : List Loc} {cells slots : Nat} {Q : State → Prop}
variable {cc : ByteArray} {pc : Nat} {ls : Array Slot} {rest : List Value} {D : va_G} {cl : List vw_C} {a : Nat} {tys : List (ClassId × FieldType)}
theorem xr_one {q : Nat × va_E} (h : va_at D cl q H) : va_P D cl [q] H := fun k x hx => by
  have h0 : k < 1 := (List.getElem?_eq_some_iff.mp hx).1
  rw [show k = 0 by omega] at hx
  cases hx
  exact h
/-- getfield -/
theorem xr_get (hexec : p.tables.exec = Jvm.exec) (hb : c.code = cc) {own C : String} {T : u_T} {N ci index : Nat} {Ts : List Cond} (hts : ∀ w ∈ Ts, w.before args s = true) (hin : ∀ w ∈ u_ws C T N, w ∈ Ts) (hown : s.vm.findClass own = some m.cls) (hK : va_K D cl tys s) {fs : List Value} (he : va_at D cl (a, .inr (ci, fs)) H) (hc : cl[ci]? = some (C, T, N)) (k : Nat) (hk : k < N) (hlink : (Cond.fieldLink own index (T k).1 (T k).2.1 (T k).2.2.1).before args s = true) {v : Value} (hv : fs[k]? = some v) (hdg : decode cc pc = .ok (.getfield index, 3))
    (kk : W p l e R s m args below meth c H locs cells slots Q (F0 m (pc + 3) ls (v :: rest))) : W p l e R s m args below meth c H locs cells slots Q (F0 m pc ls (.ref a :: rest)) :=
  va_get hexec hb hts hin hown hK (xr_one he) 0 rfl hc k hk hlink (fun _ h => h) hv hdg kk
/-- putfield, of a field that is not final, or of a final one in its own constructor -/
theorem xr_put (hexec : p.tables.exec = Jvm.exec) (hb : c.code = cc) {own C : String} {T : u_T} {N ci index : Nat} {Ts : List Cond} (hts : ∀ w ∈ Ts, w.before args s = true) (hin : ∀ w ∈ u_ws C T N, w ∈ Ts) (ty0 : Nat → FieldType) (hty : ∀ k, k < N → parseFieldDescriptor (T k).2.2.1 = some (ty0 k)) (hnm : ∀ a, a < N → ∀ b, b < N → a ≠ b → (T a).2.1 ≠ (T b).2.1) (hown : s.vm.findClass own = some m.cls) (hK : va_K D cl tys s) {fs : List Value} (he : va_at D cl (a, .inr (ci, fs)) H) (hc : cl[ci]? = some (C, T, N)) (k : Nat) (hk : k < N) (hlink : (Cond.fieldLink own index (T k).1 (T k).2.1 (T k).2.2.1).before args s = true)
    (hfin : (T k).2.2.2 = false ∨ ((T k).2.2.2 = true ∧ meth.name = "<init>" ∧ (T k).1 = own)) {v : Value} (hn : narrow (ty0 k) v = v) (hfit : fits (ty0 k) v = true) (hl : k < fs.length) (hdg : decode cc pc = .ok (.putfield index, 3))
    (kk : ∀ (H1 : Heap) (locs1 : List Loc), va_at D cl (a, .inr (ci, fs.set k v)) H1 → H1.size = H.size → (∀ q, q ≠ a → H1[q]? = H[q]?) → (∀ q ∈ locs1, q ∈ locs ∨ q.base = a) → W p l e R s m args below meth c H1 locs1 cells slots Q (F0 m (pc + 3) ls rest)) : W p l e R s m args below meth c H locs cells slots Q (F0 m pc ls (v :: .ref a :: rest)) := by
  have hd := hty k hk
  have hap := va_apart (own := own) hts hin ty0 hty hnm hK hc
  obtain ⟨r, h1, cell, q1, q2, q3, q4⟩ := he
  have hr : r = (C, T, N) := Option.some.inj (h1.symm.trans hc)
  subst hr
  obtain ⟨hS, hfc, kC, hkC, hkind⟩ := hK.1 ci _ hc
  obtain ⟨cf, kf, fi, f, hi, hsl⟩ := hS k hk
  have hlay := hts _ (hin _ (u_in_lay hk))
  have hst := (u_facts hfc hkC (u_lays hts hin hk) hi).1
  have hloc : ∀ q ∈ locs ++ [(⟨a, f.slot⟩ : Loc)], q ∈ locs ∨ q.base = a := fun q hq => by
    rcases List.mem_append.mp hq with h | h
    · exact Or.inl h
    · rw [List.mem_singleton.mp h]; exact Or.inr rfl
  have hend : ∀ H' : Heap, H'[a]? = some (cell.setSlot f.slot v) → va_at D cl (a, .inr (ci, fs.set k v)) H' := fun H' e1 => by
    rw [hsl] at e1
    exact ⟨_, hc, t_OB.to (V := updV (vp_V fs) k v) ⟨_, e1, q2, q3, t_set q4 hap hk v⟩ (fun j _ => vp_updV_set hl v j)⟩
  unfold u_lay at hlay
  rcases hfin with hfin | ⟨hfin, hin2, hdecl⟩
  · rw [if_neg (by rw [hfin]; decide)] at hlay
    have h6 := u_store hfc hkC hkind hlay hi hd hn hfit
    exact W.putK hexec hb (f := f) ⟨hown, hlink, ⟨_, _, _, hi⟩, hst⟩ (by rw [q2]; exact h6) q1 q3 (by rw [hsl]; exact k2_hasslot (q4 k hk)) rfl rfl hdg fun H' e1 e2 e3 => kk H' _ (hend H' e1) e2 e3 hloc
  · rw [if_pos hfin] at hlay
    have hcf : m.cls = cf := by
      obtain ⟨_, _, c', _, _, _, -, -, hf', -, -, -, hown2, -⟩ := Cond.laysFinal_spec hlay
      have e1 : c' = cf := by have := hi.symm.trans hf'; simp at this; exact this.1.symm
      rw [hdecl] at hown2
      rw [← e1]; exact Option.some.inj (hown.symm.trans hown2)
    have h6 := u_fits hfc hkC hkind (Or.inr hlay) hi hd hn hfit
    exact W.putFinK hexec hb hown hlink hi hst hcf hin2 (by rw [q2]; exact h6) q1 q3 (by rw [hsl]; exact k2_hasslot (q4 k hk)) rfl rfl hdg fun H' e1 e2 e3 => kk H' _ (hend H' e1) e2 e3 hloc
/-- new -/
theorem xr_new (hexec : p.tables.exec = Jvm.exec) (hb : c.code = cc) {own C : String} {T : u_T} {N ci index : Nat} {Ts : List Cond} (hts : ∀ w ∈ Ts, w.before args s = true) (hin : ∀ w ∈ u_ws C T N, w ∈ Ts) (ty : Nat → FieldType) (hty : ∀ k, k < N → parseFieldDescriptor (T k).2.2.1 = some (ty k)) (hown : s.vm.findClass own = some m.cls) (hcl : (Cond.classLink own index C).before args s = true) (hinst : (Cond.instantiable C N).before args s = true) (hini : (Cond.initialized C).before args s = true)
    (hK : va_K D cl tys s) (hc : cl[ci]? = some (C, T, N)) {fs : List Value} (hfs : ∀ j, j < N → defaultValue (ty j) = vp_V fs j) (hcells : cells + 1 ≤ R.cells) (hslots : slots + N ≤ R.slots) (hdg : decode cc pc = .ok (.new index, 3))
    (kk : ∀ H1 : Heap, va_at D cl (H.size, .inr (ci, fs)) H1 → H1.size = H.size + 1 → (∀ q, q < H.size → H1[q]? = H[q]?) →
      W p l e R s m args below meth c H1 locs (cells + 1) (slots + N) Q (F0 m (pc + 3) ls (.ref H.size :: rest))) : W p l e R s m args below meth c H locs cells slots Q (F0 m pc ls rest) := by
  have hKn := hK.1 ci _ hc
  exact W.newcK hexec hb hown hcl hinst hini rfl hdg hcells hslots hKn.2.1 rfl fun H1 kC hkC e1 z1 o1 => kk H1 ⟨_, hc, (u_born ty hts hin hKn hkC e1 hty).to hfs⟩ z1 o1
/-- newarray: of a kind whose class the world knows -/
theorem xr_newa (hexec : p.tables.exec = Jvm.exec) (hb : c.code = cc) {atype : ArrayType} (harr : (Cond.arrayClass (newarray.typeOf atype)).before args s = true) (hK : va_K D cl tys s) (t0 : Nat) {cA : ClassId} (ht : tys[t0]? = some (cA, newarray.typeOf atype)) (hcls : s.vm.findClass ("[" ++ (newarray.typeOf atype).toString) = some cA)
    {n : Int32} {N' : Nat} {a0 : vp_A} (ha : vp_cell cA a0 = arrV cA N' (fun _ => defaultValue (newarray.typeOf atype))) (hn : ¬ n < 0) (hN : n.toNatClampNeg = N') (hbytes : N' * componentBytes (newarray.typeOf atype) ≤ 536870912) (hcells : cells + 1 ≤ R.cells) (hslots : slots + N' ≤ R.slots) (hdg : decode cc pc = .ok (.newarray atype, 2))
    (kk : ∀ H1 : Heap, va_at D cl (H.size, .inl (cA, a0)) H1 → H1.size = H.size + 1 → (∀ q, q < H.size → H1[q]? = H[q]?) →
      W p l e R s m args below meth c H1 locs (cells + 1) (slots + N') Q (F0 m (pc + 2) ls (.ref H.size :: rest))) : W p l e R s m args below meth c H locs cells slots Q (F0 m pc ls (.int n :: rest)) := by
  refine va_newaK hexec hb harr rfl hdg rfl hn hN hbytes hcells hslots rfl fun H1 cB e1 z1 o1 hAr hNm => ?_
  cases hcls.symm.trans hNm
  refine kk H1 ?_ z1 o1
  show H1[H.size]? = some (vp_cell cA a0)
  rw [ha]
  exact e1
/-- new T[n][k]: the outer array, behind it its rows -/
theorem xr_mna (hexec : p.tables.exec = Jvm.exec) (hb : c.code = cc) {own : String} {index : Nat} (hown : s.vm.findClass own = some m.cls) (hclink : (Cond.classLink own index ("[" ++ (FieldType.array .int).toString)).before args s = true) (hover : (Cond.arrayOver (.array .int)).before args s = true) (harr : (Cond.arrayClass .int).before args s = true) {cI cA : ClassId} (hcI : s.vm.findClass (FieldType.array .int).toString = some cI) (hcA : s.vm.findClass ("[" ++ (FieldType.array .int).toString) = some cA)
    {n k : Int32} {N' K' : Nat} (hn : ¬ n < 0) (hk : ¬ k < 0) (hN : n.toNatClampNeg = N') (hM : k.toNatClampNeg = K') (hb1 : N' * 4 ≤ 536870912) (hb2 : K' * 4 ≤ 536870912) (hcells : cells + (1 + N') ≤ R.cells) (hslots : slots + (N' + N' * K') ≤ R.slots) (hdg : decode cc pc = .ok (.multianewarray index 2, 4))
    (kk : ∀ H1 : Heap, va_at D cl (H.size, .inl (cA, N', .inr (.inr (.inr (.inr (fun i => if i < N' then some (H.size + 1 + i) else none)))))) H1 → (∀ j, j < N' → va_at D cl (H.size + 1 + j, .inl (cI, K', .inl (fun _ => 0))) H1) → H1.size = H.size + 1 + N' → (∀ q, q < H.size → H1[q]? = H[q]?) →
      W p l e R s m args below meth c H1 locs (cells + 1 + N') (slots + N' + N' * K') Q (F0 m (pc + 4) ls (.ref H.size :: rest))) : W p l e R s m args below meth c H locs cells slots Q (F0 m pc ls (.int k :: .int n :: rest)) := by
  subst hN
  subst hM
  intro T hT Xs
  obtain ⟨vm₁, cB, comp, -, fA, fC, -, -, X', step⟩ := Xs.multianewarray2F hexec hown hclink hover harr (g := F0 m pc ls (.int k :: .int n :: rest)) rfl (by rw [hb]; exact hdg) rfl hn hk hb1 hb2 (by omega) rfl rfl hcells hslots
  cases hcI.symm.trans fC
  cases hcA.symm.trans fA
  generalize hF : Jvm.Free.Multi.fill (T.setVm vm₁) cA cI n.toNatClampNeg k.toNatClampNeg (defaultValue .int) n.toNatClampNeg = F at X' step
  have hTh : (T.setVm vm₁).heap = H := hT
  obtain ⟨f1, f2, -, -⟩ := Jvm.Free.Multi.fill_facts (T.setVm vm₁) cA cI n.toNatClampNeg k.toNatClampNeg (defaultValue .int) n.toNatClampNeg
  rw [hF, hTh] at f1 f2
  have hold : ∀ x : Nat, x < H.size → F.heap[x]? = H[x]? := fun x hx => by
    have := Jvm.Free.Multi.fill_old (T.setVm vm₁) cA cI n.toNatClampNeg k.toNatClampNeg (defaultValue .int) (a := x) (by rw [hTh]; exact hx) n.toNatClampNeg
    rw [hF, hTh] at this
    exact this
  have hrow : ∀ j : Nat, j < n.toNatClampNeg → F.heap[H.size + 1 + j]? = some (vp_cell cI (k.toNatClampNeg, .inl (fun _ => 0))) := fun j hj => by
    have := Jvm.Free.Multi.fill_inner (T.setVm vm₁) cA cI n.toNatClampNeg k.toNatClampNeg (defaultValue .int) n.toNatClampNeg j hj
    rw [hF, hTh] at this
    rw [this, vp_cell_i, ← arrV_new]
    rfl
  have hout : Jvm.Free.Multi.outerC cA n.toNatClampNeg H.size n.toNatClampNeg = vp_cell cA (n.toNatClampNeg, .inr (.inr (.inr (.inr (fun i => if i < n.toNatClampNeg then some (H.size + 1 + i) else none))))) := by
    rw [vp_cell_q]
    exact vr_outer cA n.toNatClampNeg H.size n.toNatClampNeg
  rw [hout] at f2
  obtain ⟨t, a1, b1⟩ := kk F.heap f2 hrow f1 hold F rfl X'
  refine ⟨t, step t ?_, b1⟩
  have e : T.heap.size = H.size := by rw [hT]
  rw [e]
  exact a1
/-- iaload -/
theorem xr_iald (hexec : p.tables.exec = Jvm.exec) (hb : c.code = cc) (hK : va_K D cl tys s) (t0 : Nat) {cA : ClassId} {n : Nat} {f : Nat → Int32} (he : va_at D cl (a, .inl (cA, n, .inl f)) H) (ht : tys[t0]? = some (cA, .int)) {i : Int32} (hin : vp_in i n) (hdg : decode cc pc = .ok (.iaload, 1))
    (kk : W p l e R s m args below meth c H locs cells slots Q (F0 m (pc + 1) ls (.int (f i.toNatClampNeg) :: rest))) : W p l e R s m args below meth c H locs cells slots Q (F0 m pc ls (.int i :: .ref a :: rest)) :=
  va_iald hexec hb hK (xr_one he) 0 t0 rfl ht hin hdg kk
theorem xr_zald (hexec : p.tables.exec = Jvm.exec) (hb : c.code = cc) (hK : va_K D cl tys s) (t0 : Nat) {cA : ClassId} {n : Nat} {f : Nat → Int32} (he : va_at D cl (a, .inl (cA, n, .inl f)) H) (ht : tys[t0]? = some (cA, .boolean)) {i : Int32} (hin : vp_in i n) (hdg : decode cc pc = .ok (.baload, 1))
    (kk : W p l e R s m args below meth c H locs cells slots Q (F0 m (pc + 1) ls (.int (f i.toNatClampNeg) :: rest))) : W p l e R s m args below meth c H locs cells slots Q (F0 m pc ls (.int i :: .ref a :: rest)) :=
  va_zald hexec hb hK (xr_one he) 0 t0 rfl ht hin hdg kk
theorem xr_lald (hexec : p.tables.exec = Jvm.exec) (hb : c.code = cc) (hK : va_K D cl tys s) (t0 : Nat) {cA : ClassId} {n : Nat} {f : Nat → Int64} (he : va_at D cl (a, .inl (cA, n, .inr (.inl f))) H) (ht : tys[t0]? = some (cA, .long)) {i : Int32} (hin : vp_in i n) (hdg : decode cc pc = .ok (.laload, 1))
    (kk : W p l e R s m args below meth c H locs cells slots Q (F0 m (pc + 1) ls (.long (f i.toNatClampNeg) :: rest))) : W p l e R s m args below meth c H locs cells slots Q (F0 m pc ls (.int i :: .ref a :: rest)) :=
  va_lald hexec hb hK (xr_one he) 0 t0 rfl ht hin hdg kk
theorem xr_alen (hexec : p.tables.exec = Jvm.exec) (hb : c.code = cc) (hK : va_K D cl tys s) (t0 : Nat) {cA : ClassId} {n : Nat} {f : Nat → Int32} {ty : FieldType} (he : va_at D cl (a, .inl (cA, n, .inl f)) H) (ht : tys[t0]? = some (cA, ty)) (hdg : decode cc pc = .ok (.arraylength, 1))
    (kk : W p l e R s m args below meth c H locs cells slots Q (F0 m (pc + 1) ls (.int (nI n) :: rest))) : W p l e R s m args below meth c H locs cells slots Q (F0 m pc ls (.ref a :: rest)) := by
  refine W.alen (n := nI n) hexec hb he ((hK.2 t0 _ ht).1 n (fun j => .int (f j))) ?_ rfl rfl hdg kk
  show (arrV _ _ _).slots.size.toInt32 = _
  rw [arrV_size]
  rfl
/-- iastore -/
theorem xr_iast (hexec : p.tables.exec = Jvm.exec) (hb : c.code = cc) (hK : va_K D cl tys s) (t0 : Nat) {cA : ClassId} {n : Nat} {f : Nat → Int32} (he : va_at D cl (a, .inl (cA, n, .inl f)) H) (ht : tys[t0]? = some (cA, .int)) {i x : Int32} (hin : vp_in i n) (hdg : decode cc pc = .ok (.iastore, 1))
    (kk : ∀ (H1 : Heap) (locs1 : List Loc), va_at D cl (a, .inl (cA, n, .inl (upd f i.toNatClampNeg x))) H1 → H1.size = H.size → (∀ q, q ≠ a → H1[q]? = H[q]?) → (∀ q ∈ locs1, q ∈ locs ∨ q.base = a) → W p l e R s m args below meth c H1 locs1 cells slots Q (F0 m (pc + 1) ls rest)) : W p l e R s m args below meth c H locs cells slots Q (F0 m pc ls (.int x :: .int i :: .ref a :: rest)) := by
  refine W.iast hexec hb he ((hK.2 t0 _ ht).1 n (fun j => .int (f j))) (fun q => by cases q) (by show ¬ (i < 0 ∨ (arrV _ _ _).slots.size ≤ _); rw [arrV_size]; exact hin) rfl rfl hdg fun H1 e z oq => ?_
  refine kk H1 _ ?_ z oq (fun q hq => ?_)
  · show H1[a]? = some (vp_cell _ _)
    rw [e]
    rw [vp_cell_i, vp_cell_i, arrV_store]
    congr 2
    funext q
    by_cases hq : q = i.toNatClampNeg
    · subst hq
      simp [updV, upd]
    · simp [updV, upd, hq]
  · rcases List.mem_append.mp hq with h | h
    · exact Or.inl h
    · rw [List.mem_singleton.mp h]; exact Or.inr rfl
theorem xr_zast (hexec : p.tables.exec = Jvm.exec) (hb : c.code = cc) (hK : va_K D cl tys s) (t0 : Nat) {cA : ClassId} {n : Nat} {f : Nat → Int32} (he : va_at D cl (a, .inl (cA, n, .inl f)) H) (ht : tys[t0]? = some (cA, .boolean)) {i x : Int32} (hx : narrow .boolean (.int x) = .int x) (hin : vp_in i n) (hdg : decode cc pc = .ok (.bastore, 1))
    (kk : ∀ (H1 : Heap) (locs1 : List Loc), va_at D cl (a, .inl (cA, n, .inl (upd f i.toNatClampNeg x))) H1 → H1.size = H.size → (∀ q, q ≠ a → H1[q]? = H[q]?) → (∀ q ∈ locs1, q ∈ locs ∨ q.base = a) → W p l e R s m args below meth c H1 locs1 cells slots Q (F0 m (pc + 1) ls rest)) : W p l e R s m args below meth c H locs cells slots Q (F0 m pc ls (.int x :: .int i :: .ref a :: rest)) := by
  refine W.zast hexec hb he ((hK.2 t0 _ ht).1 n (fun j => .int (f j))) (fun q => by cases q) (by show ¬ (i < 0 ∨ (arrV _ _ _).slots.size ≤ _); rw [arrV_size]; exact hin) rfl rfl hdg fun H1 e z oq => ?_
  refine kk H1 _ ?_ z oq (fun q hq => ?_)
  · show H1[a]? = some (vp_cell _ _)
    rw [e, hx]
    rw [vp_cell_i, vp_cell_i, arrV_store]
    congr 2
    funext q
    by_cases hq : q = i.toNatClampNeg
    · subst hq
      simp [updV, upd]
    · simp [updV, upd, hq]
  · rcases List.mem_append.mp hq with h | h
    · exact Or.inl h
    · rw [List.mem_singleton.mp h]; exact Or.inr rfl
theorem xr_last (hexec : p.tables.exec = Jvm.exec) (hb : c.code = cc) (hK : va_K D cl tys s) (t0 : Nat) {cA : ClassId} {n : Nat} {f : Nat → Int64} (he : va_at D cl (a, .inl (cA, n, .inr (.inl f))) H) (ht : tys[t0]? = some (cA, .long)) {i : Int32} {x : Int64} (hin : vp_in i n) (hdg : decode cc pc = .ok (.lastore, 1))
    (kk : ∀ (H1 : Heap) (locs1 : List Loc), va_at D cl (a, .inl (cA, n, .inr (.inl (vp_updL f i.toNatClampNeg x)))) H1 → H1.size = H.size → (∀ q, q ≠ a → H1[q]? = H[q]?) → (∀ q ∈ locs1, q ∈ locs ∨ q.base = a) → W p l e R s m args below meth c H1 locs1 cells slots Q (F0 m (pc + 1) ls rest)) : W p l e R s m args below meth c H locs cells slots Q (F0 m pc ls (.long x :: .int i :: .ref a :: rest)) := by
  refine W.last hexec hb he ((hK.2 t0 _ ht).1 n (fun j => .long (f j))) (fun q => by cases q) (by show ¬ (i < 0 ∨ (arrV _ _ _).slots.size ≤ _); rw [arrV_size]; exact hin) rfl rfl hdg fun H1 e z oq => ?_
  refine kk H1 _ ?_ z oq (fun q hq => ?_)
  · show H1[a]? = some (vp_cell _ _)
    rw [e]
    rw [vp_cell_l, vp_cell_l, arrV_store]
    congr 2
    funext q
    by_cases hq : q = i.toNatClampNeg
    · subst hq
      simp [updV, vp_updL]
    · simp [updV, vp_updL, hq]
  · rcases List.mem_append.mp hq with h | h
    · exact Or.inl h
    · rw [List.mem_singleton.mp h]; exact Or.inr rfl
end XR
end
section
/-! An abstract machine over numbered cells: cell 0 is the law's script, cell j + 1 lies at the j-th address behind the heap that was there at the law's entry. Each instruction is a function on (locals, stack, 'something was written', heap), with a theorem that says what it is worth over the machine. -/
abbrev xB : Type := (Nat × List Value) ⊕ ((Nat × Nat × (Nat → Int32)) ⊕ ((Nat × (Nat → Int64)) ⊕ (Nat × Nat)))
abbrev xH : Type := Nat × Nat × (Nat → Option xB)
abbrev xL : Type := List (Nat × Value)
abbrev xS : Type := xL → List Value → Bool → xH → Option (Nat × xL × List Value × Bool × xH)
def xad (b base : Nat) : Nat → Nat
  | 0 => b
  | j + 1 => base + j
def xcv (b base : Nat) : Value → Value
  | .ref i => .ref (xad b base i)
  | v => v
def xce (b base : Nat) (ca : Nat → ClassId) : xB → va_E
  | .inl (ci, fs) => .inr (ci, fs.map (xcv b base))
  | .inr (.inl (k, n, f)) => .inl (ca k, n, .inl f)
  | .inr (.inr (.inl (n, f))) => .inl (ca 2, n, .inr (.inl f))
  | .inr (.inr (.inr (n, q))) => .inl (ca 3, n, .inr (.inr (.inr (.inr (fun i => if i < n then some (xad b base (q + i)) else none)))))
def xup (f : Nat → Option xB) (i : Nat) (x : Option xB) : Nat → Option xB := fun j => if j = i then x else f j
def xml (b base : Nat) (L : xL) : List (Nat × Value) := L.map (fun q => (q.1, xcv b base q.2))
def xlk : xL → Nat → Option Value
  | [], _ => none
  | q :: r, i => if q.1 = i then some q.2 else xlk r i
def xst (L : xL) (i : Nat) (v : Value) : xL := (i, v) :: L.filter (fun q => !(q.1 == i) && !(q.1 + 1 == i && q.2.category == 2))
theorem xcv_cat (b base : Nat) (v : Value) : (xcv b base v).category = v.category := by cases v <;> rfl
theorem xlk_mem : ∀ (L : xL) {i : Nat} {v : Value}, xlk L i = some v → (i, v) ∈ L
  | [], _, _, h => by cases h
  | q :: r, i, v, h => by
    unfold xlk at h
    by_cases hq : q.1 = i
    · rw [if_pos hq] at h
      cases h
      subst hq
      exact List.mem_cons_self
    · rw [if_neg hq] at h
      exact List.mem_cons_of_mem _ (xlk_mem r h)
theorem xlk_at {b base : Nat} {ls : Array Slot} {nL : Nat} {L : xL} {i : Nat} {v : Value} (h : lv_has ls nL (xml b base L)) (hv : xlk L i = some v) : ls[i]? = some (.val (xcv b base v)) :=
  h.2.2 (i, xcv b base v) (List.mem_map.mpr ⟨(i, v), xlk_mem L hv, rfl⟩)
theorem xst_map {b base : Nat} (L : xL) (i : Nat) (v : Value) : (i, xcv b base v) :: (xml b base L).filter (fun q => !(q.1 == i) && !(q.1 + 1 == i && q.2.category == 2)) = xml b base (xst L i v) := by
  unfold xst xml
  rw [List.map_cons, List.filter_map]
  congr 2
  apply List.filter_congr
  intro q _
  simp only [Function.comp, xcv_cat]
/-- the heap holds the numbered cells; what was there at the law's entry is as it was -/
def xrp (D : va_G) (cl : List vw_C) (ca : Nat → ClassId) (b : Nat) (H0 : Heap) (h : xH) (H : Heap) : Prop :=
  1 ≤ h.1 ∧ H.size + 1 = H0.size + h.1 ∧ (∀ q, q < H0.size → H[q]? = H0[q]?) ∧ ∀ i x, h.2.2 (i + 1) = some x → i + 1 < h.1 ∧ va_at D cl (H0.size + i, xce b H0.size ca x) H
section XP
variable {D : va_G} {cl : List vw_C} {ca : Nat → ClassId} {b : Nat} {H0 H H1 : Heap} {h : xH}
theorem xrp_set (hr : xrp D cl ca b H0 h H) {i : Nat} {x0 x : xB} (h0 : h.2.2 (i + 1) = some x0) (hat : va_at D cl (H0.size + i, xce b H0.size ca x) H1) (hz : H1.size = H.size) (ho : ∀ q, q ≠ H0.size + i → H1[q]? = H[q]?) : xrp D cl ca b H0 (h.1, h.2.1, xup h.2.2 (i + 1) (some x)) H1 := by
  obtain ⟨r1, r2, r3, r4⟩ := hr
  refine ⟨r1, by rw [hz]; exact r2, fun q hq => by rw [ho q (by omega)]; exact r3 q hq, fun j y hj => ?_⟩
  by_cases e : j = i
  · subst e
    have hy : y = x := by
      have : xup h.2.2 (j + 1) (some x) (j + 1) = some x := by simp [xup]
      exact Option.some.inj (hj.symm.trans this)
    subst hy
    exact ⟨(r4 j x0 h0).1, hat⟩
  · have hj' : h.2.2 (j + 1) = some y := by
      have : xup h.2.2 (i + 1) (some x) (j + 1) = h.2.2 (j + 1) := by simp [xup, e]
      exact this.symm.trans hj
    obtain ⟨q1, q2⟩ := r4 j y hj'
    exact ⟨q1, q2.kept (ho _ (by show H0.size + j ≠ H0.size + i; omega))⟩
theorem xrp_old (hr : xrp D cl ca b H0 h H) (ho : ∀ q, q < H.size → H1[q]? = H[q]?) {i : Nat} {x : xB} (hi : h.2.2 (i + 1) = some x) : va_at D cl (H0.size + i, xce b H0.size ca x) H1 := by
  obtain ⟨r1, r2, r3, r4⟩ := hr
  obtain ⟨q1, q2⟩ := r4 i x hi
  exact q2.kept (ho _ (by show H0.size + i < H.size; omega))
theorem xrp_new (hr : xrp D cl ca b H0 h H) {x : xB} (hat : va_at D cl (H.size, xce b H0.size ca x) H1) (hz : H1.size = H.size + 1) (ho : ∀ q, q < H.size → H1[q]? = H[q]?) (n : Nat) : xrp D cl ca b H0 (h.1 + 1, h.2.1 + n, xup h.2.2 h.1 (some x)) H1 := by
  have hr' := hr
  obtain ⟨r1, r2, r3, r4⟩ := hr
  refine ⟨by show 1 ≤ h.1 + 1; omega, by show H1.size + 1 = H0.size + (h.1 + 1); omega, fun q hq => by rw [ho q (by omega)]; exact r3 q hq, fun j y hj => ?_⟩
  show j + 1 < h.1 + 1 ∧ _
  by_cases e : j + 1 = h.1
  · have hy : y = x := by
      have : xup h.2.2 h.1 (some x) (j + 1) = some x := by simp [xup, e]
      exact Option.some.inj (hj.symm.trans this)
    subst hy
    have ea : H0.size + j = H.size := by omega
    rw [ea]
    exact ⟨by omega, hat⟩
  · have hj' : h.2.2 (j + 1) = some y := by
      have : xup h.2.2 h.1 (some x) (j + 1) = h.2.2 (j + 1) := by simp [xup, e]
      exact this.symm.trans hj
    exact ⟨by have := (r4 j y hj').1; omega, xrp_old hr' ho hj'⟩
/-- a cell more of which nothing is said -/
theorem xrp_opq (hr : xrp D cl ca b H0 h H) (hz : H1.size = H.size + 1) (ho : ∀ q, q < H.size → H1[q]? = H[q]?) (n : Nat) : xrp D cl ca b H0 (h.1 + 1, h.2.1 + n, xup h.2.2 h.1 none) H1 := by
  have hr' := hr
  obtain ⟨r1, r2, r3, r4⟩ := hr
  refine ⟨by show 1 ≤ h.1 + 1; omega, by show H1.size + 1 = H0.size + (h.1 + 1); omega, fun q hq => by rw [ho q (by omega)]; exact r3 q hq, fun j y hj => ?_⟩
  show j + 1 < h.1 + 1 ∧ _
  by_cases e : j + 1 = h.1
  · have : xup h.2.2 h.1 none (j + 1) = none := by simp [xup, e]
    cases (this.symm.trans hj)
  · have hj' : h.2.2 (j + 1) = some y := by
      have : xup h.2.2 h.1 none (j + 1) = h.2.2 (j + 1) := by simp [xup, e]
      exact this.symm.trans hj
    exact ⟨by have := (r4 j y hj').1; omega, xrp_old hr' ho hj'⟩
end XP
/-- what holds at a method's entry -/
def xEn (p : Program) (s : State) (m : MethodId) (args : Array Value) (meth : Method) (c : Code) (cc : ByteArray) (own : String) (ini : Bool) (nL : Nat) (D : va_G) (cl : List vw_C) (ca : Nat → ClassId) (Ts : List Cond) (b Ls : Nat) (xs : Nat → Int32) (H0 : Heap) : Prop :=
  p.tables.exec = Jvm.exec ∧ c.code = cc ∧ s.vm.findClass own = some m.cls ∧ (∀ w ∈ Ts, w.before args s = true) ∧ va_K D cl [(ca 0, .int), (ca 1, .boolean), (ca 2, .long), (ca 3, .array .int)] s ∧ va_X b Ls xs s H0 ∧ b < H0.size ∧ c.maxLocals = nL ∧ (ini = true → meth.name = "<init>") ∧ (Cond.arrayOver (.array .int)).before args s = true
/-- what holds at each point of a method's walk -/
def xInv (D : va_G) (cl : List vw_C) (ca : Nat → ClassId) (b : Nat) (H0 : Heap) (nL zm um : Nat) (hs : xH) (L : xL) (w : Bool) (h : xH) (ls : Array Slot) (H : Heap) (locs : List Loc) (cells slots : Nat) : Prop :=
  lv_has ls nL (xml b H0.size L) ∧ xrp D cl ca b H0 h H ∧ (∀ q ∈ locs, H0.size ≤ q.base) ∧ cells + hs.1 = h.1 ∧ slots + hs.2.1 = h.2.1 ∧ h.1 ≤ zm ∧ h.2.1 ≤ um ∧ (w = false → h = hs ∧ locs = [])
def xW (p : Program) (l : Launch) (e : Env) (R : Room) (s : State) (m : MethodId) (args : Array Value) (below : List Frame) (meth : Method) (c : Code) (D : va_G) (cl : List vw_C) (ca : Nat → ClassId) (b : Nat) (H0 : Heap) (nL zm um : Nat) (hs : xH) (Q : State → Prop) (pc : Nat) (L : xL) (st : List Value) (w : Bool) (h : xH) : Prop :=
  ∀ (ls : Array Slot) (H : Heap) (locs : List Loc) (cells slots : Nat), xInv D cl ca b H0 nL zm um hs L w h ls H locs cells slots →
    W p l e R s m args below meth c H locs cells slots Q (F0 m pc ls (st.map (xcv b H0.size)))
/-- an instruction at pc is worth its function -/
def xOK (cc : ByteArray) (own : String) (ini : Bool) (nL : Nat) (cl : List vw_C) (Ts : List Cond) (Ls : Nat) (xs : Nat → Int32) (zm um pc : Nat) (F : xS) : Prop :=
  ∀ (p : Program) (l : Launch) (e : Env) (R : Room) (s : State) (m : MethodId) (args : Array Value) (below : List Frame) (meth : Method) (c : Code) (D : va_G) (ca : Nat → ClassId) (b : Nat) (H0 : Heap) (hs : xH) (Q : State → Prop),
    xEn p s m args meth c cc own ini nL D cl ca Ts b Ls xs H0 → R.cells + hs.1 = zm → R.slots + hs.2.1 = um → 1 ≤ R.frames → 36 ≤ R.locals →
    ∀ L st w h pc' L' st' w' h', F L st w h = some (pc', L', st', w', h') → xW p l e R s m args below meth c D cl ca b H0 nL zm um hs Q pc' L' st' w' h' → xW p l e R s m args below meth c D cl ca b H0 nL zm um hs Q pc L st w h
section XO
variable {cc : ByteArray} {own : String} {ini : Bool} {nL : Nat} {cl : List vw_C} {Ts : List Cond} {Ls : Nat} {xs : Nat → Int32} {zm um pc : Nat}

def xs_c (v : Int32) (nx : Nat) : xS := fun L st w h => some (nx, L, .int v :: st, w, h)
theorem xs_iconst_ok {n : Int} {v : Int32} (hd : decode cc pc = .ok (.iconst n, 1)) (hv : Int32.ofInt n = v) : xOK cc own ini nL cl Ts Ls xs zm um pc (xs_c v (pc + 1)) := by
  intro p l e R s m args below meth c D ca b H0 hs Q E hRc hRs hRf hRl L st w h pc' L' st' w' h' hF K ls H locs cells slots I
  cases hF
  exact lv_iconst E.1 E.2.1 hd hv (K ls H locs cells slots I)
theorem xs_bipush_ok {n : Int} {v : Int32} (hd : decode cc pc = .ok (.bipush n, 2)) (hv : (Int8.ofInt n).toInt32 = v) : xOK cc own ini nL cl Ts Ls xs zm um pc (xs_c v (pc + 2)) := by
  intro p l e R s m args below meth c D ca b H0 hs Q E hRc hRs hRf hRl L st w h pc' L' st' w' h' hF K ls H locs cells slots I
  cases hF
  exact lv_bipush E.1 E.2.1 hd hv (K ls H locs cells slots I)
theorem xs_sipush_ok {n : Int} {v : Int32} (hd : decode cc pc = .ok (.sipush n, 3)) (hv : (Int16.ofInt n).toInt32 = v) : xOK cc own ini nL cl Ts Ls xs zm um pc (xs_c v (pc + 3)) := by
  intro p l e R s m args below meth c D ca b H0 hs Q E hRc hRs hRf hRl L st w h pc' L' st' w' h' hF K ls H locs cells slots I
  cases hF
  exact lv_sipush E.1 E.2.1 hd hv (K ls H locs cells slots I)
def xs_cl (v : Int64) (nx : Nat) : xS := fun L st w h => some (nx, L, .long v :: st, w, h)
theorem xs_lconst_ok {n : Fin 2} {v : Int64} (hd : decode cc pc = .ok (.lconst n, 1)) (hv : Int64.ofNat (n : Nat) = v) : xOK cc own ini nL cl Ts Ls xs zm um pc (xs_cl v (pc + 1)) := by
  intro p l e R s m args below meth c D ca b H0 hs Q E hRc hRs hRf hRl L st w h pc' L' st' w' h' hF K ls H locs cells slots I
  cases hF
  exact lv_lconst E.1 E.2.1 hd hv (K ls H locs cells slots I)
def xs_il (i nx : Nat) : xS := fun L st w h => match xlk L i with
  | some (.int x) => some (nx, L, .int x :: st, w, h)
  | _ => none
def xs_al (i nx : Nat) : xS := fun L st w h => match xlk L i with
  | some (.ref x) => some (nx, L, .ref x :: st, w, h)
  | _ => none
theorem xs_iload_n_ok {k : Fin 4} {i : Nat} (hd : decode cc pc = .ok (.iload_n k, 1)) (hk : (k : Nat) = i) : xOK cc own ini nL cl Ts Ls xs zm um pc (xs_il i (pc + 1)) := by
  intro p l e R s m args below meth c D ca b H0 hs Q E hRc hRs hRf hRl L st w h pc' L' st' w' h' hF K ls H locs cells slots I
  unfold xs_il at hF
  split at hF
  · rename_i x hx
    cases hF
    exact lv_iload_n E.1 E.2.1 hd hk (xlk_at I.1 hx) (K ls H locs cells slots I)
  · cases hF
theorem xs_iload_ok {i : Nat} (hd : decode cc pc = .ok (.iload i, 2)) : xOK cc own ini nL cl Ts Ls xs zm um pc (xs_il i (pc + 2)) := by
  intro p l e R s m args below meth c D ca b H0 hs Q E hRc hRs hRf hRl L st w h pc' L' st' w' h' hF K ls H locs cells slots I
  unfold xs_il at hF
  split at hF
  · rename_i x hx
    cases hF
    exact lv_iload E.1 E.2.1 hd (xlk_at I.1 hx) (K ls H locs cells slots I)
  · cases hF
theorem xs_aload_n_ok {k : Fin 4} {i : Nat} (hd : decode cc pc = .ok (.aload_n k, 1)) (hk : (k : Nat) = i) : xOK cc own ini nL cl Ts Ls xs zm um pc (xs_al i (pc + 1)) := by
  intro p l e R s m args below meth c D ca b H0 hs Q E hRc hRs hRf hRl L st w h pc' L' st' w' h' hF K ls H locs cells slots I
  unfold xs_al at hF
  split at hF
  · rename_i x hx
    cases hF
    exact lv_aload_n E.1 E.2.1 hd hk (xlk_at I.1 hx) (K ls H locs cells slots I)
  · cases hF
theorem xs_aload_ok {i : Nat} (hd : decode cc pc = .ok (.aload i, 2)) : xOK cc own ini nL cl Ts Ls xs zm um pc (xs_al i (pc + 2)) := by
  intro p l e R s m args below meth c D ca b H0 hs Q E hRc hRs hRf hRl L st w h pc' L' st' w' h' hF K ls H locs cells slots I
  unfold xs_al at hF
  split at hF
  · rename_i x hx
    cases hF
    exact lv_aload E.1 E.2.1 hd (xlk_at I.1 hx) (K ls H locs cells slots I)
  · cases hF
def xs_is (nL i nx : Nat) : xS := fun L st w h => match st with
  | .int x :: r => if i < nL then some (nx, xst L i (.int x), r, w, h) else none
  | _ => none
theorem xs_istore_n_ok {k : Fin 4} {i : Nat} (hd : decode cc pc = .ok (.istore_n k, 1)) (hk : (k : Nat) = i) : xOK cc own ini nL cl Ts Ls xs zm um pc (xs_is nL i (pc + 1)) := by
  intro p l e R s m args below meth c D ca b H0 hs Q E hRc hRs hRf hRl L st w h pc' L' st' w' h' hF K ls H locs cells slots I
  unfold xs_is at hF
  split at hF
  · split at hF
    · rename_i x r hi
      cases hF
      exact lv_istore_n E.1 E.2.1 hd hk I.1 hi (xst_map L i (.int x)) (fun ls' hl' => K ls' H locs cells slots ⟨hl', I.2⟩)
    · cases hF
  · cases hF
theorem xs_istore_ok {i : Nat} (hd : decode cc pc = .ok (.istore i, 2)) : xOK cc own ini nL cl Ts Ls xs zm um pc (xs_is nL i (pc + 2)) := by
  intro p l e R s m args below meth c D ca b H0 hs Q E hRc hRs hRf hRl L st w h pc' L' st' w' h' hF K ls H locs cells slots I
  unfold xs_is at hF
  split at hF
  · split at hF
    · rename_i x r hi
      cases hF
      exact lv_istore E.1 E.2.1 hd I.1 hi (xst_map L i (.int x)) (fun ls' hl' => K ls' H locs cells slots ⟨hl', I.2⟩)
    · cases hF
  · cases hF
def xs_as (nL i nx : Nat) : xS := fun L st w h => match st with
  | .ref x :: r => if i < nL then some (nx, xst L i (.ref x), r, w, h) else none
  | _ => none
theorem xs_astore_n_ok {k : Fin 4} {i : Nat} (hd : decode cc pc = .ok (.astore_n k, 1)) (hk : (k : Nat) = i) : xOK cc own ini nL cl Ts Ls xs zm um pc (xs_as nL i (pc + 1)) := by
  intro p l e R s m args below meth c D ca b H0 hs Q E hRc hRs hRf hRl L st w h pc' L' st' w' h' hF K ls H locs cells slots I
  unfold xs_as at hF
  split at hF
  · split at hF
    · rename_i x r hi
      cases hF
      exact lv_astore_n E.1 E.2.1 hd hk I.1 hi (xst_map L i (.ref x)) (fun ls' hl' => K ls' H locs cells slots ⟨hl', I.2⟩)
    · cases hF
  · cases hF
theorem xs_astore_ok {i : Nat} (hd : decode cc pc = .ok (.astore i, 2)) : xOK cc own ini nL cl Ts Ls xs zm um pc (xs_as nL i (pc + 2)) := by
  intro p l e R s m args below meth c D ca b H0 hs Q E hRc hRs hRf hRl L st w h pc' L' st' w' h' hF K ls H locs cells slots I
  unfold xs_as at hF
  split at hF
  · split at hF
    · rename_i x r hi
      cases hF
      exact lv_astore E.1 E.2.1 hd I.1 hi (xst_map L i (.ref x)) (fun ls' hl' => K ls' H locs cells slots ⟨hl', I.2⟩)
    · cases hF
  · cases hF
def xs_inc (nL i : Nat) (d : Int32) (nx : Nat) : xS := fun L st w h => match xlk L i with
  | some (.int x) => if i < nL then some (nx, xst L i (.int (x + d)), st, w, h) else none
  | _ => none
theorem xlk_ix {b base : Nat} {L : xL} {i : Nat} {v : Value} (h : xlk L i = some v) : ∃ k : Nat, (xml b base L)[k]? = some (i, xcv b base v) :=
  List.getElem?_of_mem (List.mem_map.mpr ⟨(i, v), xlk_mem L h, rfl⟩)
theorem xs_iinc_ok {i : Nat} {n : Int} {d : Int32} (hd : decode cc pc = .ok (.iinc i n, 3)) (hn : Int32.ofInt n = d) : xOK cc own ini nL cl Ts Ls xs zm um pc (xs_inc nL i d (pc + 3)) := by
  intro p l e R s m args below meth c D ca b H0 hs Q E hRc hRs hRf hRl L st w h pc' L' st' w' h' hF K ls H locs cells slots I
  unfold xs_inc at hF
  split at hF
  · split at hF
    · rename_i x hx hi
      cases hF
      obtain ⟨k, hk⟩ := xlk_ix (b := b) (base := H0.size) hx
      exact lv_iinc E.1 E.2.1 hd I.1 hk (by rw [hn]) hi (xst_map L i (.int (x + d))) (fun ls' hl' => K ls' H locs cells slots ⟨hl', I.2⟩)
    · cases hF
  · cases hF
def xs_iadd (nx : Nat) : xS := fun L st w h => match st with
  | .int y :: .int x :: r => some (nx, L, .int (x + y) :: r, w, h)
  | _ => none
theorem xs_iadd_ok (hd : decode cc pc = .ok (.iadd, 1)) : xOK cc own ini nL cl Ts Ls xs zm um pc (xs_iadd (pc + 1)) := by
  intro p l e R s m args below meth c D ca b H0 hs Q E hRc hRs hRf hRl L st w h pc' L' st' w' h' hF K ls H locs cells slots I
  unfold xs_iadd at hF
  split at hF
  · cases hF
    exact lv_iadd E.1 E.2.1 hd (K ls H locs cells slots I)
  · cases hF
def xs_isub (nx : Nat) : xS := fun L st w h => match st with
  | .int y :: .int x :: r => some (nx, L, .int (x - y) :: r, w, h)
  | _ => none
theorem xs_isub_ok (hd : decode cc pc = .ok (.isub, 1)) : xOK cc own ini nL cl Ts Ls xs zm um pc (xs_isub (pc + 1)) := by
  intro p l e R s m args below meth c D ca b H0 hs Q E hRc hRs hRf hRl L st w h pc' L' st' w' h' hF K ls H locs cells slots I
  unfold xs_isub at hF
  split at hF
  · cases hF
    exact lv_isub E.1 E.2.1 hd (K ls H locs cells slots I)
  · cases hF
def xs_imul (nx : Nat) : xS := fun L st w h => match st with
  | .int y :: .int x :: r => some (nx, L, .int (x * y) :: r, w, h)
  | _ => none
theorem xs_imul_ok (hd : decode cc pc = .ok (.imul, 1)) : xOK cc own ini nL cl Ts Ls xs zm um pc (xs_imul (pc + 1)) := by
  intro p l e R s m args below meth c D ca b H0 hs Q E hRc hRs hRf hRl L st w h pc' L' st' w' h' hF K ls H locs cells slots I
  unfold xs_imul at hF
  split at hF
  · cases hF
    exact lv_imul E.1 E.2.1 hd (K ls H locs cells slots I)
  · cases hF
def xs_iand (nx : Nat) : xS := fun L st w h => match st with
  | .int y :: .int x :: r => some (nx, L, .int (x &&& y) :: r, w, h)
  | _ => none
theorem xs_iand_ok (hd : decode cc pc = .ok (.iand, 1)) : xOK cc own ini nL cl Ts Ls xs zm um pc (xs_iand (pc + 1)) := by
  intro p l e R s m args below meth c D ca b H0 hs Q E hRc hRs hRf hRl L st w h pc' L' st' w' h' hF K ls H locs cells slots I
  unfold xs_iand at hF
  split at hF
  · cases hF
    exact lv_iand E.1 E.2.1 hd (K ls H locs cells slots I)
  · cases hF
def xs_ior (nx : Nat) : xS := fun L st w h => match st with
  | .int y :: .int x :: r => some (nx, L, .int (x ||| y) :: r, w, h)
  | _ => none
theorem xs_ior_ok (hd : decode cc pc = .ok (.ior, 1)) : xOK cc own ini nL cl Ts Ls xs zm um pc (xs_ior (pc + 1)) := by
  intro p l e R s m args below meth c D ca b H0 hs Q E hRc hRs hRf hRl L st w h pc' L' st' w' h' hF K ls H locs cells slots I
  unfold xs_ior at hF
  split at hF
  · cases hF
    exact lv_ior E.1 E.2.1 hd (K ls H locs cells slots I)
  · cases hF
def xs_i2l (nx : Nat) : xS := fun L st w h => match st with
  | .int x :: r => some (nx, L, .long x.toInt64 :: r, w, h)
  | _ => none
theorem xs_i2l_ok (hd : decode cc pc = .ok (.i2l, 1)) : xOK cc own ini nL cl Ts Ls xs zm um pc (xs_i2l (pc + 1)) := by
  intro p l e R s m args below meth c D ca b H0 hs Q E hRc hRs hRf hRl L st w h pc' L' st' w' h' hF K ls H locs cells slots I
  unfold xs_i2l at hF
  split at hF
  · cases hF
    exact lv_i2l E.1 E.2.1 hd rfl (K ls H locs cells slots I)
  · cases hF
def xs_lcmp (nx : Nat) : xS := fun L st w h => match st with
  | .long y :: .long x :: r => some (nx, L, .int (lg_cmp x y) :: r, w, h)
  | _ => none
theorem xs_lcmp_ok (hd : decode cc pc = .ok (.lcmp, 1)) : xOK cc own ini nL cl Ts Ls xs zm um pc (xs_lcmp (pc + 1)) := by
  intro p l e R s m args below meth c D ca b H0 hs Q E hRc hRs hRf hRl L st w h pc' L' st' w' h' hF K ls H locs cells slots I
  unfold xs_lcmp at hF
  split at hF
  · cases hF
    exact W.lcmp E.1 E.2.1 hd (K ls H locs cells slots I)
  · cases hF
def xs_dup (nx : Nat) : xS := fun L st w h => match st with
  | v :: r => if v.category = 1 then some (nx, L, v :: v :: r, w, h) else none
  | _ => none
theorem xs_dup_ok (hd : decode cc pc = .ok (.dup, 1)) : xOK cc own ini nL cl Ts Ls xs zm um pc (xs_dup (pc + 1)) := by
  intro p l e R s m args below meth c D ca b H0 hs Q E hRc hRs hRf hRl L st w h pc' L' st' w' h' hF K ls H locs cells slots I
  unfold xs_dup at hF
  split at hF
  · split at hF
    · rename_i v r hc
      cases hF
      exact lv_dup E.1 E.2.1 hd ((xcv_cat b H0.size v).trans hc) (K ls H locs cells slots I)
    · cases hF
  · cases hF
def xs_pop (nx : Nat) : xS := fun L st w h => match st with
  | v :: r => if v.category = 1 then some (nx, L, r, w, h) else none
  | _ => none
theorem xs_pop_ok (hd : decode cc pc = .ok (.pop, 1)) : xOK cc own ini nL cl Ts Ls xs zm um pc (xs_pop (pc + 1)) := by
  intro p l e R s m args below meth c D ca b H0 hs Q E hRc hRs hRf hRl L st w h pc' L' st' w' h' hF K ls H locs cells slots I
  unfold xs_pop at hF
  split at hF
  · split at hF
    · rename_i v r hc
      cases hF
      exact lv_pop E.1 E.2.1 hd ((xcv_cat b H0.size v).trans hc) (K ls H locs cells slots I)
    · cases hF
  · cases hF
def xs_goto (t : Nat) : xS := fun L st w h => some (t, L, st, w, h)
theorem xs_goto_ok {off : Int} {t : Nat} (hd : decode cc pc = .ok (.goto off, 3)) (ht : (pc : Int) + off = (t : Int)) : xOK cc own ini nL cl Ts Ls xs zm um pc (xs_goto t) := by
  intro p l e R s m args below meth c D ca b H0 hs Q E hRc hRs hRf hRl L st w h pc' L' st' w' h' hF K ls H locs cells slots I
  cases hF
  exact lv_goto E.1 E.2.1 hd ht (K ls H locs cells slots I)
def xs_if_eq (t nx : Nat) : xS := fun L st w h => match st with
  | .int x :: r => some (if x = 0 then t else nx, L, r, w, h)
  | _ => none
theorem xs_if_eq_ok {off : Int} {t : Nat} (hd : decode cc pc = .ok (.ifCond .eq off, 3)) (ht : (pc : Int) + off = (t : Int)) : xOK cc own ini nL cl Ts Ls xs zm um pc (xs_if_eq t (pc + 3)) := by
  intro p l e R s m args below meth c D ca b H0 hs Q E hRc hRs hRf hRl L st w h pc' L' st' w' h' hF K ls H locs cells slots I
  unfold xs_if_eq at hF
  split at hF
  · rename_i x r
    cases hF
    by_cases hc : x = 0
    · rw [if_pos hc] at K
      exact lv_if_eq E.1 E.2.1 hd ht (fun _ => K ls H locs cells slots I) (fun q => absurd hc (by simp_all))
    · rw [if_neg hc] at K
      exact lv_if_eq E.1 E.2.1 hd ht (fun q => absurd q (by simp_all)) (fun _ => K ls H locs cells slots I)
  · cases hF
def xs_if_ne (t nx : Nat) : xS := fun L st w h => match st with
  | .int x :: r => some (if ¬ x = 0 then t else nx, L, r, w, h)
  | _ => none
theorem xs_if_ne_ok {off : Int} {t : Nat} (hd : decode cc pc = .ok (.ifCond .ne off, 3)) (ht : (pc : Int) + off = (t : Int)) : xOK cc own ini nL cl Ts Ls xs zm um pc (xs_if_ne t (pc + 3)) := by
  intro p l e R s m args below meth c D ca b H0 hs Q E hRc hRs hRf hRl L st w h pc' L' st' w' h' hF K ls H locs cells slots I
  unfold xs_if_ne at hF
  split at hF
  · rename_i x r
    cases hF
    by_cases hc : ¬ x = 0
    · rw [if_pos hc] at K
      exact lv_if_ne E.1 E.2.1 hd ht (fun _ => K ls H locs cells slots I) (fun q => absurd hc (by simp_all))
    · rw [if_neg hc] at K
      exact lv_if_ne E.1 E.2.1 hd ht (fun q => absurd q (by simp_all)) (fun _ => K ls H locs cells slots I)
  · cases hF
def xs_if_lt (t nx : Nat) : xS := fun L st w h => match st with
  | .int x :: r => some (if x < 0 then t else nx, L, r, w, h)
  | _ => none
theorem xs_if_lt_ok {off : Int} {t : Nat} (hd : decode cc pc = .ok (.ifCond .lt off, 3)) (ht : (pc : Int) + off = (t : Int)) : xOK cc own ini nL cl Ts Ls xs zm um pc (xs_if_lt t (pc + 3)) := by
  intro p l e R s m args below meth c D ca b H0 hs Q E hRc hRs hRf hRl L st w h pc' L' st' w' h' hF K ls H locs cells slots I
  unfold xs_if_lt at hF
  split at hF
  · rename_i x r
    cases hF
    by_cases hc : x < 0
    · rw [if_pos hc] at K
      exact lv_if_lt E.1 E.2.1 hd ht (fun _ => K ls H locs cells slots I) (fun q => absurd hc (by simp_all))
    · rw [if_neg hc] at K
      exact lv_if_lt E.1 E.2.1 hd ht (fun q => absurd q (by simp_all)) (fun _ => K ls H locs cells slots I)
  · cases hF
def xs_if_ge (t nx : Nat) : xS := fun L st w h => match st with
  | .int x :: r => some (if 0 ≤ x then t else nx, L, r, w, h)
  | _ => none
theorem xs_if_ge_ok {off : Int} {t : Nat} (hd : decode cc pc = .ok (.ifCond .ge off, 3)) (ht : (pc : Int) + off = (t : Int)) : xOK cc own ini nL cl Ts Ls xs zm um pc (xs_if_ge t (pc + 3)) := by
  intro p l e R s m args below meth c D ca b H0 hs Q E hRc hRs hRf hRl L st w h pc' L' st' w' h' hF K ls H locs cells slots I
  unfold xs_if_ge at hF
  split at hF
  · rename_i x r
    cases hF
    by_cases hc : 0 ≤ x
    · rw [if_pos hc] at K
      exact lv_if_ge E.1 E.2.1 hd ht (fun _ => K ls H locs cells slots I) (fun q => absurd hc (by simp_all))
    · rw [if_neg hc] at K
      exact lv_if_ge E.1 E.2.1 hd ht (fun q => absurd q (by simp_all)) (fun _ => K ls H locs cells slots I)
  · cases hF
def xs_if_gt (t nx : Nat) : xS := fun L st w h => match st with
  | .int x :: r => some (if 0 < x then t else nx, L, r, w, h)
  | _ => none
theorem xs_if_gt_ok {off : Int} {t : Nat} (hd : decode cc pc = .ok (.ifCond .gt off, 3)) (ht : (pc : Int) + off = (t : Int)) : xOK cc own ini nL cl Ts Ls xs zm um pc (xs_if_gt t (pc + 3)) := by
  intro p l e R s m args below meth c D ca b H0 hs Q E hRc hRs hRf hRl L st w h pc' L' st' w' h' hF K ls H locs cells slots I
  unfold xs_if_gt at hF
  split at hF
  · rename_i x r
    cases hF
    by_cases hc : 0 < x
    · rw [if_pos hc] at K
      exact lv_if_gt E.1 E.2.1 hd ht (fun _ => K ls H locs cells slots I) (fun q => absurd hc (by simp_all))
    · rw [if_neg hc] at K
      exact lv_if_gt E.1 E.2.1 hd ht (fun q => absurd q (by simp_all)) (fun _ => K ls H locs cells slots I)
  · cases hF
def xs_if_le (t nx : Nat) : xS := fun L st w h => match st with
  | .int x :: r => some (if x ≤ 0 then t else nx, L, r, w, h)
  | _ => none
theorem xs_if_le_ok {off : Int} {t : Nat} (hd : decode cc pc = .ok (.ifCond .le off, 3)) (ht : (pc : Int) + off = (t : Int)) : xOK cc own ini nL cl Ts Ls xs zm um pc (xs_if_le t (pc + 3)) := by
  intro p l e R s m args below meth c D ca b H0 hs Q E hRc hRs hRf hRl L st w h pc' L' st' w' h' hF K ls H locs cells slots I
  unfold xs_if_le at hF
  split at hF
  · rename_i x r
    cases hF
    by_cases hc : x ≤ 0
    · rw [if_pos hc] at K
      exact lv_if_le E.1 E.2.1 hd ht (fun _ => K ls H locs cells slots I) (fun q => absurd hc (by simp_all))
    · rw [if_neg hc] at K
      exact lv_if_le E.1 E.2.1 hd ht (fun q => absurd q (by simp_all)) (fun _ => K ls H locs cells slots I)
  · cases hF
def xs_ic_eq (t nx : Nat) : xS := fun L st w h => match st with
  | .int y :: .int x :: r => some (if x = y then t else nx, L, r, w, h)
  | _ => none
theorem xs_ic_eq_ok {off : Int} {t : Nat} (hd : decode cc pc = .ok (.if_icmp .eq off, 3)) (ht : (pc : Int) + off = (t : Int)) : xOK cc own ini nL cl Ts Ls xs zm um pc (xs_ic_eq t (pc + 3)) := by
  intro p l e R s m args below meth c D ca b H0 hs Q E hRc hRs hRf hRl L st w h pc' L' st' w' h' hF K ls H locs cells slots I
  unfold xs_ic_eq at hF
  split at hF
  · rename_i y x r
    cases hF
    by_cases hc : x = y
    · rw [if_pos hc] at K
      exact lv_icmp_eq E.1 E.2.1 hd ht (fun _ => K ls H locs cells slots I) (fun q => absurd hc (by simp_all))
    · rw [if_neg hc] at K
      exact lv_icmp_eq E.1 E.2.1 hd ht (fun q => absurd q (by simp_all)) (fun _ => K ls H locs cells slots I)
  · cases hF
def xs_ic_ne (t nx : Nat) : xS := fun L st w h => match st with
  | .int y :: .int x :: r => some (if ¬ x = y then t else nx, L, r, w, h)
  | _ => none
theorem xs_ic_ne_ok {off : Int} {t : Nat} (hd : decode cc pc = .ok (.if_icmp .ne off, 3)) (ht : (pc : Int) + off = (t : Int)) : xOK cc own ini nL cl Ts Ls xs zm um pc (xs_ic_ne t (pc + 3)) := by
  intro p l e R s m args below meth c D ca b H0 hs Q E hRc hRs hRf hRl L st w h pc' L' st' w' h' hF K ls H locs cells slots I
  unfold xs_ic_ne at hF
  split at hF
  · rename_i y x r
    cases hF
    by_cases hc : ¬ x = y
    · rw [if_pos hc] at K
      exact lv_icmp_ne E.1 E.2.1 hd ht (fun _ => K ls H locs cells slots I) (fun q => absurd hc (by simp_all))
    · rw [if_neg hc] at K
      exact lv_icmp_ne E.1 E.2.1 hd ht (fun q => absurd q (by simp_all)) (fun _ => K ls H locs cells slots I)
  · cases hF
def xs_ic_lt (t nx : Nat) : xS := fun L st w h => match st with
  | .int y :: .int x :: r => some (if x < y then t else nx, L, r, w, h)
  | _ => none
theorem xs_ic_lt_ok {off : Int} {t : Nat} (hd : decode cc pc = .ok (.if_icmp .lt off, 3)) (ht : (pc : Int) + off = (t : Int)) : xOK cc own ini nL cl Ts Ls xs zm um pc (xs_ic_lt t (pc + 3)) := by
  intro p l e R s m args below meth c D ca b H0 hs Q E hRc hRs hRf hRl L st w h pc' L' st' w' h' hF K ls H locs cells slots I
  unfold xs_ic_lt at hF
  split at hF
  · rename_i y x r
    cases hF
    by_cases hc : x < y
    · rw [if_pos hc] at K
      exact lv_icmp_lt E.1 E.2.1 hd ht (fun _ => K ls H locs cells slots I) (fun q => absurd hc (by simp_all))
    · rw [if_neg hc] at K
      exact lv_icmp_lt E.1 E.2.1 hd ht (fun q => absurd q (by simp_all)) (fun _ => K ls H locs cells slots I)
  · cases hF
def xs_ic_ge (t nx : Nat) : xS := fun L st w h => match st with
  | .int y :: .int x :: r => some (if y ≤ x then t else nx, L, r, w, h)
  | _ => none
theorem xs_ic_ge_ok {off : Int} {t : Nat} (hd : decode cc pc = .ok (.if_icmp .ge off, 3)) (ht : (pc : Int) + off = (t : Int)) : xOK cc own ini nL cl Ts Ls xs zm um pc (xs_ic_ge t (pc + 3)) := by
  intro p l e R s m args below meth c D ca b H0 hs Q E hRc hRs hRf hRl L st w h pc' L' st' w' h' hF K ls H locs cells slots I
  unfold xs_ic_ge at hF
  split at hF
  · rename_i y x r
    cases hF
    by_cases hc : y ≤ x
    · rw [if_pos hc] at K
      exact lv_icmp_ge E.1 E.2.1 hd ht (fun _ => K ls H locs cells slots I) (fun q => absurd hc (by simp_all))
    · rw [if_neg hc] at K
      exact lv_icmp_ge E.1 E.2.1 hd ht (fun q => absurd q (by simp_all)) (fun _ => K ls H locs cells slots I)
  · cases hF
def xs_ic_gt (t nx : Nat) : xS := fun L st w h => match st with
  | .int y :: .int x :: r => some (if y < x then t else nx, L, r, w, h)
  | _ => none
theorem xs_ic_gt_ok {off : Int} {t : Nat} (hd : decode cc pc = .ok (.if_icmp .gt off, 3)) (ht : (pc : Int) + off = (t : Int)) : xOK cc own ini nL cl Ts Ls xs zm um pc (xs_ic_gt t (pc + 3)) := by
  intro p l e R s m args below meth c D ca b H0 hs Q E hRc hRs hRf hRl L st w h pc' L' st' w' h' hF K ls H locs cells slots I
  unfold xs_ic_gt at hF
  split at hF
  · rename_i y x r
    cases hF
    by_cases hc : y < x
    · rw [if_pos hc] at K
      exact lv_icmp_gt E.1 E.2.1 hd ht (fun _ => K ls H locs cells slots I) (fun q => absurd hc (by simp_all))
    · rw [if_neg hc] at K
      exact lv_icmp_gt E.1 E.2.1 hd ht (fun q => absurd q (by simp_all)) (fun _ => K ls H locs cells slots I)
  · cases hF
def xs_ic_le (t nx : Nat) : xS := fun L st w h => match st with
  | .int y :: .int x :: r => some (if x ≤ y then t else nx, L, r, w, h)
  | _ => none
theorem xs_ic_le_ok {off : Int} {t : Nat} (hd : decode cc pc = .ok (.if_icmp .le off, 3)) (ht : (pc : Int) + off = (t : Int)) : xOK cc own ini nL cl Ts Ls xs zm um pc (xs_ic_le t (pc + 3)) := by
  intro p l e R s m args below meth c D ca b H0 hs Q E hRc hRs hRf hRl L st w h pc' L' st' w' h' hF K ls H locs cells slots I
  unfold xs_ic_le at hF
  split at hF
  · rename_i y x r
    cases hF
    by_cases hc : x ≤ y
    · rw [if_pos hc] at K
      exact lv_icmp_le E.1 E.2.1 hd ht (fun _ => K ls H locs cells slots I) (fun q => absurd hc (by simp_all))
    · rw [if_neg hc] at K
      exact lv_icmp_le E.1 E.2.1 hd ht (fun q => absurd q (by simp_all)) (fun _ => K ls H locs cells slots I)
  · cases hF
end XO
end
section
/-! The abstract machine's instructions on cells. -/
def xfit : Nat → Value → Bool
  | 0, .int _ => true
  | 1, .int x => x == 0 || x == 1
  | 2, .ref _ => true
  | _, _ => false
def xty (kind : Nat) (ty : FieldType) : Prop := match kind with
  | 0 => ty = .int
  | 1 => ty = .boolean
  | _ => (∃ n, ty = .object n) ∨ ∃ t, ty = .array t
theorem xfit_ok {b base kind : Nat} {v : Value} {ty : FieldType} (h : xfit kind v = true) (ht : xty kind ty) : narrow ty (xcv b base v) = xcv b base v ∧ fits ty (xcv b base v) = true := by
  unfold xfit at h
  split at h
  · cases ht
    exact ⟨rfl, rfl⟩
  · cases ht
    simp only [Bool.or_eq_true, beq_iff_eq] at h
    rcases h with rfl | rfl
    · exact ⟨(by decide : narrow .boolean (.int 0) = .int 0), (by decide : fits .boolean (.int 0) = true)⟩
    · exact ⟨(by decide : narrow .boolean (.int 1) = .int 1), (by decide : fits .boolean (.int 1) = true)⟩
  · rcases ht with ⟨n, rfl⟩ | ⟨t, rfl⟩ <;> exact ⟨rfl, rfl⟩
  · cases h
abbrev xin (i : Int32) (n : Nat) : Prop := ¬ i < 0 ∧ i.toNatClampNeg < n
theorem xin_vp {i : Int32} {n : Nat} (h : xin i n) : vp_in i n := fun q => q.elim h.1 (fun z => by have := h.2; omega)
def xcs (st : List Value) : Nat := (st.map fun v => v.category).sum
theorem xcs_map (b base : Nat) (st : List Value) : ((st.map (xcv b base)).map fun v => v.category).sum = xcs st := by
  unfold xcs
  rw [List.map_map]
  congr 1
  apply List.map_congr_left
  intro v _
  exact xcv_cat b base v
def xgr (f : Nat → Option xB) (z N K : Nat) : Nat → Option xB := fun j => if j = z then some (.inr (.inr (.inr (N, z + 1)))) else if z < j ∧ j ≤ z + N then some (.inr (.inl (0, K, fun _ => 0))) else f j
section XQ
variable {D : va_G} {cl : List vw_C} {ca : Nat → ClassId} {b : Nat} {H0 H H1 : Heap} {h : xH}
theorem xrp_ad (hr : xrp D cl ca b H0 h H) : xcv b H0.size (.ref h.1) = .ref H.size := by
  obtain ⟨r1, r2, -, -⟩ := hr
  obtain ⟨i, hi⟩ : ∃ i, h.1 = i + 1 := ⟨h.1 - 1, by omega⟩
  have e9 : H0.size + i = H.size := by omega
  rw [hi, ← e9]
  rfl
theorem xrp_grid (hr : xrp D cl ca b H0 h H) {N K : Nat} (h1 : va_at D cl (H.size, .inl (ca 3, N, .inr (.inr (.inr (.inr (fun i => if i < N then some (H.size + 1 + i) else none)))))) H1) (h2 : ∀ j, j < N → va_at D cl (H.size + 1 + j, .inl (ca 0, K, .inl (fun _ => 0))) H1) (hz : H1.size = H.size + 1 + N) (ho : ∀ q, q < H.size → H1[q]? = H[q]?) (n : Nat) : xrp D cl ca b H0 (h.1 + 1 + N, n, xgr h.2.2 h.1 N K) H1 := by
  have hr' := hr
  obtain ⟨r1, r2, r3, r4⟩ := hr
  refine ⟨by show 1 ≤ h.1 + 1 + N; omega, by show H1.size + 1 = H0.size + (h.1 + 1 + N); omega, fun q hq => by rw [ho q (by omega)]; exact r3 q hq, fun j y hj => ?_⟩
  show j + 1 < h.1 + 1 + N ∧ _
  have hj : xgr h.2.2 h.1 N K (j + 1) = some y := hj
  unfold xgr at hj
  by_cases e : j + 1 = h.1
  · rw [if_pos e] at hj
    cases hj
    have ea : H0.size + j = H.size := by omega
    rw [ea]
    refine ⟨by omega, ?_⟩
    have ef : (fun i => if i < N then some (xad b H0.size (h.1 + 1 + i)) else none) = (fun i => if i < N then some (H.size + 1 + i) else none) := by
      funext i
      congr 2
      rw [show h.1 + 1 + i = (h.1 + i) + 1 by omega]
      show H0.size + (h.1 + i) = _
      omega
    show va_at D cl (H.size, .inl (ca 3, N, .inr (.inr (.inr (.inr (fun i => if i < N then some (xad b H0.size (h.1 + 1 + i)) else none)))))) H1
    rw [ef]
    exact h1
  · rw [if_neg e] at hj
    by_cases e2 : h.1 < j + 1 ∧ j + 1 ≤ h.1 + N
    · rw [if_pos e2] at hj
      cases hj
      refine ⟨by omega, ?_⟩
      have ea : H0.size + j = H.size + 1 + (j - h.1) := by omega
      rw [ea]
      exact h2 (j - h.1) (by omega)
    · rw [if_neg e2] at hj
      exact ⟨by have := (r4 j y hj).1; omega, xrp_old hr' ho hj⟩
end XQ
section XO
variable {cc : ByteArray} {own : String} {ini : Bool} {nL : Nat} {cl : List vw_C} {Ts : List Cond} {Ls : Nat} {xs : Nat → Int32} {zm um pc : Nat}

def xs_gf (ci k nx : Nat) : xS := fun L st w h => match st with
  | .ref (j + 1) :: r => (match h.2.2 (j + 1) with
    | some (.inl (c2, fs)) => (match fs[k]? with
      | some v => if c2 = ci then some (nx, L, v :: r, w, h) else none
      | none => none)
    | _ => none)
  | _ => none
theorem xs_gf_ok {C : String} {T : u_T} {N ci k idx : Nat} (hd : decode cc pc = .ok (.getfield idx, 3)) (hc : cl[ci]? = some (C, T, N)) (hin : ∀ w ∈ u_ws C T N, w ∈ Ts) (hk : k < N) (hl : Cond.fieldLink own idx (T k).1 (T k).2.1 (T k).2.2.1 ∈ Ts) : xOK cc own ini nL cl Ts Ls xs zm um pc (xs_gf ci k (pc + 3)) := by
  intro p l e R s m args below meth c D ca b H0 hs Q E hRc hRs hRf hRl L st w h pc' L' st' w' h' hF K ls H locs cells slots I
  obtain ⟨hx, hb, hown, hts, hK, hX, hbl, hml, hnm0, hao⟩ := E
  obtain ⟨i1, i2, i3, i4, i5, i6, i7, i8⟩ := I
  unfold xs_gf at hF
  split at hF
  · split at hF
    · split at hF
      · split at hF
        · rename_i j r _ c2 fs hcell _ v hv hci
          subst hci
          cases hF
          exact xr_get hx hb hts hin hown hK (i2.2.2.2 j _ hcell).2 hc k hk (hts _ hl) (v := xcv b H0.size v) (by rw [List.getElem?_map, hv]; rfl) hd (K ls H locs cells slots ⟨i1, i2, i3, i4, i5, i6, i7, i8⟩)
        · cases hF
      · cases hF
    · cases hF
  · cases hF
def xs_pf (ci k kind nx : Nat) : xS := fun L st w h => match st with
  | v :: .ref (j + 1) :: r => (match h.2.2 (j + 1) with
    | some (.inl (c2, fs)) => if c2 = ci ∧ k < fs.length ∧ xfit kind v = true then some (nx, L, r, true, (h.1, h.2.1, xup h.2.2 (j + 1) (some (.inl (c2, fs.set k v))))) else none
    | _ => none)
  | _ => none
theorem xs_pf_ok {C : String} {T : u_T} {N ci k idx kind : Nat} {ty0 : Nat → FieldType} (hd : decode cc pc = .ok (.putfield idx, 3)) (hc : cl[ci]? = some (C, T, N)) (hin : ∀ w ∈ u_ws C T N, w ∈ Ts) (hty : ∀ k, k < N → parseFieldDescriptor (T k).2.2.1 = some (ty0 k)) (hnm : ∀ a, a < N → ∀ b, b < N → a ≠ b → (T a).2.1 ≠ (T b).2.1) (hk : k < N) (hl : Cond.fieldLink own idx (T k).1 (T k).2.1 (T k).2.2.1 ∈ Ts)
    (hfin : (T k).2.2.2 = false ∨ ((T k).2.2.2 = true ∧ ini = true ∧ (T k).1 = own)) (hkd : xty kind (ty0 k)) : xOK cc own ini nL cl Ts Ls xs zm um pc (xs_pf ci k kind (pc + 3)) := by
  intro p l e R s m args below meth c D ca b H0 hs Q E hRc hRs hRf hRl L st w h pc' L' st' w' h' hF K ls H locs cells slots I
  obtain ⟨hx, hb, hown, hts, hK, hX, hbl, hml, hnm0, hao⟩ := E
  obtain ⟨i1, i2, i3, i4, i5, i6, i7, i8⟩ := I
  unfold xs_pf at hF
  split at hF
  · split at hF
    · split at hF
      · rename_i v j r _ c2 fs hcell hcond
        obtain ⟨hci, hlen, hfit⟩ := hcond
        subst hci
        cases hF
        obtain ⟨f1, f2⟩ := xfit_ok (b := b) (base := H0.size) hfit hkd
        refine xr_put hx hb hts hin ty0 hty hnm hown hK (i2.2.2.2 j _ hcell).2 hc k hk (hts _ hl) (hfin.imp id (fun q => ⟨q.1, hnm0 q.2.1, q.2.2⟩)) (v := xcv b H0.size v) f1 f2 (by rw [List.length_map]; exact hlen) hd (fun H1 locs1 hat hz ho hlc => K ls H1 locs1 cells slots ⟨i1, xrp_set i2 hcell ?_ hz ho, fun q hq => ?_, i4, i5, i6, i7, fun q => by cases q⟩)
        · show va_at D cl (H0.size + j, .inr (c2, (fs.set k v).map (xcv b H0.size))) H1
          rw [List.map_set]
          exact hat
        · rcases hlc q hq with h9 | h9
          · exact i3 q h9
          · rw [h9]; exact Nat.le_add_right _ _
      · cases hF
    · cases hF
  · cases hF
def xs_nw (zm um ci N : Nat) (fs : List Value) (nx : Nat) : xS := fun L st w h => if h.1 + 1 ≤ zm ∧ h.2.1 + N ≤ um then some (nx, L, .ref h.1 :: st, true, (h.1 + 1, h.2.1 + N, xup h.2.2 h.1 (some (.inl (ci, fs))))) else none
theorem xs_nw_ok {C : String} {T : u_T} {N ci idx : Nat} {ty0 : Nat → FieldType} {fs : List Value} (hd : decode cc pc = .ok (.new idx, 3)) (hc : cl[ci]? = some (C, T, N)) (hin : ∀ w ∈ u_ws C T N, w ∈ Ts) (hty : ∀ k, k < N → parseFieldDescriptor (T k).2.2.1 = some (ty0 k)) (hcl : Cond.classLink own idx C ∈ Ts) (hinst : Cond.instantiable C N ∈ Ts) (hini : Cond.initialized C ∈ Ts) (hfs : ∀ b base j, j < N → defaultValue (ty0 j) = vp_V (fs.map (xcv b base)) j) : xOK cc own ini nL cl Ts Ls xs zm um pc (xs_nw zm um ci N fs (pc + 3)) := by
  intro p l e R s m args below meth c D ca b H0 hs Q E hRc hRs hRf hRl L st w h pc' L' st' w' h' hF K ls H locs cells slots I
  obtain ⟨hx, hb, hown, hts, hK, hX, hbl, hml, hnm0, hao⟩ := E
  obtain ⟨i1, i2, i3, i4, i5, i6, i7, i8⟩ := I
  unfold xs_nw at hF
  split at hF
  · rename_i hcond
    obtain ⟨z1, z2⟩ := hcond
    cases hF
    refine xr_new hx hb hts hin ty0 hty hown (hts _ hcl) (hts _ hinst) (hts _ hini) hK hc (fs := fs.map (xcv b H0.size)) (hfs b H0.size) (by omega) (by omega) hd (fun H1 hat hz ho => ?_)
    have K1 := K ls H1 locs (cells + 1) (slots + N) ⟨i1, xrp_new i2 (x := .inl (ci, fs)) hat hz ho N, i3, by show cells + 1 + hs.1 = h.1 + 1; omega, by show slots + N + hs.2.1 = h.2.1 + N; omega, z1, z2, fun q => by cases q⟩
    rw [List.map_cons, xrp_ad i2] at K1
    exact K1
  · cases hF
def xs_nai (zm um nx : Nat) : xS := fun L st w h => match st with
  | .int n :: r => if ¬ n < 0 ∧ n.toNatClampNeg ≤ 1000000 ∧ h.1 + 1 ≤ zm ∧ h.2.1 + n.toNatClampNeg ≤ um then some (nx, L, .ref h.1 :: r, true, (h.1 + 1, h.2.1 + n.toNatClampNeg, xup h.2.2 h.1 (some (.inr (.inl (0, n.toNatClampNeg, fun _ => 0)))))) else none
  | _ => none
theorem xs_nai_ok (hd : decode cc pc = .ok (.newarray .int, 2)) (hac : Cond.arrayClass .int ∈ Ts) : xOK cc own ini nL cl Ts Ls xs zm um pc (xs_nai zm um (pc + 2)) := by
  intro p l e R s m args below meth c D ca b H0 hs Q E hRc hRs hRf hRl L st w h pc' L' st' w' h' hF K ls H locs cells slots I
  obtain ⟨hx, hb, hown, hts, hK, hX, hbl, hml, hnm0, hao⟩ := E
  obtain ⟨i1, i2, i3, i4, i5, i6, i7, i8⟩ := I
  unfold xs_nai at hF
  split at hF
  · split at hF
    · rename_i n r hcond
      obtain ⟨z0, z3, z1, z2⟩ := hcond
      cases hF
      refine xr_newa (atype := .int) hx hb (hts _ hac) hK 0 rfl (hK.2 0 _ rfl).2 (N' := n.toNatClampNeg) (a0 := (n.toNatClampNeg, .inl (fun _ => 0))) (by rw [vp_cell_i]; rfl) z0 rfl ?_ (by omega) (by omega) hd (fun H1 hat hz ho => ?_)
      · show n.toNatClampNeg * 4 ≤ 536870912
        omega
      · have K1 := K ls H1 locs (cells + 1) (slots + n.toNatClampNeg) ⟨i1, xrp_new i2 (x := .inr (.inl (0, n.toNatClampNeg, fun _ => 0))) hat hz ho n.toNatClampNeg, i3, by show cells + 1 + hs.1 = h.1 + 1; omega, by show slots + n.toNatClampNeg + hs.2.1 = h.2.1 + n.toNatClampNeg; omega, z1, z2, fun q => by cases q⟩
        rw [List.map_cons, xrp_ad i2] at K1
        exact K1
    · cases hF
  · cases hF
def xs_naz (zm um nx : Nat) : xS := fun L st w h => match st with
  | .int n :: r => if ¬ n < 0 ∧ n.toNatClampNeg ≤ 1000000 ∧ h.1 + 1 ≤ zm ∧ h.2.1 + n.toNatClampNeg ≤ um then some (nx, L, .ref h.1 :: r, true, (h.1 + 1, h.2.1 + n.toNatClampNeg, xup h.2.2 h.1 (some (.inr (.inl (1, n.toNatClampNeg, fun _ => 0)))))) else none
  | _ => none
theorem xs_naz_ok (hd : decode cc pc = .ok (.newarray .boolean, 2)) (hac : Cond.arrayClass .boolean ∈ Ts) : xOK cc own ini nL cl Ts Ls xs zm um pc (xs_naz zm um (pc + 2)) := by
  intro p l e R s m args below meth c D ca b H0 hs Q E hRc hRs hRf hRl L st w h pc' L' st' w' h' hF K ls H locs cells slots I
  obtain ⟨hx, hb, hown, hts, hK, hX, hbl, hml, hnm0, hao⟩ := E
  obtain ⟨i1, i2, i3, i4, i5, i6, i7, i8⟩ := I
  unfold xs_naz at hF
  split at hF
  · split at hF
    · rename_i n r hcond
      obtain ⟨z0, z3, z1, z2⟩ := hcond
      cases hF
      refine xr_newa (atype := .boolean) hx hb (hts _ hac) hK 1 rfl (hK.2 1 _ rfl).2 (N' := n.toNatClampNeg) (a0 := (n.toNatClampNeg, .inl (fun _ => 0))) (by rw [vp_cell_i]; rfl) z0 rfl ?_ (by omega) (by omega) hd (fun H1 hat hz ho => ?_)
      · show n.toNatClampNeg * 1 ≤ 536870912
        omega
      · have K1 := K ls H1 locs (cells + 1) (slots + n.toNatClampNeg) ⟨i1, xrp_new i2 (x := .inr (.inl (1, n.toNatClampNeg, fun _ => 0))) hat hz ho n.toNatClampNeg, i3, by show cells + 1 + hs.1 = h.1 + 1; omega, by show slots + n.toNatClampNeg + hs.2.1 = h.2.1 + n.toNatClampNeg; omega, z1, z2, fun q => by cases q⟩
        rw [List.map_cons, xrp_ad i2] at K1
        exact K1
    · cases hF
  · cases hF
def xs_naj (zm um nx : Nat) : xS := fun L st w h => match st with
  | .int n :: r => if ¬ n < 0 ∧ n.toNatClampNeg ≤ 1000000 ∧ h.1 + 1 ≤ zm ∧ h.2.1 + n.toNatClampNeg ≤ um then some (nx, L, .ref h.1 :: r, true, (h.1 + 1, h.2.1 + n.toNatClampNeg, xup h.2.2 h.1 (some (.inr (.inr (.inl (n.toNatClampNeg, fun _ => 0))))))) else none
  | _ => none
theorem xs_naj_ok (hd : decode cc pc = .ok (.newarray .long, 2)) (hac : Cond.arrayClass .long ∈ Ts) : xOK cc own ini nL cl Ts Ls xs zm um pc (xs_naj zm um (pc + 2)) := by
  intro p l e R s m args below meth c D ca b H0 hs Q E hRc hRs hRf hRl L st w h pc' L' st' w' h' hF K ls H locs cells slots I
  obtain ⟨hx, hb, hown, hts, hK, hX, hbl, hml, hnm0, hao⟩ := E
  obtain ⟨i1, i2, i3, i4, i5, i6, i7, i8⟩ := I
  unfold xs_naj at hF
  split at hF
  · split at hF
    · rename_i n r hcond
      obtain ⟨z0, z3, z1, z2⟩ := hcond
      cases hF
      refine xr_newa (atype := .long) hx hb (hts _ hac) hK 2 rfl (hK.2 2 _ rfl).2 (N' := n.toNatClampNeg) (a0 := (n.toNatClampNeg, .inr (.inl (fun _ => 0)))) (by rw [vp_cell_l]; rfl) z0 rfl ?_ (by omega) (by omega) hd (fun H1 hat hz ho => ?_)
      · show n.toNatClampNeg * 8 ≤ 536870912
        omega
      · have K1 := K ls H1 locs (cells + 1) (slots + n.toNatClampNeg) ⟨i1, xrp_new i2 (x := .inr (.inr (.inl (n.toNatClampNeg, fun _ => 0)))) hat hz ho n.toNatClampNeg, i3, by show cells + 1 + hs.1 = h.1 + 1; omega, by show slots + n.toNatClampNeg + hs.2.1 = h.2.1 + n.toNatClampNeg; omega, z1, z2, fun q => by cases q⟩
        rw [List.map_cons, xrp_ad i2] at K1
        exact K1
    · cases hF
  · cases hF
def xs_mn (zm um nx : Nat) : xS := fun L st w h => match st with
  | .int k :: .int n :: r => if ¬ n < 0 ∧ ¬ k < 0 ∧ n.toNatClampNeg ≤ 1000 ∧ k.toNatClampNeg ≤ 1000 ∧ h.1 + 1 + n.toNatClampNeg ≤ zm ∧ h.2.1 + n.toNatClampNeg + n.toNatClampNeg * k.toNatClampNeg ≤ um then some (nx, L, .ref h.1 :: r, true, (h.1 + 1 + n.toNatClampNeg, h.2.1 + n.toNatClampNeg + n.toNatClampNeg * k.toNatClampNeg, xgr h.2.2 h.1 n.toNatClampNeg k.toNatClampNeg)) else none
  | _ => none
theorem xs_mn_ok {idx : Nat} (hd : decode cc pc = .ok (.multianewarray idx 2, 4)) (hcl : Cond.classLink own idx ("[" ++ (FieldType.array .int).toString) ∈ Ts) (hac : Cond.arrayClass .int ∈ Ts) : xOK cc own ini nL cl Ts Ls xs zm um pc (xs_mn zm um (pc + 4)) := by
  intro p l e R s m args below meth c D ca b H0 hs Q E hRc hRs hRf hRl L st w h pc' L' st' w' h' hF K ls H locs cells slots I
  obtain ⟨hx, hb, hown, hts, hK, hX, hbl, hml, hnm0, hao⟩ := E
  obtain ⟨i1, i2, i3, i4, i5, i6, i7, i8⟩ := I
  unfold xs_mn at hF
  split at hF
  · split at hF
    · rename_i k n r hcond
      obtain ⟨z0, z4, z3, z5, z1, z2⟩ := hcond
      cases hF
      refine xr_mna (D := D) (cl := cl) hx hb hown (hts _ hcl) hao (hts _ hac) (cI := ca 0) (cA := ca 3) (hK.2 0 _ rfl).2 (hK.2 3 _ rfl).2 (N' := n.toNatClampNeg) (K' := k.toNatClampNeg) z0 z4 rfl rfl (by omega) (by omega) (by omega) (by omega) hd (fun H1 h1 h2 hz ho => ?_)
      have K1 := K ls H1 locs (cells + 1 + n.toNatClampNeg) (slots + n.toNatClampNeg + n.toNatClampNeg * k.toNatClampNeg) ⟨i1, xrp_grid i2 h1 h2 hz ho _, i3, by show cells + 1 + n.toNatClampNeg + hs.1 = h.1 + 1 + n.toNatClampNeg; omega, by show slots + n.toNatClampNeg + n.toNatClampNeg * k.toNatClampNeg + hs.2.1 = h.2.1 + n.toNatClampNeg + n.toNatClampNeg * k.toNatClampNeg; omega, z1, z2, fun q => by cases q⟩
      rw [List.map_cons, xrp_ad i2] at K1
      exact K1
    · cases hF
  · cases hF
def xs_ia (Ls : Nat) (xs : Nat → Int32) (nx : Nat) : xS := fun L st w h => match st with
  | .int i :: .ref 0 :: r => if xin i Ls then some (nx, L, .int (xs i.toNatClampNeg) :: r, w, h) else none
  | .int i :: .ref (j + 1) :: r => (match h.2.2 (j + 1) with
    | some (.inr (.inl (kd, n, f))) => if kd = 0 ∧ xin i n then some (nx, L, .int (f i.toNatClampNeg) :: r, w, h) else none
    | _ => none)
  | _ => none
theorem xs_ia_ok (hd : decode cc pc = .ok (.iaload, 1)) : xOK cc own ini nL cl Ts Ls xs zm um pc (xs_ia Ls xs (pc + 1)) := by
  intro p l e R s m args below meth c D ca b H0 hs Q E hRc hRs hRf hRl L st w h pc' L' st' w' h' hF K ls H locs cells slots I
  obtain ⟨hx, hb, hown, hts, hK, hX, hbl, hml, hnm0, hao⟩ := E
  obtain ⟨i1, i2, i3, i4, i5, i6, i7, i8⟩ := I
  unfold xs_ia at hF
  split at hF
  · split at hF
    · rename_i i r hcond
      cases hF
      obtain ⟨scr, s1, s2, s3, s4, s5⟩ := hX
      exact W.iald (v := .int (xs i.toNatClampNeg)) hx hb ((i2.2.2.1 b hbl).trans s1) s2 s3 (by rw [s4]; exact xin_vp hcond) (s5 _ hcond.2) rfl rfl hd (K ls H locs cells slots ⟨i1, i2, i3, i4, i5, i6, i7, i8⟩)
    · cases hF
  · split at hF
    · split at hF
      · rename_i i j r _ kd n f hcell hcond
        obtain ⟨hkd, hin⟩ := hcond
        subst hkd
        cases hF
        exact xr_iald hx hb hK 0 (i2.2.2.2 j _ hcell).2 rfl (xin_vp hin) hd (K ls H locs cells slots ⟨i1, i2, i3, i4, i5, i6, i7, i8⟩)
      · cases hF
    · cases hF
  · cases hF
def xs_za (nx : Nat) : xS := fun L st w h => match st with
  | .int i :: .ref (j + 1) :: r => (match h.2.2 (j + 1) with
    | some (.inr (.inl (kd, n, f))) => if kd = 1 ∧ xin i n then some (nx, L, .int (f i.toNatClampNeg) :: r, w, h) else none
    | _ => none)
  | _ => none
theorem xs_za_ok (hd : decode cc pc = .ok (.baload, 1)) : xOK cc own ini nL cl Ts Ls xs zm um pc (xs_za (pc + 1)) := by
  intro p l e R s m args below meth c D ca b H0 hs Q E hRc hRs hRf hRl L st w h pc' L' st' w' h' hF K ls H locs cells slots I
  obtain ⟨hx, hb, hown, hts, hK, hX, hbl, hml, hnm0, hao⟩ := E
  obtain ⟨i1, i2, i3, i4, i5, i6, i7, i8⟩ := I
  unfold xs_za at hF
  split at hF
  · split at hF
    · split at hF
      · rename_i i j r _ kd n f hcell hcond
        obtain ⟨hkd, hin⟩ := hcond
        subst hkd
        cases hF
        exact xr_zald hx hb hK 1 (i2.2.2.2 j _ hcell).2 rfl (xin_vp hin) hd (K ls H locs cells slots ⟨i1, i2, i3, i4, i5, i6, i7, i8⟩)
      · cases hF
    · cases hF
  · cases hF
def xs_la (nx : Nat) : xS := fun L st w h => match st with
  | .int i :: .ref (j + 1) :: r => (match h.2.2 (j + 1) with
    | some (.inr (.inr (.inl (n, f)))) => if xin i n then some (nx, L, .long (f i.toNatClampNeg) :: r, w, h) else none
    | _ => none)
  | _ => none
theorem xs_la_ok (hd : decode cc pc = .ok (.laload, 1)) : xOK cc own ini nL cl Ts Ls xs zm um pc (xs_la (pc + 1)) := by
  intro p l e R s m args below meth c D ca b H0 hs Q E hRc hRs hRf hRl L st w h pc' L' st' w' h' hF K ls H locs cells slots I
  obtain ⟨hx, hb, hown, hts, hK, hX, hbl, hml, hnm0, hao⟩ := E
  obtain ⟨i1, i2, i3, i4, i5, i6, i7, i8⟩ := I
  unfold xs_la at hF
  split at hF
  · split at hF
    · split at hF
      · rename_i i j r _ n f hcell hin
        cases hF
        exact xr_lald hx hb hK 2 (i2.2.2.2 j _ hcell).2 rfl (xin_vp hin) hd (K ls H locs cells slots ⟨i1, i2, i3, i4, i5, i6, i7, i8⟩)
      · cases hF
    · cases hF
  · cases hF
def xs_len (Ls nx : Nat) : xS := fun L st w h => match st with
  | .ref 0 :: r => some (nx, L, .int (nI Ls) :: r, w, h)
  | .ref (j + 1) :: r => (match h.2.2 (j + 1) with
    | some (.inr (.inl (kd, n, _))) => if kd = 0 then some (nx, L, .int (nI n) :: r, w, h) else none
    | _ => none)
  | _ => none
theorem xs_len_ok (hd : decode cc pc = .ok (.arraylength, 1)) : xOK cc own ini nL cl Ts Ls xs zm um pc (xs_len Ls (pc + 1)) := by
  intro p l e R s m args below meth c D ca b H0 hs Q E hRc hRs hRf hRl L st w h pc' L' st' w' h' hF K ls H locs cells slots I
  obtain ⟨hx, hb, hown, hts, hK, hX, hbl, hml, hnm0, hao⟩ := E
  obtain ⟨i1, i2, i3, i4, i5, i6, i7, i8⟩ := I
  unfold xs_len at hF
  split at hF
  · cases hF
    obtain ⟨scr, s1, s2, s3, s4, s5⟩ := hX
    exact W.alen (n := nI Ls) hx hb ((i2.2.2.1 b hbl).trans s1) s2 (by rw [s4]; rfl) rfl rfl hd (K ls H locs cells slots ⟨i1, i2, i3, i4, i5, i6, i7, i8⟩)
  · split at hF
    · split at hF
      · rename_i j r _ kd n f hcell hkd
        subst hkd
        cases hF
        exact xr_alen hx hb hK 0 (i2.2.2.2 j _ hcell).2 rfl hd (K ls H locs cells slots ⟨i1, i2, i3, i4, i5, i6, i7, i8⟩)
      · cases hF
    · cases hF
  · cases hF
def xs_ias (nx : Nat) : xS := fun L st w h => match st with
  | .int x :: .int i :: .ref (j + 1) :: r => (match h.2.2 (j + 1) with
    | some (.inr (.inl (kd, n, f))) => if kd = 0 ∧ xin i n then some (nx, L, r, true, (h.1, h.2.1, xup h.2.2 (j + 1) (some (.inr (.inl (kd, n, upd f i.toNatClampNeg x)))))) else none
    | _ => none)
  | _ => none
theorem xs_ias_ok (hd : decode cc pc = .ok (.iastore, 1)) : xOK cc own ini nL cl Ts Ls xs zm um pc (xs_ias (pc + 1)) := by
  intro p l e R s m args below meth c D ca b H0 hs Q E hRc hRs hRf hRl L st w h pc' L' st' w' h' hF K ls H locs cells slots I
  obtain ⟨hx, hb, hown, hts, hK, hX, hbl, hml, hnm0, hao⟩ := E
  obtain ⟨i1, i2, i3, i4, i5, i6, i7, i8⟩ := I
  unfold xs_ias at hF
  split at hF
  · split at hF
    · split at hF
      · rename_i x i j r _ kd n f hcell hcond
        obtain ⟨hkd, hin⟩ := hcond
        subst hkd
        cases hF
        refine xr_iast hx hb hK 0 (i2.2.2.2 j _ hcell).2 rfl (xin_vp hin) hd (fun H1 locs1 hat hz ho hlc => K ls H1 locs1 cells slots ⟨i1, xrp_set i2 hcell hat hz ho, fun q hq => ?_, i4, i5, i6, i7, fun q => by cases q⟩)
        rcases hlc q hq with h9 | h9
        · exact i3 q h9
        · rw [h9]; exact Nat.le_add_right _ _
      · cases hF
    · cases hF
  · cases hF
def xs_zas (nx : Nat) : xS := fun L st w h => match st with
  | .int x :: .int i :: .ref (j + 1) :: r => (match h.2.2 (j + 1) with
    | some (.inr (.inl (kd, n, f))) => if kd = 1 ∧ xin i n ∧ (x = 0 ∨ x = 1) then some (nx, L, r, true, (h.1, h.2.1, xup h.2.2 (j + 1) (some (.inr (.inl (kd, n, upd f i.toNatClampNeg x)))))) else none
    | _ => none)
  | _ => none
theorem xs_zas_ok (hd : decode cc pc = .ok (.bastore, 1)) : xOK cc own ini nL cl Ts Ls xs zm um pc (xs_zas (pc + 1)) := by
  intro p l e R s m args below meth c D ca b H0 hs Q E hRc hRs hRf hRl L st w h pc' L' st' w' h' hF K ls H locs cells slots I
  obtain ⟨hx, hb, hown, hts, hK, hX, hbl, hml, hnm0, hao⟩ := E
  obtain ⟨i1, i2, i3, i4, i5, i6, i7, i8⟩ := I
  unfold xs_zas at hF
  split at hF
  · split at hF
    · split at hF
      · rename_i x i j r _ kd n f hcell hcond
        obtain ⟨hkd, hin, hx1⟩ := hcond
        subst hkd
        cases hF
        refine xr_zast hx hb hK 1 (i2.2.2.2 j _ hcell).2 rfl (by rcases hx1 with rfl | rfl <;> decide) (xin_vp hin) hd (fun H1 locs1 hat hz ho hlc => K ls H1 locs1 cells slots ⟨i1, xrp_set i2 hcell hat hz ho, fun q hq => ?_, i4, i5, i6, i7, fun q => by cases q⟩)
        rcases hlc q hq with h9 | h9
        · exact i3 q h9
        · rw [h9]; exact Nat.le_add_right _ _
      · cases hF
    · cases hF
  · cases hF
def xs_las (nx : Nat) : xS := fun L st w h => match st with
  | .long x :: .int i :: .ref (j + 1) :: r => (match h.2.2 (j + 1) with
    | some (.inr (.inr (.inl (n, f)))) => if xin i n then some (nx, L, r, true, (h.1, h.2.1, xup h.2.2 (j + 1) (some (.inr (.inr (.inl (n, vp_updL f i.toNatClampNeg x))))))) else none
    | _ => none)
  | _ => none
theorem xs_las_ok (hd : decode cc pc = .ok (.lastore, 1)) : xOK cc own ini nL cl Ts Ls xs zm um pc (xs_las (pc + 1)) := by
  intro p l e R s m args below meth c D ca b H0 hs Q E hRc hRs hRf hRl L st w h pc' L' st' w' h' hF K ls H locs cells slots I
  obtain ⟨hx, hb, hown, hts, hK, hX, hbl, hml, hnm0, hao⟩ := E
  obtain ⟨i1, i2, i3, i4, i5, i6, i7, i8⟩ := I
  unfold xs_las at hF
  split at hF
  · split at hF
    · split at hF
      · rename_i x i j r _ n f hcell hin
        cases hF
        refine xr_last hx hb hK 2 (i2.2.2.2 j _ hcell).2 rfl (xin_vp hin) hd (fun H1 locs1 hat hz ho hlc => K ls H1 locs1 cells slots ⟨i1, xrp_set i2 hcell hat hz ho, fun q hq => ?_, i4, i5, i6, i7, fun q => by cases q⟩)
        rcases hlc q hq with h9 | h9
        · exact i3 q h9
        · rw [h9]; exact Nat.le_add_right _ _
      · cases hF
    · cases hF
  · cases hF
def xs_oi (nx : Nat) : xS := fun L st w h => match st with
  | .ref _ :: r => if xcs r ≤ 8 then some (nx, L, r, w, h) else none
  | _ => none
theorem xs_oi_ok {idx : Nat} (hd : decode cc pc = .ok (.invokespecial idx, 3)) (h1 : Cond.methodLink own idx objectInit ∈ Ts) (h2 : Cond.instanceMethod objectInit ∈ Ts) (h3 : Cond.code objectInit ⟨#[0xb1]⟩ 1 none ∈ Ts) : xOK cc own ini nL cl Ts Ls xs zm um pc (xs_oi (pc + 3)) := by
  intro p l e R s m args below meth c D ca b H0 hs Q E hRc hRs hRf hRl L st w h pc' L' st' w' h' hF K ls H locs cells slots I
  obtain ⟨hx, hb, hown, hts, hK, hX, hbl, hml, hnm0, hao⟩ := E
  obtain ⟨i1, i2, i3, i4, i5, i6, i7, i8⟩ := I
  unfold xs_oi at hF
  split at hF
  · split at hF
    · rename_i j r hcs
      cases hF
      refine W.objInit hx hb hown (hts _ h1) (hts _ h2) (hts _ h3) rfl (by rw [hml]; exact i1.1) rfl hd hRf ?_ (K ls H locs cells slots ⟨i1, i2, i3, i4, i5, i6, i7, i8⟩)
      rw [xcs_map]
      show 2 * 0 + xcs _ + 12 ≤ R.locals
      omega
    · cases hF
  · cases hF
def xs_ts (ts : List Nat) (df : Nat) : xS := fun L st w h => match st with
  | .int x :: r => if ¬ x < 0 then some (ts.getD x.toNatClampNeg df, L, r, w, h) else none
  | _ => none
theorem xs_ts_ok {dflt hi : Int} {offs : Array Int} {len df : Nat} {ts : List Nat} (hd : decode cc pc = .ok (.tableswitch dflt 0 hi offs, len)) (h1 : hi + 1 = (ts.length : Int)) (h2 : (pc : Int) + dflt = (df : Int)) (h3 : ∀ i, i < ts.length → ∃ off, offs[i]? = some off ∧ (pc : Int) + off = (ts.getD i df : Int)) : xOK cc own ini nL cl Ts Ls xs zm um pc (xs_ts ts df) := by
  intro p l e R s m args below meth c D ca b H0 hs Q E hRc hRs hRf hRl L st w h pc' L' st' w' h' hF K ls H locs cells slots I
  obtain ⟨hx, hb, hown, hts, hK, hX, hbl, hml, hnm0, hao⟩ := E
  obtain ⟨i1, i2, i3, i4, i5, i6, i7, i8⟩ := I
  unfold xs_ts at hF
  split at hF
  · split at hF
    · rename_i x r hx0
      cases hF
      obtain ⟨j, hj, rfl⟩ := nI_of hx0
      rw [nI_clamp hj] at K
      by_cases hlt : j < ts.length
      · obtain ⟨off, ho, ht⟩ := h3 j hlt
        refine lv_tableIn hx hb hd (by rw [nI_toInt hj]; omega) (by rw [nI_toInt hj]; omega) (off := off) ?_ ht (K ls H locs cells slots ⟨i1, i2, i3, i4, i5, i6, i7, i8⟩)
        rw [nI_toInt hj, show ((j : Int) - 0).toNat = j by omega]
        exact ho
      · have e : ts.getD j df = df := by
          simp [List.getD, List.getElem?_eq_none (Nat.not_lt.mp hlt)]
        rw [e] at K
        exact lv_tableOut hx hb hd (Or.inr (by rw [nI_toInt hj]; omega)) h2 (K ls H locs cells slots ⟨i1, i2, i3, i4, i5, i6, i7, i8⟩)
    · cases hF
  · cases hF
end XO
end
section
/-! Runs of the abstract machine, and the judgements of a method's walk that they give. -/
abbrev xR : Type := Option Value ⊕ (Nat × Nat)
abbrev xK : Type := xS ⊕ ((Nat × Nat × Nat × List (Nat × Nat)) ⊕ Nat)
/-- a method: its name, its bytes, its locals, what it returns, 'it is a constructor', its handlers -/
abbrev xMd : Type := MethodName × ByteArray × Nat × Option FieldType × Bool × List (Nat × Nat × Nat × Nat)
/-- the receiver: none asked (0), any cell (1), an object of class rc - 2 -/
def xrcv (h : xH) (rc : Nat) : List Value → Bool
  | .ref (j + 1) :: _ => rc == 0 || rc == 1 || (match h.2.2 (j + 1) with
    | some (.inl (c2, _)) => c2 + 2 == rc
    | _ => false)
  | _ => rc == 0
def xrun (P : Nat → Nat → Option xK) (M : Nat → Option xMd) (zm um : Nat) : Nat → Nat → Nat → Nat → xL → List Value → Bool → xH → Option (xR × Bool × xH)
  | 0, _, _, _, _, _, _, _ => none
  | n + 1, d, j, pc, L, st, w, h =>
    match P j pc with
    | none => none
    | some (.inl F) => (match F L st w h with
      | none => none
      | some (pc', L', st', w', h') => xrun P M zm um n d j pc' L' st' w' h')
    | some (.inr (.inl (j2, k, rc, hd))) => (match d, M j2 with
      | d2 + 2, some md2 => if k ≤ st.length ∧ xcs (st.drop k) ≤ 8 ∧ xcs (st.take k) ≤ md2.2.2.1 ∧ xrcv h rc (st.take k).reverse = true then
          (match xrun P M zm um n (d2 + 1) j2 0 (lv_args 0 (st.take k).reverse) [] false h with
          | none => none
          | some (.inl v, w2, h2) => xrun P M zm um n (d2 + 2) j (pc + 3) L (v.toList ++ st.drop k) (w || w2) h2
          | some (.inr (x, i), w2, h2) => (match hd.lookup x with
            | some q => xrun P M zm um n (d2 + 2) j q L [.ref i] true h2
            | none => none))
        else none
      | _, _ => none)
    | some (.inr (.inr 0)) => (match st with
      | [] => some (.inl none, w, h)
      | _ => none)
    | some (.inr (.inr 1)) => (match st with
      | [.int x] => some (.inl (some (.int x)), w, h)
      | _ => none)
    | some (.inr (.inr 2)) => (match st with
      | [.int x] => if x = 0 ∨ x = 1 then some (.inl (some (.int x)), w, h) else none
      | _ => none)
    | some (.inr (.inr (x + 3))) => if w = false ∧ st = [] ∧ h.1 + 1 ≤ zm ∧ h.2.1 + 6 ≤ um ∧ 6 ≤ d then some (.inr (x, h.1), true, (h.1 + 1, h.2.1 + 6, xup h.2.2 h.1 none)) else none
/-- the exceptions' names -/
abbrev xX : Type := Nat → String
/-- how a method ends, over the state at its entry -/
def xE (D : va_G) (cl : List vw_C) (ca : Nat → ClassId) (b : Nat) (H0 : Heap) (zm um : Nat) (xn : xX) (hs : xH) (r : xR) (w' : Bool) (h' : xH) (s : State) (o : Outcome) (t : State) : Prop :=
  (match r with
    | .inl v => o = .returned (v.map (xcv b H0.size))
    | .inr (x, i) => o = .threw (xad b H0.size i) ∧ ∃ ce cX, t.heap[xad b H0.size i]? = some ce ∧ s.vm.findClass (xn x) = some cX ∧ ce.cls = cX ∧ ce.vm = .none) ∧
  xrp D cl ca b H0 h' t.heap ∧ hs.1 ≤ h'.1 ∧ hs.2.1 ≤ h'.2.1 ∧ h'.1 ≤ zm ∧ h'.2.1 ≤ um ∧
  ∃ L, s.WarmedH t.vm ∧ s.sameButNew ({ t with vm := s.vm } : State) L (h'.1 - hs.1) (h'.2.1 - hs.2.1) ∧ (∀ q ∈ L, H0.size ≤ q.base) ∧ (w' = false → h' = hs ∧ L = [])
def xQ (below : List Frame) (D : va_G) (cl : List vw_C) (ca : Nat → ClassId) (b : Nat) (H0 : Heap) (zm um : Nat) (xn : xX) (hs : xH) (r : xR) (w' : Bool) (h' : xH) (s : State) : State → Prop := fun t =>
  ∃ o, t.status = .running ∧ Ended t below o ∧ xE D cl ca b H0 zm um xn hs r w' h' s o t
section XU
variable {p : Program} {l : Launch} {e : Env} {R : Room} {s : State} {m : MethodId} {args : Array Value} {below : List Frame} {meth : Method} {c : Code}
variable {cc : ByteArray} {D : va_G} {cl : List vw_C} {ca : Nat → ClassId} {b : Nat} {H0 : Heap} {nL zm um pc : Nat} {xn : xX} {hs h : xH} {w : Bool} {L : xL}
theorem xu_ret (hx : p.tables.exec = Jvm.exec) (hb : c.code = cc) (hr : meth.sig.returnType = none) (hlocks : meth.locks = false) (hd : decode cc pc = .ok (.return_, 1)) :
    xW p l e R s m args below meth c D cl ca b H0 nL zm um hs (xQ below D cl ca b H0 zm um xn hs (.inl none) w h s) pc L [] w h := by
  intro ls H locs cells slots I T hT X
  obtain ⟨i1, i2, i3, i4, i5, i6, i7, i8⟩ := I
  obtain ⟨fs, hret, hrun, hended, hW, hframe⟩ := X.leave (v := none) (hlocks := hlocks) (fun _ => rfl)
  have hmeth' : T.vm.method? m = some meth := X.method'
  have e1 : h.1 - hs.1 = cells := by omega
  have e2 : h.2.1 - hs.2.1 = slots := by omega
  refine ⟨T.setFrames fs, ?_, .returned none, hrun, hended, rfl, ?_, by omega, by omega, i6, i7, locs, hW, by rw [e1, e2]; exact hframe, i3, i8⟩
  · jvm_step X.here [X.here.top, hx, hb, hd, hmeth', hr, narrow]
    (try refine ⟨rfl, ?_⟩); (try refine ⟨rfl, ?_⟩)
    first | (intro acts; rw [hret _ acts rfl rfl rfl]) | rw [hret _ _ rfl rfl rfl]
    exact Steps.refl _
  · show xrp D cl ca b H0 h T.heap
    rw [hT]
    exact i2
theorem xu_iret {x : Int32} {ty : FieldType} (hx : p.tables.exec = Jvm.exec) (hb : c.code = cc) (hr : meth.sig.returnType = some ty) (hn : narrow ty (.int x) = .int x) (hlocks : meth.locks = false) (hd : decode cc pc = .ok (.ireturn, 1)) :
    xW p l e R s m args below meth c D cl ca b H0 nL zm um hs (xQ below D cl ca b H0 zm um xn hs (.inl (some (.int x))) w h s) pc L [.int x] w h := by
  intro ls H locs cells slots I T hT X
  obtain ⟨i1, i2, i3, i4, i5, i6, i7, i8⟩ := I
  obtain ⟨fs, hret, hrun, hended, hW, hframe⟩ := X.leave (v := some (.int x)) (hlocks := hlocks) (fun h => by rw [hr] at h; cases h)
  have hmeth' : T.vm.method? m = some meth := X.method'
  have e1 : h.1 - hs.1 = cells := by omega
  have e2 : h.2.1 - hs.2.1 = slots := by omega
  refine ⟨T.setFrames fs, ?_, .returned (some (.int x)), hrun, hended, rfl, ?_, by omega, by omega, i6, i7, locs, hW, by rw [e1, e2]; exact hframe, i3, i8⟩
  · show Steps p.tables e below (T.setTop (F0 m pc ls [.int x])) _
    jvm_step X.here [X.here.top, hx, hb, hd, hmeth', hr, hn]
    (try refine ⟨rfl, ?_⟩); (try refine ⟨rfl, ?_⟩)
    first | (intro acts; rw [hret _ acts rfl rfl rfl]) | rw [hret _ _ rfl rfl rfl]
    exact Steps.refl _
  · show xrp D cl ca b H0 h T.heap
    rw [hT]
    exact i2
end XU
end
section
/-! Calls that return. -/
theorem xao_moved {u U : State} {A A' : Array Value} (hvm : u.vm.Alike U.vm) (h : (Cond.arrayOver (.array .int)).before A u = true) : (Cond.arrayOver (.array .int)).before A' U = true := by
  have h' := h
  simp only [Cond.before, Cond.holds, Cond.value, beq_iff_eq] at h'
  cases hc : u.vm.findClass (FieldType.array .int).toString with
  | none => simp [hc] at h'
  | some comp =>
    simp only [hc, Option.bind_some, Option.bind_eq_some_iff, Option.map_eq_some_iff] at h'
    obtain ⟨c, hi, k, hk, hb⟩ := h'
    obtain ⟨k', hk', he⟩ := hvm.2.2 _ _ hk
    have hi2 : (U.vm.classes.findIdx? fun (x : Class) => match x.kind with | .array component _ => component == comp | _ => false) = some c := by
      have e1 := va_idx_bare U.vm comp
      have e2 := va_idx_bare u.vm comp
      first | rw [hvm.bare_eq] at e1 | rw [← hvm.bare_eq] at e1
      exact (e1.symm.trans e2).trans hi
    have hkind : k'.kind = k.kind := by rw [he]
    have f1 : U.vm.findClass (FieldType.array .int).toString = some comp := by rw [hvm.findClass]; exact hc
    unfold Cond.before Cond.holds
    simp only [Cond.value]
    rw [f1, Option.bind_some]
    refine (congrArg (fun o : Option Nat => (o.bind (fun c => (U.vm.classes[c]?).map fun (k : Class) => match k.kind with | .array _ ty => decide (ty = FieldType.array .int) && decide (U.vm.findClass ("[" ++ (FieldType.array .int).toString) = some c) | _ => false) == some true)) hi2).trans ?_
    rw [Option.bind_some, hk', Option.map_some, hkind]
    have hfc : U.vm.findClass ("[" ++ (FieldType.array .int).toString) = u.vm.findClass ("[" ++ (FieldType.array .int).toString) := hvm.findClass _ _
    rw [hfc]
    have hb2 : (match k.kind with | .array _ ty => decide (ty = FieldType.array .int) && decide (u.vm.findClass ("[" ++ (FieldType.array .int).toString) = some c) | _ => false) = true := hb
    rw [hb2]
    rfl
/-- what the walks take of a state's tables and of the heap that was there at the law's entry -/
def xEs (D : va_G) (cl : List vw_C) (ca : Nat → ClassId) (b Ls : Nat) (xs : Nat → Int32) (H0 : Heap) (Ex : State → Prop) (U : State) : Prop :=
  va_K D cl [(ca 0, .int), (ca 1, .boolean), (ca 2, .long), (ca 3, .array .int)] U ∧ va_X b Ls xs U H0 ∧ (Cond.arrayOver (.array .int)).before #[] U = true ∧ Ex U
def xmv (H0 : Heap) (Ex : State → Prop) : Prop := ∀ s U : State, s.WarmedH U.vm → (∀ q, q < H0.size → s.heap[q]? = H0[q]?) → (∀ q, q < H0.size → U.heap[q]? = H0[q]?) → Ex s → Ex U
def xrm (d zm um : Nat) (h : xH) : Room := { frames := d, cells := zm - h.1, slots := um - h.2.1, locals := 36 * d }
def xcw (md : xMd) : Cond := if md.2.2.2.2.2 = [] then .code md.1 md.2.1 md.2.2.1 md.2.2.2.1 else .codeWith md.1 md.2.1 md.2.2.1 md.2.2.2.1 md.2.2.2.2.2
def xMh (md : xMd) (meth : Method) (c : Code) : Prop := meth.sig.returnType = md.2.2.2.1 ∧ meth.locks = false ∧ c.exceptionTable.toList.map (fun h => (h.startPc, h.endPc, h.handlerPc, h.catchType)) = md.2.2.2.2.2
/-- a method's contract: from the heap h it ends with r, at h' -/
def xC (l : Launch) (D : va_G) (cl : List vw_C) (ca : Nat → ClassId) (b Ls : Nat) (xs : Nat → Int32) (H0 : Heap) (zm um : Nat) (xn : xX) (Ex : State → Prop) (Ts : List Cond) (d : Nat) (y : MethodName) (av : List Value) (h : xH) (r : xR) (w' : Bool) (h' : xH) : Prop :=
  MetFree l y (headSpec Ts (xrm d zm um h)) (fun args s => args = (av.map (xcv b H0.size)).toArray ∧ xrp D cl ca b H0 h s.heap ∧ h.1 ≤ zm ∧ h.2.1 ≤ um ∧ xEs D cl ca b Ls xs H0 Ex s) (fun _ _ _ _ _ => True) (fun _ s o t => xE D cl ca b H0 zm um xn h r w' h' s o t)
theorem xla_map (b base : Nat) : ∀ (vs : List Value) (i : Nat), lv_args i (vs.map (xcv b base)) = xml b base (lv_args i vs)
  | [], _ => rfl
  | v :: vs, i => by
    show (i, xcv b base v) :: lv_args _ (vs.map (xcv b base)) = (i, xcv b base v) :: xml b base (lv_args _ vs)
    rw [xcv_cat, xla_map b base vs]
theorem xsl_len : ∀ (vs : List Value), (lg_sl vs).length = xcs vs
  | [] => rfl
  | v :: vs => by
    have ih := xsl_len vs
    unfold lg_sl at ih ⊢
    rw [List.flatMap_cons, List.length_append, ih]
    unfold xcs
    rw [List.map_cons, List.sum_cons]
    congr 1
    rcases lv_cat v with h | h <;> simp [h]
section XC
variable {l : Launch} {D : va_G} {cl : List vw_C} {ca : Nat → ClassId} {b Ls : Nat} {xs : Nat → Int32} {H0 : Heap} {zm um : Nat} {xn : xX} {Ex : State → Prop} {Ts : List Cond}
theorem xcw_spec {md : xMd} {A : Array Value} {s : State} {m : MethodId} (hn : s.methodNamed? md.1 = some m) (h : (xcw md).before A s = true) : ∃ meth c, s.vm.method? m = some meth ∧ meth.code = some c ∧ c.code = md.2.1 ∧ c.maxLocals = md.2.2.1 ∧ xMh md meth c ∧ parseMethodDescriptor md.1.desc = some meth.sig := by
  unfold xcw at h
  by_cases hd : md.2.2.2.2.2 = []
  · rw [if_pos hd] at h
    obtain ⟨meth, c, h1, h2, h3, h4, h5, h6, h7, h8⟩ := Cond.code_spec hn h
    refine ⟨meth, c, h1, h2, h3, h4, ⟨h5, h6, ?_⟩, h8⟩
    rw [hd]
    have : c.exceptionTable = #[] := by simpa using h7
    rw [this]
    rfl
  · rw [if_neg hd] at h
    obtain ⟨m', meth, c, h0, h1, h2, h3, h4, h5, h6, h7, h8⟩ := Cond.codeWith_spec h
    cases hn.symm.trans h0
    exact ⟨meth, c, h1, h2, h3, h4, ⟨h6, h7, h5⟩, h8⟩
theorem xC_of {md : xMd} {d : Nat} {av : List Value} {h : xH} {r : xR} {w' : Bool} {h' : xH} (hpl : plainName md.1.cls = true) (hcode : xcw md ∈ Ts) (hini : md.2.2.2.2.1 = true → md.1.name = "<init>") (hfit : xcs av ≤ md.2.2.1)
    (body : ∀ (p : Program) (e : Env) (s : State) (m : MethodId) (args : Array Value) (below : List Frame) (meth : Method) (c : Code), xEn p s m args meth c md.2.1 md.1.cls md.2.2.2.2.1 md.2.2.1 D cl ca Ts b Ls xs H0 → Ex s → xrp D cl ca b H0 h s.heap → xMh md meth c → h.1 ≤ zm → h.2.1 ≤ um →
      xW p l e (xrm d zm um h) s m args below meth c D cl ca b H0 md.2.2.1 zm um h (xQ below D cl ca b H0 zm um xn h r w' h' s) 0 (lv_args 0 av) [] false h)
    (hbl : b < H0.size) : xC l D cl ca b Ls xs H0 zm um xn Ex Ts d md.1 av h r w' h' := by
  refine MetFree.of_bodyS (code := md.2.1) (maxLocals := md.2.2.1) (ret := md.2.2.2.1) hpl ?_ ?_
  · intro args s m h hn
    obtain ⟨meth, c, h1, h2, h3, h4, h5, -⟩ := xcw_spec hn (atoms_spec (ws := Ts) h _ hcode)
    exact ⟨meth, c, h1, h2, h3, h4, h5.1, h5.2.1⟩
  · intro p e s m args below meth c s₁ B hml hP _
    obtain ⟨rfl, hR, hz, hu, hK, hX, hao, hEx⟩ := hP
    have hh0 : s₁.heap = s.heap := by rw [B.state]; rfl
    have hts := atoms_spec (ws := Ts) B.pre
    have X0 := Stand.of_body B
    obtain ⟨meth', c', h1, h2, -, -, h5, -⟩ := xcw_spec B.named (hts _ hcode)
    cases B.method.symm.trans h1
    cases X0.code.symm.trans h2
    have hl := lv_entry (av.map (xcv b H0.size)) (n := md.2.2.1) (by rw [xsl_len]; unfold xcs; rw [xcs_map]; exact hfit)
    rw [xla_map] at hl
    have K := body p e s m _ below meth c ⟨B.exec, B.bytes, findClass_of_methodNamed B.named, hts, hK, hX, hbl, hml, fun q => (name_of_methodNamed B.named B.method).1.trans (hini q), hao⟩ hEx hR h5 hz hu _ s.heap [] 0 0 ⟨hl, hR, (fun q hq => by cases hq), by omega, by omega, hz, hu, fun _ => ⟨rfl, rfl⟩⟩
    obtain ⟨t, a1, o, b1, b2, b3⟩ := K s₁ hh0 X0
    refine ⟨t, o, ?_, b1, b2, b3⟩
    rw [lg_entry_eq]
    exact a1
end XC
end
section
/-! Call sites, where the callee returns. -/
section XB
variable {p : Program} {l : Launch} {e : Env} {R : Room} {s : State} {m : MethodId} {args : Array Value} {below : List Frame} {meth : Method} {c : Code}
variable {D : va_G} {cl : List vw_C} {ca : Nat → ClassId} {b Ls : Nat} {xs : Nat → Int32} {H0 : Heap} {zm um : Nat} {xn : xX} {Ex : State → Prop} {Ts : List Cond} {hs h h2 : xH} {w w2 : Bool} {av : List Value} {v : Option Value} {md2 : xMd} {d2 : Nat}
def xPre (D : va_G) (cl : List vw_C) (ca : Nat → ClassId) (b Ls : Nat) (xs : Nat → Int32) (H0 : Heap) (Ex : State → Prop) (hs h : xH) (av : List Value) : Pt → Array Value → Prop := fun A a =>
  a = (av.map (xcv b H0.size)).toArray ∧ xrp D cl ca b H0 h A.U.heap ∧ xEs D cl ca b Ls xs H0 Ex A.U ∧ A.cells + hs.1 = h.1 ∧ A.slots + hs.2.1 = h.2.1
def xPost (D : va_G) (cl : List vw_C) (ca : Nat → ClassId) (b : Nat) (H0 : Heap) (zm um : Nat) (hs h : xH) (w2 : Bool) (h2 : xH) (A B : Pt) : Prop :=
  xrp D cl ca b H0 h2 B.U.heap ∧ (∃ L', B.locs = A.locs ++ L' ∧ (∀ q ∈ L', H0.size ≤ q.base) ∧ (w2 = false → h2 = h ∧ L' = [])) ∧ B.cells + hs.1 = h2.1 ∧ B.slots + hs.2.1 = h2.2.1 ∧ h2.1 ≤ zm ∧ h2.2.1 ≤ um
theorem xEs.at {U : State} (hmv : xmv H0 Ex) (h : xEs D cl ca b Ls xs H0 Ex s) (hW : s.WarmedH U.vm) (h0 : ∀ q, q < H0.size → s.heap[q]? = H0[q]?) (hU : ∀ q, q < H0.size → U.heap[q]? = H0[q]?) : xEs D cl ca b Ls xs H0 Ex U :=
  ⟨va_K.moved hW.alike h.1, va_X.moved hW.alike h.2.1, xao_moved hW.alike h.2.2.1, hmv s U hW h0 hU h.2.2.2⟩
theorem xback (hmv : xmv H0 Ex) (hts : ∀ w ∈ Ts, w.before args s = true) (hgood : ∀ w ∈ Ts, goodWord w = true) (hcode : xcw md2 ∈ Ts) (hini : Cond.initialized md2.1.cls ∈ Ts) (hf : d2 + 1 ≤ R.frames) (hlo : 8 + (md2.2.2.1 + 11) + 36 * d2 ≤ R.locals) (hRc : R.cells + hs.1 = zm) (hRs : R.slots + hs.2.1 = um) (hz : h.1 ≤ zm) (hu : h.2.1 ≤ um)
    (hC : xC l D cl ca b Ls xs H0 zm um xn Ex Ts d2 md2.1 av h (.inl v) w2 h2) :
    Back l R p e below s args md2.1 3 8 (xPre D cl ca b Ls xs H0 Ex hs h av) (fun A _ vo B => vo = v.map (xcv b H0.size) ∧ xPost D cl ca b H0 zm um hs h w2 h2 A B) := by
  have hat : ∀ (a : Array Value) (U : State), s.WarmedH U.vm → ∀ w ∈ Ts, w.before a U = true := fun a U hW w hw => word_at hW (good_of_word (hgood w hw)) (hts w hw)
  have hroom : ∀ A : Pt, A.cells + hs.1 = h.1 → A.slots + hs.2.1 = h.2.1 → A.cells + (headSpec Ts (xrm d2 zm um h)).room.cells ≤ R.cells ∧ A.slots + (headSpec Ts (xrm d2 zm um h)).room.slots ≤ R.slots := fun A e1 e2 => by
    show A.cells + (zm - h.1) ≤ R.cells ∧ A.slots + (um - h.2.1) ≤ R.slots
    omega
  have hP : ∀ m meth c (A : Pt) a (g : JFrame) mk, Stand p l e R s m args below meth c A.U A.locs A.cells A.slots → xPre D cl ca b Ls xs H0 Ex hs h av A a → (fun (args : Array Value) (s : State) => args = (av.map (xcv b H0.size)).toArray ∧ xrp D cl ca b H0 h s.heap ∧ h.1 ≤ zm ∧ h.2.1 ≤ um ∧ xEs D cl ca b Ls xs H0 Ex s) a (A.U.calling g mk a) := fun m meth c A a g mk X q =>
    ⟨q.1, q.2.1, hz, hu, xEs.at (s := A.U) (U := A.U.calling g mk a) hmv q.2.2.1 (State.WarmedH.refl A.U) q.2.1.2.2.1 q.2.1.2.2.1⟩
  have hQ : ∀ a first o t, (fun (_ : Array Value) (s : State) (o : Outcome) (t : State) => xE D cl ca b H0 zm um xn h (.inl v) w2 h2 s o t) a first o t → ∃ L k n, FrameEnd first o t L k n ∧ (k = h2.1 - h.1 ∧ n = h2.2.1 - h.2.1 ∧ (∀ q ∈ L, H0.size ≤ q.base) ∧ (w2 = false → h2 = h ∧ L = [])) := fun a first o t q => by
    obtain ⟨ho, -, -, -, -, -, L, hW, hsame, hL, hw⟩ := q
    exact ⟨L, _, _, ⟨⟨_, ho⟩, hW, hsame⟩, rfl, rfl, hL, hw⟩
  have hpost : ∀ (A : Pt) (a : Array Value) (g : JFrame) (mk : MethodId) (vo : Option Value) (t : State) (L : List Loc) (k n : Nat), xPre D cl ca b Ls xs H0 Ex hs h av A a → xE D cl ca b H0 zm um xn h (.inl v) w2 h2 (A.U.calling g mk a) (.returned vo) t → (k = h2.1 - h.1 ∧ n = h2.2.1 - h.2.1 ∧ (∀ q ∈ L, H0.size ≤ q.base) ∧ (w2 = false → h2 = h ∧ L = [])) →
      vo = v.map (xcv b H0.size) ∧ xPost D cl ca b H0 zm um hs h w2 h2 A ⟨(({ A.U with heap := t.heap, slotsUsed := t.slotsUsed } : State).setVm t.vm), A.locs ++ L, A.cells + k, A.slots + n⟩ := fun A a g mk vo t L k n hp q ⟨e1, e2, hL, hw⟩ => by
    obtain ⟨ho, hr, g1, g2, g3, g4, -⟩ := q
    obtain ⟨-, -, -, c1, c2⟩ := hp
    refine ⟨Outcome.returned.inj ho, hr, ⟨L, rfl, hL, hw⟩, ?_, ?_, g3, g4⟩
    · show A.cells + k + hs.1 = h2.1
      omega
    · show A.slots + n + hs.2.1 = h2.2.1
      omega
  by_cases hd : md2.2.2.2.2.2 = []
  · refine Back.of_free (S := headSpec Ts (xrm d2 zm um h)) (bytes := md2.2.1) (maxL := md2.2.2.1) (ret := md2.2.2.2.1) (E := fun _ _ _ _ L k n => k = h2.1 - h.1 ∧ n = h2.2.1 - h.2.1 ∧ (∀ q ∈ L, H0.size ≤ q.base) ∧ (w2 = false → h2 = h ∧ L = [])) hC hf hlo ?_ hP (fun _ _ _ _ _ _ _ _ _ => trivial) hQ (fun m meth c A a g mk vo t L k n X hp q _ hE => hpost A a g mk vo t L k n hp q hE)
    intro m meth c A a X q
    have hc := hat a A.U X.warmed _ hcode
    unfold xcw at hc
    rw [if_pos hd] at hc
    obtain ⟨r1, r2⟩ := hroom A q.2.2.2.1 q.2.2.2.2
    exact ⟨atoms_intro (hat a A.U X.warmed), hc, hat a A.U X.warmed _ hini, r1, r2⟩
  · refine Back.of_freeWith (handlers := md2.2.2.2.2.2) (S := headSpec Ts (xrm d2 zm um h)) (bytes := md2.2.1) (maxL := md2.2.2.1) (ret := md2.2.2.2.1) (E := fun _ _ _ _ L k n => k = h2.1 - h.1 ∧ n = h2.2.1 - h.2.1 ∧ (∀ q ∈ L, H0.size ≤ q.base) ∧ (w2 = false → h2 = h ∧ L = [])) hC hf hlo ?_ hP (fun _ _ _ _ _ _ _ _ _ => trivial) hQ (fun m meth c A a g mk vo t L k n X hp q _ hE => hpost A a g mk vo t L k n hp q hE)
    intro m meth c A a X q
    have hc := hat a A.U X.warmed _ hcode
    unfold xcw at hc
    rw [if_neg hd] at hc
    obtain ⟨r1, r2⟩ := hroom A q.2.2.2.1 q.2.2.2.2
    exact ⟨atoms_intro (hat a A.U X.warmed), hc, hat a A.U X.warmed _ hini, r1, r2⟩
variable {cc : ByteArray} {own : String} {ini : Bool} {nL pc idx k : Nat} {L : xL} {st : List Value} {Q : State → Prop}
/-- a call's stack, split -/
theorem xsplit (b base : Nat) {v0 : Value} {as : List Value} (hk : (st.take k).reverse = v0 :: as) : st.map (xcv b base) = (as.map (xcv b base)).reverse ++ xcv b base v0 :: (st.drop k).map (xcv b base) := by
  have h1 : st.take k = as.reverse ++ [v0] := by
    have := congrArg List.reverse hk
    simpa using this
  conv => lhs; rw [← List.take_append_drop k st, h1]
  simp
theorem xafter {ls : Array Slot} {H : Heap} {locs : List Loc} {cells slots : Nat} {A : Pt} {B : Pt} (I : xInv D cl ca b H0 nL zm um hs L w h ls H locs cells slots) (hA : A.locs = locs) (hq : xPost D cl ca b H0 zm um hs h w2 h2 A B) : xInv D cl ca b H0 nL zm um hs L (w || w2) h2 ls B.U.heap B.locs B.cells B.slots := by
  obtain ⟨i1, i2, i3, i4, i5, i6, i7, i8⟩ := I
  obtain ⟨r, ⟨L', e1, e2, e3⟩, c1, c2, z1, z2⟩ := hq
  refine ⟨i1, r, fun q hq => ?_, c1, c2, z1, z2, fun hw => ?_⟩
  · rw [e1, hA] at hq
    rcases List.mem_append.mp hq with h9 | h9
    · exact i3 q h9
    · exact e2 q h9
  · rw [Bool.or_eq_false_iff] at hw
    obtain ⟨j1, j2⟩ := i8 hw.1
    obtain ⟨j3, j4⟩ := e3 hw.2
    exact ⟨j3.trans j1, by rw [e1, hA, j2, j4]; rfl⟩
theorem xtl (b base : Nat) (v : Option Value) (r : List Value) : (v.map (xcv b base)).toList ++ r.map (xcv b base) = (v.toList ++ r).map (xcv b base) := by
  cases v <;> rfl
/-- invokevirtual -/
theorem xu_callV (E : xEn p s m args meth c cc own ini nL D cl ca Ts b Ls xs H0) (hEx : Ex s) (hH : ∀ q, q < H0.size → s.heap[q]? = H0[q]?) (hmv : xmv H0 Ex) (hgood : ∀ w ∈ Ts, goodWord w = true) (hpl : md2.2.2.2.2.2 = []) (hcode : xcw md2 ∈ Ts) (hini : Cond.initialized md2.1.cls ∈ Ts) (hf : d2 + 1 ≤ R.frames) (hlo : 8 + (md2.2.2.1 + 11) + 36 * d2 ≤ R.locals) (hRc : R.cells + hs.1 = zm) (hRs : R.slots + hs.2.1 = um)
    {C : String} {T : u_T} {N ci j : Nat} {fs : List Value} {as : List Value} (hd : decode cc pc = .ok (.invokevirtual idx, 3)) (hl : Cond.methodLink own idx md2.1 ∈ Ts) (hin : Cond.instanceMethod md2.1 ∈ Ts) (hse : Cond.selects C md2.1 md2.1 ∈ Ts) (hy : md2.1.cls ≠ "java/lang/invoke/MethodHandle" ∧ md2.1.cls ≠ "java/lang/invoke/VarHandle") (hn : (parseMethodDescriptor md2.1.desc).map (fun d => d.parameters.length) = some as.length)
    (hk : (st.take k).reverse = .ref (j + 1) :: as) (hcell : h.2.2 (j + 1) = some (.inl (ci, fs))) (hcl : cl[ci]? = some (C, T, N)) (hcs : xcs (st.drop k) ≤ 8)
    (hC : xC l D cl ca b Ls xs H0 zm um xn Ex Ts d2 md2.1 (st.take k).reverse h (.inl v) w2 h2)
    (K : xW p l e R s m args below meth c D cl ca b H0 nL zm um hs Q (pc + 3) L (v.toList ++ st.drop k) (w || w2) h2) : xW p l e R s m args below meth c D cl ca b H0 nL zm um hs Q pc L st w h := by
  intro ls H locs cells slots I T9 hT X
  have I0 := I
  obtain ⟨i1, i2, i3, i4, i5, i6, i7, i8⟩ := I
  obtain ⟨hx, hb, hown, hts, hK, hX, hbl, hml, hnm0, hao⟩ := E
  have hes : xEs D cl ca b Ls xs H0 Ex s := ⟨hK, hX, hao, hEx⟩
  obtain ⟨cellB, g1, g2, g3⟩ := va_recv (q0 := 0) (a := H0.size + j) (fs := fs.map (xcv b H0.size)) hK (xr_one (i2.2.2.2 j _ hcell).2) hcl rfl
  have hc := hts _ hcode
  unfold xcw at hc
  rw [if_pos hpl] at hc
  have hbk := xback (R := R) (s := s) (args := args) (p := p) (e := e) (below := below) (hs := hs) hmv hts hgood hcode hini hf hlo hRc hRs i6 i7 hC
  obtain ⟨v', vm₁, B, hW1, X', ⟨hv, hpost⟩, hsteps⟩ := callV X hx hown (hts _ hl) (hts _ hin) (hts _ hse) hc hy hbk (b := H0.size + j) (cellB := cellB) (by rw [hT]; exact g1) g2 g3 (g := F0 m pc ls (st.map (xcv b H0.size))) rfl (by rw [hml]; exact i1.1) (argsL := as.map (xcv b H0.size)) (rest := (st.drop k).map (xcv b H0.size))
    (fun sig hsig => by rw [hsig] at hn; rw [List.length_map]; exact (Option.some.inj hn).symm) (xsplit b H0.size hk) (by rw [xcs_map]; show 2 * 0 + _ ≤ 8; omega) (by rw [hb]; exact hd)
    (fun vm₁ hW => ⟨by rw [hk]; rfl, by show xrp D cl ca b H0 h T9.heap; rw [hT]; exact i2, xEs.at (U := T9.setVm vm₁) hmv hes hW hH (by show ∀ q, q < H0.size → T9.heap[q]? = H0[q]?; rw [hT]; exact i2.2.2.1), i4, i5⟩)
  obtain ⟨t, a1, b1⟩ := K ls B.U.heap B.locs B.cells B.slots (xafter I0 rfl hpost) B.U rfl X'
  refine ⟨t, hsteps t ?_, b1⟩
  rw [hv, xtl]
  exact a1
/-- invokespecial of a constructor -/
theorem xu_callI (E : xEn p s m args meth c cc own ini nL D cl ca Ts b Ls xs H0) (hEx : Ex s) (hH : ∀ q, q < H0.size → s.heap[q]? = H0[q]?) (hmv : xmv H0 Ex) (hgood : ∀ w ∈ Ts, goodWord w = true) (hpl : md2.2.2.2.2.2 = []) (hrt : md2.2.2.2.1 = none) (hcode : xcw md2 ∈ Ts) (hini : Cond.initialized md2.1.cls ∈ Ts) (hf : d2 + 1 ≤ R.frames) (hlo : 8 + (md2.2.2.1 + 11) + 36 * d2 ≤ R.locals) (hRc : R.cells + hs.1 = zm) (hRs : R.slots + hs.2.1 = um)
    {j : Nat} {as : List Value} (hd : decode cc pc = .ok (.invokespecial idx, 3)) (hl : Cond.methodLink own idx md2.1 ∈ Ts) (hin : Cond.instanceMethod md2.1 ∈ Ts) (hy1 : md2.1.name = "<init>") (hy : md2.1.cls ≠ "java/lang/invoke/MethodHandle" ∧ md2.1.cls ≠ "java/lang/invoke/VarHandle") (hn : (parseMethodDescriptor md2.1.desc).map (fun d => d.parameters.length) = some as.length)
    (hk : (st.take k).reverse = .ref (j + 1) :: as) (hcs : xcs (st.drop k) ≤ 8)
    (hC : xC l D cl ca b Ls xs H0 zm um xn Ex Ts d2 md2.1 (st.take k).reverse h (.inl v) w2 h2)
    (K : xW p l e R s m args below meth c D cl ca b H0 nL zm um hs Q (pc + 3) L (v.toList ++ st.drop k) (w || w2) h2) : xW p l e R s m args below meth c D cl ca b H0 nL zm um hs Q pc L st w h := by
  intro ls H locs cells slots I T9 hT X
  have I0 := I
  obtain ⟨i1, i2, i3, i4, i5, i6, i7, i8⟩ := I
  obtain ⟨hx, hb, hown, hts, hK, hX, hbl, hml, hnm0, hao⟩ := E
  have hes : xEs D cl ca b Ls xs H0 Ex s := ⟨hK, hX, hao, hEx⟩
  have hc := hts _ hcode
  unfold xcw at hc
  rw [if_pos hpl, hrt] at hc
  have hbk := xback (R := R) (s := s) (args := args) (p := p) (e := e) (below := below) (hs := hs) hmv hts hgood hcode hini hf hlo hRc hRs i6 i7 hC
  obtain ⟨v', vm₁, B, hW1, X', ⟨hv, hpost⟩, hsteps⟩ := callI X hx hown hy1 (hts _ hl) (hts _ hin) hc hy hbk (g := F0 m pc ls (st.map (xcv b H0.size))) rfl (by rw [hml]; exact i1.1) (a := H0.size + j) (argsL := as.map (xcv b H0.size)) (rest := (st.drop k).map (xcv b H0.size))
    (fun sig hsig => by rw [hsig] at hn; rw [List.length_map]; exact (Option.some.inj hn).symm) (xsplit b H0.size hk) (by rw [xcs_map]; show 2 * 0 + _ ≤ 8; omega) (by rw [hb]; exact hd)
    (fun vm₁ hW => ⟨by rw [hk]; rfl, by show xrp D cl ca b H0 h T9.heap; rw [hT]; exact i2, xEs.at (U := T9.setVm vm₁) hmv hes hW hH (by show ∀ q, q < H0.size → T9.heap[q]? = H0[q]?; rw [hT]; exact i2.2.2.1), i4, i5⟩)
  obtain ⟨t, a1, b1⟩ := K ls B.U.heap B.locs B.cells B.slots (xafter I0 rfl hpost) B.U rfl X'
  refine ⟨t, hsteps t ?_, b1⟩
  rw [hv, xtl]
  exact a1
/-- invokestatic -/
theorem xu_callS (E : xEn p s m args meth c cc own ini nL D cl ca Ts b Ls xs H0) (hEx : Ex s) (hH : ∀ q, q < H0.size → s.heap[q]? = H0[q]?) (hmv : xmv H0 Ex) (hgood : ∀ w ∈ Ts, goodWord w = true) (hcode : xcw md2 ∈ Ts) (hini : Cond.initialized md2.1.cls ∈ Ts) (hf : d2 + 1 ≤ R.frames) (hlo : 8 + (md2.2.2.1 + 11) + 36 * d2 ≤ R.locals) (hRc : R.cells + hs.1 = zm) (hRs : R.slots + hs.2.1 = um)
    (hd : decode cc pc = .ok (.invokestatic idx, 3)) (hl : Cond.methodLink own idx md2.1 ∈ Ts) (hst : Cond.static md2.1 ∈ Ts) (hy : md2.1.cls ≠ "java/lang/invoke/MethodHandle" ∧ md2.1.cls ≠ "java/lang/invoke/VarHandle") (hn : (parseMethodDescriptor md2.1.desc).map (fun d => d.parameters.length) = some k)
    (hk : k ≤ st.length) (hcs : xcs (st.drop k) ≤ 8)
    (hC : xC l D cl ca b Ls xs H0 zm um xn Ex Ts d2 md2.1 (st.take k).reverse h (.inl v) w2 h2)
    (K : xW p l e R s m args below meth c D cl ca b H0 nL zm um hs Q (pc + 3) L (v.toList ++ st.drop k) (w || w2) h2) : xW p l e R s m args below meth c D cl ca b H0 nL zm um hs Q pc L st w h := by
  intro ls H locs cells slots I T9 hT X
  have I0 := I
  obtain ⟨i1, i2, i3, i4, i5, i6, i7, i8⟩ := I
  obtain ⟨hx, hb, hown, hts, hK, hX, hbl, hml, hnm0, hao⟩ := E
  have hes : xEs D cl ca b Ls xs H0 Ex s := ⟨hK, hX, hao, hEx⟩
  have hbk := xback (R := R) (s := s) (args := args) (p := p) (e := e) (below := below) (hs := hs) hmv hts hgood hcode hini hf hlo hRc hRs i6 i7 hC
  obtain ⟨mk, hnamed⟩ : ∃ mk, s.methodNamed? md2.1 = some mk := by
    have hs1 := hts _ hst
    cases hq : s.methodNamed? md2.1 with
    | some mk => exact ⟨mk, rfl⟩
    | none => simp [Cond.before, Cond.holds, Cond.value, hq] at hs1
  obtain ⟨methM, cM, hmethM, -, -, -, -, hsigM⟩ := xcw_spec hnamed (hts _ hcode)
  have hstatic : methM.isStatic = true := Cond.static_spec hnamed hmethM (hts _ hst)
  obtain ⟨kP, hkP, -⟩ := className_of_methodNamed hnamed
  have hinitP : kP.init = .initialized := Cond.initialized_spec (findClass_of_methodNamed hnamed) hkP (hts _ hini)
  have hlen : ((st.take k).reverse.map (xcv b H0.size)).length = methM.sig.parameters.length := by
    rw [hsigM] at hn
    have := Option.some.inj hn
    simp [this, hk]
  have hstk : st.map (xcv b H0.size) = ((st.take k).reverse.map (xcv b H0.size)).reverse ++ (st.drop k).map (xcv b H0.size) := by
    conv => lhs; rw [← List.take_append_drop k st]
    simp
  obtain ⟨vm₁, X₁, hstep₁⟩ := X.invokestatic hx hown (hts _ hl) hnamed hmethM hstatic hkP hinitP hy (g := F0 m pc ls (st.map (xcv b H0.size))) rfl (argsL := (st.take k).reverse.map (xcv b H0.size)) (rest := (st.drop k).map (xcv b H0.size)) hlen hstk (by rw [hb]; exact hd)
  obtain ⟨v', B, X', ⟨hv, hpost⟩, hsteps⟩ := hbk m meth c ⟨T9.setVm vm₁, locs, cells, slots⟩ { F0 m pc ls (st.map (xcv b H0.size)) with stack := (st.drop k).map (xcv b H0.size) } (.invokestatic idx) mk ((st.take k).reverse.map (xcv b H0.size)).toArray X₁ rfl (by rw [hml]; exact i1.1) (by rw [hb]; exact hd) (by rw [xcs_map]; show 2 * 0 + _ ≤ 8; omega) (X₁.named hnamed)
    ⟨rfl, by show xrp D cl ca b H0 h T9.heap; rw [hT]; exact i2, xEs.at (U := T9.setVm vm₁) hmv hes X₁.warmed hH (by show ∀ q, q < H0.size → T9.heap[q]? = H0[q]?; rw [hT]; exact i2.2.2.1), i4, i5⟩
  obtain ⟨t, a1, b1⟩ := K ls B.U.heap B.locs B.cells B.slots (xafter I0 rfl hpost) B.U rfl X'
  refine ⟨t, hstep₁ _ fun acts => ?_, b1⟩
  rw [doInvoke_state]
  refine hsteps.trans ?_
  rw [hv]
  show Steps p.tables e below (B.U.setTop (F0 m (pc + 3) ls ((v.map (xcv b H0.size)).toList ++ (st.drop k).map (xcv b H0.size)))) t
  rw [xtl]
  exact a1
end XB
end
section
/-! 'throw new X(text)' where traces are off: the library's laws of the constructors' chain, put together so that the whole heap behind them is known. -/
section XT
variable {p : Program} {l : Launch} {e : Env} {R : Room} {s : State} {m₀ : MethodId} {args : Array Value} {below : List Frame} {meth : Method} {c : Code} {W9 : State} {locs : List Loc} {cells slots : Nat}
set_option maxHeartbeats 2000000 in
theorem xthrow (X : Stand p l e R s m₀ args below meth c W9 locs cells slots) (hexec : p.tables.exec = Jvm.exec) (htr : e.platform.stackTraces = false) {own cls : String} {names : List String} {ic : Nat}
    {ix : Nat} {rx : ByteArray} (x0 : decode rx 0 = .ok (.aload_n 0, 1)) (x1 : decode rx 1 = .ok (.aload_n 1, 1)) (x2 : decode rx 2 = .ok (.invokespecial ix, 3)) (x5 : decode rx 5 = .ok (.return_, 1))
    (hown : s.vm.findClass own = some m₀.cls) (hcls : Bundle.fit cls = true) (hnames : ∀ n ∈ names, Bundle.fit n = true)
    (h : ∀ a ∈ Bundle.ownAtomsX own ic cls ix rx names, a.before args s = true)
    (hlocs : ∀ x ∈ locs, ∀ cell, s.heap[x.base]? = some cell → cell.vm.isStatics = false)
    {a : Addr} {cX : ClassId} {kX : Class} (hfoundX : s.vm.findClass cls = some cX) (hkX : s.vm.classes[cX]? = some kX) (hcell : W9.heap[a]? = some (freshCell cX kX)) (hnew : s.heap.size ≤ a)
    {msg : Value} (hmsg : msg.isRef = true)
    {g : JFrame} (hg : g.method = m₀) (hsize : g.locals.size = c.maxLocals) (hlocked : g.locked = none) (hentered : g.entered = []) {rest : List Value} (hstack : g.stack = msg :: .ref a :: .ref a :: rest)
    (hd6 : decode c.code g.pc = .ok (.invokespecial ic, 3)) (hd9 : decode c.code (g.pc + 3) = .ok (.athrow, 1)) (hout : ∀ x ∈ c.exceptionTable.toList, covers x (g.pc + 3) = false)
    (hRframes : names.length + 3 < R.frames) (hRlocals : 2 * g.monitorRoom + ((Value.ref a :: rest).map fun v => v.category).sum + (13 * (names.length + 1) + 42) ≤ R.locals) (hlocks : meth.locks = false) :
    ∃ U : State, Steps p.tables e below (W9.setTop g) U ∧ U.status = .running ∧ Ended U below (.threw a) ∧ s.WarmedH U.vm ∧ s.sameButNew ({ U with vm := s.vm } : State) locs cells slots ∧
      U.heap.size = W9.heap.size ∧ (∀ q, q ≠ a → U.heap[q]? = W9.heap[q]?) ∧ ∃ ce, U.heap[a]? = some ce ∧ ce.cls = cX ∧ ce.vm = .none := by
  have howns : e.platform.frameOwnsMonitors = true := by rw [X.admits.platform]
  have hfin : e.platform.finalization = false := by rw [X.admits.platform]
  have hpl : e.platform.magicAccessors = ({} : Platform).magicAccessors := by rw [X.admits.platform]
  have a' : ∀ x, x ∈ Bundle.ownAtomsX own ic cls ix rx names → x.holds args s none s [] = true := fun x hx => h x hx
  obtain ⟨T, Z0, L, -, Y⟩ := ThrowableC.of_atoms (args := args) howns hfin hpl (fun x hx => h x (by simp [Bundle.ownAtomsX, hx]))
  obtain ⟨Z, M, LZ, LM, hnZ⟩ := Init0T.ofS_atoms (args := args) hpl L Y (fun x hx => h x (by simp [Bundle.ownAtomsX, hx]))
  obtain ⟨P1, Ps, hlen, L1, hL, hP1m, hlink1, hlink⟩ := Bundle.chainSX (args := args) hpl hnZ x0 x1 x2 x5 names cls hcls hnames (fun x hx => h x (by simp [Bundle.ownAtomsX, hx]))
  have hfound : s.vm.findClass cls = some P1.m.cls := findClass_of_methodNamed hP1m
  cases Option.some.inj (hfoundX.symm.trans hfound)
  obtain ⟨c1, kX', hc1, hk, hord, -, -, hn6⟩ := Cond.instantiable_spec (a' (.instantiable cls 6) (by simp [Bundle.ownAtomsX]))
  cases Option.some.inj (hc1.symm.trans hfound)
  cases Option.some.inj (hkX.symm.trans hk)
  have hsel0 : selectMethod e.platform s.vm P1.m.cls T.fill0 = .method T.fill0 := by
    obtain ⟨c2, r2, m2, q1, q2, q3, q4, -⟩ := Cond.selects_spec (a' (.selects cls Bundle.tFill0 Bundle.tFill0) (by simp [Bundle.ownAtomsX]))
    cases Option.some.inj (q1.symm.trans hfound)
    cases Option.some.inj (q2.symm.trans (State.methodFound?_of_named Y.fill0 (by decide)))
    cases Option.some.inj (q3.symm.trans Y.fill0)
    rw [Launch.admits_selectMethod X.admits]; exact q4
  have hselF : selectMethod e.platform s.vm P1.m.cls T.fill = .method T.fill := by
    obtain ⟨c2, r2, m2, q1, q2, q3, q4, -⟩ := Cond.selects_spec (a' (.selects cls Bundle.tFill Bundle.tFill) (by simp [Bundle.ownAtomsX]))
    cases Option.some.inj (q1.symm.trans hfound)
    cases Option.some.inj (q2.symm.trans (State.methodFound?_of_named Y.fill (by decide)))
    cases Option.some.inj (q3.symm.trans Y.fill)
    rw [Launch.admits_selectMethod X.admits]; exact q4
  obtain ⟨cellS0, hcS0, hiss⟩ := Y.statics
  obtain ⟨u0, hu0⟩ := Cond.staticRefV Y.unassigned L.unassignedStatic L.statics hcS0 hiss (a' (.isRef (.static Bundle.tN "UNASSIGNED_STACK" Bundle.steD)) (by simp [Bundle.ownAtomsX]))
  obtain ⟨sen, hsen⟩ := Cond.staticRefV Y.sentinel L.sentinelStatic L.statics hcS0 hiss (a' (.isRef (.static Bundle.tN "SUPPRESSED_SENTINEL" Bundle.listD)) (by simp [Bundle.ownAtomsX]))
  obtain ⟨ci198, i198, fB, hk198, hg198, ha198, hsB, -, hnB, htB, hffB⟩ := Cond.ownField (t := .object "java/lang/Object") Y.found L.cls (by decide +kernel) (a' (.fieldLink Bundle.tN 198 Bundle.tN "backtrace" "Ljava/lang/Object;") (by simp [Bundle.ownAtomsX])) (a' (.lays Bundle.tN Bundle.tN "backtrace" "Ljava/lang/Object;") (by simp [Bundle.ownAtomsX])) e.platform hpl
  obtain ⟨cellS, hcS', heS, -, hkeep⟩ := X.same.2.2.2.2.2 T.aS cellS0 hcS0
  have hcellS : W9.heap[T.aS]? = some cellS := hcS'
  have hout' : ∀ i, (⟨T.aS, i⟩ : Loc) ∉ locs := fun i hmem => by
    have := hlocs _ hmem cellS0 hcS0
    rw [hiss] at this; cases this
  have hknownS : cellS.vm ≠ .unknown := by
    rw [heS]; intro hu
    rw [show cellS0.vm = .unknown from hu] at hiss
    cases hiss
  have hneS : T.aS ≠ a := Nat.ne_of_lt (Nat.lt_of_lt_of_le (Array.getElem?_eq_some_iff.mp hcS0).1 hnew)
  obtain ⟨iM, hffM⟩ := Y.msg
  obtain ⟨tyC, dC, hdC, hdnC⟩ := Cond.laysAt hfound hk Y.cause (a' (.lays cls Bundle.tN "cause" "Ljava/lang/Throwable;") (by simp [Bundle.ownAtomsX]))
  obtain ⟨tyS, dS, hdS, hdnS⟩ := Cond.laysAt hfound hk Y.stack (a' (.lays cls Bundle.tN "stackTrace" Bundle.steD) (by simp [Bundle.ownAtomsX]))
  obtain ⟨tyP, dP, hdP, hdnP⟩ := Cond.laysAt hfound hk Y.supp (a' (.lays cls Bundle.tN "suppressedExceptions" Bundle.listD) (by simp [Bundle.ownAtomsX]))
  obtain ⟨tyM, dM, hdM, hdnM⟩ := Cond.laysAt hfound hk hffM (a' (.lays cls Bundle.tN "detailMessage" "Ljava/lang/String;") (by simp [Bundle.ownAtomsX]))
  obtain ⟨tyB, dB, hdB, hdnB⟩ := Cond.laysAt hfound hk hffB (a' (.lays cls Bundle.tN "backtrace" "Ljava/lang/Object;") (by simp [Bundle.ownAtomsX]))
  have bC := Cond.laysApart hdB hdC hdnB hdnC (by rw [hnB, Y.causeName]; decide)
  have bS := Cond.laysApart hdB hdS hdnB hdnS (by rw [hnB, Y.stackName]; decide)
  have bP := Cond.laysApart hdB hdP hdnB hdnP (by rw [hnB, Y.suppName]; decide)
  have hskip : SkipFacts T e.platform s (fun u => u) u0 ((preparedCellV T.toThrowableT (freshCell P1.m.cls kX) a u0 sen).withEntry W9.cur) :=
    ⟨{ ci198 := ci198, i198 := i198, fBack := fB }, ⟨hk198, hg198, ha198, hsB⟩, by
      have := fresh_default (c := P1.m.cls) tyB
      rw [htB] at this
      simpa [preparedCellV, Cell.setSlot, Cell.withEntry, Array.getElem?_setIfInBounds, bC, bS, bP, bC.symm, bS.symm, bP.symm, defaultValue] using this, fun _ _ => rfl⟩
  obtain ⟨tm, methC, cdC, kC, vm₁, hnC, -, -, -, -, -, -, -, hW₁, st1⟩ := Steps.initColdS (tb := p.tables) (e := e) (below := below) (s := s) (U := W9) X.here hexec X.warmed hpl hown (t := Bundle.initS cls) rfl rfl (Bundle.fit_spec hcls).2
    (a' (.methodLink own ic (Bundle.initS cls)) (by simp [Bundle.ownAtomsX])) (h (.instanceMethod (Bundle.initS cls)) (by cases names <;> simp [Bundle.ownAtomsX, Bundle.chainSAtomsX, Bundle.passSAtoms])) (bytes := rx) (maxL := 2) (h (.code (Bundle.initS cls) rx 2 none) (by cases names <;> simp [Bundle.ownAtomsX, Bundle.chainSAtomsX, Bundle.passSAtoms]))
    (f := g) hg (a := a) (msg := msg) (rest := .ref a :: rest) hstack hd6
  cases Option.some.inj (hnC.symm.trans hP1m)
  have X₁ := X.noted hW₁
  obtain ⟨vm₂, X₂, st2⟩ := X₁.ctorMessageOffV hexec (g := { g with stack := .ref a :: rest }) hg hsize T L Z LZ M LM (P1 :: Ps)
    (fun P hP => by rcases List.mem_cons.mp hP with rfl | hP; exact L1; exact hL P hP) ⟨hlink1, hlink⟩ (u0 := u0) (sen := sen) (self := a) hmsg (cell := freshCell P1.m.cls kX) (cellS := cellS)
    hcell (fun _ => by simp) (by simp) rfl rfl hsel0 hselF hcellS hneS hknownS (by rw [hkeep _ (hout' _)]; exact hu0) (by rw [hkeep _ (hout' _)]; exact hsen)
    (Takes.of_laid hk hord tyC (by rw [Y.causeType]; rfl)) (Takes.of_laid hk hord tyS (by rw [Y.stackType]; exact fits_refV_array _ u0)) (Takes.of_laid hk hord tyP (by rw [Y.suppType]; exact fits_refV_object _ sen))
    (Takes.of_laid hk hord tyM (by rw [Y.msgType]; exact fits_refV_object _ ⟨msg, hmsg⟩)) Y.objLocals hskip htr [] hd6
    (by simp only [List.length_cons, hlen]; omega) (by simp only [List.length_cons, hlen]; exact hRlocals)
  obtain ⟨hwalk, hrun, hended, hWU, hsame⟩ := X₂.athrowLeaves hexec (g := { g with stack := .ref a :: rest, pc := g.pc + 3 }) hg hlocked hentered hout (a := a) (rest := rest) rfl hd9 (hlocks := hlocks)
  have hlt : a < ((W9.setVm vm₁).setVm vm₂).heap.size := (Array.getElem?_eq_some_iff.mp hcell).1
  have hU := heapAt_setCell_self (s := (W9.setVm vm₁).setVm vm₂) (plainBareV T.toThrowableT (freshCell P1.m.cls kX) a u0 sen msg) hlt
  refine ⟨_, st1 _ (fun acts => ?_), hrun, hended, hWU, hsame.weaken (fun y hy hlt' => ?_) (Nat.le_refl _) (Nat.le_refl _), size_setCell _ _ _, fun q hq => ?_, _, hU, rfl, rfl⟩
  · rw [doInvoke_state]
    exact st2 _ hwalk
  · rcases List.mem_append.mp hy with h1 | h1
    · exact h1
    · exfalso
      have hb : y.base = a := by
        simp only [List.mem_cons, List.not_mem_nil, or_false] at h1
        rcases h1 with rfl | rfl | rfl | rfl | rfl <;> rfl
      rw [hb] at hlt'
      exact Nat.not_lt.mpr hnew hlt'
  · show (((W9.setVm vm₁).setVm vm₂).setCell a _).heap[q]? = _
    rw [State.heap_setCell_other (Ne.symm hq)]
    rfl
end XT
end
section
/-! What the exceptions need of a state; a method that throws; a call whose exception is caught. -/
def xdecl : List MethodName := [Bundle.initS "java/lang/RuntimeException", Bundle.initS "java/lang/Exception", Bundle.initS "java/lang/Throwable"]
def xcast : List (String × String) := [("java/lang/IllegalArgumentException", "java/lang/IllegalArgumentException"), ("java/lang/IllegalStateException", "java/lang/IllegalStateException"), ("java/util/NoSuchElementException", "java/util/NoSuchElementException")]
def xnot : List (String × String) := [("java/lang/IllegalStateException", "java/lang/IllegalArgumentException")]
def xstat : List (String × String) := [("UNASSIGNED_STACK", "[Ljava/lang/StackTraceElement;"), ("SUPPRESSED_SENTINEL", "Ljava/util/List;")]
def xEx (strs : List (Nat × String)) (H0 : Heap) (U : State) : Prop :=
  (∀ x ∈ xdecl, va_Nw (.declares x) U) ∧ (∀ q ∈ xcast, va_Nw (.castable q.1 q.2) U) ∧ (∀ q ∈ xnot, (Cond.not (.castable q.1 q.2)).before #[] U = true) ∧
  (∀ q ∈ xstat, (Cond.laysStatic "java/lang/Throwable" q.1 q.2).before #[] (U.withHeap H0) = true ∧ (Cond.isRef (.static "java/lang/Throwable" q.1 q.2)).before #[] (U.withHeap H0) = true) ∧
  ∀ q ∈ strs, ∃ a, vk_R "TableMaker" q.1 q.2 a U
theorem xnc_moved {C T : String} {s U : State} {A A' : Array Value} (hvm : s.vm.Alike U.vm) (h : (Cond.not (.castable C T)).before A s = true) : (Cond.not (.castable C T)).before A' U = true := by
  simp only [Cond.before, Cond.holds, Cond.value, hvm.findClass, hvm.assignable] at h ⊢
  exact h
theorem xst_moved {w : Cond} {s U : State} {H0 : Heap} (hs : w.steady = true) (hvm : s.vm.Alike U.vm) (he : w.before #[] ((s.withHeap H0).setVm U.vm) = w.before #[] (U.withHeap H0)) (h : w.before #[] (s.withHeap H0) = true) : w.before #[] (U.withHeap H0) = true := by
  rw [← he]
  have hv : (s.withHeap H0).vm.Alike U.vm := hvm
  have e := Cond.value_setVm₂ (args := #[]) (o := none) hv hv w [] hs
  simp only [Cond.before, Cond.holds] at h ⊢
  rw [e]
  exact h
theorem xEx_mv (strs : List (Nat × String)) (H0 : Heap) : xmv H0 (xEx strs H0) := by
  intro s U hW _ _ h
  obtain ⟨h1, h2, h3, h4, h5⟩ := h
  refine ⟨fun x hx => va_Nw.warmD hW (h1 x hx), fun q hq => va_Nw.warmC hW (h2 q hq), fun q hq => xnc_moved hW.alike (h3 q hq), fun q hq => ⟨?_, ?_⟩, fun q hq => ?_⟩
  · exact xst_moved (by rfl) hW.alike rfl (h4 q hq).1
  · exact xst_moved (by rfl) hW.alike rfl (h4 q hq).2
  · obtain ⟨a, ha⟩ := h5 q hq
    exact ⟨a, ha.warm hW⟩
theorem xls_heap {C n d : String} {U : State} {H0 : Heap} {A A' : Array Value} (h : (Cond.laysStatic C n d).before A (U.withHeap H0) = true) (hU : ∀ q, q < H0.size → U.heap[q]? = H0[q]?) : (Cond.laysStatic C n d).before A' U = true := by
  have e1 : (U.withHeap H0).fieldFound? C n d = U.fieldFound? C n d := rfl
  have e2 : (U.withHeap H0).vm = U.vm := rfl
  have e3 : (U.withHeap H0).heap = H0 := rfl
  simp only [Cond.before, Cond.holds, Cond.value, e1, e2, e3, beq_iff_eq] at h ⊢
  cases hc : U.vm.findClass C with
  | none => simp [hc] at h
  | some c =>
    cases hf : U.fieldFound? C n d with
    | none => simp [hc, hf] at h
    | some x =>
      obtain ⟨c', k, i, f⟩ := x
      simp only [hc, hf, Option.map_eq_some_iff, Option.bind_eq_some_iff] at h ⊢
      obtain ⟨cell, ⟨a, ha, hcell⟩, hb⟩ := h
      exact ⟨cell, ⟨a, ha, by rw [hU a (Array.getElem?_eq_some_iff.mp hcell).1]; exact hcell⟩, hb⟩
theorem xsr_heap {C n d : String} {U : State} {H0 : Heap} {A A' : Array Value} (h : (Cond.isRef (.static C n d)).before A (U.withHeap H0) = true) (hU : ∀ q, q < H0.size → U.heap[q]? = H0[q]?) : (Cond.isRef (.static C n d)).before A' U = true := by
  have key : ∀ v, (Term.static C n d).eval A (U.withHeap H0) none [] (U.withHeap H0) = some v → (Term.static C n d).eval A' U none [] U = some v := fun v hv => by
    have e1 : (U.withHeap H0).fieldNamed? C n d true = U.fieldNamed? C n d true := rfl
    have e3 : (U.withHeap H0).heap = H0 := rfl
    simp only [Term.eval, e1, e3, Option.bind_eq_bind, Option.bind_eq_some_iff] at hv ⊢
    obtain ⟨x, hx, a, ha, cell, hcell, hr⟩ := hv
    exact ⟨x, hx, a, ha, cell, by rw [hU a (Array.getElem?_eq_some_iff.mp hcell).1]; exact hcell, hr⟩
  cases hv : (Term.static C n d).eval A (U.withHeap H0) none [] (U.withHeap H0) with
  | none => simp [Cond.before, Cond.holds, Cond.value, hv] at h
  | some v =>
    have h2 := key v hv
    simp only [Cond.before, Cond.holds, Cond.value, hv] at h
    simp only [Cond.before, Cond.holds, Cond.value, h2]
    exact h
/-- the words that an exception's constructors need: in the tables, or among those that are carried -/
def xsp : Cond → Bool
  | .declares x => decide (x ∈ xdecl)
  | .castable a b => decide ((a, b) ∈ xcast)
  | .laysStatic o n d => decide (o = "java/lang/Throwable") && decide ((n, d) ∈ xstat)
  | .isRef (.static o n d) => decide (o = "java/lang/Throwable") && decide ((n, d) ∈ xstat)
  | _ => false
theorem xsp_ok {strs : List (Nat × String)} {H0 : Heap} {s : State} {A : Array Value} (hE : xEx strs H0 s) (hU : ∀ q, q < H0.size → s.heap[q]? = H0[q]?) {w : Cond} (h : xsp w = true) : w.before A s = true := by
  unfold xsp at h
  split at h
  · exact va_Nw.use rfl (hE.1 _ (of_decide_eq_true h))
  · exact va_Nw.use rfl (hE.2.1 _ (of_decide_eq_true h))
  · simp only [Bool.and_eq_true, decide_eq_true_eq] at h
    obtain ⟨rfl, h⟩ := h
    exact xls_heap (hE.2.2.2.1 _ h).1 hU
  · simp only [Bool.and_eq_true, decide_eq_true_eq] at h
    obtain ⟨rfl, h⟩ := h
    exact xsr_heap (hE.2.2.2.1 _ h).2 hU
  · cases h
section XV
variable {p : Program} {l : Launch} {e : Env} {R : Room} {s : State} {m : MethodId} {args : Array Value} {below : List Frame} {meth : Method} {c : Code}
variable {D : va_G} {cl : List vw_C} {ca : Nat → ClassId} {b Ls : Nat} {xs : Nat → Int32} {H0 : Heap} {zm um : Nat} {xn : xX} {Ts : List Cond} {hs h h2 : xH} {w w2 : Bool}
variable {cc : ByteArray} {own : String} {ini : Bool} {nL pc idx k : Nat} {L : xL} {st : List Value} {Q : State → Prop} {strs : List (Nat × String)}
theorem xu_throw (E : xEn p s m args meth c cc own ini nL D cl ca Ts b Ls xs H0) (hE : xEx strs H0 s) (hH : ∀ q, q < H0.size → s.heap[q]? = H0[q]?) (hsz0 : s.heap.size + 1 = H0.size + hs.1) (hfl : l.flags = pinnedFlags ++ [noTraceFlag]) (hex : c.exceptionTable.toList = []) (hlocks : meth.locks = false) (hRc : R.cells + hs.1 = zm) (hRs : R.slots + hs.2.1 = um) (hf : 6 ≤ R.frames) (hlo : 200 ≤ R.locals) (hown0 : own = "TableMaker")
    {x ic si ix : Nat} {tx : String} {rx : ByteArray} {names : List String} (hnl : names.length = 2) (d0 : decode cc pc = .ok (.new idx, 3)) (d3 : decode cc (pc + 3) = .ok (.dup, 1)) (d4 : decode cc (pc + 3 + 1) = .ok (.ldc si, 2)) (d6 : decode cc (pc + 3 + 1 + 2) = .ok (.invokespecial ic, 3)) (d9 : decode cc (pc + 3 + 1 + 2 + 3) = .ok (.athrow, 1))
    (x0 : decode rx 0 = .ok (.aload_n 0, 1)) (x1 : decode rx 1 = .ok (.aload_n 1, 1)) (x2 : decode rx 2 = .ok (.invokespecial ix, 3)) (x5 : decode rx 5 = .ok (.return_, 1)) (hcl : Bundle.fit (xn x) = true) (hnames : ∀ n ∈ names, Bundle.fit n = true)
    (hlk : Cond.classLink own idx (xn x) ∈ Ts) (hins : Cond.instantiable (xn x) 6 ∈ Ts) (hini : Cond.initialized (xn x) ∈ Ts) (hstr : (si, tx) ∈ strs) (hat : ∀ a ∈ Bundle.ownAtomsX own ic (xn x) ix rx names, a ∈ Ts ∨ xsp a = true) (z1 : h.1 + 1 ≤ zm) (z2 : h.2.1 + 6 ≤ um) :
    xW p l e R s m args below meth c D cl ca b H0 nL zm um hs (xQ below D cl ca b H0 zm um xn hs (.inr (x, h.1)) true (h.1 + 1, h.2.1 + 6, xup h.2.2 h.1 none) s) pc L [] false h := by
  intro ls H locs cells slots I
  obtain ⟨i1, i2, i3, i4, i5, i6, i7, i8⟩ := I
  obtain ⟨hx, hb, hown, hts, hK, hX, hbl, hml, hnm0, hao⟩ := E
  obtain ⟨rfl, rfl⟩ := i8 rfl
  obtain ⟨cX, kX, hfc, hkX, -⟩ := Cond.instantiable_spec (hts _ hins)
  obtain ⟨q, hq⟩ := hE.2.2.2.2 _ hstr
  have hz0 : cells = 0 := by omega
  have hs0 : slots = 0 := by omega
  refine W.newcK hx hb hown (hts _ hlk) (hts _ hins) (hts _ hini) rfl d0 (by omega) (by omega) hfc rfl fun H1 kC hkC e1 e2 e3 => ?_
  show W p l e R s m args below meth c H1 [] (cells + 1) (slots + 6) _ (F0 m (pc + 3) ls [.ref H.size])
  refine lv_dup hx hb d3 rfl ?_
  refine va_ldcS hx hb hown (by rw [hown0]; exact hq) d4 ?_
  intro T hT X
  have hsz : s.heap.size ≤ H.size := by
    have := i2.2.1
    omega
  obtain ⟨U, u1, u2, u3, u4, u5, u6, u7, ce, u8, u9, u10⟩ := xthrow X hx (Launch.traces_off hfl X.admits) x0 x1 x2 x5 hown hcl hnames (fun a ha => (hat a ha).elim (hts a) (xsp_ok hE hH)) (fun x hx => by cases hx) hfc hkC (by rw [hT]; exact e1) hsz (msg := .ref q) rfl (g := F0 m (pc + 3 + 1 + 2) ls [.ref q, .ref H.size, .ref H.size]) rfl (by rw [hml]; exact i1.1) rfl rfl (rest := []) rfl (by rw [hb]; exact d6) (by rw [hb]; exact d9) (by rw [hex]; intro y hy; cases hy) (by omega) (by show 2 * 0 + 1 + _ ≤ _; omega) hlocks
  have ead : xad b H0.size h.1 = H.size := Value.ref.inj (xrp_ad i2)
  refine ⟨U, u1, .threw H.size, u2, u3, ⟨by rw [ead], ce, cX, by rw [ead]; exact u8, hfc, u9, u10⟩, xrp_opq i2 ?_ ?_ 6, ?_, ?_, z1, z2, [], u4, ?_, (fun q hq => by cases hq), (fun q => by cases q)⟩
  · rw [u6, hT, e2]
  · intro a ha
    rw [u7 a (Nat.ne_of_lt ha), hT]
    exact e3 a ha
  · show h.1 ≤ h.1 + 1
    omega
  · show h.2.1 ≤ h.2.1 + 6
    omega
  · have g1 : (h.1 + 1) - h.1 = cells + 1 := by omega
    have g2 : (h.2.1 + 6) - h.2.1 = slots + 6 := by omega
    show s.sameButNew _ [] ((h.1 + 1) - h.1) ((h.2.1 + 6) - h.2.1)
    rw [g1, g2]
    exact u5
end XV
end
section
/-! A call whose exception is caught by the caller. -/
section XB2
variable {p : Program} {l : Launch} {e : Env} {R : Room} {s : State} {m : MethodId} {args : Array Value} {below : List Frame} {meth : Method} {c : Code}
variable {D : va_G} {cl : List vw_C} {ca : Nat → ClassId} {b Ls : Nat} {xs : Nat → Int32} {H0 : Heap} {zm um : Nat} {xn : xX} {Ex : State → Prop} {Ts : List Cond} {hs h h2 : xH} {w w2 : Bool} {av : List Value} {md2 : xMd} {d2 x i : Nat}
theorem xbackT (hmv : xmv H0 Ex) (hts : ∀ w ∈ Ts, w.before args s = true) (hgood : ∀ w ∈ Ts, goodWord w = true) (hpl : md2.2.2.2.2.2 = []) (hcode : xcw md2 ∈ Ts) (hini : Cond.initialized md2.1.cls ∈ Ts) (hf : d2 + 1 ≤ R.frames) (hlo : 8 + (md2.2.2.1 + 11) + 36 * d2 ≤ R.locals) (hRc : R.cells + hs.1 = zm) (hRs : R.slots + hs.2.1 = um) (hz : h.1 ≤ zm) (hu : h.2.1 ≤ um)
    (hC : xC l D cl ca b Ls xs H0 zm um xn Ex Ts d2 md2.1 av h (.inr (x, i)) w2 h2) :
    BackT l R p e below s args md2.1 3 8 (xPre D cl ca b Ls xs H0 Ex hs h av) (fun A _ vo B => vo = xad b H0.size i ∧ (∃ ce cX, B.U.heap[xad b H0.size i]? = some ce ∧ A.U.vm.findClass (xn x) = some cX ∧ ce.cls = cX ∧ ce.vm = .none) ∧ xPost D cl ca b H0 zm um hs h w2 h2 A B) := by
  have hat : ∀ (a : Array Value) (U : State), s.WarmedH U.vm → ∀ w ∈ Ts, w.before a U = true := fun a U hW w hw => word_at hW (good_of_word (hgood w hw)) (hts w hw)
  have hroom : ∀ A : Pt, A.cells + hs.1 = h.1 → A.slots + hs.2.1 = h.2.1 → A.cells + (headSpec Ts (xrm d2 zm um h)).room.cells ≤ R.cells ∧ A.slots + (headSpec Ts (xrm d2 zm um h)).room.slots ≤ R.slots := fun A e1 e2 => by
    show A.cells + (zm - h.1) ≤ R.cells ∧ A.slots + (um - h.2.1) ≤ R.slots
    omega
  refine BackT.of_free (S := headSpec Ts (xrm d2 zm um h)) (bytes := md2.2.1) (maxL := md2.2.2.1) (ret := md2.2.2.2.1) (E := fun _ _ _ _ L k n => k = h2.1 - h.1 ∧ n = h2.2.1 - h.2.1 ∧ (∀ q ∈ L, H0.size ≤ q.base) ∧ (w2 = false → h2 = h ∧ L = [])) hC hf hlo ?_ ?_ (fun _ _ _ _ _ _ _ _ _ => trivial) ?_ ?_
  · intro m meth c A a X q
    have hc := hat a A.U X.warmed _ hcode
    unfold xcw at hc
    rw [if_pos hpl] at hc
    obtain ⟨r1, r2⟩ := hroom A q.2.2.2.1 q.2.2.2.2
    exact ⟨atoms_intro (hat a A.U X.warmed), hc, hat a A.U X.warmed _ hini, r1, r2⟩
  · intro m meth c A a g mk X q
    exact ⟨q.1, q.2.1, hz, hu, xEs.at (s := A.U) (U := A.U.calling g mk a) hmv q.2.2.1 (State.WarmedH.refl A.U) q.2.1.2.2.1 q.2.1.2.2.1⟩
  · intro a first o t q
    obtain ⟨⟨ho, -⟩, -, -, -, -, -, L, hW, hsame, hL, hw⟩ := q
    exact ⟨L, _, _, ⟨⟨_, ho⟩, hW, hsame⟩, rfl, rfl, hL, hw⟩
  · intro m meth c A a g mk vo t L k n X hp q _ hE
    obtain ⟨⟨ho, ce, cX, o1, o2, o3, o4⟩, hr, g1, g2, g3, g4, -⟩ := q
    obtain ⟨-, -, -, c1, c2⟩ := hp
    obtain ⟨e1, e2, hL, hw⟩ := hE
    refine ⟨Outcome.threw.inj ho, ⟨ce, cX, o1, o2, o3, o4⟩, hr, ⟨L, rfl, hL, hw⟩, ?_, ?_, g3, g4⟩
    · show A.cells + k + hs.1 = h2.1
      omega
    · show A.slots + n + hs.2.1 = h2.2.1
      omega
variable {cc : ByteArray} {own : String} {ini : Bool} {nL pc idx k : Nat} {L : xL} {st : List Value} {Q : State → Prop} {strs : List (Nat × String)}
theorem xu_catch (E : xEn p s m args meth c cc own ini nL D cl ca Ts b Ls xs H0) (hE : xEx strs H0 s) (hH : ∀ q, q < H0.size → s.heap[q]? = H0[q]?) (hgood : ∀ w ∈ Ts, goodWord w = true) (hpl : md2.2.2.2.2.2 = []) (hcode : xcw md2 ∈ Ts) (hini : Cond.initialized md2.1.cls ∈ Ts) (hf : d2 + 1 ≤ R.frames) (hlo : 8 + (md2.2.2.1 + 11) + 36 * d2 ≤ R.locals) (hRc : R.cells + hs.1 = zm) (hRs : R.slots + hs.2.1 = um)
    {C : String} {T : u_T} {N ci j : Nat} {fs : List Value} {as : List Value} (hd : decode cc pc = .ok (.invokevirtual idx, 3)) (hl : Cond.methodLink own idx md2.1 ∈ Ts) (hin : Cond.instanceMethod md2.1 ∈ Ts) (hse : Cond.selects C md2.1 md2.1 ∈ Ts) (hy : md2.1.cls ≠ "java/lang/invoke/MethodHandle" ∧ md2.1.cls ≠ "java/lang/invoke/VarHandle") (hn : (parseMethodDescriptor md2.1.desc).map (fun d => d.parameters.length) = some as.length)
    (hk : (st.take k).reverse = .ref (j + 1) :: as) (hcell : h.2.2 (j + 1) = some (.inl (ci, fs))) (hcl : cl[ci]? = some (C, T, N)) (hcs : xcs (st.drop k) ≤ 8)
    (hC : xC l D cl ca b Ls xs H0 zm um xn (xEx strs H0) Ts d2 md2.1 (st.take k).reverse h (.inr (x, i)) w2 h2)
    {pre rest : List ExceptionTableEntry} {en : ExceptionTableEntry} (hsplit : c.exceptionTable.toList = pre ++ en :: rest) (hcov : covers en pc = true) (h0 : en.catchType ≠ 0) (hlk : Cond.classLink own en.catchType (xn x) ∈ Ts) (hcast : (xn x, xn x) ∈ xcast) (hpass : ∀ y ∈ pre, y.catchType ≠ 0 ∧ ∃ nm, Cond.classLink own y.catchType nm ∈ Ts ∧ (xn x, nm) ∈ xnot)
    (K : xW p l e R s m args below meth c D cl ca b H0 nL zm um hs Q en.handlerPc L [.ref i] true h2) : xW p l e R s m args below meth c D cl ca b H0 nL zm um hs Q pc L st w h := by
  intro ls H locs cells slots I T9 hT X
  have I0 := I
  obtain ⟨i1, i2, i3, i4, i5, i6, i7, i8⟩ := I
  obtain ⟨hx, hb, hown, hts, hK, hX, hbl, hml, hnm0, hao⟩ := E
  have hmv := xEx_mv strs H0
  have hes : xEs D cl ca b Ls xs H0 (xEx strs H0) s := ⟨hK, hX, hao, hE⟩
  obtain ⟨cellB, g1, g2, g3⟩ := va_recv (q0 := 0) (a := H0.size + j) (fs := fs.map (xcv b H0.size)) hK (xr_one (i2.2.2.2 j _ hcell).2) hcl rfl
  have hc := hts _ hcode
  unfold xcw at hc
  rw [if_pos hpl] at hc
  have hbk := xbackT (R := R) (s := s) (args := args) (p := p) (e := e) (below := below) (hs := hs) hmv hts hgood hpl hcode hini hf hlo hRc hRs i6 i7 hC
  obtain ⟨mk, methM, hnamed, hmethM, hstM, habM⟩ := Cond.instanceMethod_spec (hts _ hin)
  obtain ⟨methM', cM, hmethM', -, -, -, -, -, -, hsigM⟩ := Cond.code_spec hnamed hc
  cases hmethM.symm.trans hmethM'
  obtain ⟨c2, r2, m2, q1, q2, q3, q4, kP, hkP, hkPi⟩ := Cond.selects_spec (hts _ hse)
  cases g3.symm.trans q1
  cases (State.methodFound?_of_named hnamed hy).symm.trans q2
  cases hnamed.symm.trans q3
  have hselP : selectMethod e.platform s.vm cellB.cls mk = .method mk := by rw [Launch.admits_selectMethod X.admits]; exact q4
  obtain ⟨vm₁, X₁, hstep₁⟩ := X.invokevirtual hx hown (hts _ hl) hnamed hmethM hstM hkP hkPi hy (a := H0.size + j) (cell := cellB) (by rw [hT]; exact g1)
    (fun z h => by rw [h] at g2; cases g2) hselP hmethM habM hkP hkPi (g := F0 m pc ls (st.map (xcv b H0.size))) rfl (argsL := as.map (xcv b H0.size)) (rest := (st.drop k).map (xcv b H0.size)) (by rw [hsigM] at hn; rw [List.length_map]; exact (Option.some.inj hn).symm) (xsplit b H0.size hk) (by rw [hb]; exact hd)
  obtain ⟨v', B, X', ⟨hv, ⟨ce, cX, o1, o2, o3, o4⟩, hpost⟩, hsteps⟩ := hbk m meth c ⟨T9.setVm vm₁, locs, cells, slots⟩ { F0 m pc ls (st.map (xcv b H0.size)) with stack := (st.drop k).map (xcv b H0.size) } (.invokevirtual idx) mk (Value.ref (H0.size + j) :: as.map (xcv b H0.size)).toArray X₁ rfl (by rw [hml]; exact i1.1) (by rw [hb]; exact hd) (by rw [xcs_map]; show 2 * 0 + _ ≤ 8; omega) (X₁.named hnamed)
    ⟨by rw [hk]; rfl, by show xrp D cl ca b H0 h T9.heap; rw [hT]; exact i2, xEs.at (U := T9.setVm vm₁) hmv hes X₁.warmed hH (by show ∀ q, q < H0.size → T9.heap[q]? = H0[q]?; rw [hT]; exact i2.2.2.1), i4, i5⟩
  have hfX : s.vm.findClass (xn x) = some cX := by
    have := o2
    rw [show (T9.setVm vm₁).vm.findClass (xn x) = s.vm.findClass (xn x) from X₁.warmed.alike.findClass _ _] at this
    exact this
  obtain ⟨c3, c4, w1, w2', w3⟩ := Cond.castable_spec (va_Nw.use (A := args) rfl (hE.2.1 _ hcast))
  cases hfX.symm.trans w1
  cases hfX.symm.trans w2'
  have hcome : Steps p.tables e below (T9.setTop (F0 m pc ls (st.map (xcv b H0.size)))) ((B.U.setTop { F0 m pc ls (st.map (xcv b H0.size)) with stack := (st.drop k).map (xcv b H0.size) }).pushFrame (.throwing v')) := hstep₁ _ (fun acts => by rw [doInvoke_state]; exact hsteps)
  have hplat : e.platform.magicAccessors = ({} : Platform).magicAccessors := by rw [X.admits.platform]
  obtain ⟨hend, hk0⟩ := X'.catches_of_link hown h0 (hts _ hlk) hfX w3
  subst hv
  subst o3
  obtain ⟨vm', XV, st9⟩ := X'.thenCaughtThrough (xad b H0.size i) rfl hcome o1 (by rw [o4]; rfl) hk0 pre en rest hsplit (fun y hy9 => by
    obtain ⟨y0, nm, y1, y2⟩ := hpass y hy9
    exact RowPassed.of_words hplat hown y0 (hts _ y1) hfX (xnc_moved (Vm.Alike.refl s.vm) (hE.2.2.1 _ y2))) hcov hend
  have I2 := xafter I0 rfl hpost
  obtain ⟨t, a1, b1⟩ := K ls B.U.heap B.locs B.cells B.slots ⟨I2.1, I2.2.1, I2.2.2.1, I2.2.2.2.1, I2.2.2.2.2.1, I2.2.2.2.2.2.1, I2.2.2.2.2.2.2.1, fun q => by cases q⟩ (B.U.setVm vm') rfl XV
  exact ⟨t, st9.trans a1, b1⟩
end XB2
end
section
/-! A run of the abstract machine is a walk of the machine. -/
def xtb : List (Nat × Nat × Nat × Nat) → List ExceptionTableEntry
  | [] => []
  | (a, b, c, d) :: r => { startPc := a, endPc := b, handlerPc := c, catchType := d } :: xtb r
theorem xtb_eq : ∀ t : List ExceptionTableEntry, xtb (t.map fun h => (h.startPc, h.endPc, h.handlerPc, h.catchType)) = t
  | [] => rfl
  | h :: t => by
    show _ :: xtb _ = _
    rw [xtb_eq t]
def xHd (Ts : List Cond) (xn : xX) (md : xMd) (pc x q : Nat) : Prop :=
  ∃ pre en rest, xtb md.2.2.2.2.2 = pre ++ en :: rest ∧ covers en pc = true ∧ en.catchType ≠ 0 ∧ en.handlerPc = q ∧ Cond.classLink md.1.cls en.catchType (xn x) ∈ Ts ∧ (xn x, xn x) ∈ xcast ∧ ∀ y ∈ pre, y.catchType ≠ 0 ∧ ∃ nm, Cond.classLink md.1.cls y.catchType nm ∈ Ts ∧ (xn x, nm) ∈ xnot
def xCk (M : Nat → Option xMd) (cl : List vw_C) (Ts : List Cond) (xn : xX) (md : xMd) (pc j2 k rc : Nat) (hd : List (Nat × Nat)) : Prop :=
  ∃ md2, M j2 = some md2 ∧ Cond.initialized md2.1.cls ∈ Ts ∧ md2.2.2.1 ≤ 17 ∧ (md2.1.cls ≠ "java/lang/invoke/MethodHandle" ∧ md2.1.cls ≠ "java/lang/invoke/VarHandle") ∧
    ((rc = 0 ∧ hd = [] ∧ ∃ idx, decode md.2.1 pc = .ok (.invokestatic idx, 3) ∧ Cond.methodLink md.1.cls idx md2.1 ∈ Ts ∧ Cond.static md2.1 ∈ Ts ∧ (parseMethodDescriptor md2.1.desc).map (fun d => d.parameters.length) = some k) ∨
     (rc = 1 ∧ hd = [] ∧ md2.2.2.2.2.2 = [] ∧ md2.2.2.2.1 = none ∧ md2.1.name = "<init>" ∧ ∃ idx k1, k = k1 + 1 ∧ decode md.2.1 pc = .ok (.invokespecial idx, 3) ∧ Cond.methodLink md.1.cls idx md2.1 ∈ Ts ∧ Cond.instanceMethod md2.1 ∈ Ts ∧ (parseMethodDescriptor md2.1.desc).map (fun d => d.parameters.length) = some k1) ∨
     (∃ ci C T N idx k1, rc = ci + 2 ∧ k = k1 + 1 ∧ cl[ci]? = some (C, T, N) ∧ md2.2.2.2.2.2 = [] ∧ decode md.2.1 pc = .ok (.invokevirtual idx, 3) ∧ Cond.methodLink md.1.cls idx md2.1 ∈ Ts ∧ Cond.instanceMethod md2.1 ∈ Ts ∧ Cond.selects C md2.1 md2.1 ∈ Ts ∧ (parseMethodDescriptor md2.1.desc).map (fun d => d.parameters.length) = some k1 ∧ ∀ x q, hd.lookup x = some q → xHd Ts xn md pc x q))
def xTk (Ts : List Cond) (xn : xX) (strs : List (Nat × String)) (md : xMd) (pc x : Nat) : Prop :=
  ∃ (idx ic si ix : Nat) (tx : String) (rx : ByteArray) (names : List String), names.length = 2 ∧ md.2.2.2.2.2 = [] ∧ md.1.cls = "TableMaker" ∧ decode md.2.1 pc = .ok (.new idx, 3) ∧ decode md.2.1 (pc + 3) = .ok (.dup, 1) ∧ decode md.2.1 (pc + 3 + 1) = .ok (.ldc si, 2) ∧ decode md.2.1 (pc + 3 + 1 + 2) = .ok (.invokespecial ic, 3) ∧ decode md.2.1 (pc + 3 + 1 + 2 + 3) = .ok (.athrow, 1) ∧
    decode rx 0 = .ok (.aload_n 0, 1) ∧ decode rx 1 = .ok (.aload_n 1, 1) ∧ decode rx 2 = .ok (.invokespecial ix, 3) ∧ decode rx 5 = .ok (.return_, 1) ∧ Bundle.fit (xn x) = true ∧ (∀ n ∈ names, Bundle.fit n = true) ∧
    Cond.classLink md.1.cls idx (xn x) ∈ Ts ∧ Cond.instantiable (xn x) 6 ∈ Ts ∧ Cond.initialized (xn x) ∈ Ts ∧ (si, tx) ∈ strs ∧ ∀ a ∈ Bundle.ownAtomsX md.1.cls ic (xn x) ix rx names, a ∈ Ts ∨ xsp a = true
def xIt (M : Nat → Option xMd) (cl : List vw_C) (Ts : List Cond) (Ls : Nat) (xs : Nat → Int32) (zm um : Nat) (xn : xX) (strs : List (Nat × String)) (md : xMd) (pc : Nat) : xK → Prop
  | .inl F => xOK md.2.1 md.1.cls md.2.2.2.2.1 md.2.2.1 cl Ts Ls xs zm um pc F
  | .inr (.inl (j2, k, rc, hd)) => xCk M cl Ts xn md pc j2 k rc hd
  | .inr (.inr 0) => md.2.2.2.1 = none ∧ decode md.2.1 pc = .ok (.return_, 1)
  | .inr (.inr 1) => md.2.2.2.1 = some .int ∧ decode md.2.1 pc = .ok (.ireturn, 1)
  | .inr (.inr 2) => md.2.2.2.1 = some .boolean ∧ decode md.2.1 pc = .ok (.ireturn, 1)
  | .inr (.inr (x + 3)) => xTk Ts xn strs md pc x
/-- the program: each method, each item of its code -/
def xPg (P : Nat → Nat → Option xK) (M : Nat → Option xMd) (cl : List vw_C) (Ts : List Cond) (Ls : Nat) (xs : Nat → Int32) (zm um : Nat) (xn : xX) (strs : List (Nat × String)) : Prop :=
  ∀ j md, M j = some md → plainName md.1.cls = true ∧ xcw md ∈ Ts ∧ (md.2.2.2.2.1 = true → md.1.name = "<init>") ∧ ∀ pc it, P j pc = some it → xIt M cl Ts Ls xs zm um xn strs md pc it
theorem xcs_rev (st : List Value) : xcs st.reverse = xcs st := by
  unfold xcs
  rw [List.map_reverse, List.sum_reverse]
theorem xrcv_1 {h : xH} {vs : List Value} (hr : xrcv h 1 vs = true) : ∃ j as, vs = .ref (j + 1) :: as := by
  unfold xrcv at hr
  split at hr
  · exact ⟨_, _, rfl⟩
  · cases hr
theorem xrcv_2 {h : xH} {ci : Nat} {vs : List Value} (hr : xrcv h (ci + 2) vs = true) : ∃ j as fs, vs = .ref (j + 1) :: as ∧ h.2.2 (j + 1) = some (.inl (ci, fs)) := by
  unfold xrcv at hr
  split at hr
  · rename_i j r
    refine ⟨j, r, ?_⟩
    simp only [Bool.or_eq_true, beq_iff_eq] at hr
    rcases hr with (h9 | h9) | h9
    · omega
    · omega
    · split at h9
      · rename_i c2 fs hc
        have : c2 = ci := by have := beq_iff_eq.mp h9; omega
        subst this
        exact ⟨fs, rfl, hc⟩
      · cases h9
  · have := beq_iff_eq.mp hr
    omega
section XZ
variable {P : Nat → Nat → Option xK} {M : Nat → Option xMd} {l : Launch} {D : va_G} {cl : List vw_C} {ca : Nat → ClassId} {b Ls : Nat} {xs : Nat → Int32} {H0 : Heap} {zm um : Nat} {xn : xX} {Ts : List Cond} {strs : List (Nat × String)}
set_option maxHeartbeats 4000000 in
theorem xrun_ok (hP : xPg P M cl Ts Ls xs zm um xn strs) (hgood : ∀ w ∈ Ts, goodWord w = true) (hfl : l.flags = pinnedFlags ++ [noTraceFlag]) (hbl : b < H0.size) :
    ∀ (n d j pc : Nat) (L : xL) (st : List Value) (w : Bool) (h : xH) (r : xR) (w' : Bool) (h' : xH) (md : xMd), M j = some md → 1 ≤ d → xrun P M zm um n d j pc L st w h = some (r, w', h') →
      ∀ (p : Program) (e : Env) (R : Room) (s : State) (m : MethodId) (args : Array Value) (below : List Frame) (meth : Method) (c : Code) (hs : xH), xEn p s m args meth c md.2.1 md.1.cls md.2.2.2.2.1 md.2.2.1 D cl ca Ts b Ls xs H0 → xEx strs H0 s → xrp D cl ca b H0 hs s.heap → xMh md meth c → R.cells + hs.1 = zm → R.slots + hs.2.1 = um → R.frames = d → R.locals = 36 * d →
        xW p l e R s m args below meth c D cl ca b H0 md.2.2.1 zm um hs (xQ below D cl ca b H0 zm um xn hs r w' h' s) pc L st w h
  | 0, _, _, _, _, _, _, _, _, _, _, _, _, _, h => by cases h
  | n + 1, d, j, pc, L, st, w, h, r, w', h', md, hM, hd, hrun => by
    intro p e R s m args below meth c hs E hE hR hMh hRc hRs hRf hRl
    obtain ⟨hpl, hcw, hini, hit⟩ := hP j md hM
    unfold xrun at hrun
    split at hrun
    · cases hrun
    · rename_i F hF
      split at hrun
      · cases hrun
      · rename_i pc' L' st' w1 h1 hst
        have K := xrun_ok hP hgood hfl hbl n d j pc' L' st' w1 h1 r w' h' md hM hd hrun p e R s m args below meth c hs E hE hR hMh hRc hRs hRf hRl
        exact hit pc _ hF p l e R s m args below meth c D ca b H0 hs _ E hRc hRs (by omega) (by omega) L st w h pc' L' st' w1 h1 hst K
    · rename_i j2 k rc hd9 hF
      split at hrun
      · rename_i d2 md2 hM2
        split at hrun
        · rename_i hcond
          obtain ⟨k1, k2, k3, k4⟩ := hcond
          obtain ⟨md2', hM2', ci1, ci2, ci3, hck⟩ := hit pc _ hF
          cases hM2.symm.trans hM2'
          obtain ⟨hpl2, hcw2, hini2, -⟩ := hP j2 md2 hM2
          have hcall : ∀ r2 w2 h2, xrun P M zm um n (d2 + 1) j2 0 (lv_args 0 (st.take k).reverse) [] false h = some (r2, w2, h2) → xC l D cl ca b Ls xs H0 zm um xn (xEx strs H0) Ts (d2 + 1) md2.1 (st.take k).reverse h r2 w2 h2 := fun r2 w2 h2 hr2 =>
            xC_of hpl2 hcw2 hini2 (by rw [xcs_rev]; exact k3) (fun p e s m args below meth c E2 hE2 hR2 hMh2 hz hu => xrun_ok hP hgood hfl hbl n (d2 + 1) j2 0 _ [] false h r2 w2 h2 md2 hM2 (by omega) hr2 p e (xrm (d2 + 1) zm um h) s m args below meth c h E2 hE2 hR2 hMh2 (by show zm - h.1 + h.1 = zm; omega) (by show um - h.2.1 + h.2.1 = um; omega) rfl rfl) hbl
          split at hrun
          · cases hrun
          · rename_i v w2 h2 hr2
            have K := xrun_ok hP hgood hfl hbl n (d2 + 2) j (pc + 3) L (v.toList ++ st.drop k) (w || w2) h2 r w' h' md hM hd hrun p e R s m args below meth c hs E hE hR hMh hRc hRs hRf hRl
            have hC := hcall _ _ _ hr2
            rcases hck with ⟨rfl, rfl, idx, t1, t2, t3, t4⟩ | ⟨rfl, rfl, t1, t2, t3, idx, kk, rfl, t4, t5, t6, t7⟩ | ⟨ci, C, T, N, idx, kk, rfl, rfl, t1, t2, t3, t4, t5, t6, t7, t8⟩
            · exact xu_callS E hE hR.2.2.1 (xEx_mv strs H0) hgood hcw2 ci1 (by omega) (by omega) hRc hRs t1 t2 t3 ci3 t4 k1 k2 hC K
            · obtain ⟨j9, as, hk9⟩ := xrcv_1 k4
              have hl9 : as.length = kk := by
                have := congrArg List.length hk9
                simp at this
                omega
              exact xu_callI E hE hR.2.2.1 (xEx_mv strs H0) hgood t1 t2 hcw2 ci1 (by omega) (by omega) hRc hRs t4 t5 t6 t3 ci3 (by rw [hl9]; exact t7) hk9 k2 hC K
            · obtain ⟨j9, as, fs, hk9, hc9⟩ := xrcv_2 k4
              have hl9 : as.length = kk := by
                have := congrArg List.length hk9
                simp at this
                omega
              exact xu_callV E hE hR.2.2.1 (xEx_mv strs H0) hgood t2 hcw2 ci1 (by omega) (by omega) hRc hRs t3 t4 t5 t6 ci3 (by rw [hl9]; exact t7) hk9 hc9 t1 k2 hC K
          · rename_i x i w2 h2 hr2
            split at hrun
            · rename_i q hq
              have K := xrun_ok hP hgood hfl hbl n (d2 + 2) j q L [.ref i] true h2 r w' h' md hM hd hrun p e R s m args below meth c hs E hE hR hMh hRc hRs hRf hRl
              have hC := hcall _ _ _ hr2
              rcases hck with ⟨rfl, rfl, idx, t1, t2, t3, t4⟩ | ⟨rfl, rfl, t1, t2, t3, idx, kk, rfl, t4, t5, t6, t7⟩ | ⟨ci, C, T, N, idx, kk, rfl, rfl, t1, t2, t3, t4, t5, t6, t7, t8⟩
              · cases hq
              · cases hq
              · obtain ⟨j9, as, fs, hk9, hc9⟩ := xrcv_2 k4
                have hl9 : as.length = kk := by
                  have := congrArg List.length hk9
                  simp at this
                  omega
                obtain ⟨pre, en, rest, y1, y2, y3, y4, y5, y6, y7⟩ := t8 x q hq
                subst y4
                exact xu_catch E hE hR.2.2.1 hgood t2 hcw2 ci1 (by omega) (by omega) hRc hRs t3 t4 t5 t6 ci3 (by rw [hl9]; exact t7) hk9 hc9 t1 k2 hC (by rw [← y1, ← hMh.2.2, xtb_eq]) y2 y3 y5 y6 y7 K
            · cases hrun
        · cases hrun
      · cases hrun
    · rename_i hF
      obtain ⟨t1, t2⟩ := hit pc _ hF
      split at hrun
      · cases hrun
        exact xu_ret E.1 E.2.1 (hMh.1.trans t1) hMh.2.1 t2
      · cases hrun
    · rename_i hF
      obtain ⟨t1, t2⟩ := hit pc _ hF
      split at hrun
      · cases hrun
        exact xu_iret E.1 E.2.1 (hMh.1.trans t1) rfl hMh.2.1 t2
      · cases hrun
    · rename_i hF
      obtain ⟨t1, t2⟩ := hit pc _ hF
      split at hrun
      · split at hrun
        · rename_i x hx
          cases hrun
          exact xu_iret E.1 E.2.1 (hMh.1.trans t1) (by rcases hx with rfl | rfl <;> decide) hMh.2.1 t2
        · cases hrun
      · cases hrun
    · rename_i x hF
      split at hrun
      · rename_i hcond
        obtain ⟨rfl, rfl, z1, z2, z3⟩ := hcond
        cases hrun
        obtain ⟨idx, ic, si, ix, tx, rx, names, a1, a2, a3, a4, a5, a6, a7, a8, a9, a10, a11, a12, a13, a14, a15, a16, a17, a18, a19⟩ := hit pc _ hF
        have hex : c.exceptionTable.toList = [] := by
          have := hMh.2.2
          rw [a2] at this
          exact List.map_eq_nil_iff.mp this
        exact xu_throw E hE hR.2.2.1 hR.2.1 hfl hex hMh.2.1 hRc hRs (by omega) (by omega) a3 a1 a4 a5 a6 a7 a8 a9 a10 a11 a12 a13 a14 a15 a16 a17 a18 a19 z1 z2
      · cases hrun
end XZ
end
