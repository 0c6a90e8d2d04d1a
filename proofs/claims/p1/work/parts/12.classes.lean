/-! The program's classes and the words of the tables that its walks use (written by wip/p1/gen12.py out of the claim's own texts). -/
def xTs : List Cond := (Cond.code x code maxLocals ret :: lw_tbl).filter goodWord
theorem xTs_good : ∀ w ∈ xTs, goodWord w = true := fun w h => (List.mem_filter.mp h).2
theorem xTs_in {w : Cond} (h : w ∈ tables_1) (hg : goodWord w = true) : w ∈ xTs := List.mem_filter.mpr ⟨List.mem_cons_of_mem _ (List.mem_append_right _ h), hg⟩
theorem xTs_sel {w : Cond} (h : w ∈ k2_sels lw_privs) (hg : goodWord w = true) : w ∈ xTs := List.mem_filter.mpr ⟨List.mem_cons_of_mem _ (List.mem_append_left _ h), hg⟩
theorem xlu {α β : Type} [BEq α] [LawfulBEq α] : ∀ {l : List (α × β)} {x : α} {q : β}, l.lookup x = some q → (x, q) ∈ l
  | [], _, _, h => by cases h
  | (a, c) :: r, x, q, h => by
    unfold List.lookup at h
    split at h
    · rename_i hx
      cases h
      rw [eq_of_beq hx]
      exact List.mem_cons_self
    · exact List.mem_cons_of_mem _ (xlu h)
def R_0 : String := "TableMaker"
def N_0 : Nat := 5
def T_0 : u_T := fun k => match k with
  | 0 => ("TableMaker", "grammar", "LTableMaker$Grammar;", true)
  | 1 => ("TableMaker", "states", "LTableMaker$States;", true)
  | 2 => ("TableMaker", "actions", "LTableMaker$Actions;", true)
  | 3 => ("TableMaker", "driver", "LTableMaker$Driver;", true)
  | _ => ("TableMaker", "hasTable", "Z", false)
def Y_0 : Nat → FieldType := fun k => match k with
  | 0 => .object "TableMaker$Grammar"
  | 1 => .object "TableMaker$States"
  | 2 => .object "TableMaker$Actions"
  | 3 => .object "TableMaker$Driver"
  | _ => .boolean
theorem nm_0 : ∀ a, a < N_0 → ∀ b, b < N_0 → a ≠ b → (T_0 a).2.1 ≠ (T_0 b).2.1 := by decide +kernel
theorem ty_0 : ∀ k, k < N_0 → parseFieldDescriptor (T_0 k).2.2.1 = some (Y_0 k) := by decide +kernel
set_option maxRecDepth 100000 in
theorem in_0 : ∀ w ∈ u_ws R_0 T_0 N_0, w ∈ xTs := by
  have h : u_ws R_0 T_0 N_0 = [182, 184, 186, 188, 190].filterMap (fun i => tables_1[i]?) := by decide +kernel
  have hg : (u_ws R_0 T_0 N_0).all goodWord = true := by decide +kernel
  intro w hw
  have g := List.all_eq_true.mp hg w hw
  rw [h] at hw
  obtain ⟨i, -, hi⟩ := List.mem_filterMap.mp hw
  exact xTs_in (List.mem_of_getElem? hi) g
theorem df_0 : ∀ b base j, j < N_0 → defaultValue (Y_0 j) = vp_V (([.null, .null, .null, .null, .int 0] : List Value).map (xcv b base)) j := by
  intro b base j hj
  have hj : j < 5 := hj
  rcases (show j = 0 ∨ j = 1 ∨ j = 2 ∨ j = 3 ∨ j = 4 by omega) with rfl | rfl | rfl | rfl | rfl <;> rfl
def R_1 : String := "TableMaker$Grammar"
def N_1 : Nat := 8
def T_1 : u_T := fun k => match k with
  | 0 => ("TableMaker$Grammar", "terminals", "I", true)
  | 1 => ("TableMaker$Grammar", "nonterminals", "I", true)
  | 2 => ("TableMaker$Grammar", "lefts", "[I", true)
  | 3 => ("TableMaker$Grammar", "begins", "[I", true)
  | 4 => ("TableMaker$Grammar", "row", "[I", true)
  | 5 => ("TableMaker$Grammar", "productions", "I", false)
  | 6 => ("TableMaker$Grammar", "empties", "[Z", true)
  | _ => ("TableMaker$Grammar", "firsts", "[I", true)
def Y_1 : Nat → FieldType := fun k => match k with
  | 0 => .int
  | 1 => .int
  | 2 => .array (.int)
  | 3 => .array (.int)
  | 4 => .array (.int)
  | 5 => .int
  | 6 => .array (.boolean)
  | _ => .array (.int)
theorem nm_1 : ∀ a, a < N_1 → ∀ b, b < N_1 → a ≠ b → (T_1 a).2.1 ≠ (T_1 b).2.1 := by decide +kernel
theorem ty_1 : ∀ k, k < N_1 → parseFieldDescriptor (T_1 k).2.2.1 = some (Y_1 k) := by decide +kernel
set_option maxRecDepth 100000 in
theorem in_1 : ∀ w ∈ u_ws R_1 T_1 N_1, w ∈ xTs := by
  have h : u_ws R_1 T_1 N_1 = [41, 43, 45, 47, 49, 51, 53, 55].filterMap (fun i => tables_1[i]?) := by decide +kernel
  have hg : (u_ws R_1 T_1 N_1).all goodWord = true := by decide +kernel
  intro w hw
  have g := List.all_eq_true.mp hg w hw
  rw [h] at hw
  obtain ⟨i, -, hi⟩ := List.mem_filterMap.mp hw
  exact xTs_in (List.mem_of_getElem? hi) g
theorem df_1 : ∀ b base j, j < N_1 → defaultValue (Y_1 j) = vp_V (([.int 0, .int 0, .null, .null, .null, .int 0, .null, .null] : List Value).map (xcv b base)) j := by
  intro b base j hj
  have hj : j < 8 := hj
  rcases (show j = 0 ∨ j = 1 ∨ j = 2 ∨ j = 3 ∨ j = 4 ∨ j = 5 ∨ j = 6 ∨ j = 7 by omega) with rfl | rfl | rfl | rfl | rfl | rfl | rfl | rfl <;> rfl
def R_2 : String := "TableMaker$Places"
def N_2 : Nat := 7
def T_2 : u_T := fun k => match k with
  | 0 => ("TableMaker$Places", "productions", "[I", true)
  | 1 => ("TableMaker$Places", "dones", "[I", true)
  | 2 => ("TableMaker$Places", "nexts", "[I", true)
  | 3 => ("TableMaker$Places", "restFirsts", "[I", true)
  | 4 => ("TableMaker$Places", "restEmpties", "[Z", true)
  | 5 => ("TableMaker$Places", "starts", "[I", true)
  | _ => ("TableMaker$Places", "size", "I", false)
def Y_2 : Nat → FieldType := fun k => match k with
  | 0 => .array (.int)
  | 1 => .array (.int)
  | 2 => .array (.int)
  | 3 => .array (.int)
  | 4 => .array (.boolean)
  | 5 => .array (.int)
  | _ => .int
theorem nm_2 : ∀ a, a < N_2 → ∀ b, b < N_2 → a ≠ b → (T_2 a).2.1 ≠ (T_2 b).2.1 := by decide +kernel
theorem ty_2 : ∀ k, k < N_2 → parseFieldDescriptor (T_2 k).2.2.1 = some (Y_2 k) := by decide +kernel
set_option maxRecDepth 100000 in
theorem in_2 : ∀ w ∈ u_ws R_2 T_2 N_2, w ∈ xTs := by
  have h : u_ws R_2 T_2 N_2 = [79, 81, 83, 85, 87, 89, 91].filterMap (fun i => tables_1[i]?) := by decide +kernel
  have hg : (u_ws R_2 T_2 N_2).all goodWord = true := by decide +kernel
  intro w hw
  have g := List.all_eq_true.mp hg w hw
  rw [h] at hw
  obtain ⟨i, -, hi⟩ := List.mem_filterMap.mp hw
  exact xTs_in (List.mem_of_getElem? hi) g
theorem df_2 : ∀ b base j, j < N_2 → defaultValue (Y_2 j) = vp_V (([.null, .null, .null, .null, .null, .null, .int 0] : List Value).map (xcv b base)) j := by
  intro b base j hj
  have hj : j < 7 := hj
  rcases (show j = 0 ∨ j = 1 ∨ j = 2 ∨ j = 3 ∨ j = 4 ∨ j = 5 ∨ j = 6 by omega) with rfl | rfl | rfl | rfl | rfl | rfl | rfl <;> rfl
def R_3 : String := "TableMaker$States"
def N_3 : Nat := 5
def T_3 : u_T := fun k => match k with
  | 0 => ("TableMaker$States", "grammar", "LTableMaker$Grammar;", true)
  | 1 => ("TableMaker$States", "places", "LTableMaker$Places;", true)
  | 2 => ("TableMaker$States", "sets", "[[I", true)
  | 3 => ("TableMaker$States", "gotos", "[[I", true)
  | _ => ("TableMaker$States", "size", "I", false)
def Y_3 : Nat → FieldType := fun k => match k with
  | 0 => .object "TableMaker$Grammar"
  | 1 => .object "TableMaker$Places"
  | 2 => .array (.array (.int))
  | 3 => .array (.array (.int))
  | _ => .int
theorem nm_3 : ∀ a, a < N_3 → ∀ b, b < N_3 → a ≠ b → (T_3 a).2.1 ≠ (T_3 b).2.1 := by decide +kernel
theorem ty_3 : ∀ k, k < N_3 → parseFieldDescriptor (T_3 k).2.2.1 = some (Y_3 k) := by decide +kernel
set_option maxRecDepth 100000 in
theorem in_3 : ∀ w ∈ u_ws R_3 T_3 N_3, w ∈ xTs := by
  have h : u_ws R_3 T_3 N_3 = [105, 107, 109, 111, 113].filterMap (fun i => tables_1[i]?) := by decide +kernel
  have hg : (u_ws R_3 T_3 N_3).all goodWord = true := by decide +kernel
  intro w hw
  have g := List.all_eq_true.mp hg w hw
  rw [h] at hw
  obtain ⟨i, -, hi⟩ := List.mem_filterMap.mp hw
  exact xTs_in (List.mem_of_getElem? hi) g
theorem df_3 : ∀ b base j, j < N_3 → defaultValue (Y_3 j) = vp_V (([.null, .null, .null, .null, .int 0] : List Value).map (xcv b base)) j := by
  intro b base j hj
  have hj : j < 5 := hj
  rcases (show j = 0 ∨ j = 1 ∨ j = 2 ∨ j = 3 ∨ j = 4 by omega) with rfl | rfl | rfl | rfl | rfl <;> rfl
def R_4 : String := "TableMaker$Actions"
def N_4 : Nat := 5
def T_4 : u_T := fun k => match k with
  | 0 => ("TableMaker$Actions", "grammar", "LTableMaker$Grammar;", true)
  | 1 => ("TableMaker$Actions", "states", "LTableMaker$States;", true)
  | 2 => ("TableMaker$Actions", "rows", "[[I", true)
  | 3 => ("TableMaker$Actions", "conflictState", "I", false)
  | _ => ("TableMaker$Actions", "conflictSymbol", "I", false)
def Y_4 : Nat → FieldType := fun k => match k with
  | 0 => .object "TableMaker$Grammar"
  | 1 => .object "TableMaker$States"
  | 2 => .array (.array (.int))
  | 3 => .int
  | _ => .int
theorem nm_4 : ∀ a, a < N_4 → ∀ b, b < N_4 → a ≠ b → (T_4 a).2.1 ≠ (T_4 b).2.1 := by decide +kernel
theorem ty_4 : ∀ k, k < N_4 → parseFieldDescriptor (T_4 k).2.2.1 = some (Y_4 k) := by decide +kernel
set_option maxRecDepth 100000 in
theorem in_4 : ∀ w ∈ u_ws R_4 T_4 N_4, w ∈ xTs := by
  have h : u_ws R_4 T_4 N_4 = [132, 134, 136, 138, 140].filterMap (fun i => tables_1[i]?) := by decide +kernel
  have hg : (u_ws R_4 T_4 N_4).all goodWord = true := by decide +kernel
  intro w hw
  have g := List.all_eq_true.mp hg w hw
  rw [h] at hw
  obtain ⟨i, -, hi⟩ := List.mem_filterMap.mp hw
  exact xTs_in (List.mem_of_getElem? hi) g
theorem df_4 : ∀ b base j, j < N_4 → defaultValue (Y_4 j) = vp_V (([.null, .null, .null, .int 0, .int 0] : List Value).map (xcv b base)) j := by
  intro b base j hj
  have hj : j < 5 := hj
  rcases (show j = 0 ∨ j = 1 ∨ j = 2 ∨ j = 3 ∨ j = 4 by omega) with rfl | rfl | rfl | rfl | rfl <;> rfl
def R_5 : String := "TableMaker$Driver"
def N_5 : Nat := 9
def T_5 : u_T := fun k => match k with
  | 0 => ("TableMaker$Driver", "grammar", "LTableMaker$Grammar;", true)
  | 1 => ("TableMaker$Driver", "states", "LTableMaker$States;", true)
  | 2 => ("TableMaker$Driver", "actions", "LTableMaker$Actions;", true)
  | 3 => ("TableMaker$Driver", "stack", "[I", true)
  | 4 => ("TableMaker$Driver", "putUpon", "[I", true)
  | 5 => ("TableMaker$Driver", "kept", "[I", true)
  | 6 => ("TableMaker$Driver", "height", "I", false)
  | 7 => ("TableMaker$Driver", "phase", "I", false)
  | _ => ("TableMaker$Driver", "reductions", "I", false)
def Y_5 : Nat → FieldType := fun k => match k with
  | 0 => .object "TableMaker$Grammar"
  | 1 => .object "TableMaker$States"
  | 2 => .object "TableMaker$Actions"
  | 3 => .array (.int)
  | 4 => .array (.int)
  | 5 => .array (.int)
  | 6 => .int
  | 7 => .int
  | _ => .int
theorem nm_5 : ∀ a, a < N_5 → ∀ b, b < N_5 → a ≠ b → (T_5 a).2.1 ≠ (T_5 b).2.1 := by decide +kernel
theorem ty_5 : ∀ k, k < N_5 → parseFieldDescriptor (T_5 k).2.2.1 = some (Y_5 k) := by decide +kernel
set_option maxRecDepth 100000 in
theorem in_5 : ∀ w ∈ u_ws R_5 T_5 N_5, w ∈ xTs := by
  have h : u_ws R_5 T_5 N_5 = [158, 160, 162, 164, 166, 168, 170, 172, 174].filterMap (fun i => tables_1[i]?) := by decide +kernel
  have hg : (u_ws R_5 T_5 N_5).all goodWord = true := by decide +kernel
  intro w hw
  have g := List.all_eq_true.mp hg w hw
  rw [h] at hw
  obtain ⟨i, -, hi⟩ := List.mem_filterMap.mp hw
  exact xTs_in (List.mem_of_getElem? hi) g
theorem df_5 : ∀ b base j, j < N_5 → defaultValue (Y_5 j) = vp_V (([.null, .null, .null, .null, .null, .null, .int 0, .int 0, .int 0] : List Value).map (xcv b base)) j := by
  intro b base j hj
  have hj : j < 9 := hj
  rcases (show j = 0 ∨ j = 1 ∨ j = 2 ∨ j = 3 ∨ j = 4 ∨ j = 5 ∨ j = 6 ∨ j = 7 ∨ j = 8 by omega) with rfl | rfl | rfl | rfl | rfl | rfl | rfl | rfl | rfl <;> rfl
def R_6 : String := "TableMakerModel"
def N_6 : Nat := 29
def T_6 : u_T := fun k => match k with
  | 0 => ("TableMakerModel", "code", "I", false)
  | 1 => ("TableMakerModel", "t", "I", true)
  | 2 => ("TableMakerModel", "n", "I", true)
  | 3 => ("TableMakerModel", "many", "I", false)
  | 4 => ("TableMakerModel", "symbols", "I", false)
  | 5 => ("TableMakerModel", "left", "[I", true)
  | 6 => ("TableMakerModel", "size", "[I", true)
  | 7 => ("TableMakerModel", "right", "[I", true)
  | 8 => ("TableMakerModel", "nullable", "[Z", true)
  | 9 => ("TableMakerModel", "begins", "[Z", true)
  | 10 => ("TableMakerModel", "places", "I", false)
  | 11 => ("TableMakerModel", "behind", "[I", true)
  | 12 => ("TableMakerModel", "owner", "[I", true)
  | 13 => ("TableMakerModel", "done", "[I", true)
  | 14 => ("TableMakerModel", "placeOf", "[I", true)
  | 15 => ("TableMakerModel", "built", "Z", false)
  | 16 => ("TableMakerModel", "states", "I", false)
  | 17 => ("TableMakerModel", "items", "[J", true)
  | 18 => ("TableMakerModel", "leads", "[I", true)
  | 19 => ("TableMakerModel", "badState", "I", false)
  | 20 => ("TableMakerModel", "badSymbol", "I", false)
  | 21 => ("TableMakerModel", "waits", "I", false)
  | 22 => ("TableMakerModel", "waiting", "[I", true)
  | 23 => ("TableMakerModel", "phase", "I", false)
  | 24 => ("TableMakerModel", "height", "I", false)
  | 25 => ("TableMakerModel", "stack", "[I", true)
  | 26 => ("TableMakerModel", "used", "I", false)
  | 27 => ("TableMakerModel", "uses", "[I", true)
  | _ => ("TableMakerModel", "different", "I", false)
def Y_6 : Nat → FieldType := fun k => match k with
  | 0 => .int
  | 1 => .int
  | 2 => .int
  | 3 => .int
  | 4 => .int
  | 5 => .array (.int)
  | 6 => .array (.int)
  | 7 => .array (.int)
  | 8 => .array (.boolean)
  | 9 => .array (.boolean)
  | 10 => .int
  | 11 => .array (.int)
  | 12 => .array (.int)
  | 13 => .array (.int)
  | 14 => .array (.int)
  | 15 => .boolean
  | 16 => .int
  | 17 => .array (.long)
  | 18 => .array (.int)
  | 19 => .int
  | 20 => .int
  | 21 => .int
  | 22 => .array (.int)
  | 23 => .int
  | 24 => .int
  | 25 => .array (.int)
  | 26 => .int
  | 27 => .array (.int)
  | _ => .int
theorem nm_6 : ∀ a, a < N_6 → ∀ b, b < N_6 → a ≠ b → (T_6 a).2.1 ≠ (T_6 b).2.1 := by decide +kernel
theorem ty_6 : ∀ k, k < N_6 → parseFieldDescriptor (T_6 k).2.2.1 = some (Y_6 k) := by decide +kernel
set_option maxRecDepth 100000 in
theorem in_6 : ∀ w ∈ u_ws R_6 T_6 N_6, w ∈ xTs := by
  have h : u_ws R_6 T_6 N_6 = [816, 818, 820, 822, 824, 826, 828, 830, 832, 834, 836, 838, 840, 842, 844, 846, 848, 850, 852, 854, 856, 858, 860, 862, 864, 866, 868, 870, 872].filterMap (fun i => tables_1[i]?) := by decide +kernel
  have hg : (u_ws R_6 T_6 N_6).all goodWord = true := by decide +kernel
  intro w hw
  have g := List.all_eq_true.mp hg w hw
  rw [h] at hw
  obtain ⟨i, -, hi⟩ := List.mem_filterMap.mp hw
  exact xTs_in (List.mem_of_getElem? hi) g
theorem df_6 : ∀ b base j, j < N_6 → defaultValue (Y_6 j) = vp_V (([.int 0, .int 0, .int 0, .int 0, .int 0, .null, .null, .null, .null, .null, .int 0, .null, .null, .null, .null, .int 0, .int 0, .null, .null, .int 0, .int 0, .int 0, .null, .int 0, .int 0, .null, .int 0, .null, .int 0] : List Value).map (xcv b base)) j := by
  intro b base j hj
  have hj : j < 29 := hj
  rcases (show j = 0 ∨ j = 1 ∨ j = 2 ∨ j = 3 ∨ j = 4 ∨ j = 5 ∨ j = 6 ∨ j = 7 ∨ j = 8 ∨ j = 9 ∨ j = 10 ∨ j = 11 ∨ j = 12 ∨ j = 13 ∨ j = 14 ∨ j = 15 ∨ j = 16 ∨ j = 17 ∨ j = 18 ∨ j = 19 ∨ j = 20 ∨ j = 21 ∨ j = 22 ∨ j = 23 ∨ j = 24 ∨ j = 25 ∨ j = 26 ∨ j = 27 ∨ j = 28 by omega) with rfl | rfl | rfl | rfl | rfl | rfl | rfl | rfl | rfl | rfl | rfl | rfl | rfl | rfl | rfl | rfl | rfl | rfl | rfl | rfl | rfl | rfl | rfl | rfl | rfl | rfl | rfl | rfl | rfl <;> rfl
abbrev vwC : List vw_C := [(R_0, T_0, N_0), (R_1, T_1, N_1), (R_2, T_2, N_2), (R_3, T_3, N_3), (R_4, T_4, N_4), (R_5, T_5, N_5), (R_6, T_6, N_6)]
def xnm : xX := fun k => match k with
  | 0 => "java/lang/IllegalArgumentException"
  | 1 => "java/lang/IllegalStateException"
  | _ => "java/util/NoSuchElementException"
def xstrs : List (Nat × String) := [(55, "no nonterminal"), (66, "there is a table, or no room"), (79, "no symbol"), (84, "there is a table, no production, or no room"), (99, "there is a table, or no production"), (132, "no such state"), (138, "no such item"), (140, "no such part of an item"), (149, "no such state or symbol"), (167, "no table"), (175, "no terminal"), (183, "no row goes on, or the stack is full"), (188, "no row goes on"), (199, "no such production")]
