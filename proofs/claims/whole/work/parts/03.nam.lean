/-! written by wip/whole/gen.py out of the claim's printed texts: classes, fields, methods, where their words lie -/
def am_F0 : u_T := fun k => match k with
  | 0 => ("TablePager", "text", "LTablePager$Text;", true)
  | 1 => ("TablePager", "table", "LTablePager$Table;", true)
  | 2 => ("TablePager", "history", "LTablePager$History;", true)
  | 3 => ("TablePager", "slots", "LTablePager$Slots;", true)
  | 4 => ("TablePager", "layout", "LTablePager$Layout;", true)
  | 5 => ("TablePager", "evener", "LTablePager$Evener;", true)
  | 6 => ("TablePager", "command", "LTablePager$Command;", true)
  | _ => ("TablePager", "scratch", "LTablePager$Table;", true)
def am_F1 : u_T := fun k => match k with
  | 0 => ("TablePager$Command", "kind", "I", false)
  | 1 => ("TablePager$Command", "second", "I", false)
  | 2 => ("TablePager$Command", "third", "I", false)
  | 3 => ("TablePager$Command", "fourth", "I", false)
  | _ => ("TablePager$Command", "fifth", "I", false)
def am_F2 : u_T := fun k => match k with
  | 0 => ("TablePager$Evener", "costs", "[I", true)
  | 1 => ("TablePager$Evener", "ends", "[I", true)
  | _ => ("TablePager$Evener", "sheet", "LTablePager$Sheet;", true)
def am_F3 : u_T := fun k => match k with
  | 0 => ("TablePager$History", "kept", "[LTablePager$Table;", true)
  | 1 => ("TablePager$History", "next", "I", false)
  | _ => ("TablePager$History", "count", "I", false)
def am_F4 : u_T := fun k => match k with
  | 0 => ("TablePager$Layout", "pages", "I", false)
  | 1 => ("TablePager$Layout", "overfull", "I", false)
  | 2 => ("TablePager$Layout", "ends", "[I", true)
  | _ => ("TablePager$Layout", "sheet", "LTablePager$Sheet;", true)
def am_F5 : u_T := fun k => match k with
  | 0 => ("TablePager$Sheet", "names", "I", false)
  | 1 => ("TablePager$Sheet", "notes", "I", false)
  | 2 => ("TablePager$Sheet", "lines", "I", false)
  | _ => ("TablePager$Sheet", "carry", "I", false)
def am_F6 : u_T := fun k => match k with
  | 0 => ("TablePager$Slots", "kept", "[LTablePager$Table;", true)
  | _ => ("TablePager$Slots", "filled", "[Z", true)
def am_F7 : u_T := fun k => match k with
  | 0 => ("TablePager$Table", "columns", "I", false)
  | 1 => ("TablePager$Table", "rows", "I", false)
  | 2 => ("TablePager$Table", "spans", "I", false)
  | 3 => ("TablePager$Table", "pageHeight", "I", false)
  | 4 => ("TablePager$Table", "headingHeight", "I", false)
  | 5 => ("TablePager$Table", "heights", "[I", true)
  | 6 => ("TablePager$Table", "notes", "[I", true)
  | 7 => ("TablePager$Table", "stays", "[Z", true)
  | 8 => ("TablePager$Table", "amounts", "[I", true)
  | 9 => ("TablePager$Table", "firsts", "[I", true)
  | 10 => ("TablePager$Table", "lasts", "[I", true)
  | 11 => ("TablePager$Table", "mayBeCut", "[Z", true)
  | _ => ("TablePager$Table", "noteHeights", "[I", true)
def am_F8 : u_T := fun k => match k with
  | 0 => ("TablePager$Text", "signs", "[C", true)
  | 1 => ("TablePager$Text", "length", "I", false)
  | _ => ("TablePager$Text", "at", "I", false)
def am_F9 : u_T := fun k => match k with
  | 0 => ("TablePagerModel", "refusal", "I", false)
  | 1 => ("TablePagerModel", "script", "[I", true)
  | 2 => ("TablePagerModel", "scriptSize", "I", false)
  | 3 => ("TablePagerModel", "spot", "I", false)
  | 4 => ("TablePagerModel", "isGood", "Z", false)
  | 5 => ("TablePagerModel", "read", "[I", true)
  | 6 => ("TablePagerModel", "now", "[I", true)
  | 7 => ("TablePagerModel", "trial", "[I", true)
  | 8 => ("TablePagerModel", "diary", "[I", true)
  | 9 => ("TablePagerModel", "acts", "I", false)
  | 10 => ("TablePagerModel", "kept", "[I", true)
  | 11 => ("TablePagerModel", "isKept", "[Z", true)
  | 12 => ("TablePagerModel", "ends", "[I", true)
  | 13 => ("TablePagerModel", "pages", "I", false)
  | 14 => ("TablePagerModel", "cost", "[I", true)
  | _ => ("TablePagerModel", "cut", "[I", true)
def am_cN : Nat → String := fun ci => match ci with
  | 0 => "TablePager"
  | 1 => "TablePager$Command"
  | 2 => "TablePager$Evener"
  | 3 => "TablePager$History"
  | 4 => "TablePager$Layout"
  | 5 => "TablePager$Sheet"
  | 6 => "TablePager$Slots"
  | 7 => "TablePager$Table"
  | 8 => "TablePager$Text"
  | _ => "TablePagerModel"
def am_cT : Nat → u_T := fun ci => match ci with
  | 0 => am_F0
  | 1 => am_F1
  | 2 => am_F2
  | 3 => am_F3
  | 4 => am_F4
  | 5 => am_F5
  | 6 => am_F6
  | 7 => am_F7
  | 8 => am_F8
  | _ => am_F9
def am_cn : Nat → Nat := fun ci => match ci with
  | 0 => 8
  | 1 => 5
  | 2 => 3
  | 3 => 3
  | 4 => 4
  | 5 => 4
  | 6 => 2
  | 7 => 13
  | 8 => 3
  | _ => 16
abbrev am_cls : List vw_C := [("TablePager", am_F0, 8), ("TablePager$Command", am_F1, 5), ("TablePager$Evener", am_F2, 3), ("TablePager$History", am_F3, 3), ("TablePager$Layout", am_F4, 4), ("TablePager$Sheet", am_F5, 4), ("TablePager$Slots", am_F6, 2), ("TablePager$Table", am_F7, 13), ("TablePager$Text", am_F8, 3), ("TablePagerModel", am_F9, 16)]
theorem am_cls_at : ∀ ci, ci < 10 → am_cls[ci]? = some (am_cN ci, am_cT ci, am_cn ci) := by
  intro ci h
  match ci, h with
  | 0, _ => rfl
  | 1, _ => rfl
  | 2, _ => rfl
  | 3, _ => rfl
  | 4, _ => rfl
  | 5, _ => rfl
  | 6, _ => rfl
  | 7, _ => rfl
  | 8, _ => rfl
  | 9, _ => rfl
  | k + 10, h => exact absurd h (by omega)
/-- 0 an int, 1 a truth value, 2 a reference -/
def am_fk : Nat → Nat → Nat := fun ci k => match ci with
  | 0 => ([2, 2, 2, 2, 2, 2, 2, 2] : List Nat).getD k 0
  | 1 => ([0, 0, 0, 0, 0] : List Nat).getD k 0
  | 2 => ([2, 2, 2] : List Nat).getD k 0
  | 3 => ([2, 0, 0] : List Nat).getD k 0
  | 4 => ([0, 0, 2, 2] : List Nat).getD k 0
  | 5 => ([0, 0, 0, 0] : List Nat).getD k 0
  | 6 => ([2, 2] : List Nat).getD k 0
  | 7 => ([0, 0, 0, 0, 0, 2, 2, 2, 2, 2, 2, 2, 2] : List Nat).getD k 0
  | 8 => ([2, 0, 0] : List Nat).getD k 0
  | _ => ([0, 2, 0, 0, 1, 2, 2, 2, 2, 0, 2, 2, 2, 0, 2, 2] : List Nat).getD k 0
def am_ty : Nat → Nat → FieldType := fun ci k => (parseFieldDescriptor (am_cT ci k).2.2.1).getD .int
def am_sv (w : Jvm.Cond) : Bool := match w with
  | .fieldLinkNest .. => true
  | .methodLinkNest .. => true
  | .castable .. => true
  | .declares _ => true
  | w => goodWord w
def am_tb : List Jvm.Cond := lw_tbl.filter am_sv
theorem am_tin {w : Jvm.Cond} (i : Nat) (h : lw_tbl[i]? = some w) (h2 : am_sv w = true) : w ∈ am_tb := List.mem_filter.mpr ⟨List.mem_of_getElem? h, h2⟩
theorem am_hin0 : ∀ w ∈ u_ws (am_cN 0) (am_cT 0) (am_cn 0), w ∈ am_tb := by
  have e : u_ws (am_cN 0) (am_cT 0) (am_cn 0) = ([357, 359, 361, 363, 365, 367, 369, 371] : List Nat).filterMap (fun i => lw_tbl[i]?) := by decide +kernel
  have g : (u_ws (am_cN 0) (am_cT 0) (am_cn 0)).all am_sv = true := by decide +kernel
  intro w hw
  refine List.mem_filter.mpr ⟨?_, List.all_eq_true.mp g w hw⟩
  rw [e] at hw
  obtain ⟨i, -, hi⟩ := List.mem_filterMap.mp hw
  exact List.mem_of_getElem? hi
theorem am_hin1 : ∀ w ∈ u_ws (am_cN 1) (am_cT 1) (am_cn 1), w ∈ am_tb := by
  have e : u_ws (am_cN 1) (am_cT 1) (am_cn 1) = ([338, 340, 342, 344, 346] : List Nat).filterMap (fun i => lw_tbl[i]?) := by decide +kernel
  have g : (u_ws (am_cN 1) (am_cT 1) (am_cn 1)).all am_sv = true := by decide +kernel
  intro w hw
  refine List.mem_filter.mpr ⟨?_, List.all_eq_true.mp g w hw⟩
  rw [e] at hw
  obtain ⟨i, -, hi⟩ := List.mem_filterMap.mp hw
  exact List.mem_of_getElem? hi
theorem am_hin2 : ∀ w ∈ u_ws (am_cN 2) (am_cT 2) (am_cn 2), w ∈ am_tb := by
  have e : u_ws (am_cN 2) (am_cT 2) (am_cn 2) = ([320, 322, 324] : List Nat).filterMap (fun i => lw_tbl[i]?) := by decide +kernel
  have g : (u_ws (am_cN 2) (am_cT 2) (am_cn 2)).all am_sv = true := by decide +kernel
  intro w hw
  refine List.mem_filter.mpr ⟨?_, List.all_eq_true.mp g w hw⟩
  rw [e] at hw
  obtain ⟨i, -, hi⟩ := List.mem_filterMap.mp hw
  exact List.mem_of_getElem? hi
theorem am_hin3 : ∀ w ∈ u_ws (am_cN 3) (am_cT 3) (am_cn 3), w ∈ am_tb := by
  have e : u_ws (am_cN 3) (am_cT 3) (am_cn 3) = ([244, 246, 248] : List Nat).filterMap (fun i => lw_tbl[i]?) := by decide +kernel
  have g : (u_ws (am_cN 3) (am_cT 3) (am_cn 3)).all am_sv = true := by decide +kernel
  intro w hw
  refine List.mem_filter.mpr ⟨?_, List.all_eq_true.mp g w hw⟩
  rw [e] at hw
  obtain ⟨i, -, hi⟩ := List.mem_filterMap.mp hw
  exact List.mem_of_getElem? hi
theorem am_hin4 : ∀ w ∈ u_ws (am_cN 4) (am_cT 4) (am_cn 4), w ∈ am_tb := by
  have e : u_ws (am_cN 4) (am_cT 4) (am_cn 4) = ([300, 302, 304, 306] : List Nat).filterMap (fun i => lw_tbl[i]?) := by decide +kernel
  have g : (u_ws (am_cN 4) (am_cT 4) (am_cn 4)).all am_sv = true := by decide +kernel
  intro w hw
  refine List.mem_filter.mpr ⟨?_, List.all_eq_true.mp g w hw⟩
  rw [e] at hw
  obtain ⟨i, -, hi⟩ := List.mem_filterMap.mp hw
  exact List.mem_of_getElem? hi
theorem am_hin5 : ∀ w ∈ u_ws (am_cN 5) (am_cT 5) (am_cn 5), w ∈ am_tb := by
  have e : u_ws (am_cN 5) (am_cT 5) (am_cn 5) = ([283, 285, 287, 289] : List Nat).filterMap (fun i => lw_tbl[i]?) := by decide +kernel
  have g : (u_ws (am_cN 5) (am_cT 5) (am_cn 5)).all am_sv = true := by decide +kernel
  intro w hw
  refine List.mem_filter.mpr ⟨?_, List.all_eq_true.mp g w hw⟩
  rw [e] at hw
  obtain ⟨i, -, hi⟩ := List.mem_filterMap.mp hw
  exact List.mem_of_getElem? hi
theorem am_hin6 : ∀ w ∈ u_ws (am_cN 6) (am_cT 6) (am_cn 6), w ∈ am_tb := by
  have e : u_ws (am_cN 6) (am_cT 6) (am_cn 6) = ([261, 263] : List Nat).filterMap (fun i => lw_tbl[i]?) := by decide +kernel
  have g : (u_ws (am_cN 6) (am_cT 6) (am_cn 6)).all am_sv = true := by decide +kernel
  intro w hw
  refine List.mem_filter.mpr ⟨?_, List.all_eq_true.mp g w hw⟩
  rw [e] at hw
  obtain ⟨i, -, hi⟩ := List.mem_filterMap.mp hw
  exact List.mem_of_getElem? hi
theorem am_hin7 : ∀ w ∈ u_ws (am_cN 7) (am_cT 7) (am_cn 7), w ∈ am_tb := by
  have e : u_ws (am_cN 7) (am_cT 7) (am_cn 7) = ([202, 204, 206, 208, 210, 212, 214, 216, 218, 220, 222, 224, 226] : List Nat).filterMap (fun i => lw_tbl[i]?) := by decide +kernel
  have g : (u_ws (am_cN 7) (am_cT 7) (am_cn 7)).all am_sv = true := by decide +kernel
  intro w hw
  refine List.mem_filter.mpr ⟨?_, List.all_eq_true.mp g w hw⟩
  rw [e] at hw
  obtain ⟨i, -, hi⟩ := List.mem_filterMap.mp hw
  exact List.mem_of_getElem? hi
theorem am_hin8 : ∀ w ∈ u_ws (am_cN 8) (am_cT 8) (am_cn 8), w ∈ am_tb := by
  have e : u_ws (am_cN 8) (am_cT 8) (am_cn 8) = ([135, 137, 139] : List Nat).filterMap (fun i => lw_tbl[i]?) := by decide +kernel
  have g : (u_ws (am_cN 8) (am_cT 8) (am_cn 8)).all am_sv = true := by decide +kernel
  intro w hw
  refine List.mem_filter.mpr ⟨?_, List.all_eq_true.mp g w hw⟩
  rw [e] at hw
  obtain ⟨i, -, hi⟩ := List.mem_filterMap.mp hw
  exact List.mem_of_getElem? hi
theorem am_hin9 : ∀ w ∈ u_ws (am_cN 9) (am_cT 9) (am_cn 9), w ∈ am_tb := by
  have e : u_ws (am_cN 9) (am_cT 9) (am_cn 9) = ([1082, 1084, 1086, 1088, 1090, 1092, 1094, 1096, 1098, 1100, 1102, 1104, 1106, 1108, 1110, 1112] : List Nat).filterMap (fun i => lw_tbl[i]?) := by decide +kernel
  have g : (u_ws (am_cN 9) (am_cT 9) (am_cn 9)).all am_sv = true := by decide +kernel
  intro w hw
  refine List.mem_filter.mpr ⟨?_, List.all_eq_true.mp g w hw⟩
  rw [e] at hw
  obtain ⟨i, -, hi⟩ := List.mem_filterMap.mp hw
  exact List.mem_of_getElem? hi
theorem am_hin : ∀ ci, ci < 10 → ∀ w ∈ u_ws (am_cN ci) (am_cT ci) (am_cn ci), w ∈ am_tb := by
  intro ci h
  match ci, h with
  | 0, _ => exact am_hin0
  | 1, _ => exact am_hin1
  | 2, _ => exact am_hin2
  | 3, _ => exact am_hin3
  | 4, _ => exact am_hin4
  | 5, _ => exact am_hin5
  | 6, _ => exact am_hin6
  | 7, _ => exact am_hin7
  | 8, _ => exact am_hin8
  | 9, _ => exact am_hin9
  | k + 10, h => exact absurd h (by omega)
theorem am_hty : ∀ ci, ci < 10 → ∀ k, k < am_cn ci → parseFieldDescriptor (am_cT ci k).2.2.1 = some (am_ty ci k) := by decide +kernel
theorem am_hnm : ∀ ci, ci < 10 → ∀ a, a < am_cn ci → ∀ b, b < am_cn ci → a ≠ b → (am_cT ci a).2.1 ≠ (am_cT ci b).2.1 := by decide +kernel
theorem am_hfk : ∀ ci, ci < 10 → ∀ k, k < am_cn ci → (am_fk ci k = 0 → am_ty ci k = .int ∧ (am_cT ci k).2.2.2 = false) ∧ (am_fk ci k = 1 → am_ty ci k = .boolean ∧ (am_cT ci k).2.2.2 = false) ∧ (am_fk ci k = 2 → (am_ty ci k).isReference = true ∧ (am_cT ci k).2.2.2 = true) ∧ am_fk ci k < 3 := by decide +kernel
theorem am_hdc : ∀ ci, ci < 10 → ∀ k, k < am_cn ci → (am_cT ci k).1 = am_cN ci := by decide +kernel
theorem am_hic : ∀ ci, ci < 10 → Cond.instantiable (am_cN ci) (am_cn ci) ∈ am_tb ∧ Cond.initialized (am_cN ci) ∈ am_tb := by
  intro ci h
  match ci, h with
  | 0, _ => exact ⟨am_tin 118 (by decide +kernel) rfl, am_tin 99 (by decide +kernel) rfl⟩
  | 1, _ => exact ⟨am_tin 328 (by decide +kernel) rfl, am_tin 107 (by decide +kernel) rfl⟩
  | 2, _ => exact ⟨am_tin 310 (by decide +kernel) rfl, am_tin 106 (by decide +kernel) rfl⟩
  | 3, _ => exact ⟨am_tin 232 (by decide +kernel) rfl, am_tin 102 (by decide +kernel) rfl⟩
  | 4, _ => exact ⟨am_tin 267 (by decide +kernel) rfl, am_tin 104 (by decide +kernel) rfl⟩
  | 5, _ => exact ⟨am_tin 273 (by decide +kernel) rfl, am_tin 105 (by decide +kernel) rfl⟩
  | 6, _ => exact ⟨am_tin 252 (by decide +kernel) rfl, am_tin 103 (by decide +kernel) rfl⟩
  | 7, _ => exact ⟨am_tin 144 (by decide +kernel) rfl, am_tin 101 (by decide +kernel) rfl⟩
  | 8, _ => exact ⟨am_tin 126 (by decide +kernel) rfl, am_tin 100 (by decide +kernel) rfl⟩
  | 9, _ => exact ⟨am_tin 1058 (by decide +kernel) rfl, am_tin 108 (by decide +kernel) rfl⟩
  | k + 10, h => exact absurd h (by omega)
/-- the sorts of cells: 0 to 9 the objects of the ten classes; from 10 on arrays: their kind (0 int, 1 truth values, 2 signs, 3 long, 4 Tables) and length; 36 the script -/
def am_atl : List Nat := [9, 9, 9, 9, 9, 9, 9, 9, 9, 9, 0, 0, 1, 0, 0, 0, 1, 0, 4, 4, 1, 0, 0, 0, 2, 0, 0, 0, 0, 0, 0, 1, 0, 0, 0, 3, 8]
def am_anl : List Nat := [0, 0, 0, 0, 0, 0, 0, 0, 0, 0, 24, 24, 24, 96, 6, 6, 6, 7, 14, 2, 2, 24, 25, 24, 160, 160, 197, 197, 197, 2758, 394, 2, 24, 25, 24, 1, 0]
def am_at (s : Nat) : Nat := am_atl.getD s 9
def am_an (s : Nat) : Nat := am_anl.getD s 0
def am_aty (t : Nat) : FieldType := match t with
  | 0 => .int
  | 1 => .boolean
  | 2 => .char
  | 3 => .long
  | _ => .object "TablePager$Table"
abbrev y_P_init : Nat := 0
abbrev y_P_append : Nat := 1
abbrev y_P_clearText : Nat := 2
abbrev y_P_errorPosition : Nat := 3
abbrev y_P_load : Nat := 4
abbrev y_P_about : Nat := 5
abbrev y_P_row : Nat := 6
abbrev y_P_amount : Nat := 7
abbrev y_P_span : Nat := 8
abbrev y_P_note : Nat := 9
abbrev y_P_page : Nat := 10
abbrev y_P_brought : Nat := 11
abbrev y_P_carried : Nat := 12
abbrev y_P_richest : Nat := 13
abbrev y_P_addRow : Nat := 14
abbrev y_P_setAmount : Nat := 15
abbrev y_P_keep : Nat := 16
abbrev y_P_removeRow : Nat := 17
abbrev y_P_addSpan : Nat := 18
abbrev y_P_removeSpan : Nat := 19
abbrev y_P_setHeight : Nat := 20
abbrev y_P_undo : Nat := 21
abbrev y_P_heightFor : Nat := 22
abbrev y_P_evenest : Nat := 23
abbrev y_P_evenCut : Nat := 24
abbrev y_P_emptyFrom : Nat := 25
abbrev y_P_runScript : Nat := 26
abbrev y_P_simulate : Nat := 27
abbrev y_P_save : Nat := 28
abbrev y_P_restore : Nat := 29
abbrev y_P_layOut : Nat := 30
abbrev y_P_countPages : Nat := 31
abbrev y_P_requireRow : Nat := 32
abbrev y_P_requireColumn : Nat := 33
abbrev y_P_requireSpan : Nat := 34
abbrev y_P_requirePage : Nat := 35
abbrev y_P_requireSlot : Nat := 36
abbrev y_P_withoutGroups : Nat := 37
abbrev y_P_isIn : Nat := 38
abbrev y_Command_init : Nat := 39
abbrev y_Command_setDigits : Nat := 40
abbrev y_Command_runOn : Nat := 41
abbrev y_Command_holds : Nat := 42
abbrev y_Command_firstPair : Nat := 43
abbrev y_Command_addsRow : Nat := 44
abbrev y_Command_putsAmount : Nat := 45
abbrev y_Command_marksRow : Nat := 46
abbrev y_Command_dropsRow : Nat := 47
abbrev y_Command_putsHeight : Nat := 48
abbrev y_Evener_init : Nat := 49
abbrev y_Evener_leastCost : Nat := 50
abbrev y_Evener_chooseEnd : Nat := 51
abbrev y_Evener_costOfSheet : Nat := 52
abbrev y_Evener_lastOf : Nat := 53
abbrev y_History_init : Nat := 54
abbrev y_History_forget : Nat := 55
abbrev y_History_remember : Nat := 56
abbrev y_History_takeBack : Nat := 57
abbrev y_Layout_init : Nat := 58
abbrev y_Layout_lay : Nat := 59
abbrev y_Layout_lastThatFits : Nat := 60
abbrev y_Layout_firstEnd : Nat := 61
abbrev y_Layout_hasPage : Nat := 62
abbrev y_Layout_firstOf : Nat := 63
abbrev y_Layout_lastOf : Nat := 64
abbrev y_Layout_pageOf : Nat := 65
abbrev y_Layout_pagesOfSpan : Nat := 66
abbrev y_Layout_countCutSpans : Nat := 67
abbrev y_Layout_sheetOf : Nat := 68
abbrev y_Layout_emptyFromRow : Nat := 69
abbrev y_Layout_fill : Nat := 70
abbrev y_Sheet_init : Nat := 71
abbrev y_Sheet_begin : Nat := 72
abbrev y_Sheet_take : Nat := 73
abbrev y_Sheet_needed : Nat := 74
abbrev y_Sheet_noteBits : Nat := 75
abbrev y_Slots_init : Nat := 76
abbrev y_Slots_empty : Nat := 77
abbrev y_Slots_isFilled : Nat := 78
abbrev y_Slots_put : Nat := 79
abbrev y_Slots_copyTo : Nat := 80
abbrev y_Table_init : Nat := 81
abbrev y_Table_makeNew : Nat := 82
abbrev y_Table_copyFrom : Nat := 83
abbrev y_Table_hasRow : Nat := 84
abbrev y_Table_hasColumn : Nat := 85
abbrev y_Table_hasSpan : Nat := 86
abbrev y_Table_isFull : Nat := 87
abbrev y_Table_hasAllSpans : Nat := 88
abbrev y_Table_allowsRow : Nat := 89
abbrev y_Table_allowsHeight : Nat := 90
abbrev y_Table_putHeight : Nat := 91
abbrev y_Table_amountAt : Nat := 92
abbrev y_Table_putAmount : Nat := 93
abbrev y_Table_sumOfRows : Nat := 94
abbrev y_Table_putRow : Nat := 95
abbrev y_Table_dropRow : Nat := 96
abbrev y_Table_takeRowFromSpans : Nat := 97
abbrev y_Table_putSpan : Nat := 98
abbrev y_Table_dropSpan : Nat := 99
abbrev y_Table_cutRows : Nat := 100
abbrev y_Table_endRows : Nat := 101
abbrev y_Table_upTo : Nat := 102
abbrev y_Table_playRound : Nat := 103
abbrev y_Text_init : Nat := 104
abbrev y_Text_isFull : Nat := 105
abbrev y_Text_put : Nat := 106
abbrev y_Text_readInto : Nat := 107
abbrev y_Text_readHead : Nat := 108
abbrev y_Text_readPart : Nat := 109
abbrev y_Text_readRow : Nat := 110
abbrev y_Text_readNote : Nat := 111
abbrev y_Text_readNoteHeight : Nat := 112
abbrev y_Text_readSpan : Nat := 113
abbrev y_Text_takeSign : Nat := 114
abbrev y_Text_takeDigit : Nat := 115
abbrev y_Text_takePair : Nat := 116
abbrev y_M_init : Nat := 117
abbrev y_M_thrown : Nat := 118
abbrev y_M_refused : Nat := 119
abbrev y_M_in : Nat := 120
abbrev y_M_has : Nat := 121
abbrev y_M_copy : Nat := 122
abbrev y_M_tenTo : Nat := 123
abbrev y_M_clean : Nat := 124
abbrev y_M_remember : Nat := 125
abbrev y_M_begin : Nat := 126
abbrev y_M_cell : Nat := 127
abbrev y_M_first : Nat := 128
abbrev y_M_last : Nat := 129
abbrev y_M_mayEnd : Nat := 130
abbrev y_M_canCut : Nat := 131
abbrev y_M_notes : Nat := 132
abbrev y_M_names : Nat := 133
abbrev y_M_lines : Nat := 134
abbrev y_M_lastFor : Nat := 135
abbrev y_M_endOf : Nat := 136
abbrev y_M_lay : Nat := 137
abbrev y_M_startOf : Nat := 138
abbrev y_M_overfull : Nat := 139
abbrev y_M_pageOf : Nat := 140
abbrev y_M_pagesOf : Nat := 141
abbrev y_M_addTo : Nat := 142
abbrev y_M_putSpan : Nat := 143
abbrev y_M_dropSpan : Nat := 144
abbrev y_M_dropRow : Nat := 145
abbrev y_M_least : Nat := 146
abbrev y_M_most : Nat := 147
abbrev y_M_isHeight : Nat := 148
abbrev y_M_sum : Nat := 149
abbrev y_M_append : Nat := 150
abbrev y_M_clearText : Nat := 151
abbrev y_M_isNext : Nat := 152
abbrev y_M_accept : Nat := 153
abbrev y_M_digit : Nat := 154
abbrev y_M_two : Nat := 155
abbrev y_M_readRow : Nat := 156
abbrev y_M_readSpan : Nat := 157
abbrev y_M_readMore : Nat := 158
abbrev y_M_readText : Nat := 159
abbrev y_M_errorPosition : Nat := 160
abbrev y_M_load : Nat := 161
abbrev y_M_cutSpans : Nat := 162
abbrev y_M_about : Nat := 163
abbrev y_M_isRow : Nat := 164
abbrev y_M_isColumn : Nat := 165
abbrev y_M_isSpan : Nat := 166
abbrev y_M_row : Nat := 167
abbrev y_M_amount : Nat := 168
abbrev y_M_span : Nat := 169
abbrev y_M_note : Nat := 170
abbrev y_M_isPage : Nat := 171
abbrev y_M_page : Nat := 172
abbrev y_M_brought : Nat := 173
abbrev y_M_carried : Nat := 174
abbrev y_M_richest : Nat := 175
abbrev y_M_addRow : Nat := 176
abbrev y_M_setAmount : Nat := 177
abbrev y_M_keep : Nat := 178
abbrev y_M_removeRow : Nat := 179
abbrev y_M_addSpan : Nat := 180
abbrev y_M_removeSpan : Nat := 181
abbrev y_M_setHeight : Nat := 182
abbrev y_M_undo : Nat := 183
abbrev y_M_heightFor : Nat := 184
abbrev y_M_costOf : Nat := 185
abbrev y_M_layCuts : Nat := 186
abbrev y_M_evenest : Nat := 187
abbrev y_M_evenCut : Nat := 188
abbrev y_M_emptyFrom : Nat := 189
abbrev y_M_does : Nat := 190
abbrev y_M_runScript : Nat := 191
abbrev y_M_round : Nat := 192
abbrev y_M_simulate : Nat := 193
abbrev y_M_save : Nat := 194
abbrev y_M_restore : Nat := 195
abbrev y_L_append : Nat := 196
abbrev y_L_load : Nat := 197
abbrev y_L_about : Nat := 198
abbrev y_L_row : Nat := 199
abbrev y_L_amount : Nat := 200
abbrev y_L_span : Nat := 201
abbrev y_L_note : Nat := 202
abbrev y_L_page : Nat := 203
abbrev y_L_brought : Nat := 204
abbrev y_L_carried : Nat := 205
abbrev y_L_richest : Nat := 206
abbrev y_L_addRow : Nat := 207
abbrev y_L_setAmount : Nat := 208
abbrev y_L_keep : Nat := 209
abbrev y_L_removeRow : Nat := 210
abbrev y_L_addSpan : Nat := 211
abbrev y_L_removeSpan : Nat := 212
abbrev y_L_setHeight : Nat := 213
abbrev y_L_undo : Nat := 214
abbrev y_L_heightFor : Nat := 215
abbrev y_L_evenCut : Nat := 216
abbrev y_L_emptyFrom : Nat := 217
abbrev y_L_runScript : Nat := 218
abbrev y_L_simulate : Nat := 219
abbrev y_L_save : Nat := 220
abbrev y_L_restore : Nat := 221
abbrev y_L_law : Nat := 222
abbrev am_law : Nat := 222
def am_mY_0 : List MethodName := [⟨"TablePager", "<init>", "()V"⟩, ⟨"TablePager", "append", "(I)I"⟩, ⟨"TablePager", "clearText", "()I"⟩, ⟨"TablePager", "errorPosition", "()I"⟩, ⟨"TablePager", "load", "()I"⟩, ⟨"TablePager", "about", "(I)I"⟩, ⟨"TablePager", "row", "(II)I"⟩, ⟨"TablePager", "amount", "(II)I"⟩, ⟨"TablePager", "span", "(II)I"⟩, ⟨"TablePager", "note", "(I)I"⟩, ⟨"TablePager", "page", "(II)I"⟩, ⟨"TablePager", "brought", "(II)I"⟩, ⟨"TablePager", "carried", "(II)I"⟩, ⟨"TablePager", "richest", "(I)I"⟩, ⟨"TablePager", "addRow", "(II)I"⟩, ⟨"TablePager", "setAmount", "(III)I"⟩, ⟨"TablePager", "keep", "(IZ)I"⟩, ⟨"TablePager", "removeRow", "(I)I"⟩, ⟨"TablePager", "addSpan", "(IIZ)I"⟩, ⟨"TablePager", "removeSpan", "(I)I"⟩, ⟨"TablePager", "setHeight", "(II)I"⟩, ⟨"TablePager", "undo", "()I"⟩, ⟨"TablePager", "heightFor", "(I)I"⟩, ⟨"TablePager", "evenest", "()I"⟩, ⟨"TablePager", "evenCut", "(I)I"⟩, ⟨"TablePager", "emptyFrom", "(I)I"⟩, ⟨"TablePager", "runScript", "(IJ)I"⟩, ⟨"TablePager", "simulate", "(JI)I"⟩, ⟨"TablePager", "save", "(I)I"⟩, ⟨"TablePager", "restore", "(I)I"⟩, ⟨"TablePager", "layOut", "()V"⟩, ⟨"TablePager", "countPages", "()I"⟩]
def am_mY_1 : List MethodName := [⟨"TablePager", "requireRow", "(I)V"⟩, ⟨"TablePager", "requireColumn", "(I)V"⟩, ⟨"TablePager", "requireSpan", "(I)V"⟩, ⟨"TablePager", "requirePage", "(I)V"⟩, ⟨"TablePager", "requireSlot", "(I)V"⟩, ⟨"TablePager", "withoutGroups", "(JI)J"⟩, ⟨"TablePager", "isIn", "(II)Z"⟩, ⟨"TablePager$Command", "<init>", "()V"⟩, ⟨"TablePager$Command", "setDigits", "(I)V"⟩, ⟨"TablePager$Command", "runOn", "(LTablePager$Table;LTablePager$Layout;)Z"⟩, ⟨"TablePager$Command", "holds", "(LTablePager$Table;LTablePager$Layout;)Z"⟩, ⟨"TablePager$Command", "firstPair", "()I"⟩, ⟨"TablePager$Command", "addsRow", "(LTablePager$Table;)Z"⟩, ⟨"TablePager$Command", "putsAmount", "(LTablePager$Table;)Z"⟩, ⟨"TablePager$Command", "marksRow", "(LTablePager$Table;)Z"⟩, ⟨"TablePager$Command", "dropsRow", "(LTablePager$Table;)Z"⟩, ⟨"TablePager$Command", "putsHeight", "(LTablePager$Table;)Z"⟩, ⟨"TablePager$Evener", "<init>", "()V"⟩, ⟨"TablePager$Evener", "leastCost", "(LTablePager$Table;)I"⟩, ⟨"TablePager$Evener", "chooseEnd", "(LTablePager$Table;II)V"⟩, ⟨"TablePager$Evener", "costOfSheet", "(LTablePager$Table;I)I"⟩, ⟨"TablePager$Evener", "lastOf", "(LTablePager$Table;I)I"⟩, ⟨"TablePager$History", "<init>", "()V"⟩, ⟨"TablePager$History", "forget", "()V"⟩, ⟨"TablePager$History", "remember", "(LTablePager$Table;)V"⟩, ⟨"TablePager$History", "takeBack", "(LTablePager$Table;)V"⟩, ⟨"TablePager$Layout", "<init>", "()V"⟩, ⟨"TablePager$Layout", "lay", "(LTablePager$Table;I)V"⟩, ⟨"TablePager$Layout", "lastThatFits", "(LTablePager$Table;III)I"⟩, ⟨"TablePager$Layout", "firstEnd", "(II)I"⟩, ⟨"TablePager$Layout", "hasPage", "(I)Z"⟩, ⟨"TablePager$Layout", "firstOf", "(I)I"⟩]
def am_mY_2 : List MethodName := [⟨"TablePager$Layout", "lastOf", "(I)I"⟩, ⟨"TablePager$Layout", "pageOf", "(I)I"⟩, ⟨"TablePager$Layout", "pagesOfSpan", "(LTablePager$Table;I)I"⟩, ⟨"TablePager$Layout", "countCutSpans", "(LTablePager$Table;)I"⟩, ⟨"TablePager$Layout", "sheetOf", "(LTablePager$Table;I)LTablePager$Sheet;"⟩, ⟨"TablePager$Layout", "emptyFromRow", "(LTablePager$Table;I)I"⟩, ⟨"TablePager$Layout", "fill", "(LTablePager$Table;II)V"⟩, ⟨"TablePager$Sheet", "<init>", "()V"⟩, ⟨"TablePager$Sheet", "begin", "(LTablePager$Table;I)V"⟩, ⟨"TablePager$Sheet", "take", "(LTablePager$Table;I)V"⟩, ⟨"TablePager$Sheet", "needed", "()I"⟩, ⟨"TablePager$Sheet", "noteBits", "()I"⟩, ⟨"TablePager$Slots", "<init>", "()V"⟩, ⟨"TablePager$Slots", "empty", "()V"⟩, ⟨"TablePager$Slots", "isFilled", "(I)Z"⟩, ⟨"TablePager$Slots", "put", "(ILTablePager$Table;)V"⟩, ⟨"TablePager$Slots", "copyTo", "(ILTablePager$Table;)V"⟩, ⟨"TablePager$Table", "<init>", "()V"⟩, ⟨"TablePager$Table", "makeNew", "()V"⟩, ⟨"TablePager$Table", "copyFrom", "(LTablePager$Table;)V"⟩, ⟨"TablePager$Table", "hasRow", "(I)Z"⟩, ⟨"TablePager$Table", "hasColumn", "(I)Z"⟩, ⟨"TablePager$Table", "hasSpan", "(I)Z"⟩, ⟨"TablePager$Table", "isFull", "()Z"⟩, ⟨"TablePager$Table", "hasAllSpans", "()Z"⟩, ⟨"TablePager$Table", "allowsRow", "(II)Z"⟩, ⟨"TablePager$Table", "allowsHeight", "(II)Z"⟩, ⟨"TablePager$Table", "putHeight", "(II)V"⟩, ⟨"TablePager$Table", "amountAt", "(II)I"⟩, ⟨"TablePager$Table", "putAmount", "(III)V"⟩, ⟨"TablePager$Table", "sumOfRows", "(III)I"⟩, ⟨"TablePager$Table", "putRow", "(II)V"⟩]
def am_mY_3 : List MethodName := [⟨"TablePager$Table", "dropRow", "(I)I"⟩, ⟨"TablePager$Table", "takeRowFromSpans", "(I)I"⟩, ⟨"TablePager$Table", "putSpan", "(IIZ)V"⟩, ⟨"TablePager$Table", "dropSpan", "(I)V"⟩, ⟨"TablePager$Table", "cutRows", "()I"⟩, ⟨"TablePager$Table", "endRows", "()I"⟩, ⟨"TablePager$Table", "upTo", "(I)I"⟩, ⟨"TablePager$Table", "playRound", "(I)V"⟩, ⟨"TablePager$Text", "<init>", "()V"⟩, ⟨"TablePager$Text", "isFull", "()Z"⟩, ⟨"TablePager$Text", "put", "(C)V"⟩, ⟨"TablePager$Text", "readInto", "(LTablePager$Table;)I"⟩, ⟨"TablePager$Text", "readHead", "(LTablePager$Table;)Z"⟩, ⟨"TablePager$Text", "readPart", "(LTablePager$Table;)Z"⟩, ⟨"TablePager$Text", "readRow", "(LTablePager$Table;)Z"⟩, ⟨"TablePager$Text", "readNote", "(LTablePager$Table;)Z"⟩, ⟨"TablePager$Text", "readNoteHeight", "(LTablePager$Table;)Z"⟩, ⟨"TablePager$Text", "readSpan", "(LTablePager$Table;)Z"⟩, ⟨"TablePager$Text", "takeSign", "(C)Z"⟩, ⟨"TablePager$Text", "takeDigit", "(II)I"⟩, ⟨"TablePager$Text", "takePair", "(II)I"⟩, ⟨"TablePagerModel", "<init>", "()V"⟩, ⟨"TablePagerModel", "thrown", "()I"⟩, ⟨"TablePagerModel", "refused", "(I)Z"⟩, ⟨"TablePagerModel", "in", "(JJJ)Z"⟩, ⟨"TablePagerModel", "has", "(II)Z"⟩, ⟨"TablePagerModel", "copy", "([II[III)V"⟩, ⟨"TablePagerModel", "tenTo", "(I)J"⟩, ⟨"TablePagerModel", "clean", "([I)V"⟩, ⟨"TablePagerModel", "remember", "()V"⟩, ⟨"TablePagerModel", "begin", "()V"⟩, ⟨"TablePagerModel", "cell", "(II)I"⟩]
def am_mY_4 : List MethodName := [⟨"TablePagerModel", "first", "([II)I"⟩, ⟨"TablePagerModel", "last", "([II)I"⟩, ⟨"TablePagerModel", "mayEnd", "([II)Z"⟩, ⟨"TablePagerModel", "canCut", "([II)Z"⟩, ⟨"TablePagerModel", "notes", "([III)I"⟩, ⟨"TablePagerModel", "names", "([II)I"⟩, ⟨"TablePagerModel", "lines", "([III)I"⟩, ⟨"TablePagerModel", "lastFor", "([II)I"⟩, ⟨"TablePagerModel", "endOf", "([II)I"⟩, ⟨"TablePagerModel", "lay", "([I)I"⟩, ⟨"TablePagerModel", "startOf", "(I)I"⟩, ⟨"TablePagerModel", "overfull", "([I)I"⟩, ⟨"TablePagerModel", "pageOf", "(I)I"⟩, ⟨"TablePagerModel", "pagesOf", "([II)I"⟩, ⟨"TablePagerModel", "addTo", "([III)V"⟩, ⟨"TablePagerModel", "putSpan", "([IIII)V"⟩, ⟨"TablePagerModel", "dropSpan", "([II)V"⟩, ⟨"TablePagerModel", "dropRow", "([II)I"⟩, ⟨"TablePagerModel", "least", "(I)I"⟩, ⟨"TablePagerModel", "most", "(I)I"⟩, ⟨"TablePagerModel", "isHeight", "(II)Z"⟩, ⟨"TablePagerModel", "sum", "([IIII)I"⟩, ⟨"TablePagerModel", "append", "(I)I"⟩, ⟨"TablePagerModel", "clearText", "()I"⟩, ⟨"TablePagerModel", "isNext", "(I)Z"⟩, ⟨"TablePagerModel", "accept", "(Z)V"⟩, ⟨"TablePagerModel", "digit", "(II)I"⟩, ⟨"TablePagerModel", "two", "(II)I"⟩, ⟨"TablePagerModel", "readRow", "()V"⟩, ⟨"TablePagerModel", "readSpan", "()V"⟩, ⟨"TablePagerModel", "readMore", "()V"⟩, ⟨"TablePagerModel", "readText", "()I"⟩]
def am_mY_5 : List MethodName := [⟨"TablePagerModel", "errorPosition", "()I"⟩, ⟨"TablePagerModel", "load", "()I"⟩, ⟨"TablePagerModel", "cutSpans", "()I"⟩, ⟨"TablePagerModel", "about", "(I)I"⟩, ⟨"TablePagerModel", "isRow", "(I)Z"⟩, ⟨"TablePagerModel", "isColumn", "(I)Z"⟩, ⟨"TablePagerModel", "isSpan", "(I)Z"⟩, ⟨"TablePagerModel", "row", "(II)I"⟩, ⟨"TablePagerModel", "amount", "(II)I"⟩, ⟨"TablePagerModel", "span", "(II)I"⟩, ⟨"TablePagerModel", "note", "(I)I"⟩, ⟨"TablePagerModel", "isPage", "(I)Z"⟩, ⟨"TablePagerModel", "page", "(II)I"⟩, ⟨"TablePagerModel", "brought", "(II)I"⟩, ⟨"TablePagerModel", "carried", "(II)I"⟩, ⟨"TablePagerModel", "richest", "(I)I"⟩, ⟨"TablePagerModel", "addRow", "(II)I"⟩, ⟨"TablePagerModel", "setAmount", "(III)I"⟩, ⟨"TablePagerModel", "keep", "(IZ)I"⟩, ⟨"TablePagerModel", "removeRow", "(I)I"⟩, ⟨"TablePagerModel", "addSpan", "(IIZ)I"⟩, ⟨"TablePagerModel", "removeSpan", "(I)I"⟩, ⟨"TablePagerModel", "setHeight", "(II)I"⟩, ⟨"TablePagerModel", "undo", "()I"⟩, ⟨"TablePagerModel", "heightFor", "(I)I"⟩, ⟨"TablePagerModel", "costOf", "(II)I"⟩, ⟨"TablePagerModel", "layCuts", "()I"⟩, ⟨"TablePagerModel", "evenest", "()I"⟩, ⟨"TablePagerModel", "evenCut", "(I)I"⟩, ⟨"TablePagerModel", "emptyFrom", "(I)I"⟩, ⟨"TablePagerModel", "does", "(I)Z"⟩, ⟨"TablePagerModel", "runScript", "(IJ)I"⟩]
def am_mY_6 : List MethodName := [⟨"TablePagerModel", "round", "(I)V"⟩, ⟨"TablePagerModel", "simulate", "(JI)I"⟩, ⟨"TablePagerModel", "save", "(I)I"⟩, ⟨"TablePagerModel", "restore", "(I)I"⟩, ⟨"TablePagerLaw", "append", "(LTablePager;I[J)I"⟩, ⟨"TablePagerLaw", "load", "(LTablePager;[J)I"⟩, ⟨"TablePagerLaw", "about", "(LTablePager;I[J)I"⟩, ⟨"TablePagerLaw", "row", "(LTablePager;II[J)I"⟩, ⟨"TablePagerLaw", "amount", "(LTablePager;II[J)I"⟩, ⟨"TablePagerLaw", "span", "(LTablePager;II[J)I"⟩, ⟨"TablePagerLaw", "note", "(LTablePager;I[J)I"⟩, ⟨"TablePagerLaw", "page", "(LTablePager;II[J)I"⟩, ⟨"TablePagerLaw", "brought", "(LTablePager;II[J)I"⟩, ⟨"TablePagerLaw", "carried", "(LTablePager;II[J)I"⟩, ⟨"TablePagerLaw", "richest", "(LTablePager;I[J)I"⟩, ⟨"TablePagerLaw", "addRow", "(LTablePager;II[J)I"⟩, ⟨"TablePagerLaw", "setAmount", "(LTablePager;III[J)I"⟩, ⟨"TablePagerLaw", "keep", "(LTablePager;IZ[J)I"⟩, ⟨"TablePagerLaw", "removeRow", "(LTablePager;I[J)I"⟩, ⟨"TablePagerLaw", "addSpan", "(LTablePager;IIZ[J)I"⟩, ⟨"TablePagerLaw", "removeSpan", "(LTablePager;I[J)I"⟩, ⟨"TablePagerLaw", "setHeight", "(LTablePager;II[J)I"⟩, ⟨"TablePagerLaw", "undo", "(LTablePager;[J)I"⟩, ⟨"TablePagerLaw", "heightFor", "(LTablePager;I[J)I"⟩, ⟨"TablePagerLaw", "evenCut", "(LTablePager;I[J)I"⟩, ⟨"TablePagerLaw", "emptyFrom", "(LTablePager;I[J)I"⟩, ⟨"TablePagerLaw", "runScript", "(LTablePager;IJ[J)I"⟩, ⟨"TablePagerLaw", "simulate", "(LTablePager;JI[J)I"⟩, ⟨"TablePagerLaw", "save", "(LTablePager;I[J)I"⟩, ⟨"TablePagerLaw", "restore", "(LTablePager;I[J)I"⟩, ⟨"TablePagerLaw", "law", "([I)Z"⟩]
def am_mY (y : Nat) : MethodName := match y / 32 with
  | 0 => am_mY_0.getD (y % 32) ⟨"", "", ""⟩
  | 1 => am_mY_1.getD (y % 32) ⟨"", "", ""⟩
  | 2 => am_mY_2.getD (y % 32) ⟨"", "", ""⟩
  | 3 => am_mY_3.getD (y % 32) ⟨"", "", ""⟩
  | 4 => am_mY_4.getD (y % 32) ⟨"", "", ""⟩
  | 5 => am_mY_5.getD (y % 32) ⟨"", "", ""⟩
  | _ => am_mY_6.getD (y % 32) ⟨"", "", ""⟩
def am_mB_0 : List ByteArray := [prog_1_method_1_code, prog_1_method_2_code, prog_1_method_3_code, prog_1_method_4_code, prog_1_method_5_code, prog_1_method_6_code, prog_1_method_7_code, prog_1_method_8_code, prog_1_method_9_code, prog_1_method_10_code, prog_1_method_11_code, prog_1_method_12_code, prog_1_method_13_code, prog_1_method_14_code, prog_1_method_15_code, prog_1_method_16_code, prog_1_method_17_code, prog_1_method_18_code, prog_1_method_19_code, prog_1_method_20_code, prog_1_method_21_code, prog_1_method_22_code, prog_1_method_23_code, prog_1_method_24_code, prog_1_method_25_code, prog_1_method_26_code, prog_1_method_27_code, prog_1_method_28_code, prog_1_method_29_code, prog_1_method_30_code, prog_1_method_31_code, prog_1_method_32_code]
def am_mB_1 : List ByteArray := [prog_1_method_33_code, prog_1_method_34_code, prog_1_method_35_code, prog_1_method_36_code, prog_1_method_37_code, prog_1_method_38_code, prog_1_method_39_code, prog_2_method_1_code, prog_2_method_2_code, prog_2_method_3_code, prog_2_method_4_code, prog_2_method_5_code, prog_2_method_6_code, prog_2_method_7_code, prog_2_method_8_code, prog_2_method_9_code, prog_2_method_10_code, prog_3_method_1_code, prog_3_method_2_code, prog_3_method_3_code, prog_3_method_4_code, prog_3_method_5_code, prog_4_method_1_code, prog_4_method_2_code, prog_4_method_3_code, prog_4_method_4_code, prog_5_method_1_code, prog_5_method_2_code, prog_5_method_3_code, prog_5_method_4_code, prog_5_method_5_code, prog_5_method_6_code]
def am_mB_2 : List ByteArray := [prog_5_method_7_code, prog_5_method_8_code, prog_5_method_9_code, prog_5_method_10_code, prog_5_method_11_code, prog_5_method_12_code, prog_5_method_13_code, prog_6_method_1_code, prog_6_method_2_code, prog_6_method_3_code, prog_6_method_4_code, prog_6_method_5_code, prog_7_method_1_code, prog_7_method_2_code, prog_7_method_3_code, prog_7_method_4_code, prog_7_method_5_code, prog_8_method_1_code, prog_8_method_2_code, prog_8_method_3_code, prog_8_method_4_code, prog_8_method_5_code, prog_8_method_6_code, prog_8_method_7_code, prog_8_method_8_code, prog_8_method_9_code, prog_8_method_10_code, prog_8_method_11_code, prog_8_method_12_code, prog_8_method_13_code, prog_8_method_14_code, prog_8_method_15_code]
def am_mB_3 : List ByteArray := [prog_8_method_16_code, prog_8_method_17_code, prog_8_method_18_code, prog_8_method_19_code, prog_8_method_20_code, prog_8_method_21_code, prog_8_method_22_code, prog_8_method_23_code, prog_9_method_1_code, prog_9_method_2_code, prog_9_method_3_code, prog_9_method_4_code, prog_9_method_5_code, prog_9_method_6_code, prog_9_method_7_code, prog_9_method_8_code, prog_9_method_9_code, prog_9_method_10_code, prog_9_method_11_code, prog_9_method_12_code, prog_9_method_13_code, prog_11_method_1_code, prog_11_method_2_code, prog_11_method_3_code, prog_11_method_4_code, prog_11_method_5_code, prog_11_method_6_code, prog_11_method_7_code, prog_11_method_8_code, prog_11_method_9_code, prog_11_method_10_code, prog_11_method_11_code]
def am_mB_4 : List ByteArray := [prog_11_method_12_code, prog_11_method_13_code, prog_11_method_14_code, prog_11_method_15_code, prog_11_method_16_code, prog_11_method_17_code, prog_11_method_18_code, prog_11_method_19_code, prog_11_method_20_code, prog_11_method_21_code, prog_11_method_22_code, prog_11_method_23_code, prog_11_method_24_code, prog_11_method_25_code, prog_11_method_26_code, prog_11_method_27_code, prog_11_method_28_code, prog_11_method_29_code, prog_11_method_30_code, prog_11_method_31_code, prog_11_method_32_code, prog_11_method_33_code, prog_11_method_34_code, prog_11_method_35_code, prog_11_method_36_code, prog_11_method_37_code, prog_11_method_38_code, prog_11_method_39_code, prog_11_method_40_code, prog_11_method_41_code, prog_11_method_42_code, prog_11_method_43_code]
def am_mB_5 : List ByteArray := [prog_11_method_44_code, prog_11_method_45_code, prog_11_method_46_code, prog_11_method_47_code, prog_11_method_48_code, prog_11_method_49_code, prog_11_method_50_code, prog_11_method_51_code, prog_11_method_52_code, prog_11_method_53_code, prog_11_method_54_code, prog_11_method_55_code, prog_11_method_56_code, prog_11_method_57_code, prog_11_method_58_code, prog_11_method_59_code, prog_11_method_60_code, prog_11_method_61_code, prog_11_method_62_code, prog_11_method_63_code, prog_11_method_64_code, prog_11_method_65_code, prog_11_method_66_code, prog_11_method_67_code, prog_11_method_68_code, prog_11_method_69_code, prog_11_method_70_code, prog_11_method_71_code, prog_11_method_72_code, prog_11_method_73_code, prog_11_method_74_code, prog_11_method_75_code]
def am_mB_6 : List ByteArray := [prog_11_method_76_code, prog_11_method_77_code, prog_11_method_78_code, prog_11_method_79_code, method_3_code, method_4_code, method_5_code, method_6_code, method_7_code, method_8_code, method_9_code, method_10_code, method_11_code, method_12_code, method_13_code, method_14_code, method_15_code, method_16_code, method_17_code, method_18_code, method_19_code, method_20_code, method_21_code, method_22_code, method_23_code, method_24_code, method_25_code, method_26_code, method_27_code, method_28_code, code]
def am_mB (y : Nat) : ByteArray := match y / 32 with
  | 0 => am_mB_0.getD (y % 32) ⟨#[]⟩
  | 1 => am_mB_1.getD (y % 32) ⟨#[]⟩
  | 2 => am_mB_2.getD (y % 32) ⟨#[]⟩
  | 3 => am_mB_3.getD (y % 32) ⟨#[]⟩
  | 4 => am_mB_4.getD (y % 32) ⟨#[]⟩
  | 5 => am_mB_5.getD (y % 32) ⟨#[]⟩
  | _ => am_mB_6.getD (y % 32) ⟨#[]⟩
def am_mL_0 : List Nat := [1, 2, 2, 1, 1, 2, 3, 3, 3, 2, 4, 3, 3, 6, 3, 5, 3, 2, 4, 2, 3, 1, 3, 1, 2, 2, 7, 7, 2, 2, 1, 1]
def am_mL_1 : List Nat := [2, 2, 2, 2, 1, 6, 2, 1, 2, 3, 3, 1, 2, 2, 2, 2, 3, 1, 4, 7, 4, 6, 2, 1, 2, 2, 1, 6, 7, 3, 2, 2]
def am_mL_2 : List Nat := [2, 3, 3, 4, 3, 4, 5, 1, 4, 4, 1, 1, 2, 2, 2, 3, 3, 1, 2, 3, 2, 2, 2, 1, 1, 2, 2, 3, 3, 4, 6, 5]
def am_mL_3 : List Nat := [4, 6, 4, 3, 3, 1, 1, 4, 1, 1, 2, 4, 5, 2, 7, 3, 4, 5, 2, 4, 5, 1, 1, 2, 6, 2, 6, 4, 2, 1, 1, 2]
def am_mL_4 : List Nat := [2, 2, 2, 4, 6, 4, 6, 3, 3, 3, 2, 4, 3, 3, 5, 5, 3, 4, 1, 1, 2, 6, 2, 2, 2, 2, 4, 6, 6, 4, 4, 1]
def am_mL_5 : List Nat := [1, 1, 3, 2, 2, 2, 2, 3, 3, 3, 2, 2, 5, 3, 3, 6, 3, 5, 3, 2, 4, 2, 3, 1, 3, 4, 5, 1, 4, 3, 9, 6]
def am_mL_6 : List Nat := [3, 8, 2, 2, 4, 3, 4, 5, 5, 5, 4, 5, 5, 5, 4, 5, 6, 5, 4, 6, 4, 5, 3, 4, 4, 4, 6, 6, 4, 4, 7]
def am_mL (y : Nat) : Nat := match y / 32 with
  | 0 => am_mL_0.getD (y % 32) 0
  | 1 => am_mL_1.getD (y % 32) 0
  | 2 => am_mL_2.getD (y % 32) 0
  | 3 => am_mL_3.getD (y % 32) 0
  | 4 => am_mL_4.getD (y % 32) 0
  | 5 => am_mL_5.getD (y % 32) 0
  | _ => am_mL_6.getD (y % 32) 0
def am_mR_0 : List (Option FieldType) := [none, some .int, some .int, some .int, some .int, some .int, some .int, some .int, some .int, some .int, some .int, some .int, some .int, some .int, some .int, some .int, some .int, some .int, some .int, some .int, some .int, some .int, some .int, some .int, some .int, some .int, some .int, some .int, some .int, some .int, none, some .int]
def am_mR_1 : List (Option FieldType) := [none, none, none, none, none, some .long, some .boolean, none, none, some .boolean, some .boolean, some .int, some .boolean, some .boolean, some .boolean, some .boolean, some .boolean, none, some .int, none, some .int, some .int, none, none, none, none, none, none, some .int, some .int, some .boolean, some .int]
def am_mR_2 : List (Option FieldType) := [some .int, some .int, some .int, some .int, (some (.object "TablePager$Sheet")), some .int, none, none, none, none, some .int, some .int, none, none, some .boolean, none, none, none, none, none, some .boolean, some .boolean, some .boolean, some .boolean, some .boolean, some .boolean, some .boolean, none, some .int, none, some .int, none]
def am_mR_3 : List (Option FieldType) := [some .int, some .int, none, none, some .int, some .int, some .int, none, none, some .boolean, none, some .int, some .boolean, some .boolean, some .boolean, some .boolean, some .boolean, some .boolean, some .boolean, some .int, some .int, none, some .int, some .boolean, some .boolean, some .boolean, none, some .long, none, none, none, some .int]
def am_mR_4 : List (Option FieldType) := [some .int, some .int, some .boolean, some .boolean, some .int, some .int, some .int, some .int, some .int, some .int, some .int, some .int, some .int, some .int, none, none, none, some .int, some .int, some .int, some .boolean, some .int, some .int, some .int, some .boolean, none, some .int, some .int, none, none, none, some .int]
def am_mR_5 : List (Option FieldType) := [some .int, some .int, some .int, some .int, some .boolean, some .boolean, some .boolean, some .int, some .int, some .int, some .int, some .boolean, some .int, some .int, some .int, some .int, some .int, some .int, some .int, some .int, some .int, some .int, some .int, some .int, some .int, some .int, some .int, some .int, some .int, some .int, some .boolean, some .int]
def am_mR_6 : List (Option FieldType) := [none, some .int, some .int, some .int, some .int, some .int, some .int, some .int, some .int, some .int, some .int, some .int, some .int, some .int, some .int, some .int, some .int, some .int, some .int, some .int, some .int, some .int, some .int, some .int, some .int, some .int, some .int, some .int, some .int, some .int, some .boolean]
def am_mR (y : Nat) : Option FieldType := match y / 32 with
  | 0 => am_mR_0.getD (y % 32) none
  | 1 => am_mR_1.getD (y % 32) none
  | 2 => am_mR_2.getD (y % 32) none
  | 3 => am_mR_3.getD (y % 32) none
  | 4 => am_mR_4.getD (y % 32) none
  | 5 => am_mR_5.getD (y % 32) none
  | _ => am_mR_6.getD (y % 32) none
def am_mo_0 : List Nat := [0, 0, 0, 0, 0, 0, 0, 0, 0, 0, 0, 0, 0, 0, 0, 0, 0, 0, 0, 0, 0, 0, 0, 0, 0, 0, 0, 0, 0, 0, 0, 0]
def am_mo_1 : List Nat := [0, 0, 0, 0, 0, 0, 0, 0, 0, 0, 0, 0, 0, 0, 0, 0, 0, 0, 0, 0, 0, 0, 0, 0, 0, 0, 0, 0, 0, 0, 0, 0]
def am_mo_2 : List Nat := [0, 0, 0, 0, 0, 0, 0, 0, 0, 0, 0, 0, 0, 0, 0, 0, 0, 0, 0, 0, 0, 0, 0, 0, 0, 0, 0, 0, 0, 0, 0, 0]
def am_mo_3 : List Nat := [0, 0, 0, 0, 0, 0, 0, 0, 0, 0, 0, 0, 0, 0, 0, 0, 0, 0, 0, 0, 0, 0, 0, 0, 0, 0, 0, 0, 0, 0, 0, 0]
def am_mo_4 : List Nat := [0, 0, 0, 0, 0, 0, 0, 0, 0, 0, 0, 0, 0, 0, 0, 0, 0, 0, 0, 0, 0, 0, 0, 0, 0, 0, 0, 0, 0, 0, 0, 0]
def am_mo_5 : List Nat := [0, 0, 0, 0, 0, 0, 0, 0, 0, 0, 0, 0, 0, 0, 0, 0, 0, 0, 0, 0, 0, 0, 0, 0, 0, 0, 0, 0, 0, 0, 0, 0]
def am_mo_6 : List Nat := [0, 0, 0, 0, 1, 1, 1, 1, 1, 1, 1, 1, 1, 1, 1, 1, 1, 1, 1, 1, 1, 1, 1, 1, 1, 1, 1, 1, 1, 1, 2]
def am_mo (y : Nat) : Nat := match y / 32 with
  | 0 => am_mo_0.getD (y % 32) 0
  | 1 => am_mo_1.getD (y % 32) 0
  | 2 => am_mo_2.getD (y % 32) 0
  | 3 => am_mo_3.getD (y % 32) 0
  | 4 => am_mo_4.getD (y % 32) 0
  | 5 => am_mo_5.getD (y % 32) 0
  | _ => am_mo_6.getD (y % 32) 0
def am_mc_0 : List Nat := [177, 1, 0, 0, 1, 1, 2, 2, 2, 1, 2, 2, 2, 1, 1, 3, 1, 1, 3, 1, 1, 1, 1, 0, 1, 1, 1, 1, 1, 2, 0, 0]
def am_mc_1 : List Nat := [1, 1, 1, 1, 1, 0, 0, 0, 0, 0, 0, 0, 0, 0, 0, 0, 0, 3, 0, 0, 0, 0, 127, 0, 0, 0, 2, 0, 0, 0, 0, 0]
def am_mc_2 : List Nat := [0, 0, 0, 0, 0, 0, 0, 0, 0, 0, 0, 0, 20, 0, 0, 0, 0, 8, 0, 0, 0, 0, 0, 0, 0, 0, 0, 0, 0, 0, 0, 0]
def am_mc_3 : List Nat := [0, 0, 0, 0, 0, 0, 0, 0, 1, 0, 0, 0, 0, 0, 0, 0, 0, 0, 0, 0, 0, 10, 0, 0, 0, 0, 0, 0, 0, 0, 0, 0]
def am_mc_4 : List Nat := [0, 0, 0, 0, 0, 0, 0, 0, 0, 0, 0, 0, 0, 0, 0, 0, 0, 0, 0, 0, 0, 0, 0, 0, 0, 0, 0, 0, 0, 0, 0, 0]
def am_mc_5 : List Nat := [0, 0, 0, 0, 0, 0, 0, 0, 0, 0, 0, 0, 0, 0, 0, 0, 0, 0, 0, 0, 0, 0, 0, 0, 0, 0, 0, 0, 0, 0, 0, 0]
def am_mc_6 : List Nat := [0, 0, 0, 0, 1, 1, 1, 2, 2, 2, 1, 2, 2, 2, 1, 1, 3, 1, 1, 3, 1, 1, 1, 1, 1, 1, 1, 1, 1, 2, 601024]
def am_mc (y : Nat) : Nat := match y / 32 with
  | 0 => am_mc_0.getD (y % 32) 0
  | 1 => am_mc_1.getD (y % 32) 0
  | 2 => am_mc_2.getD (y % 32) 0
  | 3 => am_mc_3.getD (y % 32) 0
  | 4 => am_mc_4.getD (y % 32) 0
  | 5 => am_mc_5.getD (y % 32) 0
  | _ => am_mc_6.getD (y % 32) 0
def am_ms_0 : List Nat := [3987, 6, 0, 0, 6, 6, 12, 12, 12, 6, 12, 12, 12, 6, 6, 18, 6, 6, 18, 6, 6, 6, 6, 0, 6, 6, 6, 6, 6, 12, 0, 0]
def am_ms_1 : List Nat := [6, 6, 6, 6, 6, 0, 0, 0, 0, 0, 0, 0, 0, 0, 0, 0, 0, 53, 0, 0, 0, 0, 2898, 0, 0, 0, 28, 0, 0, 0, 0, 0]
def am_ms_2 : List Nat := [0, 0, 0, 0, 0, 0, 0, 0, 0, 0, 0, 0, 416, 0, 0, 0, 0, 193, 0, 0, 0, 0, 0, 0, 0, 0, 0, 0, 0, 0, 0, 0]
def am_ms_3 : List Nat := [0, 0, 0, 0, 0, 0, 0, 0, 160, 0, 0, 0, 0, 0, 0, 0, 0, 0, 0, 0, 0, 3978, 0, 0, 0, 0, 0, 0, 0, 0, 0, 0]
def am_ms_4 : List Nat := [0, 0, 0, 0, 0, 0, 0, 0, 0, 0, 0, 0, 0, 0, 0, 0, 0, 0, 0, 0, 0, 0, 0, 0, 0, 0, 0, 0, 0, 0, 0, 0]
def am_ms_5 : List Nat := [0, 0, 0, 0, 0, 0, 0, 0, 0, 0, 0, 0, 0, 0, 0, 0, 0, 0, 0, 0, 0, 0, 0, 0, 0, 0, 0, 0, 0, 0, 0, 0]
def am_ms_6 : List Nat := [0, 0, 0, 0, 6, 6, 6, 12, 12, 12, 6, 12, 12, 12, 6, 6, 18, 6, 6, 18, 6, 6, 6, 6, 6, 6, 6, 6, 6, 12, 7293034]
def am_ms (y : Nat) : Nat := match y / 32 with
  | 0 => am_ms_0.getD (y % 32) 0
  | 1 => am_ms_1.getD (y % 32) 0
  | 2 => am_ms_2.getD (y % 32) 0
  | 3 => am_ms_3.getD (y % 32) 0
  | 4 => am_ms_4.getD (y % 32) 0
  | 5 => am_ms_5.getD (y % 32) 0
  | _ => am_ms_6.getD (y % 32) 0
def am_np_0 : List Nat := [0, 1, 0, 0, 0, 1, 2, 2, 2, 1, 2, 2, 2, 1, 2, 3, 2, 1, 3, 1, 2, 0, 1, 0, 1, 1, 2, 2, 1, 1, 0, 0]
def am_np_1 : List Nat := [1, 1, 1, 1, 1, 2, 2, 0, 1, 2, 2, 0, 1, 1, 1, 1, 1, 0, 1, 3, 2, 2, 0, 0, 1, 1, 0, 2, 4, 2, 1, 1]
def am_np_2 : List Nat := [1, 1, 2, 1, 2, 2, 3, 0, 2, 2, 0, 0, 0, 0, 1, 2, 2, 0, 0, 1, 1, 1, 1, 0, 0, 2, 2, 2, 2, 3, 3, 2]
def am_np_3 : List Nat := [1, 1, 3, 1, 0, 0, 1, 1, 0, 0, 1, 1, 1, 1, 1, 1, 1, 1, 1, 2, 2, 0, 0, 1, 3, 2, 5, 1, 1, 0, 0, 2]
def am_np_4 : List Nat := [2, 2, 2, 2, 3, 2, 3, 2, 2, 1, 1, 1, 1, 2, 3, 4, 2, 2, 1, 1, 2, 4, 1, 0, 1, 1, 2, 2, 0, 0, 0, 0]
def am_np_5 : List Nat := [0, 0, 0, 1, 1, 1, 1, 2, 2, 2, 1, 1, 2, 2, 2, 1, 2, 3, 2, 1, 3, 1, 2, 0, 1, 2, 0, 0, 1, 1, 1, 2]
def am_np_6 : List Nat := [1, 2, 1, 1, 3, 2, 3, 4, 4, 4, 3, 4, 4, 4, 3, 4, 5, 4, 3, 5, 3, 4, 2, 3, 3, 3, 4, 4, 3, 3, 1]
def am_np (y : Nat) : Nat := match y / 32 with
  | 0 => am_np_0.getD (y % 32) 0
  | 1 => am_np_1.getD (y % 32) 0
  | 2 => am_np_2.getD (y % 32) 0
  | 3 => am_np_3.getD (y % 32) 0
  | 4 => am_np_4.getD (y % 32) 0
  | 5 => am_np_5.getD (y % 32) 0
  | _ => am_np_6.getD (y % 32) 0
def am_mH_0 : List (List (Nat × Nat × Nat × Nat)) := [[], [], [], [], [], [], [], [], [], [], [], [], [], [], [], [], [], [], [], [], [], [], [], [], [], [], [], [], [], [], [], []]
def am_mH_1 : List (List (Nat × Nat × Nat × Nat)) := [[], [], [], [], [], [], [], [], [], [], [], [], [], [], [], [], [], [], [], [], [], [], [], [], [], [], [], [], [], [], [], []]
def am_mH_2 : List (List (Nat × Nat × Nat × Nat)) := [[], [], [], [], [], [], [], [], [], [], [], [], [], [], [], [], [], [], [], [], [], [], [], [], [], [], [], [], [], [], [], []]
def am_mH_3 : List (List (Nat × Nat × Nat × Nat)) := [[], [], [], [], [], [], [], [], [], [], [], [], [], [], [], [], [], [], [], [], [], [], [], [], [], [], [], [], [], [], [], []]
def am_mH_4 : List (List (Nat × Nat × Nat × Nat)) := [[], [], [], [], [], [], [], [], [], [], [], [], [], [], [], [], [], [], [], [], [], [], [], [], [], [], [], [], [], [], [], []]
def am_mH_5 : List (List (Nat × Nat × Nat × Nat)) := [[], [], [], [], [], [], [], [], [], [], [], [], [], [], [], [], [], [], [], [], [], [], [], [], [], [], [], [], [], [], [], []]
def am_mH_6 : List (List (Nat × Nat × Nat × Nat)) := [[], [], [], [], [((0), (9), (12), (13)), ((0), (9), (15), (15))], [((0), (8), (11), (15))], [((0), (9), (12), (13))], [((0), (10), (13), (28)), ((0), (10), (17), (13))], [((0), (10), (13), (28))], [((0), (10), (13), (28)), ((0), (10), (17), (13))], [((0), (9), (12), (13))], [((0), (10), (13), (28)), ((0), (10), (17), (13))], [((0), (10), (13), (28))], [((0), (10), (13), (28))], [((0), (9), (12), (28))], [((0), (10), (13), (13)), ((0), (10), (17), (15))], [((0), (12), (15), (28)), ((0), (12), (19), (13))], [((0), (10), (13), (28))], [((0), (9), (12), (28))], [((0), (12), (15), (28)), ((0), (12), (19), (13)), ((0), (12), (23), (15))], [((0), (9), (12), (28))], [((0), (10), (13), (13))], [((0), (8), (11), (15))], [((0), (9), (12), (13))], [((0), (9), (12), (13))], [((0), (9), (12), (28))], [((0), (11), (14), (13))], [((0), (11), (14), (13))], [((0), (9), (12), (28))], [((0), (9), (12), (28)), ((0), (9), (15), (15))], []]
def am_mH (y : Nat) : List (Nat × Nat × Nat × Nat) := match y / 32 with
  | 0 => am_mH_0.getD (y % 32) []
  | 1 => am_mH_1.getD (y % 32) []
  | 2 => am_mH_2.getD (y % 32) []
  | 3 => am_mH_3.getD (y % 32) []
  | 4 => am_mH_4.getD (y % 32) []
  | 5 => am_mH_5.getD (y % 32) []
  | _ => am_mH_6.getD (y % 32) []
def am_cw (y : Nat) : Jvm.Cond := if am_mo y = 1 then .codeWith (am_mY y) (am_mB y) (am_mL y) (am_mR y) (am_mH y) else .code (am_mY y) (am_mB y) (am_mL y) (am_mR y)
/-- what the tables say of a method -/
def am_cf (y : Nat) : Prop := am_cw y ∈ am_tb ∧ Cond.initialized (am_mY y).cls ∈ am_tb ∧ ((am_mY y).cls ≠ "java/lang/invoke/MethodHandle" ∧ (am_mY y).cls ≠ "java/lang/invoke/VarHandle" ∧ (parseMethodDescriptor (am_mY y).desc).map (fun d => d.parameters.length) = some (am_np y)) ∧ plainName (am_mY y).cls = true ∧ am_mL y ≤ 16
set_option maxRecDepth 100000 in
theorem cf_P_init : am_cf y_P_init := ⟨am_tin 121 (by rfl) (by rfl), am_tin 99 (by decide +kernel) rfl, by decide +kernel, by decide +kernel, by decide +kernel⟩
theorem ci_P_init : Cond.instanceMethod (am_mY y_P_init) ∈ am_tb := am_tin 120 (by decide +kernel) rfl
set_option maxRecDepth 100000 in
theorem cf_P_append : am_cf y_P_append := ⟨am_tin 502 (by rfl) (by rfl), am_tin 99 (by decide +kernel) rfl, by decide +kernel, by decide +kernel, by decide +kernel⟩
theorem ci_P_append : Cond.instanceMethod (am_mY y_P_append) ∈ am_tb := am_tin 500 (by decide +kernel) rfl
theorem cv_P_append : Cond.selects (am_mY y_P_append).cls (am_mY y_P_append) (am_mY y_P_append) ∈ am_tb := am_tin 501 (by decide +kernel) rfl
set_option maxRecDepth 100000 in
theorem cf_P_clearText : am_cf y_P_clearText := ⟨am_tin 377 (by rfl) (by rfl), am_tin 99 (by decide +kernel) rfl, by decide +kernel, by decide +kernel, by decide +kernel⟩
theorem ci_P_clearText : Cond.instanceMethod (am_mY y_P_clearText) ∈ am_tb := am_tin 375 (by decide +kernel) rfl
theorem cv_P_clearText : Cond.selects (am_mY y_P_clearText).cls (am_mY y_P_clearText) (am_mY y_P_clearText) ∈ am_tb := am_tin 376 (by decide +kernel) rfl
set_option maxRecDepth 100000 in
theorem cf_P_errorPosition : am_cf y_P_errorPosition := ⟨am_tin 381 (by rfl) (by rfl), am_tin 99 (by decide +kernel) rfl, by decide +kernel, by decide +kernel, by decide +kernel⟩
theorem ci_P_errorPosition : Cond.instanceMethod (am_mY y_P_errorPosition) ∈ am_tb := am_tin 379 (by decide +kernel) rfl
theorem cv_P_errorPosition : Cond.selects (am_mY y_P_errorPosition).cls (am_mY y_P_errorPosition) (am_mY y_P_errorPosition) ∈ am_tb := am_tin 380 (by decide +kernel) rfl
set_option maxRecDepth 100000 in
theorem cf_P_load : am_cf y_P_load := ⟨am_tin 601 (by rfl) (by rfl), am_tin 99 (by decide +kernel) rfl, by decide +kernel, by decide +kernel, by decide +kernel⟩
theorem ci_P_load : Cond.instanceMethod (am_mY y_P_load) ∈ am_tb := am_tin 599 (by decide +kernel) rfl
theorem cv_P_load : Cond.selects (am_mY y_P_load).cls (am_mY y_P_load) (am_mY y_P_load) ∈ am_tb := am_tin 600 (by decide +kernel) rfl
set_option maxRecDepth 100000 in
theorem cf_P_about : am_cf y_P_about := ⟨am_tin 625 (by rfl) (by rfl), am_tin 99 (by decide +kernel) rfl, by decide +kernel, by decide +kernel, by decide +kernel⟩
theorem ci_P_about : Cond.instanceMethod (am_mY y_P_about) ∈ am_tb := am_tin 623 (by decide +kernel) rfl
theorem cv_P_about : Cond.selects (am_mY y_P_about).cls (am_mY y_P_about) (am_mY y_P_about) ∈ am_tb := am_tin 624 (by decide +kernel) rfl
set_option maxRecDepth 100000 in
theorem cf_P_row : am_cf y_P_row := ⟨am_tin 671 (by rfl) (by rfl), am_tin 99 (by decide +kernel) rfl, by decide +kernel, by decide +kernel, by decide +kernel⟩
theorem ci_P_row : Cond.instanceMethod (am_mY y_P_row) ∈ am_tb := am_tin 669 (by decide +kernel) rfl
theorem cv_P_row : Cond.selects (am_mY y_P_row).cls (am_mY y_P_row) (am_mY y_P_row) ∈ am_tb := am_tin 670 (by decide +kernel) rfl
set_option maxRecDepth 100000 in
theorem cf_P_amount : am_cf y_P_amount := ⟨am_tin 706 (by rfl) (by rfl), am_tin 99 (by decide +kernel) rfl, by decide +kernel, by decide +kernel, by decide +kernel⟩
theorem ci_P_amount : Cond.instanceMethod (am_mY y_P_amount) ∈ am_tb := am_tin 704 (by decide +kernel) rfl
theorem cv_P_amount : Cond.selects (am_mY y_P_amount).cls (am_mY y_P_amount) (am_mY y_P_amount) ∈ am_tb := am_tin 705 (by decide +kernel) rfl
set_option maxRecDepth 100000 in
theorem cf_P_span : am_cf y_P_span := ⟨am_tin 726 (by rfl) (by rfl), am_tin 99 (by decide +kernel) rfl, by decide +kernel, by decide +kernel, by decide +kernel⟩
theorem ci_P_span : Cond.instanceMethod (am_mY y_P_span) ∈ am_tb := am_tin 724 (by decide +kernel) rfl
theorem cv_P_span : Cond.selects (am_mY y_P_span).cls (am_mY y_P_span) (am_mY y_P_span) ∈ am_tb := am_tin 725 (by decide +kernel) rfl
set_option maxRecDepth 100000 in
theorem cf_P_note : am_cf y_P_note := ⟨am_tin 744 (by rfl) (by rfl), am_tin 99 (by decide +kernel) rfl, by decide +kernel, by decide +kernel, by decide +kernel⟩
theorem ci_P_note : Cond.instanceMethod (am_mY y_P_note) ∈ am_tb := am_tin 742 (by decide +kernel) rfl
theorem cv_P_note : Cond.selects (am_mY y_P_note).cls (am_mY y_P_note) (am_mY y_P_note) ∈ am_tb := am_tin 743 (by decide +kernel) rfl
set_option maxRecDepth 100000 in
theorem cf_P_page : am_cf y_P_page := ⟨am_tin 752 (by rfl) (by rfl), am_tin 99 (by decide +kernel) rfl, by decide +kernel, by decide +kernel, by decide +kernel⟩
theorem ci_P_page : Cond.instanceMethod (am_mY y_P_page) ∈ am_tb := am_tin 750 (by decide +kernel) rfl
theorem cv_P_page : Cond.selects (am_mY y_P_page).cls (am_mY y_P_page) (am_mY y_P_page) ∈ am_tb := am_tin 751 (by decide +kernel) rfl
set_option maxRecDepth 100000 in
theorem cf_P_brought : am_cf y_P_brought := ⟨am_tin 792 (by rfl) (by rfl), am_tin 99 (by decide +kernel) rfl, by decide +kernel, by decide +kernel, by decide +kernel⟩
theorem ci_P_brought : Cond.instanceMethod (am_mY y_P_brought) ∈ am_tb := am_tin 790 (by decide +kernel) rfl
theorem cv_P_brought : Cond.selects (am_mY y_P_brought).cls (am_mY y_P_brought) (am_mY y_P_brought) ∈ am_tb := am_tin 791 (by decide +kernel) rfl
set_option maxRecDepth 100000 in
theorem cf_P_carried : am_cf y_P_carried := ⟨am_tin 804 (by rfl) (by rfl), am_tin 99 (by decide +kernel) rfl, by decide +kernel, by decide +kernel, by decide +kernel⟩
theorem ci_P_carried : Cond.instanceMethod (am_mY y_P_carried) ∈ am_tb := am_tin 802 (by decide +kernel) rfl
theorem cv_P_carried : Cond.selects (am_mY y_P_carried).cls (am_mY y_P_carried) (am_mY y_P_carried) ∈ am_tb := am_tin 803 (by decide +kernel) rfl
set_option maxRecDepth 100000 in
theorem cf_P_richest : am_cf y_P_richest := ⟨am_tin 811 (by rfl) (by rfl), am_tin 99 (by decide +kernel) rfl, by decide +kernel, by decide +kernel, by decide +kernel⟩
theorem ci_P_richest : Cond.instanceMethod (am_mY y_P_richest) ∈ am_tb := am_tin 809 (by decide +kernel) rfl
theorem cv_P_richest : Cond.selects (am_mY y_P_richest).cls (am_mY y_P_richest) (am_mY y_P_richest) ∈ am_tb := am_tin 810 (by decide +kernel) rfl
set_option maxRecDepth 100000 in
theorem cf_P_addRow : am_cf y_P_addRow := ⟨am_tin 818 (by rfl) (by rfl), am_tin 99 (by decide +kernel) rfl, by decide +kernel, by decide +kernel, by decide +kernel⟩
theorem ci_P_addRow : Cond.instanceMethod (am_mY y_P_addRow) ∈ am_tb := am_tin 816 (by decide +kernel) rfl
theorem cv_P_addRow : Cond.selects (am_mY y_P_addRow).cls (am_mY y_P_addRow) (am_mY y_P_addRow) ∈ am_tb := am_tin 817 (by decide +kernel) rfl
set_option maxRecDepth 100000 in
theorem cf_P_setAmount : am_cf y_P_setAmount := ⟨am_tin 838 (by rfl) (by rfl), am_tin 99 (by decide +kernel) rfl, by decide +kernel, by decide +kernel, by decide +kernel⟩
theorem ci_P_setAmount : Cond.instanceMethod (am_mY y_P_setAmount) ∈ am_tb := am_tin 836 (by decide +kernel) rfl
theorem cv_P_setAmount : Cond.selects (am_mY y_P_setAmount).cls (am_mY y_P_setAmount) (am_mY y_P_setAmount) ∈ am_tb := am_tin 837 (by decide +kernel) rfl
set_option maxRecDepth 100000 in
theorem cf_P_keep : am_cf y_P_keep := ⟨am_tin 847 (by rfl) (by rfl), am_tin 99 (by decide +kernel) rfl, by decide +kernel, by decide +kernel, by decide +kernel⟩
theorem ci_P_keep : Cond.instanceMethod (am_mY y_P_keep) ∈ am_tb := am_tin 845 (by decide +kernel) rfl
theorem cv_P_keep : Cond.selects (am_mY y_P_keep).cls (am_mY y_P_keep) (am_mY y_P_keep) ∈ am_tb := am_tin 846 (by decide +kernel) rfl
set_option maxRecDepth 100000 in
theorem cf_P_removeRow : am_cf y_P_removeRow := ⟨am_tin 854 (by rfl) (by rfl), am_tin 99 (by decide +kernel) rfl, by decide +kernel, by decide +kernel, by decide +kernel⟩
theorem ci_P_removeRow : Cond.instanceMethod (am_mY y_P_removeRow) ∈ am_tb := am_tin 852 (by decide +kernel) rfl
theorem cv_P_removeRow : Cond.selects (am_mY y_P_removeRow).cls (am_mY y_P_removeRow) (am_mY y_P_removeRow) ∈ am_tb := am_tin 853 (by decide +kernel) rfl
set_option maxRecDepth 100000 in
theorem cf_P_addSpan : am_cf y_P_addSpan := ⟨am_tin 870 (by rfl) (by rfl), am_tin 99 (by decide +kernel) rfl, by decide +kernel, by decide +kernel, by decide +kernel⟩
theorem ci_P_addSpan : Cond.instanceMethod (am_mY y_P_addSpan) ∈ am_tb := am_tin 868 (by decide +kernel) rfl
theorem cv_P_addSpan : Cond.selects (am_mY y_P_addSpan).cls (am_mY y_P_addSpan) (am_mY y_P_addSpan) ∈ am_tb := am_tin 869 (by decide +kernel) rfl
set_option maxRecDepth 100000 in
theorem cf_P_removeSpan : am_cf y_P_removeSpan := ⟨am_tin 881 (by rfl) (by rfl), am_tin 99 (by decide +kernel) rfl, by decide +kernel, by decide +kernel, by decide +kernel⟩
theorem ci_P_removeSpan : Cond.instanceMethod (am_mY y_P_removeSpan) ∈ am_tb := am_tin 879 (by decide +kernel) rfl
theorem cv_P_removeSpan : Cond.selects (am_mY y_P_removeSpan).cls (am_mY y_P_removeSpan) (am_mY y_P_removeSpan) ∈ am_tb := am_tin 880 (by decide +kernel) rfl
set_option maxRecDepth 100000 in
theorem cf_P_setHeight : am_cf y_P_setHeight := ⟨am_tin 892 (by rfl) (by rfl), am_tin 99 (by decide +kernel) rfl, by decide +kernel, by decide +kernel, by decide +kernel⟩
theorem ci_P_setHeight : Cond.instanceMethod (am_mY y_P_setHeight) ∈ am_tb := am_tin 890 (by decide +kernel) rfl
theorem cv_P_setHeight : Cond.selects (am_mY y_P_setHeight).cls (am_mY y_P_setHeight) (am_mY y_P_setHeight) ∈ am_tb := am_tin 891 (by decide +kernel) rfl
set_option maxRecDepth 100000 in
theorem cf_P_undo : am_cf y_P_undo := ⟨am_tin 907 (by rfl) (by rfl), am_tin 99 (by decide +kernel) rfl, by decide +kernel, by decide +kernel, by decide +kernel⟩
theorem ci_P_undo : Cond.instanceMethod (am_mY y_P_undo) ∈ am_tb := am_tin 905 (by decide +kernel) rfl
theorem cv_P_undo : Cond.selects (am_mY y_P_undo).cls (am_mY y_P_undo) (am_mY y_P_undo) ∈ am_tb := am_tin 906 (by decide +kernel) rfl
set_option maxRecDepth 100000 in
theorem cf_P_heightFor : am_cf y_P_heightFor := ⟨am_tin 919 (by rfl) (by rfl), am_tin 99 (by decide +kernel) rfl, by decide +kernel, by decide +kernel, by decide +kernel⟩
theorem ci_P_heightFor : Cond.instanceMethod (am_mY y_P_heightFor) ∈ am_tb := am_tin 917 (by decide +kernel) rfl
theorem cv_P_heightFor : Cond.selects (am_mY y_P_heightFor).cls (am_mY y_P_heightFor) (am_mY y_P_heightFor) ∈ am_tb := am_tin 918 (by decide +kernel) rfl
set_option maxRecDepth 100000 in
theorem cf_P_evenest : am_cf y_P_evenest := ⟨am_tin 454 (by rfl) (by rfl), am_tin 99 (by decide +kernel) rfl, by decide +kernel, by decide +kernel, by decide +kernel⟩
theorem ci_P_evenest : Cond.instanceMethod (am_mY y_P_evenest) ∈ am_tb := am_tin 452 (by decide +kernel) rfl
theorem cv_P_evenest : Cond.selects (am_mY y_P_evenest).cls (am_mY y_P_evenest) (am_mY y_P_evenest) ∈ am_tb := am_tin 453 (by decide +kernel) rfl
set_option maxRecDepth 100000 in
theorem cf_P_evenCut : am_cf y_P_evenCut := ⟨am_tin 927 (by rfl) (by rfl), am_tin 99 (by decide +kernel) rfl, by decide +kernel, by decide +kernel, by decide +kernel⟩
theorem ci_P_evenCut : Cond.instanceMethod (am_mY y_P_evenCut) ∈ am_tb := am_tin 925 (by decide +kernel) rfl
theorem cv_P_evenCut : Cond.selects (am_mY y_P_evenCut).cls (am_mY y_P_evenCut) (am_mY y_P_evenCut) ∈ am_tb := am_tin 926 (by decide +kernel) rfl
set_option maxRecDepth 100000 in
theorem cf_P_emptyFrom : am_cf y_P_emptyFrom := ⟨am_tin 939 (by rfl) (by rfl), am_tin 99 (by decide +kernel) rfl, by decide +kernel, by decide +kernel, by decide +kernel⟩
theorem ci_P_emptyFrom : Cond.instanceMethod (am_mY y_P_emptyFrom) ∈ am_tb := am_tin 937 (by decide +kernel) rfl
theorem cv_P_emptyFrom : Cond.selects (am_mY y_P_emptyFrom).cls (am_mY y_P_emptyFrom) (am_mY y_P_emptyFrom) ∈ am_tb := am_tin 938 (by decide +kernel) rfl
set_option maxRecDepth 100000 in
theorem cf_P_runScript : am_cf y_P_runScript := ⟨am_tin 950 (by rfl) (by rfl), am_tin 99 (by decide +kernel) rfl, by decide +kernel, by decide +kernel, by decide +kernel⟩
theorem ci_P_runScript : Cond.instanceMethod (am_mY y_P_runScript) ∈ am_tb := am_tin 948 (by decide +kernel) rfl
theorem cv_P_runScript : Cond.selects (am_mY y_P_runScript).cls (am_mY y_P_runScript) (am_mY y_P_runScript) ∈ am_tb := am_tin 949 (by decide +kernel) rfl
set_option maxRecDepth 100000 in
theorem cf_P_simulate : am_cf y_P_simulate := ⟨am_tin 1013 (by rfl) (by rfl), am_tin 99 (by decide +kernel) rfl, by decide +kernel, by decide +kernel, by decide +kernel⟩
theorem ci_P_simulate : Cond.instanceMethod (am_mY y_P_simulate) ∈ am_tb := am_tin 1011 (by decide +kernel) rfl
theorem cv_P_simulate : Cond.selects (am_mY y_P_simulate).cls (am_mY y_P_simulate) (am_mY y_P_simulate) ∈ am_tb := am_tin 1012 (by decide +kernel) rfl
set_option maxRecDepth 100000 in
theorem cf_P_save : am_cf y_P_save := ⟨am_tin 1031 (by rfl) (by rfl), am_tin 99 (by decide +kernel) rfl, by decide +kernel, by decide +kernel, by decide +kernel⟩
theorem ci_P_save : Cond.instanceMethod (am_mY y_P_save) ∈ am_tb := am_tin 1029 (by decide +kernel) rfl
theorem cv_P_save : Cond.selects (am_mY y_P_save).cls (am_mY y_P_save) (am_mY y_P_save) ∈ am_tb := am_tin 1030 (by decide +kernel) rfl
set_option maxRecDepth 100000 in
theorem cf_P_restore : am_cf y_P_restore := ⟨am_tin 1047 (by rfl) (by rfl), am_tin 99 (by decide +kernel) rfl, by decide +kernel, by decide +kernel, by decide +kernel⟩
theorem ci_P_restore : Cond.instanceMethod (am_mY y_P_restore) ∈ am_tb := am_tin 1045 (by decide +kernel) rfl
theorem cv_P_restore : Cond.selects (am_mY y_P_restore).cls (am_mY y_P_restore) (am_mY y_P_restore) ∈ am_tb := am_tin 1046 (by decide +kernel) rfl
set_option maxRecDepth 100000 in
theorem cf_P_layOut : am_cf y_P_layOut := ⟨am_tin 633 (by rfl) (by rfl), am_tin 99 (by decide +kernel) rfl, by decide +kernel, by decide +kernel, by decide +kernel⟩
theorem ci_P_layOut : Cond.instanceMethod (am_mY y_P_layOut) ∈ am_tb := am_tin 632 (by decide +kernel) rfl
theorem cv_P_layOut : Cond.selects (am_mY y_P_layOut).cls (am_mY y_P_layOut) (am_mY y_P_layOut) ∈ am_tb := am_tin 31 (by decide +kernel) rfl
set_option maxRecDepth 100000 in
theorem cf_P_countPages : am_cf y_P_countPages := ⟨am_tin 629 (by rfl) (by rfl), am_tin 99 (by decide +kernel) rfl, by decide +kernel, by decide +kernel, by decide +kernel⟩
theorem ci_P_countPages : Cond.instanceMethod (am_mY y_P_countPages) ∈ am_tb := am_tin 628 (by decide +kernel) rfl
theorem cv_P_countPages : Cond.selects (am_mY y_P_countPages).cls (am_mY y_P_countPages) (am_mY y_P_countPages) ∈ am_tb := am_tin 30 (by decide +kernel) rfl
set_option maxRecDepth 100000 in
theorem cf_P_requireRow : am_cf y_P_requireRow := ⟨am_tin 675 (by rfl) (by rfl), am_tin 99 (by decide +kernel) rfl, by decide +kernel, by decide +kernel, by decide +kernel⟩
theorem ci_P_requireRow : Cond.instanceMethod (am_mY y_P_requireRow) ∈ am_tb := am_tin 674 (by decide +kernel) rfl
theorem cv_P_requireRow : Cond.selects (am_mY y_P_requireRow).cls (am_mY y_P_requireRow) (am_mY y_P_requireRow) ∈ am_tb := am_tin 37 (by decide +kernel) rfl
set_option maxRecDepth 100000 in
theorem cf_P_requireColumn : am_cf y_P_requireColumn := ⟨am_tin 710 (by rfl) (by rfl), am_tin 99 (by decide +kernel) rfl, by decide +kernel, by decide +kernel, by decide +kernel⟩
theorem ci_P_requireColumn : Cond.instanceMethod (am_mY y_P_requireColumn) ∈ am_tb := am_tin 709 (by decide +kernel) rfl
theorem cv_P_requireColumn : Cond.selects (am_mY y_P_requireColumn).cls (am_mY y_P_requireColumn) (am_mY y_P_requireColumn) ∈ am_tb := am_tin 39 (by decide +kernel) rfl
set_option maxRecDepth 100000 in
theorem cf_P_requireSpan : am_cf y_P_requireSpan := ⟨am_tin 730 (by rfl) (by rfl), am_tin 99 (by decide +kernel) rfl, by decide +kernel, by decide +kernel, by decide +kernel⟩
theorem ci_P_requireSpan : Cond.instanceMethod (am_mY y_P_requireSpan) ∈ am_tb := am_tin 729 (by decide +kernel) rfl
theorem cv_P_requireSpan : Cond.selects (am_mY y_P_requireSpan).cls (am_mY y_P_requireSpan) (am_mY y_P_requireSpan) ∈ am_tb := am_tin 42 (by decide +kernel) rfl
set_option maxRecDepth 100000 in
theorem cf_P_requirePage : am_cf y_P_requirePage := ⟨am_tin 756 (by rfl) (by rfl), am_tin 99 (by decide +kernel) rfl, by decide +kernel, by decide +kernel, by decide +kernel⟩
theorem ci_P_requirePage : Cond.instanceMethod (am_mY y_P_requirePage) ∈ am_tb := am_tin 755 (by decide +kernel) rfl
theorem cv_P_requirePage : Cond.selects (am_mY y_P_requirePage).cls (am_mY y_P_requirePage) (am_mY y_P_requirePage) ∈ am_tb := am_tin 44 (by decide +kernel) rfl
set_option maxRecDepth 100000 in
theorem cf_P_requireSlot : am_cf y_P_requireSlot := ⟨am_tin 1034 (by rfl) (by rfl), am_tin 99 (by decide +kernel) rfl, by decide +kernel, by decide +kernel, by decide +kernel⟩
theorem cs_P_requireSlot : Cond.static (am_mY y_P_requireSlot) ∈ am_tb := am_tin 1033 (by decide +kernel) rfl
set_option maxRecDepth 100000 in
theorem cf_P_withoutGroups : am_cf y_P_withoutGroups := ⟨am_tin 954 (by rfl) (by rfl), am_tin 99 (by decide +kernel) rfl, by decide +kernel, by decide +kernel, by decide +kernel⟩
theorem cs_P_withoutGroups : Cond.static (am_mY y_P_withoutGroups) ∈ am_tb := am_tin 953 (by decide +kernel) rfl
set_option maxRecDepth 100000 in
theorem cf_P_isIn : am_cf y_P_isIn := ⟨am_tin 484 (by rfl) (by rfl), am_tin 99 (by decide +kernel) rfl, by decide +kernel, by decide +kernel, by decide +kernel⟩
theorem cs_P_isIn : Cond.static (am_mY y_P_isIn) ∈ am_tb := am_tin 483 (by decide +kernel) rfl
set_option maxRecDepth 100000 in
theorem cf_Command_init : am_cf y_Command_init := ⟨am_tin 331 (by rfl) (by rfl), am_tin 107 (by decide +kernel) rfl, by decide +kernel, by decide +kernel, by decide +kernel⟩
theorem ci_Command_init : Cond.instanceMethod (am_mY y_Command_init) ∈ am_tb := am_tin 330 (by decide +kernel) rfl
set_option maxRecDepth 100000 in
theorem cf_Command_setDigits : am_cf y_Command_setDigits := ⟨am_tin 960 (by rfl) (by rfl), am_tin 107 (by decide +kernel) rfl, by decide +kernel, by decide +kernel, by decide +kernel⟩
theorem ci_Command_setDigits : Cond.instanceMethod (am_mY y_Command_setDigits) ∈ am_tb := am_tin 959 (by decide +kernel) rfl
theorem cv_Command_setDigits : Cond.selects (am_mY y_Command_setDigits).cls (am_mY y_Command_setDigits) (am_mY y_Command_setDigits) ∈ am_tb := am_tin 60 (by decide +kernel) rfl
set_option maxRecDepth 100000 in
theorem cf_Command_runOn : am_cf y_Command_runOn := ⟨am_tin 964 (by rfl) (by rfl), am_tin 107 (by decide +kernel) rfl, by decide +kernel, by decide +kernel, by decide +kernel⟩
theorem ci_Command_runOn : Cond.instanceMethod (am_mY y_Command_runOn) ∈ am_tb := am_tin 963 (by decide +kernel) rfl
theorem cv_Command_runOn : Cond.selects (am_mY y_Command_runOn).cls (am_mY y_Command_runOn) (am_mY y_Command_runOn) ∈ am_tb := am_tin 61 (by decide +kernel) rfl
set_option maxRecDepth 100000 in
theorem cf_Command_holds : am_cf y_Command_holds := ⟨am_tin 1001 (by rfl) (by rfl), am_tin 107 (by decide +kernel) rfl, by decide +kernel, by decide +kernel, by decide +kernel⟩
theorem ci_Command_holds : Cond.instanceMethod (am_mY y_Command_holds) ∈ am_tb := am_tin 1000 (by decide +kernel) rfl
theorem cv_Command_holds : Cond.selects (am_mY y_Command_holds).cls (am_mY y_Command_holds) (am_mY y_Command_holds) ∈ am_tb := am_tin 68 (by decide +kernel) rfl
set_option maxRecDepth 100000 in
theorem cf_Command_firstPair : am_cf y_Command_firstPair := ⟨am_tin 979 (by rfl) (by rfl), am_tin 107 (by decide +kernel) rfl, by decide +kernel, by decide +kernel, by decide +kernel⟩
theorem ci_Command_firstPair : Cond.instanceMethod (am_mY y_Command_firstPair) ∈ am_tb := am_tin 978 (by decide +kernel) rfl
theorem cv_Command_firstPair : Cond.selects (am_mY y_Command_firstPair).cls (am_mY y_Command_firstPair) (am_mY y_Command_firstPair) ∈ am_tb := am_tin 64 (by decide +kernel) rfl
set_option maxRecDepth 100000 in
theorem cf_Command_addsRow : am_cf y_Command_addsRow := ⟨am_tin 968 (by rfl) (by rfl), am_tin 107 (by decide +kernel) rfl, by decide +kernel, by decide +kernel, by decide +kernel⟩
theorem ci_Command_addsRow : Cond.instanceMethod (am_mY y_Command_addsRow) ∈ am_tb := am_tin 967 (by decide +kernel) rfl
theorem cv_Command_addsRow : Cond.selects (am_mY y_Command_addsRow).cls (am_mY y_Command_addsRow) (am_mY y_Command_addsRow) ∈ am_tb := am_tin 62 (by decide +kernel) rfl
set_option maxRecDepth 100000 in
theorem cf_Command_putsAmount : am_cf y_Command_putsAmount := ⟨am_tin 975 (by rfl) (by rfl), am_tin 107 (by decide +kernel) rfl, by decide +kernel, by decide +kernel, by decide +kernel⟩
theorem ci_Command_putsAmount : Cond.instanceMethod (am_mY y_Command_putsAmount) ∈ am_tb := am_tin 974 (by decide +kernel) rfl
theorem cv_Command_putsAmount : Cond.selects (am_mY y_Command_putsAmount).cls (am_mY y_Command_putsAmount) (am_mY y_Command_putsAmount) ∈ am_tb := am_tin 63 (by decide +kernel) rfl
set_option maxRecDepth 100000 in
theorem cf_Command_marksRow : am_cf y_Command_marksRow := ⟨am_tin 986 (by rfl) (by rfl), am_tin 107 (by decide +kernel) rfl, by decide +kernel, by decide +kernel, by decide +kernel⟩
theorem ci_Command_marksRow : Cond.instanceMethod (am_mY y_Command_marksRow) ∈ am_tb := am_tin 985 (by decide +kernel) rfl
theorem cv_Command_marksRow : Cond.selects (am_mY y_Command_marksRow).cls (am_mY y_Command_marksRow) (am_mY y_Command_marksRow) ∈ am_tb := am_tin 65 (by decide +kernel) rfl
set_option maxRecDepth 100000 in
theorem cf_Command_dropsRow : am_cf y_Command_dropsRow := ⟨am_tin 990 (by rfl) (by rfl), am_tin 107 (by decide +kernel) rfl, by decide +kernel, by decide +kernel, by decide +kernel⟩
theorem ci_Command_dropsRow : Cond.instanceMethod (am_mY y_Command_dropsRow) ∈ am_tb := am_tin 989 (by decide +kernel) rfl
theorem cv_Command_dropsRow : Cond.selects (am_mY y_Command_dropsRow).cls (am_mY y_Command_dropsRow) (am_mY y_Command_dropsRow) ∈ am_tb := am_tin 66 (by decide +kernel) rfl
set_option maxRecDepth 100000 in
theorem cf_Command_putsHeight : am_cf y_Command_putsHeight := ⟨am_tin 995 (by rfl) (by rfl), am_tin 107 (by decide +kernel) rfl, by decide +kernel, by decide +kernel, by decide +kernel⟩
theorem ci_Command_putsHeight : Cond.instanceMethod (am_mY y_Command_putsHeight) ∈ am_tb := am_tin 994 (by decide +kernel) rfl
theorem cv_Command_putsHeight : Cond.selects (am_mY y_Command_putsHeight).cls (am_mY y_Command_putsHeight) (am_mY y_Command_putsHeight) ∈ am_tb := am_tin 67 (by decide +kernel) rfl
set_option maxRecDepth 100000 in
theorem cf_Evener_init : am_cf y_Evener_init := ⟨am_tin 313 (by rfl) (by rfl), am_tin 106 (by decide +kernel) rfl, by decide +kernel, by decide +kernel, by decide +kernel⟩
theorem ci_Evener_init : Cond.instanceMethod (am_mY y_Evener_init) ∈ am_tb := am_tin 312 (by decide +kernel) rfl
set_option maxRecDepth 100000 in
theorem cf_Evener_leastCost : am_cf y_Evener_leastCost := ⟨am_tin 458 (by rfl) (by rfl), am_tin 106 (by decide +kernel) rfl, by decide +kernel, by decide +kernel, by decide +kernel⟩
theorem ci_Evener_leastCost : Cond.instanceMethod (am_mY y_Evener_leastCost) ∈ am_tb := am_tin 457 (by decide +kernel) rfl
theorem cv_Evener_leastCost : Cond.selects (am_mY y_Evener_leastCost).cls (am_mY y_Evener_leastCost) (am_mY y_Evener_leastCost) ∈ am_tb := am_tin 16 (by decide +kernel) rfl
set_option maxRecDepth 100000 in
theorem cf_Evener_chooseEnd : am_cf y_Evener_chooseEnd := ⟨am_tin 473 (by rfl) (by rfl), am_tin 106 (by decide +kernel) rfl, by decide +kernel, by decide +kernel, by decide +kernel⟩
theorem ci_Evener_chooseEnd : Cond.instanceMethod (am_mY y_Evener_chooseEnd) ∈ am_tb := am_tin 472 (by decide +kernel) rfl
theorem cv_Evener_chooseEnd : Cond.selects (am_mY y_Evener_chooseEnd).cls (am_mY y_Evener_chooseEnd) (am_mY y_Evener_chooseEnd) ∈ am_tb := am_tin 19 (by decide +kernel) rfl
set_option maxRecDepth 100000 in
theorem cf_Evener_costOfSheet : am_cf y_Evener_costOfSheet := ⟨am_tin 489 (by rfl) (by rfl), am_tin 106 (by decide +kernel) rfl, by decide +kernel, by decide +kernel, by decide +kernel⟩
theorem ci_Evener_costOfSheet : Cond.instanceMethod (am_mY y_Evener_costOfSheet) ∈ am_tb := am_tin 488 (by decide +kernel) rfl
theorem cv_Evener_costOfSheet : Cond.selects (am_mY y_Evener_costOfSheet).cls (am_mY y_Evener_costOfSheet) (am_mY y_Evener_costOfSheet) ∈ am_tb := am_tin 22 (by decide +kernel) rfl
set_option maxRecDepth 100000 in
theorem cf_Evener_lastOf : am_cf y_Evener_lastOf := ⟨am_tin 931 (by rfl) (by rfl), am_tin 106 (by decide +kernel) rfl, by decide +kernel, by decide +kernel, by decide +kernel⟩
theorem ci_Evener_lastOf : Cond.instanceMethod (am_mY y_Evener_lastOf) ∈ am_tb := am_tin 930 (by decide +kernel) rfl
theorem cv_Evener_lastOf : Cond.selects (am_mY y_Evener_lastOf).cls (am_mY y_Evener_lastOf) (am_mY y_Evener_lastOf) ∈ am_tb := am_tin 58 (by decide +kernel) rfl
set_option maxRecDepth 100000 in
theorem cf_History_init : am_cf y_History_init := ⟨am_tin 235 (by rfl) (by rfl), am_tin 102 (by decide +kernel) rfl, by decide +kernel, by decide +kernel, by decide +kernel⟩
theorem ci_History_init : Cond.instanceMethod (am_mY y_History_init) ∈ am_tb := am_tin 234 (by decide +kernel) rfl
set_option maxRecDepth 100000 in
theorem cf_History_forget : am_cf y_History_forget := ⟨am_tin 614 (by rfl) (by rfl), am_tin 102 (by decide +kernel) rfl, by decide +kernel, by decide +kernel, by decide +kernel⟩
theorem ci_History_forget : Cond.instanceMethod (am_mY y_History_forget) ∈ am_tb := am_tin 613 (by decide +kernel) rfl
theorem cv_History_forget : Cond.selects (am_mY y_History_forget).cls (am_mY y_History_forget) (am_mY y_History_forget) ∈ am_tb := am_tin 28 (by decide +kernel) rfl
set_option maxRecDepth 100000 in
theorem cf_History_remember : am_cf y_History_remember := ⟨am_tin 828 (by rfl) (by rfl), am_tin 102 (by decide +kernel) rfl, by decide +kernel, by decide +kernel, by decide +kernel⟩
theorem ci_History_remember : Cond.instanceMethod (am_mY y_History_remember) ∈ am_tb := am_tin 827 (by decide +kernel) rfl
theorem cv_History_remember : Cond.selects (am_mY y_History_remember).cls (am_mY y_History_remember) (am_mY y_History_remember) ∈ am_tb := am_tin 52 (by decide +kernel) rfl
set_option maxRecDepth 100000 in
theorem cf_History_takeBack : am_cf y_History_takeBack := ⟨am_tin 912 (by rfl) (by rfl), am_tin 102 (by decide +kernel) rfl, by decide +kernel, by decide +kernel, by decide +kernel⟩
theorem ci_History_takeBack : Cond.instanceMethod (am_mY y_History_takeBack) ∈ am_tb := am_tin 911 (by decide +kernel) rfl
theorem cv_History_takeBack : Cond.selects (am_mY y_History_takeBack).cls (am_mY y_History_takeBack) (am_mY y_History_takeBack) ∈ am_tb := am_tin 57 (by decide +kernel) rfl
set_option maxRecDepth 100000 in
theorem cf_Layout_init : am_cf y_Layout_init := ⟨am_tin 270 (by rfl) (by rfl), am_tin 104 (by decide +kernel) rfl, by decide +kernel, by decide +kernel, by decide +kernel⟩
theorem ci_Layout_init : Cond.instanceMethod (am_mY y_Layout_init) ∈ am_tb := am_tin 269 (by decide +kernel) rfl
set_option maxRecDepth 100000 in
theorem cf_Layout_lay : am_cf y_Layout_lay := ⟨am_tin 637 (by rfl) (by rfl), am_tin 104 (by decide +kernel) rfl, by decide +kernel, by decide +kernel, by decide +kernel⟩
theorem ci_Layout_lay : Cond.instanceMethod (am_mY y_Layout_lay) ∈ am_tb := am_tin 636 (by decide +kernel) rfl
theorem cv_Layout_lay : Cond.selects (am_mY y_Layout_lay).cls (am_mY y_Layout_lay) (am_mY y_Layout_lay) ∈ am_tb := am_tin 32 (by decide +kernel) rfl
set_option maxRecDepth 100000 in
theorem cf_Layout_lastThatFits : am_cf y_Layout_lastThatFits := ⟨am_tin 642 (by rfl) (by rfl), am_tin 104 (by decide +kernel) rfl, by decide +kernel, by decide +kernel, by decide +kernel⟩
theorem ci_Layout_lastThatFits : Cond.instanceMethod (am_mY y_Layout_lastThatFits) ∈ am_tb := am_tin 641 (by decide +kernel) rfl
theorem cv_Layout_lastThatFits : Cond.selects (am_mY y_Layout_lastThatFits).cls (am_mY y_Layout_lastThatFits) (am_mY y_Layout_lastThatFits) ∈ am_tb := am_tin 33 (by decide +kernel) rfl
set_option maxRecDepth 100000 in
theorem cf_Layout_firstEnd : am_cf y_Layout_firstEnd := ⟨am_tin 650 (by rfl) (by rfl), am_tin 104 (by decide +kernel) rfl, by decide +kernel, by decide +kernel, by decide +kernel⟩
theorem cs_Layout_firstEnd : Cond.static (am_mY y_Layout_firstEnd) ∈ am_tb := am_tin 649 (by decide +kernel) rfl
set_option maxRecDepth 100000 in
theorem cf_Layout_hasPage : am_cf y_Layout_hasPage := ⟨am_tin 760 (by rfl) (by rfl), am_tin 104 (by decide +kernel) rfl, by decide +kernel, by decide +kernel, by decide +kernel⟩
theorem ci_Layout_hasPage : Cond.instanceMethod (am_mY y_Layout_hasPage) ∈ am_tb := am_tin 759 (by decide +kernel) rfl
theorem cv_Layout_hasPage : Cond.selects (am_mY y_Layout_hasPage).cls (am_mY y_Layout_hasPage) (am_mY y_Layout_hasPage) ∈ am_tb := am_tin 45 (by decide +kernel) rfl
set_option maxRecDepth 100000 in
theorem cf_Layout_firstOf : am_cf y_Layout_firstOf := ⟨am_tin 769 (by rfl) (by rfl), am_tin 104 (by decide +kernel) rfl, by decide +kernel, by decide +kernel, by decide +kernel⟩
theorem ci_Layout_firstOf : Cond.instanceMethod (am_mY y_Layout_firstOf) ∈ am_tb := am_tin 768 (by decide +kernel) rfl
theorem cv_Layout_firstOf : Cond.selects (am_mY y_Layout_firstOf).cls (am_mY y_Layout_firstOf) (am_mY y_Layout_firstOf) ∈ am_tb := am_tin 47 (by decide +kernel) rfl
set_option maxRecDepth 100000 in
theorem cf_Layout_lastOf : am_cf y_Layout_lastOf := ⟨am_tin 773 (by rfl) (by rfl), am_tin 104 (by decide +kernel) rfl, by decide +kernel, by decide +kernel, by decide +kernel⟩
theorem ci_Layout_lastOf : Cond.instanceMethod (am_mY y_Layout_lastOf) ∈ am_tb := am_tin 772 (by decide +kernel) rfl
theorem cv_Layout_lastOf : Cond.selects (am_mY y_Layout_lastOf).cls (am_mY y_Layout_lastOf) (am_mY y_Layout_lastOf) ∈ am_tb := am_tin 48 (by decide +kernel) rfl
set_option maxRecDepth 100000 in
theorem cf_Layout_pageOf : am_cf y_Layout_pageOf := ⟨am_tin 662 (by rfl) (by rfl), am_tin 104 (by decide +kernel) rfl, by decide +kernel, by decide +kernel, by decide +kernel⟩
theorem ci_Layout_pageOf : Cond.instanceMethod (am_mY y_Layout_pageOf) ∈ am_tb := am_tin 661 (by decide +kernel) rfl
theorem cv_Layout_pageOf : Cond.selects (am_mY y_Layout_pageOf).cls (am_mY y_Layout_pageOf) (am_mY y_Layout_pageOf) ∈ am_tb := am_tin 36 (by decide +kernel) rfl
set_option maxRecDepth 100000 in
theorem cf_Layout_pagesOfSpan : am_cf y_Layout_pagesOfSpan := ⟨am_tin 658 (by rfl) (by rfl), am_tin 104 (by decide +kernel) rfl, by decide +kernel, by decide +kernel, by decide +kernel⟩
theorem ci_Layout_pagesOfSpan : Cond.instanceMethod (am_mY y_Layout_pagesOfSpan) ∈ am_tb := am_tin 657 (by decide +kernel) rfl
theorem cv_Layout_pagesOfSpan : Cond.selects (am_mY y_Layout_pagesOfSpan).cls (am_mY y_Layout_pagesOfSpan) (am_mY y_Layout_pagesOfSpan) ∈ am_tb := am_tin 35 (by decide +kernel) rfl
set_option maxRecDepth 100000 in
theorem cf_Layout_countCutSpans : am_cf y_Layout_countCutSpans := ⟨am_tin 654 (by rfl) (by rfl), am_tin 104 (by decide +kernel) rfl, by decide +kernel, by decide +kernel, by decide +kernel⟩
theorem ci_Layout_countCutSpans : Cond.instanceMethod (am_mY y_Layout_countCutSpans) ∈ am_tb := am_tin 653 (by decide +kernel) rfl
theorem cv_Layout_countCutSpans : Cond.selects (am_mY y_Layout_countCutSpans).cls (am_mY y_Layout_countCutSpans) (am_mY y_Layout_countCutSpans) ∈ am_tb := am_tin 34 (by decide +kernel) rfl
set_option maxRecDepth 100000 in
theorem cf_Layout_sheetOf : am_cf y_Layout_sheetOf := ⟨am_tin 765 (by rfl) (by rfl), am_tin 104 (by decide +kernel) rfl, by decide +kernel, by decide +kernel, by decide +kernel⟩
theorem ci_Layout_sheetOf : Cond.instanceMethod (am_mY y_Layout_sheetOf) ∈ am_tb := am_tin 764 (by decide +kernel) rfl
theorem cv_Layout_sheetOf : Cond.selects (am_mY y_Layout_sheetOf).cls (am_mY y_Layout_sheetOf) (am_mY y_Layout_sheetOf) ∈ am_tb := am_tin 46 (by decide +kernel) rfl
set_option maxRecDepth 100000 in
theorem cf_Layout_emptyFromRow : am_cf y_Layout_emptyFromRow := ⟨am_tin 943 (by rfl) (by rfl), am_tin 104 (by decide +kernel) rfl, by decide +kernel, by decide +kernel, by decide +kernel⟩
theorem ci_Layout_emptyFromRow : Cond.instanceMethod (am_mY y_Layout_emptyFromRow) ∈ am_tb := am_tin 942 (by decide +kernel) rfl
theorem cv_Layout_emptyFromRow : Cond.selects (am_mY y_Layout_emptyFromRow).cls (am_mY y_Layout_emptyFromRow) (am_mY y_Layout_emptyFromRow) ∈ am_tb := am_tin 59 (by decide +kernel) rfl
set_option maxRecDepth 100000 in
theorem cf_Layout_fill : am_cf y_Layout_fill := ⟨am_tin 777 (by rfl) (by rfl), am_tin 104 (by decide +kernel) rfl, by decide +kernel, by decide +kernel, by decide +kernel⟩
theorem ci_Layout_fill : Cond.instanceMethod (am_mY y_Layout_fill) ∈ am_tb := am_tin 776 (by decide +kernel) rfl
theorem cv_Layout_fill : Cond.selects (am_mY y_Layout_fill).cls (am_mY y_Layout_fill) (am_mY y_Layout_fill) ∈ am_tb := am_tin 49 (by decide +kernel) rfl
set_option maxRecDepth 100000 in
theorem cf_Sheet_init : am_cf y_Sheet_init := ⟨am_tin 276 (by rfl) (by rfl), am_tin 105 (by decide +kernel) rfl, by decide +kernel, by decide +kernel, by decide +kernel⟩
theorem ci_Sheet_init : Cond.instanceMethod (am_mY y_Sheet_init) ∈ am_tb := am_tin 275 (by decide +kernel) rfl
set_option maxRecDepth 100000 in
theorem cf_Sheet_begin : am_cf y_Sheet_begin := ⟨am_tin 477 (by rfl) (by rfl), am_tin 105 (by decide +kernel) rfl, by decide +kernel, by decide +kernel, by decide +kernel⟩
theorem ci_Sheet_begin : Cond.instanceMethod (am_mY y_Sheet_begin) ∈ am_tb := am_tin 476 (by decide +kernel) rfl
theorem cv_Sheet_begin : Cond.selects (am_mY y_Sheet_begin).cls (am_mY y_Sheet_begin) (am_mY y_Sheet_begin) ∈ am_tb := am_tin 20 (by decide +kernel) rfl
set_option maxRecDepth 100000 in
theorem cf_Sheet_take : am_cf y_Sheet_take := ⟨am_tin 481 (by rfl) (by rfl), am_tin 105 (by decide +kernel) rfl, by decide +kernel, by decide +kernel, by decide +kernel⟩
theorem ci_Sheet_take : Cond.instanceMethod (am_mY y_Sheet_take) ∈ am_tb := am_tin 480 (by decide +kernel) rfl
theorem cv_Sheet_take : Cond.selects (am_mY y_Sheet_take).cls (am_mY y_Sheet_take) (am_mY y_Sheet_take) ∈ am_tb := am_tin 21 (by decide +kernel) rfl
set_option maxRecDepth 100000 in
theorem cf_Sheet_needed : am_cf y_Sheet_needed := ⟨am_tin 493 (by rfl) (by rfl), am_tin 105 (by decide +kernel) rfl, by decide +kernel, by decide +kernel, by decide +kernel⟩
theorem ci_Sheet_needed : Cond.instanceMethod (am_mY y_Sheet_needed) ∈ am_tb := am_tin 492 (by decide +kernel) rfl
theorem cv_Sheet_needed : Cond.selects (am_mY y_Sheet_needed).cls (am_mY y_Sheet_needed) (am_mY y_Sheet_needed) ∈ am_tb := am_tin 23 (by decide +kernel) rfl
set_option maxRecDepth 100000 in
theorem cf_Sheet_noteBits : am_cf y_Sheet_noteBits := ⟨am_tin 784 (by rfl) (by rfl), am_tin 105 (by decide +kernel) rfl, by decide +kernel, by decide +kernel, by decide +kernel⟩
theorem ci_Sheet_noteBits : Cond.instanceMethod (am_mY y_Sheet_noteBits) ∈ am_tb := am_tin 783 (by decide +kernel) rfl
theorem cv_Sheet_noteBits : Cond.selects (am_mY y_Sheet_noteBits).cls (am_mY y_Sheet_noteBits) (am_mY y_Sheet_noteBits) ∈ am_tb := am_tin 50 (by decide +kernel) rfl
set_option maxRecDepth 100000 in
theorem cf_Slots_init : am_cf y_Slots_init := ⟨am_tin 255 (by rfl) (by rfl), am_tin 103 (by decide +kernel) rfl, by decide +kernel, by decide +kernel, by decide +kernel⟩
theorem ci_Slots_init : Cond.instanceMethod (am_mY y_Slots_init) ∈ am_tb := am_tin 254 (by decide +kernel) rfl
set_option maxRecDepth 100000 in
theorem cf_Slots_empty : am_cf y_Slots_empty := ⟨am_tin 618 (by rfl) (by rfl), am_tin 103 (by decide +kernel) rfl, by decide +kernel, by decide +kernel, by decide +kernel⟩
theorem ci_Slots_empty : Cond.instanceMethod (am_mY y_Slots_empty) ∈ am_tb := am_tin 617 (by decide +kernel) rfl
theorem cv_Slots_empty : Cond.selects (am_mY y_Slots_empty).cls (am_mY y_Slots_empty) (am_mY y_Slots_empty) ∈ am_tb := am_tin 29 (by decide +kernel) rfl
set_option maxRecDepth 100000 in
theorem cf_Slots_isFilled : am_cf y_Slots_isFilled := ⟨am_tin 1051 (by rfl) (by rfl), am_tin 103 (by decide +kernel) rfl, by decide +kernel, by decide +kernel, by decide +kernel⟩
theorem ci_Slots_isFilled : Cond.instanceMethod (am_mY y_Slots_isFilled) ∈ am_tb := am_tin 1050 (by decide +kernel) rfl
theorem cv_Slots_isFilled : Cond.selects (am_mY y_Slots_isFilled).cls (am_mY y_Slots_isFilled) (am_mY y_Slots_isFilled) ∈ am_tb := am_tin 71 (by decide +kernel) rfl
set_option maxRecDepth 100000 in
theorem cf_Slots_put : am_cf y_Slots_put := ⟨am_tin 1039 (by rfl) (by rfl), am_tin 103 (by decide +kernel) rfl, by decide +kernel, by decide +kernel, by decide +kernel⟩
theorem ci_Slots_put : Cond.instanceMethod (am_mY y_Slots_put) ∈ am_tb := am_tin 1038 (by decide +kernel) rfl
theorem cv_Slots_put : Cond.selects (am_mY y_Slots_put).cls (am_mY y_Slots_put) (am_mY y_Slots_put) ∈ am_tb := am_tin 70 (by decide +kernel) rfl
set_option maxRecDepth 100000 in
theorem cf_Slots_copyTo : am_cf y_Slots_copyTo := ⟨am_tin 1056 (by rfl) (by rfl), am_tin 103 (by decide +kernel) rfl, by decide +kernel, by decide +kernel, by decide +kernel⟩
theorem ci_Slots_copyTo : Cond.instanceMethod (am_mY y_Slots_copyTo) ∈ am_tb := am_tin 1055 (by decide +kernel) rfl
theorem cv_Slots_copyTo : Cond.selects (am_mY y_Slots_copyTo).cls (am_mY y_Slots_copyTo) (am_mY y_Slots_copyTo) ∈ am_tb := am_tin 72 (by decide +kernel) rfl
set_option maxRecDepth 100000 in
theorem cf_Table_init : am_cf y_Table_init := ⟨am_tin 147 (by rfl) (by rfl), am_tin 101 (by decide +kernel) rfl, by decide +kernel, by decide +kernel, by decide +kernel⟩
theorem ci_Table_init : Cond.instanceMethod (am_mY y_Table_init) ∈ am_tb := am_tin 146 (by decide +kernel) rfl
set_option maxRecDepth 100000 in
theorem cf_Table_makeNew : am_cf y_Table_makeNew := ⟨am_tin 152 (by rfl) (by rfl), am_tin 101 (by decide +kernel) rfl, by decide +kernel, by decide +kernel, by decide +kernel⟩
theorem ci_Table_makeNew : Cond.instanceMethod (am_mY y_Table_makeNew) ∈ am_tb := am_tin 151 (by decide +kernel) rfl
theorem cv_Table_makeNew : Cond.selects (am_mY y_Table_makeNew).cls (am_mY y_Table_makeNew) (am_mY y_Table_makeNew) ∈ am_tb := am_tin 0 (by decide +kernel) rfl
set_option maxRecDepth 100000 in
theorem cf_Table_copyFrom : am_cf y_Table_copyFrom := ⟨am_tin 607 (by rfl) (by rfl), am_tin 101 (by decide +kernel) rfl, by decide +kernel, by decide +kernel, by decide +kernel⟩
theorem ci_Table_copyFrom : Cond.instanceMethod (am_mY y_Table_copyFrom) ∈ am_tb := am_tin 606 (by decide +kernel) rfl
theorem cv_Table_copyFrom : Cond.selects (am_mY y_Table_copyFrom).cls (am_mY y_Table_copyFrom) (am_mY y_Table_copyFrom) ∈ am_tb := am_tin 27 (by decide +kernel) rfl
set_option maxRecDepth 100000 in
theorem cf_Table_hasRow : am_cf y_Table_hasRow := ⟨am_tin 679 (by rfl) (by rfl), am_tin 101 (by decide +kernel) rfl, by decide +kernel, by decide +kernel, by decide +kernel⟩
theorem ci_Table_hasRow : Cond.instanceMethod (am_mY y_Table_hasRow) ∈ am_tb := am_tin 678 (by decide +kernel) rfl
theorem cv_Table_hasRow : Cond.selects (am_mY y_Table_hasRow).cls (am_mY y_Table_hasRow) (am_mY y_Table_hasRow) ∈ am_tb := am_tin 38 (by decide +kernel) rfl
set_option maxRecDepth 100000 in
theorem cf_Table_hasColumn : am_cf y_Table_hasColumn := ⟨am_tin 714 (by rfl) (by rfl), am_tin 101 (by decide +kernel) rfl, by decide +kernel, by decide +kernel, by decide +kernel⟩
theorem ci_Table_hasColumn : Cond.instanceMethod (am_mY y_Table_hasColumn) ∈ am_tb := am_tin 713 (by decide +kernel) rfl
theorem cv_Table_hasColumn : Cond.selects (am_mY y_Table_hasColumn).cls (am_mY y_Table_hasColumn) (am_mY y_Table_hasColumn) ∈ am_tb := am_tin 40 (by decide +kernel) rfl
set_option maxRecDepth 100000 in
theorem cf_Table_hasSpan : am_cf y_Table_hasSpan := ⟨am_tin 734 (by rfl) (by rfl), am_tin 101 (by decide +kernel) rfl, by decide +kernel, by decide +kernel, by decide +kernel⟩
theorem ci_Table_hasSpan : Cond.instanceMethod (am_mY y_Table_hasSpan) ∈ am_tb := am_tin 733 (by decide +kernel) rfl
theorem cv_Table_hasSpan : Cond.selects (am_mY y_Table_hasSpan).cls (am_mY y_Table_hasSpan) (am_mY y_Table_hasSpan) ∈ am_tb := am_tin 43 (by decide +kernel) rfl
set_option maxRecDepth 100000 in
theorem cf_Table_isFull : am_cf y_Table_isFull := ⟨am_tin 416 (by rfl) (by rfl), am_tin 101 (by decide +kernel) rfl, by decide +kernel, by decide +kernel, by decide +kernel⟩
theorem ci_Table_isFull : Cond.instanceMethod (am_mY y_Table_isFull) ∈ am_tb := am_tin 415 (by decide +kernel) rfl
theorem cv_Table_isFull : Cond.selects (am_mY y_Table_isFull).cls (am_mY y_Table_isFull) (am_mY y_Table_isFull) ∈ am_tb := am_tin 7 (by decide +kernel) rfl
set_option maxRecDepth 100000 in
theorem cf_Table_hasAllSpans : am_cf y_Table_hasAllSpans := ⟨am_tin 441 (by rfl) (by rfl), am_tin 101 (by decide +kernel) rfl, by decide +kernel, by decide +kernel, by decide +kernel⟩
theorem ci_Table_hasAllSpans : Cond.instanceMethod (am_mY y_Table_hasAllSpans) ∈ am_tb := am_tin 440 (by decide +kernel) rfl
theorem cv_Table_hasAllSpans : Cond.selects (am_mY y_Table_hasAllSpans).cls (am_mY y_Table_hasAllSpans) (am_mY y_Table_hasAllSpans) ∈ am_tb := am_tin 13 (by decide +kernel) rfl
set_option maxRecDepth 100000 in
theorem cf_Table_allowsRow : am_cf y_Table_allowsRow := ⟨am_tin 821 (by rfl) (by rfl), am_tin 101 (by decide +kernel) rfl, by decide +kernel, by decide +kernel, by decide +kernel⟩
theorem cs_Table_allowsRow : Cond.static (am_mY y_Table_allowsRow) ∈ am_tb := am_tin 820 (by decide +kernel) rfl
set_option maxRecDepth 100000 in
theorem cf_Table_allowsHeight : am_cf y_Table_allowsHeight := ⟨am_tin 895 (by rfl) (by rfl), am_tin 101 (by decide +kernel) rfl, by decide +kernel, by decide +kernel, by decide +kernel⟩
theorem cs_Table_allowsHeight : Cond.static (am_mY y_Table_allowsHeight) ∈ am_tb := am_tin 894 (by decide +kernel) rfl
set_option maxRecDepth 100000 in
theorem cf_Table_putHeight : am_cf y_Table_putHeight := ⟨am_tin 900 (by rfl) (by rfl), am_tin 101 (by decide +kernel) rfl, by decide +kernel, by decide +kernel, by decide +kernel⟩
theorem ci_Table_putHeight : Cond.instanceMethod (am_mY y_Table_putHeight) ∈ am_tb := am_tin 899 (by decide +kernel) rfl
theorem cv_Table_putHeight : Cond.selects (am_mY y_Table_putHeight).cls (am_mY y_Table_putHeight) (am_mY y_Table_putHeight) ∈ am_tb := am_tin 56 (by decide +kernel) rfl
set_option maxRecDepth 100000 in
theorem cf_Table_amountAt : am_cf y_Table_amountAt := ⟨am_tin 719 (by rfl) (by rfl), am_tin 101 (by decide +kernel) rfl, by decide +kernel, by decide +kernel, by decide +kernel⟩
theorem ci_Table_amountAt : Cond.instanceMethod (am_mY y_Table_amountAt) ∈ am_tb := am_tin 718 (by decide +kernel) rfl
theorem cv_Table_amountAt : Cond.selects (am_mY y_Table_amountAt).cls (am_mY y_Table_amountAt) (am_mY y_Table_amountAt) ∈ am_tb := am_tin 41 (by decide +kernel) rfl
set_option maxRecDepth 100000 in
theorem cf_Table_putAmount : am_cf y_Table_putAmount := ⟨am_tin 428 (by rfl) (by rfl), am_tin 101 (by decide +kernel) rfl, by decide +kernel, by decide +kernel, by decide +kernel⟩
theorem ci_Table_putAmount : Cond.instanceMethod (am_mY y_Table_putAmount) ∈ am_tb := am_tin 427 (by decide +kernel) rfl
theorem cv_Table_putAmount : Cond.selects (am_mY y_Table_putAmount).cls (am_mY y_Table_putAmount) (am_mY y_Table_putAmount) ∈ am_tb := am_tin 10 (by decide +kernel) rfl
set_option maxRecDepth 100000 in
theorem cf_Table_sumOfRows : am_cf y_Table_sumOfRows := ⟨am_tin 796 (by rfl) (by rfl), am_tin 101 (by decide +kernel) rfl, by decide +kernel, by decide +kernel, by decide +kernel⟩
theorem ci_Table_sumOfRows : Cond.instanceMethod (am_mY y_Table_sumOfRows) ∈ am_tb := am_tin 795 (by decide +kernel) rfl
theorem cv_Table_sumOfRows : Cond.selects (am_mY y_Table_sumOfRows).cls (am_mY y_Table_sumOfRows) (am_mY y_Table_sumOfRows) ∈ am_tb := am_tin 51 (by decide +kernel) rfl
set_option maxRecDepth 100000 in
theorem cf_Table_putRow : am_cf y_Table_putRow := ⟨am_tin 424 (by rfl) (by rfl), am_tin 101 (by decide +kernel) rfl, by decide +kernel, by decide +kernel, by decide +kernel⟩
theorem ci_Table_putRow : Cond.instanceMethod (am_mY y_Table_putRow) ∈ am_tb := am_tin 423 (by decide +kernel) rfl
theorem cv_Table_putRow : Cond.selects (am_mY y_Table_putRow).cls (am_mY y_Table_putRow) (am_mY y_Table_putRow) ∈ am_tb := am_tin 9 (by decide +kernel) rfl
set_option maxRecDepth 100000 in
theorem cf_Table_dropRow : am_cf y_Table_dropRow := ⟨am_tin 858 (by rfl) (by rfl), am_tin 101 (by decide +kernel) rfl, by decide +kernel, by decide +kernel, by decide +kernel⟩
theorem ci_Table_dropRow : Cond.instanceMethod (am_mY y_Table_dropRow) ∈ am_tb := am_tin 857 (by decide +kernel) rfl
theorem cv_Table_dropRow : Cond.selects (am_mY y_Table_dropRow).cls (am_mY y_Table_dropRow) (am_mY y_Table_dropRow) ∈ am_tb := am_tin 53 (by decide +kernel) rfl
set_option maxRecDepth 100000 in
theorem cf_Table_takeRowFromSpans : am_cf y_Table_takeRowFromSpans := ⟨am_tin 862 (by rfl) (by rfl), am_tin 101 (by decide +kernel) rfl, by decide +kernel, by decide +kernel, by decide +kernel⟩
theorem ci_Table_takeRowFromSpans : Cond.instanceMethod (am_mY y_Table_takeRowFromSpans) ∈ am_tb := am_tin 861 (by decide +kernel) rfl
theorem cv_Table_takeRowFromSpans : Cond.selects (am_mY y_Table_takeRowFromSpans).cls (am_mY y_Table_takeRowFromSpans) (am_mY y_Table_takeRowFromSpans) ∈ am_tb := am_tin 54 (by decide +kernel) rfl
set_option maxRecDepth 100000 in
theorem cf_Table_putSpan : am_cf y_Table_putSpan := ⟨am_tin 449 (by rfl) (by rfl), am_tin 101 (by decide +kernel) rfl, by decide +kernel, by decide +kernel, by decide +kernel⟩
theorem ci_Table_putSpan : Cond.instanceMethod (am_mY y_Table_putSpan) ∈ am_tb := am_tin 448 (by decide +kernel) rfl
theorem cv_Table_putSpan : Cond.selects (am_mY y_Table_putSpan).cls (am_mY y_Table_putSpan) (am_mY y_Table_putSpan) ∈ am_tb := am_tin 15 (by decide +kernel) rfl
set_option maxRecDepth 100000 in
theorem cf_Table_dropSpan : am_cf y_Table_dropSpan := ⟨am_tin 885 (by rfl) (by rfl), am_tin 101 (by decide +kernel) rfl, by decide +kernel, by decide +kernel, by decide +kernel⟩
theorem ci_Table_dropSpan : Cond.instanceMethod (am_mY y_Table_dropSpan) ∈ am_tb := am_tin 884 (by decide +kernel) rfl
theorem cv_Table_dropSpan : Cond.selects (am_mY y_Table_dropSpan).cls (am_mY y_Table_dropSpan) (am_mY y_Table_dropSpan) ∈ am_tb := am_tin 55 (by decide +kernel) rfl
set_option maxRecDepth 100000 in
theorem cf_Table_cutRows : am_cf y_Table_cutRows := ⟨am_tin 466 (by rfl) (by rfl), am_tin 101 (by decide +kernel) rfl, by decide +kernel, by decide +kernel, by decide +kernel⟩
theorem ci_Table_cutRows : Cond.instanceMethod (am_mY y_Table_cutRows) ∈ am_tb := am_tin 465 (by decide +kernel) rfl
theorem cv_Table_cutRows : Cond.selects (am_mY y_Table_cutRows).cls (am_mY y_Table_cutRows) (am_mY y_Table_cutRows) ∈ am_tb := am_tin 18 (by decide +kernel) rfl
set_option maxRecDepth 100000 in
theorem cf_Table_endRows : am_cf y_Table_endRows := ⟨am_tin 462 (by rfl) (by rfl), am_tin 101 (by decide +kernel) rfl, by decide +kernel, by decide +kernel, by decide +kernel⟩
theorem ci_Table_endRows : Cond.instanceMethod (am_mY y_Table_endRows) ∈ am_tb := am_tin 461 (by decide +kernel) rfl
theorem cv_Table_endRows : Cond.selects (am_mY y_Table_endRows).cls (am_mY y_Table_endRows) (am_mY y_Table_endRows) ∈ am_tb := am_tin 17 (by decide +kernel) rfl
set_option maxRecDepth 100000 in
theorem cf_Table_upTo : am_cf y_Table_upTo := ⟨am_tin 469 (by rfl) (by rfl), am_tin 101 (by decide +kernel) rfl, by decide +kernel, by decide +kernel, by decide +kernel⟩
theorem cs_Table_upTo : Cond.static (am_mY y_Table_upTo) ∈ am_tb := am_tin 468 (by decide +kernel) rfl
set_option maxRecDepth 100000 in
theorem cf_Table_playRound : am_cf y_Table_playRound := ⟨am_tin 1020 (by rfl) (by rfl), am_tin 101 (by decide +kernel) rfl, by decide +kernel, by decide +kernel, by decide +kernel⟩
theorem ci_Table_playRound : Cond.instanceMethod (am_mY y_Table_playRound) ∈ am_tb := am_tin 1019 (by decide +kernel) rfl
theorem cv_Table_playRound : Cond.selects (am_mY y_Table_playRound).cls (am_mY y_Table_playRound) (am_mY y_Table_playRound) ∈ am_tb := am_tin 69 (by decide +kernel) rfl
set_option maxRecDepth 100000 in
theorem cf_Text_init : am_cf y_Text_init := ⟨am_tin 129 (by rfl) (by rfl), am_tin 100 (by decide +kernel) rfl, by decide +kernel, by decide +kernel, by decide +kernel⟩
theorem ci_Text_init : Cond.instanceMethod (am_mY y_Text_init) ∈ am_tb := am_tin 128 (by decide +kernel) rfl
set_option maxRecDepth 100000 in
theorem cf_Text_isFull : am_cf y_Text_isFull := ⟨am_tin 574 (by rfl) (by rfl), am_tin 100 (by decide +kernel) rfl, by decide +kernel, by decide +kernel, by decide +kernel⟩
theorem ci_Text_isFull : Cond.instanceMethod (am_mY y_Text_isFull) ∈ am_tb := am_tin 573 (by decide +kernel) rfl
theorem cv_Text_isFull : Cond.selects (am_mY y_Text_isFull).cls (am_mY y_Text_isFull) (am_mY y_Text_isFull) ∈ am_tb := am_tin 25 (by decide +kernel) rfl
set_option maxRecDepth 100000 in
theorem cf_Text_put : am_cf y_Text_put := ⟨am_tin 594 (by rfl) (by rfl), am_tin 100 (by decide +kernel) rfl, by decide +kernel, by decide +kernel, by decide +kernel⟩
theorem ci_Text_put : Cond.instanceMethod (am_mY y_Text_put) ∈ am_tb := am_tin 593 (by decide +kernel) rfl
theorem cv_Text_put : Cond.selects (am_mY y_Text_put).cls (am_mY y_Text_put) (am_mY y_Text_put) ∈ am_tb := am_tin 26 (by decide +kernel) rfl
set_option maxRecDepth 100000 in
theorem cf_Text_readInto : am_cf y_Text_readInto := ⟨am_tin 385 (by rfl) (by rfl), am_tin 100 (by decide +kernel) rfl, by decide +kernel, by decide +kernel, by decide +kernel⟩
theorem ci_Text_readInto : Cond.instanceMethod (am_mY y_Text_readInto) ∈ am_tb := am_tin 384 (by decide +kernel) rfl
theorem cv_Text_readInto : Cond.selects (am_mY y_Text_readInto).cls (am_mY y_Text_readInto) (am_mY y_Text_readInto) ∈ am_tb := am_tin 1 (by decide +kernel) rfl
set_option maxRecDepth 100000 in
theorem cf_Text_readHead : am_cf y_Text_readHead := ⟨am_tin 390 (by rfl) (by rfl), am_tin 100 (by decide +kernel) rfl, by decide +kernel, by decide +kernel, by decide +kernel⟩
theorem ci_Text_readHead : Cond.instanceMethod (am_mY y_Text_readHead) ∈ am_tb := am_tin 389 (by decide +kernel) rfl
theorem cv_Text_readHead : Cond.selects (am_mY y_Text_readHead).cls (am_mY y_Text_readHead) (am_mY y_Text_readHead) ∈ am_tb := am_tin 2 (by decide +kernel) rfl
set_option maxRecDepth 100000 in
theorem cf_Text_readPart : am_cf y_Text_readPart := ⟨am_tin 412 (by rfl) (by rfl), am_tin 100 (by decide +kernel) rfl, by decide +kernel, by decide +kernel, by decide +kernel⟩
theorem ci_Text_readPart : Cond.instanceMethod (am_mY y_Text_readPart) ∈ am_tb := am_tin 411 (by decide +kernel) rfl
theorem cv_Text_readPart : Cond.selects (am_mY y_Text_readPart).cls (am_mY y_Text_readPart) (am_mY y_Text_readPart) ∈ am_tb := am_tin 6 (by decide +kernel) rfl
set_option maxRecDepth 100000 in
theorem cf_Text_readRow : am_cf y_Text_readRow := ⟨am_tin 420 (by rfl) (by rfl), am_tin 100 (by decide +kernel) rfl, by decide +kernel, by decide +kernel, by decide +kernel⟩
theorem ci_Text_readRow : Cond.instanceMethod (am_mY y_Text_readRow) ∈ am_tb := am_tin 419 (by decide +kernel) rfl
theorem cv_Text_readRow : Cond.selects (am_mY y_Text_readRow).cls (am_mY y_Text_readRow) (am_mY y_Text_readRow) ∈ am_tb := am_tin 8 (by decide +kernel) rfl
set_option maxRecDepth 100000 in
theorem cf_Text_readNote : am_cf y_Text_readNote := ⟨am_tin 433 (by rfl) (by rfl), am_tin 100 (by decide +kernel) rfl, by decide +kernel, by decide +kernel, by decide +kernel⟩
theorem ci_Text_readNote : Cond.instanceMethod (am_mY y_Text_readNote) ∈ am_tb := am_tin 432 (by decide +kernel) rfl
theorem cv_Text_readNote : Cond.selects (am_mY y_Text_readNote).cls (am_mY y_Text_readNote) (am_mY y_Text_readNote) ∈ am_tb := am_tin 11 (by decide +kernel) rfl
set_option maxRecDepth 100000 in
theorem cf_Text_readNoteHeight : am_cf y_Text_readNoteHeight := ⟨am_tin 437 (by rfl) (by rfl), am_tin 100 (by decide +kernel) rfl, by decide +kernel, by decide +kernel, by decide +kernel⟩
theorem ci_Text_readNoteHeight : Cond.instanceMethod (am_mY y_Text_readNoteHeight) ∈ am_tb := am_tin 436 (by decide +kernel) rfl
theorem cv_Text_readNoteHeight : Cond.selects (am_mY y_Text_readNoteHeight).cls (am_mY y_Text_readNoteHeight) (am_mY y_Text_readNoteHeight) ∈ am_tb := am_tin 12 (by decide +kernel) rfl
set_option maxRecDepth 100000 in
theorem cf_Text_readSpan : am_cf y_Text_readSpan := ⟨am_tin 445 (by rfl) (by rfl), am_tin 100 (by decide +kernel) rfl, by decide +kernel, by decide +kernel, by decide +kernel⟩
theorem ci_Text_readSpan : Cond.instanceMethod (am_mY y_Text_readSpan) ∈ am_tb := am_tin 444 (by decide +kernel) rfl
theorem cv_Text_readSpan : Cond.selects (am_mY y_Text_readSpan).cls (am_mY y_Text_readSpan) (am_mY y_Text_readSpan) ∈ am_tb := am_tin 14 (by decide +kernel) rfl
set_option maxRecDepth 100000 in
theorem cf_Text_takeSign : am_cf y_Text_takeSign := ⟨am_tin 394 (by rfl) (by rfl), am_tin 100 (by decide +kernel) rfl, by decide +kernel, by decide +kernel, by decide +kernel⟩
theorem ci_Text_takeSign : Cond.instanceMethod (am_mY y_Text_takeSign) ∈ am_tb := am_tin 393 (by decide +kernel) rfl
theorem cv_Text_takeSign : Cond.selects (am_mY y_Text_takeSign).cls (am_mY y_Text_takeSign) (am_mY y_Text_takeSign) ∈ am_tb := am_tin 3 (by decide +kernel) rfl
set_option maxRecDepth 100000 in
theorem cf_Text_takeDigit : am_cf y_Text_takeDigit := ⟨am_tin 398 (by rfl) (by rfl), am_tin 100 (by decide +kernel) rfl, by decide +kernel, by decide +kernel, by decide +kernel⟩
theorem ci_Text_takeDigit : Cond.instanceMethod (am_mY y_Text_takeDigit) ∈ am_tb := am_tin 397 (by decide +kernel) rfl
theorem cv_Text_takeDigit : Cond.selects (am_mY y_Text_takeDigit).cls (am_mY y_Text_takeDigit) (am_mY y_Text_takeDigit) ∈ am_tb := am_tin 4 (by decide +kernel) rfl
set_option maxRecDepth 100000 in
theorem cf_Text_takePair : am_cf y_Text_takePair := ⟨am_tin 402 (by rfl) (by rfl), am_tin 100 (by decide +kernel) rfl, by decide +kernel, by decide +kernel, by decide +kernel⟩
theorem ci_Text_takePair : Cond.instanceMethod (am_mY y_Text_takePair) ∈ am_tb := am_tin 401 (by decide +kernel) rfl
theorem cv_Text_takePair : Cond.selects (am_mY y_Text_takePair).cls (am_mY y_Text_takePair) (am_mY y_Text_takePair) ∈ am_tb := am_tin 5 (by decide +kernel) rfl
set_option maxRecDepth 100000 in
theorem cf_M_init : am_cf y_M_init := ⟨am_tin 1061 (by rfl) (by rfl), am_tin 108 (by decide +kernel) rfl, by decide +kernel, by decide +kernel, by decide +kernel⟩
theorem ci_M_init : Cond.instanceMethod (am_mY y_M_init) ∈ am_tb := am_tin 1060 (by decide +kernel) rfl
set_option maxRecDepth 100000 in
theorem cf_M_thrown : am_cf y_M_thrown := ⟨am_tin 1118 (by rfl) (by rfl), am_tin 108 (by decide +kernel) rfl, by decide +kernel, by decide +kernel, by decide +kernel⟩
theorem ci_M_thrown : Cond.instanceMethod (am_mY y_M_thrown) ∈ am_tb := am_tin 1116 (by decide +kernel) rfl
theorem cv_M_thrown : Cond.selects (am_mY y_M_thrown).cls (am_mY y_M_thrown) (am_mY y_M_thrown) ∈ am_tb := am_tin 1117 (by decide +kernel) rfl
set_option maxRecDepth 100000 in
theorem cf_M_refused : am_cf y_M_refused := ⟨am_tin 1130 (by rfl) (by rfl), am_tin 108 (by decide +kernel) rfl, by decide +kernel, by decide +kernel, by decide +kernel⟩
theorem ci_M_refused : Cond.instanceMethod (am_mY y_M_refused) ∈ am_tb := am_tin 1129 (by decide +kernel) rfl
theorem cv_M_refused : Cond.selects (am_mY y_M_refused).cls (am_mY y_M_refused) (am_mY y_M_refused) ∈ am_tb := am_tin 73 (by decide +kernel) rfl
set_option maxRecDepth 100000 in
theorem cf_M_in : am_cf y_M_in := ⟨am_tin 1126 (by rfl) (by rfl), am_tin 108 (by decide +kernel) rfl, by decide +kernel, by decide +kernel, by decide +kernel⟩
theorem cs_M_in : Cond.static (am_mY y_M_in) ∈ am_tb := am_tin 1125 (by decide +kernel) rfl
set_option maxRecDepth 100000 in
theorem cf_M_has : am_cf y_M_has := ⟨am_tin 1227 (by rfl) (by rfl), am_tin 108 (by decide +kernel) rfl, by decide +kernel, by decide +kernel, by decide +kernel⟩
theorem cs_M_has : Cond.static (am_mY y_M_has) ∈ am_tb := am_tin 1226 (by decide +kernel) rfl
set_option maxRecDepth 100000 in
theorem cf_M_copy : am_cf y_M_copy := ⟨am_tin 1188 (by rfl) (by rfl), am_tin 108 (by decide +kernel) rfl, by decide +kernel, by decide +kernel, by decide +kernel⟩
theorem cs_M_copy : Cond.static (am_mY y_M_copy) ∈ am_tb := am_tin 1187 (by decide +kernel) rfl
set_option maxRecDepth 100000 in
theorem cf_M_tenTo : am_cf y_M_tenTo := ⟨am_tin 1391 (by rfl) (by rfl), am_tin 108 (by decide +kernel) rfl, by decide +kernel, by decide +kernel, by decide +kernel⟩
theorem cs_M_tenTo : Cond.static (am_mY y_M_tenTo) ∈ am_tb := am_tin 1390 (by decide +kernel) rfl
set_option maxRecDepth 100000 in
theorem cf_M_clean : am_cf y_M_clean := ⟨am_tin 1065 (by rfl) (by rfl), am_tin 108 (by decide +kernel) rfl, by decide +kernel, by decide +kernel, by decide +kernel⟩
theorem cs_M_clean : Cond.static (am_mY y_M_clean) ∈ am_tb := am_tin 1064 (by decide +kernel) rfl
set_option maxRecDepth 100000 in
theorem cf_M_remember : am_cf y_M_remember := ⟨am_tin 1310 (by rfl) (by rfl), am_tin 108 (by decide +kernel) rfl, by decide +kernel, by decide +kernel, by decide +kernel⟩
theorem ci_M_remember : Cond.instanceMethod (am_mY y_M_remember) ∈ am_tb := am_tin 1309 (by decide +kernel) rfl
theorem cv_M_remember : Cond.selects (am_mY y_M_remember).cls (am_mY y_M_remember) (am_mY y_M_remember) ∈ am_tb := am_tin 92 (by decide +kernel) rfl
set_option maxRecDepth 100000 in
theorem cf_M_begin : am_cf y_M_begin := ⟨am_tin 1364 (by rfl) (by rfl), am_tin 108 (by decide +kernel) rfl, by decide +kernel, by decide +kernel, by decide +kernel⟩
theorem ci_M_begin : Cond.instanceMethod (am_mY y_M_begin) ∈ am_tb := am_tin 1363 (by decide +kernel) rfl
theorem cv_M_begin : Cond.selects (am_mY y_M_begin).cls (am_mY y_M_begin) (am_mY y_M_begin) ∈ am_tb := am_tin 93 (by decide +kernel) rfl
set_option maxRecDepth 100000 in
theorem cf_M_cell : am_cf y_M_cell := ⟨am_tin 1170 (by rfl) (by rfl), am_tin 108 (by decide +kernel) rfl, by decide +kernel, by decide +kernel, by decide +kernel⟩
theorem cs_M_cell : Cond.static (am_mY y_M_cell) ∈ am_tb := am_tin 1169 (by decide +kernel) rfl
set_option maxRecDepth 100000 in
theorem cf_M_first : am_cf y_M_first := ⟨am_tin 1212 (by rfl) (by rfl), am_tin 108 (by decide +kernel) rfl, by decide +kernel, by decide +kernel, by decide +kernel⟩
theorem cs_M_first : Cond.static (am_mY y_M_first) ∈ am_tb := am_tin 1211 (by decide +kernel) rfl
set_option maxRecDepth 100000 in
theorem cf_M_last : am_cf y_M_last := ⟨am_tin 1215 (by rfl) (by rfl), am_tin 108 (by decide +kernel) rfl, by decide +kernel, by decide +kernel, by decide +kernel⟩
theorem cs_M_last : Cond.static (am_mY y_M_last) ∈ am_tb := am_tin 1214 (by decide +kernel) rfl
set_option maxRecDepth 100000 in
theorem cf_M_mayEnd : am_cf y_M_mayEnd := ⟨am_tin 1206 (by rfl) (by rfl), am_tin 108 (by decide +kernel) rfl, by decide +kernel, by decide +kernel, by decide +kernel⟩
theorem cs_M_mayEnd : Cond.static (am_mY y_M_mayEnd) ∈ am_tb := am_tin 1205 (by decide +kernel) rfl
set_option maxRecDepth 100000 in
theorem cf_M_canCut : am_cf y_M_canCut := ⟨am_tin 1209 (by rfl) (by rfl), am_tin 108 (by decide +kernel) rfl, by decide +kernel, by decide +kernel, by decide +kernel⟩
theorem cs_M_canCut : Cond.static (am_mY y_M_canCut) ∈ am_tb := am_tin 1208 (by decide +kernel) rfl
set_option maxRecDepth 100000 in
theorem cf_M_notes : am_cf y_M_notes := ⟨am_tin 1224 (by rfl) (by rfl), am_tin 108 (by decide +kernel) rfl, by decide +kernel, by decide +kernel, by decide +kernel⟩
theorem cs_M_notes : Cond.static (am_mY y_M_notes) ∈ am_tb := am_tin 1223 (by decide +kernel) rfl
set_option maxRecDepth 100000 in
theorem cf_M_names : am_cf y_M_names := ⟨am_tin 1221 (by rfl) (by rfl), am_tin 108 (by decide +kernel) rfl, by decide +kernel, by decide +kernel, by decide +kernel⟩
theorem cs_M_names : Cond.static (am_mY y_M_names) ∈ am_tb := am_tin 1220 (by decide +kernel) rfl
set_option maxRecDepth 100000 in
theorem cf_M_lines : am_cf y_M_lines := ⟨am_tin 1218 (by rfl) (by rfl), am_tin 108 (by decide +kernel) rfl, by decide +kernel, by decide +kernel, by decide +kernel⟩
theorem cs_M_lines : Cond.static (am_mY y_M_lines) ∈ am_tb := am_tin 1217 (by decide +kernel) rfl
set_option maxRecDepth 100000 in
theorem cf_M_lastFor : am_cf y_M_lastFor := ⟨am_tin 1203 (by rfl) (by rfl), am_tin 108 (by decide +kernel) rfl, by decide +kernel, by decide +kernel, by decide +kernel⟩
theorem cs_M_lastFor : Cond.static (am_mY y_M_lastFor) ∈ am_tb := am_tin 1202 (by decide +kernel) rfl
set_option maxRecDepth 100000 in
theorem cf_M_endOf : am_cf y_M_endOf := ⟨am_tin 1200 (by rfl) (by rfl), am_tin 108 (by decide +kernel) rfl, by decide +kernel, by decide +kernel, by decide +kernel⟩
theorem cs_M_endOf : Cond.static (am_mY y_M_endOf) ∈ am_tb := am_tin 1199 (by decide +kernel) rfl
set_option maxRecDepth 100000 in
theorem cf_M_lay : am_cf y_M_lay := ⟨am_tin 1197 (by rfl) (by rfl), am_tin 108 (by decide +kernel) rfl, by decide +kernel, by decide +kernel, by decide +kernel⟩
theorem ci_M_lay : Cond.instanceMethod (am_mY y_M_lay) ∈ am_tb := am_tin 1196 (by decide +kernel) rfl
theorem cv_M_lay : Cond.selects (am_mY y_M_lay).cls (am_mY y_M_lay) (am_mY y_M_lay) ∈ am_tb := am_tin 82 (by decide +kernel) rfl
set_option maxRecDepth 100000 in
theorem cf_M_startOf : am_cf y_M_startOf := ⟨am_tin 1235 (by rfl) (by rfl), am_tin 108 (by decide +kernel) rfl, by decide +kernel, by decide +kernel, by decide +kernel⟩
theorem ci_M_startOf : Cond.instanceMethod (am_mY y_M_startOf) ∈ am_tb := am_tin 1234 (by decide +kernel) rfl
theorem cv_M_startOf : Cond.selects (am_mY y_M_startOf).cls (am_mY y_M_startOf) (am_mY y_M_startOf) ∈ am_tb := am_tin 84 (by decide +kernel) rfl
set_option maxRecDepth 100000 in
theorem cf_M_overfull : am_cf y_M_overfull := ⟨am_tin 1231 (by rfl) (by rfl), am_tin 108 (by decide +kernel) rfl, by decide +kernel, by decide +kernel, by decide +kernel⟩
theorem ci_M_overfull : Cond.instanceMethod (am_mY y_M_overfull) ∈ am_tb := am_tin 1230 (by decide +kernel) rfl
theorem cv_M_overfull : Cond.selects (am_mY y_M_overfull).cls (am_mY y_M_overfull) (am_mY y_M_overfull) ∈ am_tb := am_tin 83 (by decide +kernel) rfl
set_option maxRecDepth 100000 in
theorem cf_M_pageOf : am_cf y_M_pageOf := ⟨am_tin 1247 (by rfl) (by rfl), am_tin 108 (by decide +kernel) rfl, by decide +kernel, by decide +kernel, by decide +kernel⟩
theorem ci_M_pageOf : Cond.instanceMethod (am_mY y_M_pageOf) ∈ am_tb := am_tin 1246 (by decide +kernel) rfl
theorem cv_M_pageOf : Cond.selects (am_mY y_M_pageOf).cls (am_mY y_M_pageOf) (am_mY y_M_pageOf) ∈ am_tb := am_tin 87 (by decide +kernel) rfl
set_option maxRecDepth 100000 in
theorem cf_M_pagesOf : am_cf y_M_pagesOf := ⟨am_tin 1243 (by rfl) (by rfl), am_tin 108 (by decide +kernel) rfl, by decide +kernel, by decide +kernel, by decide +kernel⟩
theorem ci_M_pagesOf : Cond.instanceMethod (am_mY y_M_pagesOf) ∈ am_tb := am_tin 1242 (by decide +kernel) rfl
theorem cv_M_pagesOf : Cond.selects (am_mY y_M_pagesOf).cls (am_mY y_M_pagesOf) (am_mY y_M_pagesOf) ∈ am_tb := am_tin 86 (by decide +kernel) rfl
set_option maxRecDepth 100000 in
theorem cf_M_addTo : am_cf y_M_addTo := ⟨am_tin 1167 (by rfl) (by rfl), am_tin 108 (by decide +kernel) rfl, by decide +kernel, by decide +kernel, by decide +kernel⟩
theorem cs_M_addTo : Cond.static (am_mY y_M_addTo) ∈ am_tb := am_tin 1166 (by decide +kernel) rfl
set_option maxRecDepth 100000 in
theorem cf_M_putSpan : am_cf y_M_putSpan := ⟨am_tin 1177 (by rfl) (by rfl), am_tin 108 (by decide +kernel) rfl, by decide +kernel, by decide +kernel, by decide +kernel⟩
theorem cs_M_putSpan : Cond.static (am_mY y_M_putSpan) ∈ am_tb := am_tin 1176 (by decide +kernel) rfl
set_option maxRecDepth 100000 in
theorem cf_M_dropSpan : am_cf y_M_dropSpan := ⟨am_tin 1330 (by rfl) (by rfl), am_tin 108 (by decide +kernel) rfl, by decide +kernel, by decide +kernel, by decide +kernel⟩
theorem cs_M_dropSpan : Cond.static (am_mY y_M_dropSpan) ∈ am_tb := am_tin 1329 (by decide +kernel) rfl
set_option maxRecDepth 100000 in
theorem cf_M_dropRow : am_cf y_M_dropRow := ⟨am_tin 1327 (by rfl) (by rfl), am_tin 108 (by decide +kernel) rfl, by decide +kernel, by decide +kernel, by decide +kernel⟩
theorem cs_M_dropRow : Cond.static (am_mY y_M_dropRow) ∈ am_tb := am_tin 1326 (by decide +kernel) rfl
set_option maxRecDepth 100000 in
theorem cf_M_least : am_cf y_M_least := ⟨am_tin 1348 (by rfl) (by rfl), am_tin 108 (by decide +kernel) rfl, by decide +kernel, by decide +kernel, by decide +kernel⟩
theorem cs_M_least : Cond.static (am_mY y_M_least) ∈ am_tb := am_tin 1347 (by decide +kernel) rfl
set_option maxRecDepth 100000 in
theorem cf_M_most : am_cf y_M_most := ⟨am_tin 1351 (by rfl) (by rfl), am_tin 108 (by decide +kernel) rfl, by decide +kernel, by decide +kernel, by decide +kernel⟩
theorem cs_M_most : Cond.static (am_mY y_M_most) ∈ am_tb := am_tin 1350 (by decide +kernel) rfl
set_option maxRecDepth 100000 in
theorem cf_M_isHeight : am_cf y_M_isHeight := ⟨am_tin 1345 (by rfl) (by rfl), am_tin 108 (by decide +kernel) rfl, by decide +kernel, by decide +kernel, by decide +kernel⟩
theorem cs_M_isHeight : Cond.static (am_mY y_M_isHeight) ∈ am_tb := am_tin 1344 (by decide +kernel) rfl
set_option maxRecDepth 100000 in
theorem cf_M_sum : am_cf y_M_sum := ⟨am_tin 1294 (by rfl) (by rfl), am_tin 108 (by decide +kernel) rfl, by decide +kernel, by decide +kernel, by decide +kernel⟩
theorem cs_M_sum : Cond.static (am_mY y_M_sum) ∈ am_tb := am_tin 1293 (by decide +kernel) rfl
set_option maxRecDepth 100000 in
theorem cf_M_append : am_cf y_M_append := ⟨am_tin 1122 (by rfl) (by rfl), am_tin 108 (by decide +kernel) rfl, by decide +kernel, by decide +kernel, by decide +kernel⟩
theorem ci_M_append : Cond.instanceMethod (am_mY y_M_append) ∈ am_tb := am_tin 1120 (by decide +kernel) rfl
theorem cv_M_append : Cond.selects (am_mY y_M_append).cls (am_mY y_M_append) (am_mY y_M_append) ∈ am_tb := am_tin 1121 (by decide +kernel) rfl
set_option maxRecDepth 100000 in
theorem cf_M_clearText : am_cf y_M_clearText := ⟨am_tin 1134 (by rfl) (by rfl), am_tin 108 (by decide +kernel) rfl, by decide +kernel, by decide +kernel, by decide +kernel⟩
theorem ci_M_clearText : Cond.instanceMethod (am_mY y_M_clearText) ∈ am_tb := am_tin 1132 (by decide +kernel) rfl
theorem cv_M_clearText : Cond.selects (am_mY y_M_clearText).cls (am_mY y_M_clearText) (am_mY y_M_clearText) ∈ am_tb := am_tin 1133 (by decide +kernel) rfl
set_option maxRecDepth 100000 in
theorem cf_M_isNext : am_cf y_M_isNext := ⟨am_tin 1146 (by rfl) (by rfl), am_tin 108 (by decide +kernel) rfl, by decide +kernel, by decide +kernel, by decide +kernel⟩
theorem ci_M_isNext : Cond.instanceMethod (am_mY y_M_isNext) ∈ am_tb := am_tin 1145 (by decide +kernel) rfl
theorem cv_M_isNext : Cond.selects (am_mY y_M_isNext).cls (am_mY y_M_isNext) (am_mY y_M_isNext) ∈ am_tb := am_tin 75 (by decide +kernel) rfl
set_option maxRecDepth 100000 in
theorem cf_M_accept : am_cf y_M_accept := ⟨am_tin 1150 (by rfl) (by rfl), am_tin 108 (by decide +kernel) rfl, by decide +kernel, by decide +kernel, by decide +kernel⟩
theorem ci_M_accept : Cond.instanceMethod (am_mY y_M_accept) ∈ am_tb := am_tin 1149 (by decide +kernel) rfl
theorem cv_M_accept : Cond.selects (am_mY y_M_accept).cls (am_mY y_M_accept) (am_mY y_M_accept) ∈ am_tb := am_tin 76 (by decide +kernel) rfl
set_option maxRecDepth 100000 in
theorem cf_M_digit : am_cf y_M_digit := ⟨am_tin 1154 (by rfl) (by rfl), am_tin 108 (by decide +kernel) rfl, by decide +kernel, by decide +kernel, by decide +kernel⟩
theorem ci_M_digit : Cond.instanceMethod (am_mY y_M_digit) ∈ am_tb := am_tin 1153 (by decide +kernel) rfl
theorem cv_M_digit : Cond.selects (am_mY y_M_digit).cls (am_mY y_M_digit) (am_mY y_M_digit) ∈ am_tb := am_tin 77 (by decide +kernel) rfl
set_option maxRecDepth 100000 in
theorem cf_M_two : am_cf y_M_two := ⟨am_tin 1160 (by rfl) (by rfl), am_tin 108 (by decide +kernel) rfl, by decide +kernel, by decide +kernel, by decide +kernel⟩
theorem ci_M_two : Cond.instanceMethod (am_mY y_M_two) ∈ am_tb := am_tin 1159 (by decide +kernel) rfl
theorem cv_M_two : Cond.selects (am_mY y_M_two).cls (am_mY y_M_two) (am_mY y_M_two) ∈ am_tb := am_tin 78 (by decide +kernel) rfl
set_option maxRecDepth 100000 in
theorem cf_M_readRow : am_cf y_M_readRow := ⟨am_tin 1164 (by rfl) (by rfl), am_tin 108 (by decide +kernel) rfl, by decide +kernel, by decide +kernel, by decide +kernel⟩
theorem ci_M_readRow : Cond.instanceMethod (am_mY y_M_readRow) ∈ am_tb := am_tin 1163 (by decide +kernel) rfl
theorem cv_M_readRow : Cond.selects (am_mY y_M_readRow).cls (am_mY y_M_readRow) (am_mY y_M_readRow) ∈ am_tb := am_tin 79 (by decide +kernel) rfl
set_option maxRecDepth 100000 in
theorem cf_M_readSpan : am_cf y_M_readSpan := ⟨am_tin 1174 (by rfl) (by rfl), am_tin 108 (by decide +kernel) rfl, by decide +kernel, by decide +kernel, by decide +kernel⟩
theorem ci_M_readSpan : Cond.instanceMethod (am_mY y_M_readSpan) ∈ am_tb := am_tin 1173 (by decide +kernel) rfl
theorem cv_M_readSpan : Cond.selects (am_mY y_M_readSpan).cls (am_mY y_M_readSpan) (am_mY y_M_readSpan) ∈ am_tb := am_tin 80 (by decide +kernel) rfl
set_option maxRecDepth 100000 in
theorem cf_M_readMore : am_cf y_M_readMore := ⟨am_tin 1181 (by rfl) (by rfl), am_tin 108 (by decide +kernel) rfl, by decide +kernel, by decide +kernel, by decide +kernel⟩
theorem ci_M_readMore : Cond.instanceMethod (am_mY y_M_readMore) ∈ am_tb := am_tin 1180 (by decide +kernel) rfl
theorem cv_M_readMore : Cond.selects (am_mY y_M_readMore).cls (am_mY y_M_readMore) (am_mY y_M_readMore) ∈ am_tb := am_tin 81 (by decide +kernel) rfl
set_option maxRecDepth 100000 in
theorem cf_M_readText : am_cf y_M_readText := ⟨am_tin 1142 (by rfl) (by rfl), am_tin 108 (by decide +kernel) rfl, by decide +kernel, by decide +kernel, by decide +kernel⟩
theorem ci_M_readText : Cond.instanceMethod (am_mY y_M_readText) ∈ am_tb := am_tin 1141 (by decide +kernel) rfl
theorem cv_M_readText : Cond.selects (am_mY y_M_readText).cls (am_mY y_M_readText) (am_mY y_M_readText) ∈ am_tb := am_tin 74 (by decide +kernel) rfl
set_option maxRecDepth 100000 in
theorem cf_M_errorPosition : am_cf y_M_errorPosition := ⟨am_tin 1138 (by rfl) (by rfl), am_tin 108 (by decide +kernel) rfl, by decide +kernel, by decide +kernel, by decide +kernel⟩
theorem ci_M_errorPosition : Cond.instanceMethod (am_mY y_M_errorPosition) ∈ am_tb := am_tin 1136 (by decide +kernel) rfl
theorem cv_M_errorPosition : Cond.selects (am_mY y_M_errorPosition).cls (am_mY y_M_errorPosition) (am_mY y_M_errorPosition) ∈ am_tb := am_tin 1137 (by decide +kernel) rfl
set_option maxRecDepth 100000 in
theorem cf_M_load : am_cf y_M_load := ⟨am_tin 1185 (by rfl) (by rfl), am_tin 108 (by decide +kernel) rfl, by decide +kernel, by decide +kernel, by decide +kernel⟩
theorem ci_M_load : Cond.instanceMethod (am_mY y_M_load) ∈ am_tb := am_tin 1183 (by decide +kernel) rfl
theorem cv_M_load : Cond.selects (am_mY y_M_load).cls (am_mY y_M_load) (am_mY y_M_load) ∈ am_tb := am_tin 1184 (by decide +kernel) rfl
set_option maxRecDepth 100000 in
theorem cf_M_cutSpans : am_cf y_M_cutSpans := ⟨am_tin 1239 (by rfl) (by rfl), am_tin 108 (by decide +kernel) rfl, by decide +kernel, by decide +kernel, by decide +kernel⟩
theorem ci_M_cutSpans : Cond.instanceMethod (am_mY y_M_cutSpans) ∈ am_tb := am_tin 1238 (by decide +kernel) rfl
theorem cv_M_cutSpans : Cond.selects (am_mY y_M_cutSpans).cls (am_mY y_M_cutSpans) (am_mY y_M_cutSpans) ∈ am_tb := am_tin 85 (by decide +kernel) rfl
set_option maxRecDepth 100000 in
theorem cf_M_about : am_cf y_M_about := ⟨am_tin 1192 (by rfl) (by rfl), am_tin 108 (by decide +kernel) rfl, by decide +kernel, by decide +kernel, by decide +kernel⟩
theorem ci_M_about : Cond.instanceMethod (am_mY y_M_about) ∈ am_tb := am_tin 1190 (by decide +kernel) rfl
theorem cv_M_about : Cond.selects (am_mY y_M_about).cls (am_mY y_M_about) (am_mY y_M_about) ∈ am_tb := am_tin 1191 (by decide +kernel) rfl
set_option maxRecDepth 100000 in
theorem cf_M_isRow : am_cf y_M_isRow := ⟨am_tin 1255 (by rfl) (by rfl), am_tin 108 (by decide +kernel) rfl, by decide +kernel, by decide +kernel, by decide +kernel⟩
theorem ci_M_isRow : Cond.instanceMethod (am_mY y_M_isRow) ∈ am_tb := am_tin 1254 (by decide +kernel) rfl
theorem cv_M_isRow : Cond.selects (am_mY y_M_isRow).cls (am_mY y_M_isRow) (am_mY y_M_isRow) ∈ am_tb := am_tin 88 (by decide +kernel) rfl
set_option maxRecDepth 100000 in
theorem cf_M_isColumn : am_cf y_M_isColumn := ⟨am_tin 1264 (by rfl) (by rfl), am_tin 108 (by decide +kernel) rfl, by decide +kernel, by decide +kernel, by decide +kernel⟩
theorem ci_M_isColumn : Cond.instanceMethod (am_mY y_M_isColumn) ∈ am_tb := am_tin 1263 (by decide +kernel) rfl
theorem cv_M_isColumn : Cond.selects (am_mY y_M_isColumn).cls (am_mY y_M_isColumn) (am_mY y_M_isColumn) ∈ am_tb := am_tin 89 (by decide +kernel) rfl
set_option maxRecDepth 100000 in
theorem cf_M_isSpan : am_cf y_M_isSpan := ⟨am_tin 1272 (by rfl) (by rfl), am_tin 108 (by decide +kernel) rfl, by decide +kernel, by decide +kernel, by decide +kernel⟩
theorem ci_M_isSpan : Cond.instanceMethod (am_mY y_M_isSpan) ∈ am_tb := am_tin 1271 (by decide +kernel) rfl
theorem cv_M_isSpan : Cond.selects (am_mY y_M_isSpan).cls (am_mY y_M_isSpan) (am_mY y_M_isSpan) ∈ am_tb := am_tin 90 (by decide +kernel) rfl
set_option maxRecDepth 100000 in
theorem cf_M_row : am_cf y_M_row := ⟨am_tin 1251 (by rfl) (by rfl), am_tin 108 (by decide +kernel) rfl, by decide +kernel, by decide +kernel, by decide +kernel⟩
theorem ci_M_row : Cond.instanceMethod (am_mY y_M_row) ∈ am_tb := am_tin 1249 (by decide +kernel) rfl
theorem cv_M_row : Cond.selects (am_mY y_M_row).cls (am_mY y_M_row) (am_mY y_M_row) ∈ am_tb := am_tin 1250 (by decide +kernel) rfl
set_option maxRecDepth 100000 in
theorem cf_M_amount : am_cf y_M_amount := ⟨am_tin 1260 (by rfl) (by rfl), am_tin 108 (by decide +kernel) rfl, by decide +kernel, by decide +kernel, by decide +kernel⟩
theorem ci_M_amount : Cond.instanceMethod (am_mY y_M_amount) ∈ am_tb := am_tin 1258 (by decide +kernel) rfl
theorem cv_M_amount : Cond.selects (am_mY y_M_amount).cls (am_mY y_M_amount) (am_mY y_M_amount) ∈ am_tb := am_tin 1259 (by decide +kernel) rfl
set_option maxRecDepth 100000 in
theorem cf_M_span : am_cf y_M_span := ⟨am_tin 1268 (by rfl) (by rfl), am_tin 108 (by decide +kernel) rfl, by decide +kernel, by decide +kernel, by decide +kernel⟩
theorem ci_M_span : Cond.instanceMethod (am_mY y_M_span) ∈ am_tb := am_tin 1266 (by decide +kernel) rfl
theorem cv_M_span : Cond.selects (am_mY y_M_span).cls (am_mY y_M_span) (am_mY y_M_span) ∈ am_tb := am_tin 1267 (by decide +kernel) rfl
set_option maxRecDepth 100000 in
theorem cf_M_note : am_cf y_M_note := ⟨am_tin 1277 (by rfl) (by rfl), am_tin 108 (by decide +kernel) rfl, by decide +kernel, by decide +kernel, by decide +kernel⟩
theorem ci_M_note : Cond.instanceMethod (am_mY y_M_note) ∈ am_tb := am_tin 1275 (by decide +kernel) rfl
theorem cv_M_note : Cond.selects (am_mY y_M_note).cls (am_mY y_M_note) (am_mY y_M_note) ∈ am_tb := am_tin 1276 (by decide +kernel) rfl
set_option maxRecDepth 100000 in
theorem cf_M_isPage : am_cf y_M_isPage := ⟨am_tin 1286 (by rfl) (by rfl), am_tin 108 (by decide +kernel) rfl, by decide +kernel, by decide +kernel, by decide +kernel⟩
theorem ci_M_isPage : Cond.instanceMethod (am_mY y_M_isPage) ∈ am_tb := am_tin 1285 (by decide +kernel) rfl
theorem cv_M_isPage : Cond.selects (am_mY y_M_isPage).cls (am_mY y_M_isPage) (am_mY y_M_isPage) ∈ am_tb := am_tin 91 (by decide +kernel) rfl
set_option maxRecDepth 100000 in
theorem cf_M_page : am_cf y_M_page := ⟨am_tin 1282 (by rfl) (by rfl), am_tin 108 (by decide +kernel) rfl, by decide +kernel, by decide +kernel, by decide +kernel⟩
theorem ci_M_page : Cond.instanceMethod (am_mY y_M_page) ∈ am_tb := am_tin 1280 (by decide +kernel) rfl
theorem cv_M_page : Cond.selects (am_mY y_M_page).cls (am_mY y_M_page) (am_mY y_M_page) ∈ am_tb := am_tin 1281 (by decide +kernel) rfl
set_option maxRecDepth 100000 in
theorem cf_M_brought : am_cf y_M_brought := ⟨am_tin 1291 (by rfl) (by rfl), am_tin 108 (by decide +kernel) rfl, by decide +kernel, by decide +kernel, by decide +kernel⟩
theorem ci_M_brought : Cond.instanceMethod (am_mY y_M_brought) ∈ am_tb := am_tin 1289 (by decide +kernel) rfl
theorem cv_M_brought : Cond.selects (am_mY y_M_brought).cls (am_mY y_M_brought) (am_mY y_M_brought) ∈ am_tb := am_tin 1290 (by decide +kernel) rfl
set_option maxRecDepth 100000 in
theorem cf_M_carried : am_cf y_M_carried := ⟨am_tin 1298 (by rfl) (by rfl), am_tin 108 (by decide +kernel) rfl, by decide +kernel, by decide +kernel, by decide +kernel⟩
theorem ci_M_carried : Cond.instanceMethod (am_mY y_M_carried) ∈ am_tb := am_tin 1296 (by decide +kernel) rfl
theorem cv_M_carried : Cond.selects (am_mY y_M_carried).cls (am_mY y_M_carried) (am_mY y_M_carried) ∈ am_tb := am_tin 1297 (by decide +kernel) rfl
set_option maxRecDepth 100000 in
theorem cf_M_richest : am_cf y_M_richest := ⟨am_tin 1302 (by rfl) (by rfl), am_tin 108 (by decide +kernel) rfl, by decide +kernel, by decide +kernel, by decide +kernel⟩
theorem ci_M_richest : Cond.instanceMethod (am_mY y_M_richest) ∈ am_tb := am_tin 1300 (by decide +kernel) rfl
theorem cv_M_richest : Cond.selects (am_mY y_M_richest).cls (am_mY y_M_richest) (am_mY y_M_richest) ∈ am_tb := am_tin 1301 (by decide +kernel) rfl
set_option maxRecDepth 100000 in
theorem cf_M_addRow : am_cf y_M_addRow := ⟨am_tin 1306 (by rfl) (by rfl), am_tin 108 (by decide +kernel) rfl, by decide +kernel, by decide +kernel, by decide +kernel⟩
theorem ci_M_addRow : Cond.instanceMethod (am_mY y_M_addRow) ∈ am_tb := am_tin 1304 (by decide +kernel) rfl
theorem cv_M_addRow : Cond.selects (am_mY y_M_addRow).cls (am_mY y_M_addRow) (am_mY y_M_addRow) ∈ am_tb := am_tin 1305 (by decide +kernel) rfl
set_option maxRecDepth 100000 in
theorem cf_M_setAmount : am_cf y_M_setAmount := ⟨am_tin 1314 (by rfl) (by rfl), am_tin 108 (by decide +kernel) rfl, by decide +kernel, by decide +kernel, by decide +kernel⟩
theorem ci_M_setAmount : Cond.instanceMethod (am_mY y_M_setAmount) ∈ am_tb := am_tin 1312 (by decide +kernel) rfl
theorem cv_M_setAmount : Cond.selects (am_mY y_M_setAmount).cls (am_mY y_M_setAmount) (am_mY y_M_setAmount) ∈ am_tb := am_tin 1313 (by decide +kernel) rfl
set_option maxRecDepth 100000 in
theorem cf_M_keep : am_cf y_M_keep := ⟨am_tin 1320 (by rfl) (by rfl), am_tin 108 (by decide +kernel) rfl, by decide +kernel, by decide +kernel, by decide +kernel⟩
theorem ci_M_keep : Cond.instanceMethod (am_mY y_M_keep) ∈ am_tb := am_tin 1318 (by decide +kernel) rfl
theorem cv_M_keep : Cond.selects (am_mY y_M_keep).cls (am_mY y_M_keep) (am_mY y_M_keep) ∈ am_tb := am_tin 1319 (by decide +kernel) rfl
set_option maxRecDepth 100000 in
theorem cf_M_removeRow : am_cf y_M_removeRow := ⟨am_tin 1324 (by rfl) (by rfl), am_tin 108 (by decide +kernel) rfl, by decide +kernel, by decide +kernel, by decide +kernel⟩
theorem ci_M_removeRow : Cond.instanceMethod (am_mY y_M_removeRow) ∈ am_tb := am_tin 1322 (by decide +kernel) rfl
theorem cv_M_removeRow : Cond.selects (am_mY y_M_removeRow).cls (am_mY y_M_removeRow) (am_mY y_M_removeRow) ∈ am_tb := am_tin 1323 (by decide +kernel) rfl
set_option maxRecDepth 100000 in
theorem cf_M_addSpan : am_cf y_M_addSpan := ⟨am_tin 1334 (by rfl) (by rfl), am_tin 108 (by decide +kernel) rfl, by decide +kernel, by decide +kernel, by decide +kernel⟩
theorem ci_M_addSpan : Cond.instanceMethod (am_mY y_M_addSpan) ∈ am_tb := am_tin 1332 (by decide +kernel) rfl
theorem cv_M_addSpan : Cond.selects (am_mY y_M_addSpan).cls (am_mY y_M_addSpan) (am_mY y_M_addSpan) ∈ am_tb := am_tin 1333 (by decide +kernel) rfl
set_option maxRecDepth 100000 in
theorem cf_M_removeSpan : am_cf y_M_removeSpan := ⟨am_tin 1338 (by rfl) (by rfl), am_tin 108 (by decide +kernel) rfl, by decide +kernel, by decide +kernel, by decide +kernel⟩
theorem ci_M_removeSpan : Cond.instanceMethod (am_mY y_M_removeSpan) ∈ am_tb := am_tin 1336 (by decide +kernel) rfl
theorem cv_M_removeSpan : Cond.selects (am_mY y_M_removeSpan).cls (am_mY y_M_removeSpan) (am_mY y_M_removeSpan) ∈ am_tb := am_tin 1337 (by decide +kernel) rfl
set_option maxRecDepth 100000 in
theorem cf_M_setHeight : am_cf y_M_setHeight := ⟨am_tin 1342 (by rfl) (by rfl), am_tin 108 (by decide +kernel) rfl, by decide +kernel, by decide +kernel, by decide +kernel⟩
theorem ci_M_setHeight : Cond.instanceMethod (am_mY y_M_setHeight) ∈ am_tb := am_tin 1340 (by decide +kernel) rfl
theorem cv_M_setHeight : Cond.selects (am_mY y_M_setHeight).cls (am_mY y_M_setHeight) (am_mY y_M_setHeight) ∈ am_tb := am_tin 1341 (by decide +kernel) rfl
set_option maxRecDepth 100000 in
theorem cf_M_undo : am_cf y_M_undo := ⟨am_tin 1355 (by rfl) (by rfl), am_tin 108 (by decide +kernel) rfl, by decide +kernel, by decide +kernel, by decide +kernel⟩
theorem ci_M_undo : Cond.instanceMethod (am_mY y_M_undo) ∈ am_tb := am_tin 1353 (by decide +kernel) rfl
theorem cv_M_undo : Cond.selects (am_mY y_M_undo).cls (am_mY y_M_undo) (am_mY y_M_undo) ∈ am_tb := am_tin 1354 (by decide +kernel) rfl
set_option maxRecDepth 100000 in
theorem cf_M_heightFor : am_cf y_M_heightFor := ⟨am_tin 1359 (by rfl) (by rfl), am_tin 108 (by decide +kernel) rfl, by decide +kernel, by decide +kernel, by decide +kernel⟩
theorem ci_M_heightFor : Cond.instanceMethod (am_mY y_M_heightFor) ∈ am_tb := am_tin 1357 (by decide +kernel) rfl
theorem cv_M_heightFor : Cond.selects (am_mY y_M_heightFor).cls (am_mY y_M_heightFor) (am_mY y_M_heightFor) ∈ am_tb := am_tin 1358 (by decide +kernel) rfl
set_option maxRecDepth 100000 in
theorem cf_M_costOf : am_cf y_M_costOf := ⟨am_tin 1376 (by rfl) (by rfl), am_tin 108 (by decide +kernel) rfl, by decide +kernel, by decide +kernel, by decide +kernel⟩
theorem ci_M_costOf : Cond.instanceMethod (am_mY y_M_costOf) ∈ am_tb := am_tin 1375 (by decide +kernel) rfl
theorem cv_M_costOf : Cond.selects (am_mY y_M_costOf).cls (am_mY y_M_costOf) (am_mY y_M_costOf) ∈ am_tb := am_tin 95 (by decide +kernel) rfl
set_option maxRecDepth 100000 in
theorem cf_M_layCuts : am_cf y_M_layCuts := ⟨am_tin 1372 (by rfl) (by rfl), am_tin 108 (by decide +kernel) rfl, by decide +kernel, by decide +kernel, by decide +kernel⟩
theorem ci_M_layCuts : Cond.instanceMethod (am_mY y_M_layCuts) ∈ am_tb := am_tin 1371 (by decide +kernel) rfl
theorem cv_M_layCuts : Cond.selects (am_mY y_M_layCuts).cls (am_mY y_M_layCuts) (am_mY y_M_layCuts) ∈ am_tb := am_tin 94 (by decide +kernel) rfl
set_option maxRecDepth 100000 in
theorem cf_M_evenest : am_cf y_M_evenest := ⟨am_tin 1368 (by rfl) (by rfl), am_tin 108 (by decide +kernel) rfl, by decide +kernel, by decide +kernel, by decide +kernel⟩
theorem ci_M_evenest : Cond.instanceMethod (am_mY y_M_evenest) ∈ am_tb := am_tin 1366 (by decide +kernel) rfl
theorem cv_M_evenest : Cond.selects (am_mY y_M_evenest).cls (am_mY y_M_evenest) (am_mY y_M_evenest) ∈ am_tb := am_tin 1367 (by decide +kernel) rfl
set_option maxRecDepth 100000 in
theorem cf_M_evenCut : am_cf y_M_evenCut := ⟨am_tin 1380 (by rfl) (by rfl), am_tin 108 (by decide +kernel) rfl, by decide +kernel, by decide +kernel, by decide +kernel⟩
theorem ci_M_evenCut : Cond.instanceMethod (am_mY y_M_evenCut) ∈ am_tb := am_tin 1378 (by decide +kernel) rfl
theorem cv_M_evenCut : Cond.selects (am_mY y_M_evenCut).cls (am_mY y_M_evenCut) (am_mY y_M_evenCut) ∈ am_tb := am_tin 1379 (by decide +kernel) rfl
set_option maxRecDepth 100000 in
theorem cf_M_emptyFrom : am_cf y_M_emptyFrom := ⟨am_tin 1384 (by rfl) (by rfl), am_tin 108 (by decide +kernel) rfl, by decide +kernel, by decide +kernel, by decide +kernel⟩
theorem ci_M_emptyFrom : Cond.instanceMethod (am_mY y_M_emptyFrom) ∈ am_tb := am_tin 1382 (by decide +kernel) rfl
theorem cv_M_emptyFrom : Cond.selects (am_mY y_M_emptyFrom).cls (am_mY y_M_emptyFrom) (am_mY y_M_emptyFrom) ∈ am_tb := am_tin 1383 (by decide +kernel) rfl
set_option maxRecDepth 100000 in
theorem cf_M_does : am_cf y_M_does := ⟨am_tin 1397 (by rfl) (by rfl), am_tin 108 (by decide +kernel) rfl, by decide +kernel, by decide +kernel, by decide +kernel⟩
theorem ci_M_does : Cond.instanceMethod (am_mY y_M_does) ∈ am_tb := am_tin 1396 (by decide +kernel) rfl
theorem cv_M_does : Cond.selects (am_mY y_M_does).cls (am_mY y_M_does) (am_mY y_M_does) ∈ am_tb := am_tin 96 (by decide +kernel) rfl
set_option maxRecDepth 100000 in
theorem cf_M_runScript : am_cf y_M_runScript := ⟨am_tin 1388 (by rfl) (by rfl), am_tin 108 (by decide +kernel) rfl, by decide +kernel, by decide +kernel, by decide +kernel⟩
theorem ci_M_runScript : Cond.instanceMethod (am_mY y_M_runScript) ∈ am_tb := am_tin 1386 (by decide +kernel) rfl
theorem cv_M_runScript : Cond.selects (am_mY y_M_runScript).cls (am_mY y_M_runScript) (am_mY y_M_runScript) ∈ am_tb := am_tin 1387 (by decide +kernel) rfl
set_option maxRecDepth 100000 in
theorem cf_M_round : am_cf y_M_round := ⟨am_tin 1407 (by rfl) (by rfl), am_tin 108 (by decide +kernel) rfl, by decide +kernel, by decide +kernel, by decide +kernel⟩
theorem ci_M_round : Cond.instanceMethod (am_mY y_M_round) ∈ am_tb := am_tin 1406 (by decide +kernel) rfl
theorem cv_M_round : Cond.selects (am_mY y_M_round).cls (am_mY y_M_round) (am_mY y_M_round) ∈ am_tb := am_tin 97 (by decide +kernel) rfl
set_option maxRecDepth 100000 in
theorem cf_M_simulate : am_cf y_M_simulate := ⟨am_tin 1401 (by rfl) (by rfl), am_tin 108 (by decide +kernel) rfl, by decide +kernel, by decide +kernel, by decide +kernel⟩
theorem ci_M_simulate : Cond.instanceMethod (am_mY y_M_simulate) ∈ am_tb := am_tin 1399 (by decide +kernel) rfl
theorem cv_M_simulate : Cond.selects (am_mY y_M_simulate).cls (am_mY y_M_simulate) (am_mY y_M_simulate) ∈ am_tb := am_tin 1400 (by decide +kernel) rfl
set_option maxRecDepth 100000 in
theorem cf_M_save : am_cf y_M_save := ⟨am_tin 1411 (by rfl) (by rfl), am_tin 108 (by decide +kernel) rfl, by decide +kernel, by decide +kernel, by decide +kernel⟩
theorem ci_M_save : Cond.instanceMethod (am_mY y_M_save) ∈ am_tb := am_tin 1409 (by decide +kernel) rfl
theorem cv_M_save : Cond.selects (am_mY y_M_save).cls (am_mY y_M_save) (am_mY y_M_save) ∈ am_tb := am_tin 1410 (by decide +kernel) rfl
set_option maxRecDepth 100000 in
theorem cf_M_restore : am_cf y_M_restore := ⟨am_tin 1415 (by rfl) (by rfl), am_tin 108 (by decide +kernel) rfl, by decide +kernel, by decide +kernel, by decide +kernel⟩
theorem ci_M_restore : Cond.instanceMethod (am_mY y_M_restore) ∈ am_tb := am_tin 1413 (by decide +kernel) rfl
theorem cv_M_restore : Cond.selects (am_mY y_M_restore).cls (am_mY y_M_restore) (am_mY y_M_restore) ∈ am_tb := am_tin 1414 (by decide +kernel) rfl
set_option maxRecDepth 100000 in
theorem cf_L_append : am_cf y_L_append := ⟨am_tin 496 (by rfl) (by rfl), am_tin 98 (by decide +kernel) rfl, by decide +kernel, by decide +kernel, by decide +kernel⟩
theorem cs_L_append : Cond.static (am_mY y_L_append) ∈ am_tb := am_tin 495 (by decide +kernel) rfl
set_option maxRecDepth 100000 in
theorem cf_L_load : am_cf y_L_load := ⟨am_tin 597 (by rfl) (by rfl), am_tin 98 (by decide +kernel) rfl, by decide +kernel, by decide +kernel, by decide +kernel⟩
theorem cs_L_load : Cond.static (am_mY y_L_load) ∈ am_tb := am_tin 596 (by decide +kernel) rfl
set_option maxRecDepth 100000 in
theorem cf_L_about : am_cf y_L_about := ⟨am_tin 621 (by rfl) (by rfl), am_tin 98 (by decide +kernel) rfl, by decide +kernel, by decide +kernel, by decide +kernel⟩
theorem cs_L_about : Cond.static (am_mY y_L_about) ∈ am_tb := am_tin 620 (by decide +kernel) rfl
set_option maxRecDepth 100000 in
theorem cf_L_row : am_cf y_L_row := ⟨am_tin 666 (by rfl) (by rfl), am_tin 98 (by decide +kernel) rfl, by decide +kernel, by decide +kernel, by decide +kernel⟩
theorem cs_L_row : Cond.static (am_mY y_L_row) ∈ am_tb := am_tin 665 (by decide +kernel) rfl
set_option maxRecDepth 100000 in
theorem cf_L_amount : am_cf y_L_amount := ⟨am_tin 702 (by rfl) (by rfl), am_tin 98 (by decide +kernel) rfl, by decide +kernel, by decide +kernel, by decide +kernel⟩
theorem cs_L_amount : Cond.static (am_mY y_L_amount) ∈ am_tb := am_tin 701 (by decide +kernel) rfl
set_option maxRecDepth 100000 in
theorem cf_L_span : am_cf y_L_span := ⟨am_tin 722 (by rfl) (by rfl), am_tin 98 (by decide +kernel) rfl, by decide +kernel, by decide +kernel, by decide +kernel⟩
theorem cs_L_span : Cond.static (am_mY y_L_span) ∈ am_tb := am_tin 721 (by decide +kernel) rfl
set_option maxRecDepth 100000 in
theorem cf_L_note : am_cf y_L_note := ⟨am_tin 740 (by rfl) (by rfl), am_tin 98 (by decide +kernel) rfl, by decide +kernel, by decide +kernel, by decide +kernel⟩
theorem cs_L_note : Cond.static (am_mY y_L_note) ∈ am_tb := am_tin 739 (by decide +kernel) rfl
set_option maxRecDepth 100000 in
theorem cf_L_page : am_cf y_L_page := ⟨am_tin 748 (by rfl) (by rfl), am_tin 98 (by decide +kernel) rfl, by decide +kernel, by decide +kernel, by decide +kernel⟩
theorem cs_L_page : Cond.static (am_mY y_L_page) ∈ am_tb := am_tin 747 (by decide +kernel) rfl
set_option maxRecDepth 100000 in
theorem cf_L_brought : am_cf y_L_brought := ⟨am_tin 788 (by rfl) (by rfl), am_tin 98 (by decide +kernel) rfl, by decide +kernel, by decide +kernel, by decide +kernel⟩
theorem cs_L_brought : Cond.static (am_mY y_L_brought) ∈ am_tb := am_tin 787 (by decide +kernel) rfl
set_option maxRecDepth 100000 in
theorem cf_L_carried : am_cf y_L_carried := ⟨am_tin 800 (by rfl) (by rfl), am_tin 98 (by decide +kernel) rfl, by decide +kernel, by decide +kernel, by decide +kernel⟩
theorem cs_L_carried : Cond.static (am_mY y_L_carried) ∈ am_tb := am_tin 799 (by decide +kernel) rfl
set_option maxRecDepth 100000 in
theorem cf_L_richest : am_cf y_L_richest := ⟨am_tin 807 (by rfl) (by rfl), am_tin 98 (by decide +kernel) rfl, by decide +kernel, by decide +kernel, by decide +kernel⟩
theorem cs_L_richest : Cond.static (am_mY y_L_richest) ∈ am_tb := am_tin 806 (by decide +kernel) rfl
set_option maxRecDepth 100000 in
theorem cf_L_addRow : am_cf y_L_addRow := ⟨am_tin 814 (by rfl) (by rfl), am_tin 98 (by decide +kernel) rfl, by decide +kernel, by decide +kernel, by decide +kernel⟩
theorem cs_L_addRow : Cond.static (am_mY y_L_addRow) ∈ am_tb := am_tin 813 (by decide +kernel) rfl
set_option maxRecDepth 100000 in
theorem cf_L_setAmount : am_cf y_L_setAmount := ⟨am_tin 834 (by rfl) (by rfl), am_tin 98 (by decide +kernel) rfl, by decide +kernel, by decide +kernel, by decide +kernel⟩
theorem cs_L_setAmount : Cond.static (am_mY y_L_setAmount) ∈ am_tb := am_tin 833 (by decide +kernel) rfl
set_option maxRecDepth 100000 in
theorem cf_L_keep : am_cf y_L_keep := ⟨am_tin 843 (by rfl) (by rfl), am_tin 98 (by decide +kernel) rfl, by decide +kernel, by decide +kernel, by decide +kernel⟩
theorem cs_L_keep : Cond.static (am_mY y_L_keep) ∈ am_tb := am_tin 842 (by decide +kernel) rfl
set_option maxRecDepth 100000 in
theorem cf_L_removeRow : am_cf y_L_removeRow := ⟨am_tin 850 (by rfl) (by rfl), am_tin 98 (by decide +kernel) rfl, by decide +kernel, by decide +kernel, by decide +kernel⟩
theorem cs_L_removeRow : Cond.static (am_mY y_L_removeRow) ∈ am_tb := am_tin 849 (by decide +kernel) rfl
set_option maxRecDepth 100000 in
theorem cf_L_addSpan : am_cf y_L_addSpan := ⟨am_tin 866 (by rfl) (by rfl), am_tin 98 (by decide +kernel) rfl, by decide +kernel, by decide +kernel, by decide +kernel⟩
theorem cs_L_addSpan : Cond.static (am_mY y_L_addSpan) ∈ am_tb := am_tin 865 (by decide +kernel) rfl
set_option maxRecDepth 100000 in
theorem cf_L_removeSpan : am_cf y_L_removeSpan := ⟨am_tin 877 (by rfl) (by rfl), am_tin 98 (by decide +kernel) rfl, by decide +kernel, by decide +kernel, by decide +kernel⟩
theorem cs_L_removeSpan : Cond.static (am_mY y_L_removeSpan) ∈ am_tb := am_tin 876 (by decide +kernel) rfl
set_option maxRecDepth 100000 in
theorem cf_L_setHeight : am_cf y_L_setHeight := ⟨am_tin 888 (by rfl) (by rfl), am_tin 98 (by decide +kernel) rfl, by decide +kernel, by decide +kernel, by decide +kernel⟩
theorem cs_L_setHeight : Cond.static (am_mY y_L_setHeight) ∈ am_tb := am_tin 887 (by decide +kernel) rfl
set_option maxRecDepth 100000 in
theorem cf_L_undo : am_cf y_L_undo := ⟨am_tin 903 (by rfl) (by rfl), am_tin 98 (by decide +kernel) rfl, by decide +kernel, by decide +kernel, by decide +kernel⟩
theorem cs_L_undo : Cond.static (am_mY y_L_undo) ∈ am_tb := am_tin 902 (by decide +kernel) rfl
set_option maxRecDepth 100000 in
theorem cf_L_heightFor : am_cf y_L_heightFor := ⟨am_tin 915 (by rfl) (by rfl), am_tin 98 (by decide +kernel) rfl, by decide +kernel, by decide +kernel, by decide +kernel⟩
theorem cs_L_heightFor : Cond.static (am_mY y_L_heightFor) ∈ am_tb := am_tin 914 (by decide +kernel) rfl
set_option maxRecDepth 100000 in
theorem cf_L_evenCut : am_cf y_L_evenCut := ⟨am_tin 923 (by rfl) (by rfl), am_tin 98 (by decide +kernel) rfl, by decide +kernel, by decide +kernel, by decide +kernel⟩
theorem cs_L_evenCut : Cond.static (am_mY y_L_evenCut) ∈ am_tb := am_tin 922 (by decide +kernel) rfl
set_option maxRecDepth 100000 in
theorem cf_L_emptyFrom : am_cf y_L_emptyFrom := ⟨am_tin 935 (by rfl) (by rfl), am_tin 98 (by decide +kernel) rfl, by decide +kernel, by decide +kernel, by decide +kernel⟩
theorem cs_L_emptyFrom : Cond.static (am_mY y_L_emptyFrom) ∈ am_tb := am_tin 934 (by decide +kernel) rfl
set_option maxRecDepth 100000 in
theorem cf_L_runScript : am_cf y_L_runScript := ⟨am_tin 946 (by rfl) (by rfl), am_tin 98 (by decide +kernel) rfl, by decide +kernel, by decide +kernel, by decide +kernel⟩
theorem cs_L_runScript : Cond.static (am_mY y_L_runScript) ∈ am_tb := am_tin 945 (by decide +kernel) rfl
set_option maxRecDepth 100000 in
theorem cf_L_simulate : am_cf y_L_simulate := ⟨am_tin 1009 (by rfl) (by rfl), am_tin 98 (by decide +kernel) rfl, by decide +kernel, by decide +kernel, by decide +kernel⟩
theorem cs_L_simulate : Cond.static (am_mY y_L_simulate) ∈ am_tb := am_tin 1008 (by decide +kernel) rfl
set_option maxRecDepth 100000 in
theorem cf_L_save : am_cf y_L_save := ⟨am_tin 1027 (by rfl) (by rfl), am_tin 98 (by decide +kernel) rfl, by decide +kernel, by decide +kernel, by decide +kernel⟩
theorem cs_L_save : Cond.static (am_mY y_L_save) ∈ am_tb := am_tin 1026 (by decide +kernel) rfl
set_option maxRecDepth 100000 in
theorem cf_L_restore : am_cf y_L_restore := ⟨am_tin 1043 (by rfl) (by rfl), am_tin 98 (by decide +kernel) rfl, by decide +kernel, by decide +kernel, by decide +kernel⟩
theorem cs_L_restore : Cond.static (am_mY y_L_restore) ∈ am_tb := am_tin 1042 (by decide +kernel) rfl
def am_str : List (String × Nat × String) := [("TablePager", 63, "no character code"), ("TablePager", 74, "the text is full"), ("TablePager", 90, "the text is not a table"), ("TablePager", 130, "no such number of the table"), ("TablePager", 344, "no such row"), ("TablePager", 158, "no such number of a row"), ("TablePager", 350, "no such column"), ("TablePager", 355, "no such span"), ("TablePager", 183, "no such number of a span"), ("TablePager", 185, "no such note"), ("TablePager", 286, "no such page"), ("TablePager", 214, "no such number of a page"), ("TablePager", 226, "no such height or note of a row"), ("TablePager", 229, "there are as many rows as there may be"), ("TablePager", 238, "no such amount"), ("TablePager", 247, "the last row is not behind the first one"), ("TablePager", 252, "there are as many spans as there may be"), ("TablePager", 264, "no such height"), ("TablePager", 272, "no state is remembered"), ("TablePager", 277, "no such number of pages"), ("TablePager", 293, "no such number of commands"), ("TablePager", 299, "no script of so many commands"), ("TablePager", 310, "no such number of rounds"), ("TablePager", 360, "no such save slot"), ("TablePager", 334, "nothing is saved in this slot")]
def am_nc : List (String × String) := [("java/lang/IllegalArgumentException", "java/lang/IllegalStateException"), ("java/lang/IllegalArgumentException", "java/lang/IndexOutOfBoundsException"), ("java/lang/IllegalStateException", "java/lang/IllegalArgumentException"), ("java/lang/IllegalStateException", "java/lang/IndexOutOfBoundsException"), ("java/lang/IndexOutOfBoundsException", "java/lang/IllegalArgumentException"), ("java/lang/IndexOutOfBoundsException", "java/lang/IllegalStateException")]
