/-! written by wip/p32/gen.py out of the claim's printed texts: classes, fields, methods, where their words lie -/
def am_F0 : u_T := fun k => match k with
  | 0 => ("TablePager", "text", "LTablePager$Text;", true)
  | 1 => ("TablePager", "table", "LTablePager$Table;", true)
  | 2 => ("TablePager", "history", "LTablePager$History;", true)
  | 3 => ("TablePager", "slots", "LTablePager$Slots;", true)
  | 4 => ("TablePager", "layout", "LTablePager$Layout;", true)
  | 5 => ("TablePager", "evener", "LTablePager$Evener;", true)
  | 6 => ("TablePager", "command", "LTablePager$Command;", true)
  | _ => ("TablePager", "scratch", "LTablePager$Table;", true)
def am_F1 : u_T := fun k => match k with
  | 0 => ("TablePager$Command", "kind", "I", false)
  | 1 => ("TablePager$Command", "second", "I", false)
  | 2 => ("TablePager$Command", "third", "I", false)
  | 3 => ("TablePager$Command", "fourth", "I", false)
  | _ => ("TablePager$Command", "fifth", "I", false)
def am_F2 : u_T := fun k => match k with
  | 0 => ("TablePager$Evener", "costs", "[I", true)
  | 1 => ("TablePager$Evener", "ends", "[I", true)
  | _ => ("TablePager$Evener", "sheet", "LTablePager$Sheet;", true)
def am_F3 : u_T := fun k => match k with
  | 0 => ("TablePager$History", "kept", "[LTablePager$Table;", true)
  | 1 => ("TablePager$History", "next", "I", false)
  | _ => ("TablePager$History", "count", "I", false)
def am_F4 : u_T := fun k => match k with
  | 0 => ("TablePager$Layout", "pages", "I", false)
  | 1 => ("TablePager$Layout", "overfull", "I", false)
  | 2 => ("TablePager$Layout", "ends", "[I", true)
  | _ => ("TablePager$Layout", "sheet", "LTablePager$Sheet;", true)
def am_F5 : u_T := fun k => match k with
  | 0 => ("TablePager$Sheet", "names", "I", false)
  | 1 => ("TablePager$Sheet", "notes", "I", false)
  | 2 => ("TablePager$Sheet", "lines", "I", false)
  | _ => ("TablePager$Sheet", "carry", "I", false)
def am_F6 : u_T := fun k => match k with
  | 0 => ("TablePager$Slots", "kept", "[LTablePager$Table;", true)
  | _ => ("TablePager$Slots", "filled", "[Z", true)
def am_F7 : u_T := fun k => match k with
  | 0 => ("TablePager$Table", "columns", "I", false)
  | 1 => ("TablePager$Table", "rows", "I", false)
  | 2 => ("TablePager$Table", "spans", "I", false)
  | 3 => ("TablePager$Table", "pageHeight", "I", false)
  | 4 => ("TablePager$Table", "headingHeight", "I", false)
  | 5 => ("TablePager$Table", "heights", "[I", true)
  | 6 => ("TablePager$Table", "notes", "[I", true)
  | 7 => ("TablePager$Table", "stays", "[Z", true)
  | 8 => ("TablePager$Table", "amounts", "[I", true)
  | 9 => ("TablePager$Table", "firsts", "[I", true)
  | 10 => ("TablePager$Table", "lasts", "[I", true)
  | 11 => ("TablePager$Table", "mayBeCut", "[Z", true)
  | _ => ("TablePager$Table", "noteHeights", "[I", true)
def am_F8 : u_T := fun k => match k with
  | 0 => ("TablePager$Text", "signs", "[C", true)
  | 1 => ("TablePager$Text", "length", "I", false)
  | _ => ("TablePager$Text", "at", "I", false)
def am_F9 : u_T := fun k => match k with
  | 0 => ("TablePager$Text", "signs", "[C", true)
  | 1 => ("TablePager$Text", "length", "I", false)
  | _ => ("TablePager$Text", "at", "I", false)
def am_cN : Nat → String := fun ci => match ci with
  | 0 => "TablePager"
  | 1 => "TablePager$Command"
  | 2 => "TablePager$Evener"
  | 3 => "TablePager$History"
  | 4 => "TablePager$Layout"
  | 5 => "TablePager$Sheet"
  | 6 => "TablePager$Slots"
  | 7 => "TablePager$Table"
  | 8 => "TablePager$Text"
  | _ => "TablePager$Text"
def am_cT : Nat → u_T := fun ci => match ci with
  | 0 => am_F0
  | 1 => am_F1
  | 2 => am_F2
  | 3 => am_F3
  | 4 => am_F4
  | 5 => am_F5
  | 6 => am_F6
  | 7 => am_F7
  | 8 => am_F8
  | _ => am_F9
def am_cn : Nat → Nat := fun ci => match ci with
  | 0 => 8
  | 1 => 5
  | 2 => 3
  | 3 => 3
  | 4 => 4
  | 5 => 4
  | 6 => 2
  | 7 => 13
  | 8 => 3
  | _ => 3
abbrev am_cls : List vw_C := [("TablePager", am_F0, 8), ("TablePager$Command", am_F1, 5), ("TablePager$Evener", am_F2, 3), ("TablePager$History", am_F3, 3), ("TablePager$Layout", am_F4, 4), ("TablePager$Sheet", am_F5, 4), ("TablePager$Slots", am_F6, 2), ("TablePager$Table", am_F7, 13), ("TablePager$Text", am_F8, 3), ("TablePager$Text", am_F9, 3)]
theorem am_cls_at : ∀ ci, ci < 10 → am_cls[ci]? = some (am_cN ci, am_cT ci, am_cn ci) := by
  intro ci h
  match ci, h with
  | 0, _ => rfl
  | 1, _ => rfl
  | 2, _ => rfl
  | 3, _ => rfl
  | 4, _ => rfl
  | 5, _ => rfl
  | 6, _ => rfl
  | 7, _ => rfl
  | 8, _ => rfl
  | 9, _ => rfl
  | k + 10, h => exact absurd h (by omega)
/-- 0 an int, 1 a truth value, 2 a reference -/
def am_fk : Nat → Nat → Nat := fun ci k => match ci with
  | 0 => ([2, 2, 2, 2, 2, 2, 2, 2] : List Nat).getD k 0
  | 1 => ([0, 0, 0, 0, 0] : List Nat).getD k 0
  | 2 => ([2, 2, 2] : List Nat).getD k 0
  | 3 => ([2, 0, 0] : List Nat).getD k 0
  | 4 => ([0, 0, 2, 2] : List Nat).getD k 0
  | 5 => ([0, 0, 0, 0] : List Nat).getD k 0
  | 6 => ([2, 2] : List Nat).getD k 0
  | 7 => ([0, 0, 0, 0, 0, 2, 2, 2, 2, 2, 2, 2, 2] : List Nat).getD k 0
  | 8 => ([2, 0, 0] : List Nat).getD k 0
  | _ => ([2, 0, 0] : List Nat).getD k 0
def am_ty : Nat → Nat → FieldType := fun ci k => (parseFieldDescriptor (am_cT ci k).2.2.1).getD .int
def am_sv (w : Jvm.Cond) : Bool := match w with
  | .fieldLinkNest .. => true
  | .methodLinkNest .. => true
  | .castable .. => true
  | .declares _ => true
  | w => goodWord w
def am_tb : List Jvm.Cond := lw_tbl.filter am_sv
theorem am_tin {w : Jvm.Cond} (i : Nat) (h : lw_tbl[i]? = some w) (h2 : am_sv w = true) : w ∈ am_tb := List.mem_filter.mpr ⟨List.mem_of_getElem? h, h2⟩
theorem am_hin0 : ∀ w ∈ u_ws (am_cN 0) (am_cT 0) (am_cn 0), w ∈ am_tb := by
  have e : u_ws (am_cN 0) (am_cT 0) (am_cn 0) = ([331, 333, 335, 337, 339, 341, 343, 345] : List Nat).filterMap (fun i => lw_tbl[i]?) := by decide +kernel
  have g : (u_ws (am_cN 0) (am_cT 0) (am_cn 0)).all am_sv = true := by decide +kernel
  intro w hw
  refine List.mem_filter.mpr ⟨?_, List.all_eq_true.mp g w hw⟩
  rw [e] at hw
  obtain ⟨i, -, hi⟩ := List.mem_filterMap.mp hw
  exact List.mem_of_getElem? hi
theorem am_hin1 : ∀ w ∈ u_ws (am_cN 1) (am_cT 1) (am_cn 1), w ∈ am_tb := by
  have e : u_ws (am_cN 1) (am_cT 1) (am_cn 1) = ([312, 314, 316, 318, 320] : List Nat).filterMap (fun i => lw_tbl[i]?) := by decide +kernel
  have g : (u_ws (am_cN 1) (am_cT 1) (am_cn 1)).all am_sv = true := by decide +kernel
  intro w hw
  refine List.mem_filter.mpr ⟨?_, List.all_eq_true.mp g w hw⟩
  rw [e] at hw
  obtain ⟨i, -, hi⟩ := List.mem_filterMap.mp hw
  exact List.mem_of_getElem? hi
theorem am_hin2 : ∀ w ∈ u_ws (am_cN 2) (am_cT 2) (am_cn 2), w ∈ am_tb := by
  have e : u_ws (am_cN 2) (am_cT 2) (am_cn 2) = ([294, 296, 298] : List Nat).filterMap (fun i => lw_tbl[i]?) := by decide +kernel
  have g : (u_ws (am_cN 2) (am_cT 2) (am_cn 2)).all am_sv = true := by decide +kernel
  intro w hw
  refine List.mem_filter.mpr ⟨?_, List.all_eq_true.mp g w hw⟩
  rw [e] at hw
  obtain ⟨i, -, hi⟩ := List.mem_filterMap.mp hw
  exact List.mem_of_getElem? hi
theorem am_hin3 : ∀ w ∈ u_ws (am_cN 3) (am_cT 3) (am_cn 3), w ∈ am_tb := by
  have e : u_ws (am_cN 3) (am_cT 3) (am_cn 3) = ([218, 220, 222] : List Nat).filterMap (fun i => lw_tbl[i]?) := by decide +kernel
  have g : (u_ws (am_cN 3) (am_cT 3) (am_cn 3)).all am_sv = true := by decide +kernel
  intro w hw
  refine List.mem_filter.mpr ⟨?_, List.all_eq_true.mp g w hw⟩
  rw [e] at hw
  obtain ⟨i, -, hi⟩ := List.mem_filterMap.mp hw
  exact List.mem_of_getElem? hi
theorem am_hin4 : ∀ w ∈ u_ws (am_cN 4) (am_cT 4) (am_cn 4), w ∈ am_tb := by
  have e : u_ws (am_cN 4) (am_cT 4) (am_cn 4) = ([274, 276, 278, 280] : List Nat).filterMap (fun i => lw_tbl[i]?) := by decide +kernel
  have g : (u_ws (am_cN 4) (am_cT 4) (am_cn 4)).all am_sv = true := by decide +kernel
  intro w hw
  refine List.mem_filter.mpr ⟨?_, List.all_eq_true.mp g w hw⟩
  rw [e] at hw
  obtain ⟨i, -, hi⟩ := List.mem_filterMap.mp hw
  exact List.mem_of_getElem? hi
theorem am_hin5 : ∀ w ∈ u_ws (am_cN 5) (am_cT 5) (am_cn 5), w ∈ am_tb := by
  have e : u_ws (am_cN 5) (am_cT 5) (am_cn 5) = ([257, 259, 261, 263] : List Nat).filterMap (fun i => lw_tbl[i]?) := by decide +kernel
  have g : (u_ws (am_cN 5) (am_cT 5) (am_cn 5)).all am_sv = true := by decide +kernel
  intro w hw
  refine List.mem_filter.mpr ⟨?_, List.all_eq_true.mp g w hw⟩
  rw [e] at hw
  obtain ⟨i, -, hi⟩ := List.mem_filterMap.mp hw
  exact List.mem_of_getElem? hi
theorem am_hin6 : ∀ w ∈ u_ws (am_cN 6) (am_cT 6) (am_cn 6), w ∈ am_tb := by
  have e : u_ws (am_cN 6) (am_cT 6) (am_cn 6) = ([235, 237] : List Nat).filterMap (fun i => lw_tbl[i]?) := by decide +kernel
  have g : (u_ws (am_cN 6) (am_cT 6) (am_cn 6)).all am_sv = true := by decide +kernel
  intro w hw
  refine List.mem_filter.mpr ⟨?_, List.all_eq_true.mp g w hw⟩
  rw [e] at hw
  obtain ⟨i, -, hi⟩ := List.mem_filterMap.mp hw
  exact List.mem_of_getElem? hi
theorem am_hin7 : ∀ w ∈ u_ws (am_cN 7) (am_cT 7) (am_cn 7), w ∈ am_tb := by
  have e : u_ws (am_cN 7) (am_cT 7) (am_cn 7) = ([176, 178, 180, 182, 184, 186, 188, 190, 192, 194, 196, 198, 200] : List Nat).filterMap (fun i => lw_tbl[i]?) := by decide +kernel
  have g : (u_ws (am_cN 7) (am_cT 7) (am_cn 7)).all am_sv = true := by decide +kernel
  intro w hw
  refine List.mem_filter.mpr ⟨?_, List.all_eq_true.mp g w hw⟩
  rw [e] at hw
  obtain ⟨i, -, hi⟩ := List.mem_filterMap.mp hw
  exact List.mem_of_getElem? hi
theorem am_hin8 : ∀ w ∈ u_ws (am_cN 8) (am_cT 8) (am_cn 8), w ∈ am_tb := by
  have e : u_ws (am_cN 8) (am_cT 8) (am_cn 8) = ([109, 111, 113] : List Nat).filterMap (fun i => lw_tbl[i]?) := by decide +kernel
  have g : (u_ws (am_cN 8) (am_cT 8) (am_cn 8)).all am_sv = true := by decide +kernel
  intro w hw
  refine List.mem_filter.mpr ⟨?_, List.all_eq_true.mp g w hw⟩
  rw [e] at hw
  obtain ⟨i, -, hi⟩ := List.mem_filterMap.mp hw
  exact List.mem_of_getElem? hi
theorem am_hin9 : ∀ w ∈ u_ws (am_cN 9) (am_cT 9) (am_cn 9), w ∈ am_tb := by
  have e : u_ws (am_cN 9) (am_cT 9) (am_cn 9) = ([109, 111, 113] : List Nat).filterMap (fun i => lw_tbl[i]?) := by decide +kernel
  have g : (u_ws (am_cN 9) (am_cT 9) (am_cn 9)).all am_sv = true := by decide +kernel
  intro w hw
  refine List.mem_filter.mpr ⟨?_, List.all_eq_true.mp g w hw⟩
  rw [e] at hw
  obtain ⟨i, -, hi⟩ := List.mem_filterMap.mp hw
  exact List.mem_of_getElem? hi
theorem am_hin : ∀ ci, ci < 10 → ∀ w ∈ u_ws (am_cN ci) (am_cT ci) (am_cn ci), w ∈ am_tb := by
  intro ci h
  match ci, h with
  | 0, _ => exact am_hin0
  | 1, _ => exact am_hin1
  | 2, _ => exact am_hin2
  | 3, _ => exact am_hin3
  | 4, _ => exact am_hin4
  | 5, _ => exact am_hin5
  | 6, _ => exact am_hin6
  | 7, _ => exact am_hin7
  | 8, _ => exact am_hin8
  | 9, _ => exact am_hin9
  | k + 10, h => exact absurd h (by omega)
theorem am_hty : ∀ ci, ci < 10 → ∀ k, k < am_cn ci → parseFieldDescriptor (am_cT ci k).2.2.1 = some (am_ty ci k) := by decide +kernel
theorem am_hnm : ∀ ci, ci < 10 → ∀ a, a < am_cn ci → ∀ b, b < am_cn ci → a ≠ b → (am_cT ci a).2.1 ≠ (am_cT ci b).2.1 := by decide +kernel
theorem am_hfk : ∀ ci, ci < 10 → ∀ k, k < am_cn ci → (am_fk ci k = 0 → am_ty ci k = .int ∧ (am_cT ci k).2.2.2 = false) ∧ (am_fk ci k = 1 → am_ty ci k = .boolean ∧ (am_cT ci k).2.2.2 = false) ∧ (am_fk ci k = 2 → (am_ty ci k).isReference = true ∧ (am_cT ci k).2.2.2 = true) ∧ am_fk ci k < 3 := by decide +kernel
theorem am_hdc : ∀ ci, ci < 10 → ∀ k, k < am_cn ci → (am_cT ci k).1 = am_cN ci := by decide +kernel
theorem am_hic : ∀ ci, ci < 10 → Cond.instantiable (am_cN ci) (am_cn ci) ∈ am_tb ∧ Cond.initialized (am_cN ci) ∈ am_tb := by
  intro ci h
  match ci, h with
  | 0, _ => exact ⟨am_tin 92 (by decide +kernel) rfl, am_tin 74 (by decide +kernel) rfl⟩
  | 1, _ => exact ⟨am_tin 302 (by decide +kernel) rfl, am_tin 82 (by decide +kernel) rfl⟩
  | 2, _ => exact ⟨am_tin 284 (by decide +kernel) rfl, am_tin 81 (by decide +kernel) rfl⟩
  | 3, _ => exact ⟨am_tin 206 (by decide +kernel) rfl, am_tin 77 (by decide +kernel) rfl⟩
  | 4, _ => exact ⟨am_tin 241 (by decide +kernel) rfl, am_tin 79 (by decide +kernel) rfl⟩
  | 5, _ => exact ⟨am_tin 247 (by decide +kernel) rfl, am_tin 80 (by decide +kernel) rfl⟩
  | 6, _ => exact ⟨am_tin 226 (by decide +kernel) rfl, am_tin 78 (by decide +kernel) rfl⟩
  | 7, _ => exact ⟨am_tin 118 (by decide +kernel) rfl, am_tin 76 (by decide +kernel) rfl⟩
  | 8, _ => exact ⟨am_tin 100 (by decide +kernel) rfl, am_tin 75 (by decide +kernel) rfl⟩
  | 9, _ => exact ⟨am_tin 100 (by decide +kernel) rfl, am_tin 75 (by decide +kernel) rfl⟩
  | k + 10, h => exact absurd h (by omega)
/-- the sorts of cells: 0 to 9 the objects of the ten classes; from 10 on arrays: their kind (0 int, 1 truth values, 2 signs, 3 long, 4 Tables) and length; 36 the script -/
def am_atl : List Nat := [9, 9, 9, 9, 9, 9, 9, 9, 9, 9, 0, 0, 1, 0, 0, 0, 1, 0, 4, 4, 1, 0, 0, 0, 2, 0, 0, 0, 0, 0, 0, 1, 0, 0, 0, 3, 8]
def am_anl : List Nat := [0, 0, 0, 0, 0, 0, 0, 0, 0, 0, 24, 24, 24, 96, 6, 6, 6, 7, 14, 2, 2, 24, 25, 24, 160, 160, 197, 197, 197, 2758, 394, 2, 24, 25, 24, 1, 0]
def am_at (s : Nat) : Nat := am_atl.getD s 9
def am_an (s : Nat) : Nat := am_anl.getD s 0
def am_aty (t : Nat) : FieldType := match t with
  | 0 => .int
  | 1 => .boolean
  | 2 => .char
  | 3 => .int
  | _ => .object "TablePager$Table"
abbrev y_P_init : Nat := 0
abbrev y_P_append : Nat := 1
abbrev y_P_clearText : Nat := 2
abbrev y_P_errorPosition : Nat := 3
abbrev y_P_load : Nat := 4
abbrev y_P_about : Nat := 5
abbrev y_P_row : Nat := 6
abbrev y_P_amount : Nat := 7
abbrev y_P_span : Nat := 8
abbrev y_P_note : Nat := 9
abbrev y_P_page : Nat := 10
abbrev y_P_brought : Nat := 11
abbrev y_P_carried : Nat := 12
abbrev y_P_richest : Nat := 13
abbrev y_P_addRow : Nat := 14
abbrev y_P_setAmount : Nat := 15
abbrev y_P_keep : Nat := 16
abbrev y_P_removeRow : Nat := 17
abbrev y_P_addSpan : Nat := 18
abbrev y_P_removeSpan : Nat := 19
abbrev y_P_setHeight : Nat := 20
abbrev y_P_undo : Nat := 21
abbrev y_P_heightFor : Nat := 22
abbrev y_P_evenest : Nat := 23
abbrev y_P_evenCut : Nat := 24
abbrev y_P_emptyFrom : Nat := 25
abbrev y_P_runScript : Nat := 26
abbrev y_P_simulate : Nat := 27
abbrev y_P_save : Nat := 28
abbrev y_P_restore : Nat := 29
abbrev y_P_layOut : Nat := 30
abbrev y_P_countPages : Nat := 31
abbrev y_P_requireRow : Nat := 32
abbrev y_P_requireColumn : Nat := 33
abbrev y_P_requireSpan : Nat := 34
abbrev y_P_requirePage : Nat := 35
abbrev y_P_requireSlot : Nat := 36
abbrev y_P_withoutGroups : Nat := 37
abbrev y_P_isIn : Nat := 38
abbrev y_Command_init : Nat := 39
abbrev y_Command_setDigits : Nat := 40
abbrev y_Command_runOn : Nat := 41
abbrev y_Command_holds : Nat := 42
abbrev y_Command_firstPair : Nat := 43
abbrev y_Command_addsRow : Nat := 44
abbrev y_Command_putsAmount : Nat := 45
abbrev y_Command_marksRow : Nat := 46
abbrev y_Command_dropsRow : Nat := 47
abbrev y_Command_putsHeight : Nat := 48
abbrev y_Evener_init : Nat := 49
abbrev y_Evener_leastCost : Nat := 50
abbrev y_Evener_chooseEnd : Nat := 51
abbrev y_Evener_costOfSheet : Nat := 52
abbrev y_Evener_lastOf : Nat := 53
abbrev y_History_init : Nat := 54
abbrev y_History_forget : Nat := 55
abbrev y_History_remember : Nat := 56
abbrev y_History_takeBack : Nat := 57
abbrev y_Layout_init : Nat := 58
abbrev y_Layout_lay : Nat := 59
abbrev y_Layout_lastThatFits : Nat := 60
abbrev y_Layout_firstEnd : Nat := 61
abbrev y_Layout_hasPage : Nat := 62
abbrev y_Layout_firstOf : Nat := 63
abbrev y_Layout_lastOf : Nat := 64
abbrev y_Layout_pageOf : Nat := 65
abbrev y_Layout_pagesOfSpan : Nat := 66
abbrev y_Layout_countCutSpans : Nat := 67
abbrev y_Layout_sheetOf : Nat := 68
abbrev y_Layout_emptyFromRow : Nat := 69
abbrev y_Layout_fill : Nat := 70
abbrev y_Sheet_init : Nat := 71
abbrev y_Sheet_begin : Nat := 72
abbrev y_Sheet_take : Nat := 73
abbrev y_Sheet_needed : Nat := 74
abbrev y_Sheet_noteBits : Nat := 75
abbrev y_Slots_init : Nat := 76
abbrev y_Slots_empty : Nat := 77
abbrev y_Slots_isFilled : Nat := 78
abbrev y_Slots_put : Nat := 79
abbrev y_Slots_copyTo : Nat := 80
abbrev y_Table_init : Nat := 81
abbrev y_Table_makeNew : Nat := 82
abbrev y_Table_copyFrom : Nat := 83
abbrev y_Table_hasRow : Nat := 84
abbrev y_Table_hasColumn : Nat := 85
abbrev y_Table_hasSpan : Nat := 86
abbrev y_Table_isFull : Nat := 87
abbrev y_Table_hasAllSpans : Nat := 88
abbrev y_Table_allowsRow : Nat := 89
abbrev y_Table_allowsHeight : Nat := 90
abbrev y_Table_putHeight : Nat := 91
abbrev y_Table_amountAt : Nat := 92
abbrev y_Table_putAmount : Nat := 93
abbrev y_Table_sumOfRows : Nat := 94
abbrev y_Table_putRow : Nat := 95
abbrev y_Table_dropRow : Nat := 96
abbrev y_Table_takeRowFromSpans : Nat := 97
abbrev y_Table_putSpan : Nat := 98
abbrev y_Table_dropSpan : Nat := 99
abbrev y_Table_cutRows : Nat := 100
abbrev y_Table_endRows : Nat := 101
abbrev y_Table_upTo : Nat := 102
abbrev y_Table_playRound : Nat := 103
abbrev y_Text_init : Nat := 104
abbrev y_Text_isFull : Nat := 105
abbrev y_Text_put : Nat := 106
abbrev y_Text_readInto : Nat := 107
abbrev y_Text_readHead : Nat := 108
abbrev y_Text_readPart : Nat := 109
abbrev y_Text_readRow : Nat := 110
abbrev y_Text_readNote : Nat := 111
abbrev y_Text_readNoteHeight : Nat := 112
abbrev y_Text_readSpan : Nat := 113
abbrev y_Text_takeSign : Nat := 114
abbrev y_Text_takeDigit : Nat := 115
abbrev y_Text_takePair : Nat := 116
abbrev y_L_draw : Nat := 117
abbrev y_L_in : Nat := 118
abbrev y_L_append : Nat := 119
abbrev y_L_load : Nat := 120
abbrev y_L_about : Nat := 121
abbrev y_L_row : Nat := 122
abbrev y_L_amount : Nat := 123
abbrev y_L_span : Nat := 124
abbrev y_L_note : Nat := 125
abbrev y_L_page : Nat := 126
abbrev y_L_brought : Nat := 127
abbrev y_L_carried : Nat := 128
abbrev y_L_richest : Nat := 129
abbrev y_L_addRow : Nat := 130
abbrev y_L_setAmount : Nat := 131
abbrev y_L_keep : Nat := 132
abbrev y_L_removeRow : Nat := 133
abbrev y_L_addSpan : Nat := 134
abbrev y_L_removeSpan : Nat := 135
abbrev y_L_setHeight : Nat := 136
abbrev y_L_undo : Nat := 137
abbrev y_L_heightFor : Nat := 138
abbrev y_L_evenCut : Nat := 139
abbrev y_L_emptyFrom : Nat := 140
abbrev y_L_script : Nat := 141
abbrev y_L_simulate : Nat := 142
abbrev y_L_save : Nat := 143
abbrev y_L_restore : Nat := 144
abbrev y_L_now : Nat := 145
abbrev y_L_errors : Nat := 146
abbrev y_L_kept : Nat := 147
abbrev y_L_follows : Nat := 148
abbrev y_L_o : Nat := 149
abbrev y_L_alike : Nat := 150
abbrev y_L_says : Nat := 151
abbrev y_L_tells : Nat := 152
abbrev y_L_act : Nat := 153
abbrev y_L_law : Nat := 154
abbrev am_law : Nat := 154
def am_mY_0 : List MethodName := [⟨"TablePager", "<init>", "()V"⟩, ⟨"TablePager", "append", "(I)I"⟩, ⟨"TablePager", "clearText", "()I"⟩, ⟨"TablePager", "errorPosition", "()I"⟩, ⟨"TablePager", "load", "()I"⟩, ⟨"TablePager", "about", "(I)I"⟩, ⟨"TablePager", "row", "(II)I"⟩, ⟨"TablePager", "amount", "(II)I"⟩, ⟨"TablePager", "span", "(II)I"⟩, ⟨"TablePager", "note", "(I)I"⟩, ⟨"TablePager", "page", "(II)I"⟩, ⟨"TablePager", "brought", "(II)I"⟩, ⟨"TablePager", "carried", "(II)I"⟩, ⟨"TablePager", "richest", "(I)I"⟩, ⟨"TablePager", "addRow", "(II)I"⟩, ⟨"TablePager", "setAmount", "(III)I"⟩, ⟨"TablePager", "keep", "(IZ)I"⟩, ⟨"TablePager", "removeRow", "(I)I"⟩, ⟨"TablePager", "addSpan", "(IIZ)I"⟩, ⟨"TablePager", "removeSpan", "(I)I"⟩, ⟨"TablePager", "setHeight", "(II)I"⟩, ⟨"TablePager", "undo", "()I"⟩, ⟨"TablePager", "heightFor", "(I)I"⟩, ⟨"TablePager", "evenest", "()I"⟩, ⟨"TablePager", "evenCut", "(I)I"⟩, ⟨"TablePager", "emptyFrom", "(I)I"⟩, ⟨"TablePager", "runScript", "(IJ)I"⟩, ⟨"TablePager", "simulate", "(JI)I"⟩, ⟨"TablePager", "save", "(I)I"⟩, ⟨"TablePager", "restore", "(I)I"⟩, ⟨"TablePager", "layOut", "()V"⟩, ⟨"TablePager", "countPages", "()I"⟩]
def am_mY_1 : List MethodName := [⟨"TablePager", "requireRow", "(I)V"⟩, ⟨"TablePager", "requireColumn", "(I)V"⟩, ⟨"TablePager", "requireSpan", "(I)V"⟩, ⟨"TablePager", "requirePage", "(I)V"⟩, ⟨"TablePager", "requireSlot", "(I)V"⟩, ⟨"TablePager", "withoutGroups", "(JI)J"⟩, ⟨"TablePager", "isIn", "(II)Z"⟩, ⟨"TablePager$Command", "<init>", "()V"⟩, ⟨"TablePager$Command", "setDigits", "(I)V"⟩, ⟨"TablePager$Command", "runOn", "(LTablePager$Table;LTablePager$Layout;)Z"⟩, ⟨"TablePager$Command", "holds", "(LTablePager$Table;LTablePager$Layout;)Z"⟩, ⟨"TablePager$Command", "firstPair", "()I"⟩, ⟨"TablePager$Command", "addsRow", "(LTablePager$Table;)Z"⟩, ⟨"TablePager$Command", "putsAmount", "(LTablePager$Table;)Z"⟩, ⟨"TablePager$Command", "marksRow", "(LTablePager$Table;)Z"⟩, ⟨"TablePager$Command", "dropsRow", "(LTablePager$Table;)Z"⟩, ⟨"TablePager$Command", "putsHeight", "(LTablePager$Table;)Z"⟩, ⟨"TablePager$Evener", "<init>", "()V"⟩, ⟨"TablePager$Evener", "leastCost", "(LTablePager$Table;)I"⟩, ⟨"TablePager$Evener", "chooseEnd", "(LTablePager$Table;II)V"⟩, ⟨"TablePager$Evener", "costOfSheet", "(LTablePager$Table;I)I"⟩, ⟨"TablePager$Evener", "lastOf", "(LTablePager$Table;I)I"⟩, ⟨"TablePager$History", "<init>", "()V"⟩, ⟨"TablePager$History", "forget", "()V"⟩, ⟨"TablePager$History", "remember", "(LTablePager$Table;)V"⟩, ⟨"TablePager$History", "takeBack", "(LTablePager$Table;)V"⟩, ⟨"TablePager$Layout", "<init>", "()V"⟩, ⟨"TablePager$Layout", "lay", "(LTablePager$Table;I)V"⟩, ⟨"TablePager$Layout", "lastThatFits", "(LTablePager$Table;III)I"⟩, ⟨"TablePager$Layout", "firstEnd", "(II)I"⟩, ⟨"TablePager$Layout", "hasPage", "(I)Z"⟩, ⟨"TablePager$Layout", "firstOf", "(I)I"⟩]
def am_mY_2 : List MethodName := [⟨"TablePager$Layout", "lastOf", "(I)I"⟩, ⟨"TablePager$Layout", "pageOf", "(I)I"⟩, ⟨"TablePager$Layout", "pagesOfSpan", "(LTablePager$Table;I)I"⟩, ⟨"TablePager$Layout", "countCutSpans", "(LTablePager$Table;)I"⟩, ⟨"TablePager$Layout", "sheetOf", "(LTablePager$Table;I)LTablePager$Sheet;"⟩, ⟨"TablePager$Layout", "emptyFromRow", "(LTablePager$Table;I)I"⟩, ⟨"TablePager$Layout", "fill", "(LTablePager$Table;II)V"⟩, ⟨"TablePager$Sheet", "<init>", "()V"⟩, ⟨"TablePager$Sheet", "begin", "(LTablePager$Table;I)V"⟩, ⟨"TablePager$Sheet", "take", "(LTablePager$Table;I)V"⟩, ⟨"TablePager$Sheet", "needed", "()I"⟩, ⟨"TablePager$Sheet", "noteBits", "()I"⟩, ⟨"TablePager$Slots", "<init>", "()V"⟩, ⟨"TablePager$Slots", "empty", "()V"⟩, ⟨"TablePager$Slots", "isFilled", "(I)Z"⟩, ⟨"TablePager$Slots", "put", "(ILTablePager$Table;)V"⟩, ⟨"TablePager$Slots", "copyTo", "(ILTablePager$Table;)V"⟩, ⟨"TablePager$Table", "<init>", "()V"⟩, ⟨"TablePager$Table", "makeNew", "()V"⟩, ⟨"TablePager$Table", "copyFrom", "(LTablePager$Table;)V"⟩, ⟨"TablePager$Table", "hasRow", "(I)Z"⟩, ⟨"TablePager$Table", "hasColumn", "(I)Z"⟩, ⟨"TablePager$Table", "hasSpan", "(I)Z"⟩, ⟨"TablePager$Table", "isFull", "()Z"⟩, ⟨"TablePager$Table", "hasAllSpans", "()Z"⟩, ⟨"TablePager$Table", "allowsRow", "(II)Z"⟩, ⟨"TablePager$Table", "allowsHeight", "(II)Z"⟩, ⟨"TablePager$Table", "putHeight", "(II)V"⟩, ⟨"TablePager$Table", "amountAt", "(II)I"⟩, ⟨"TablePager$Table", "putAmount", "(III)V"⟩, ⟨"TablePager$Table", "sumOfRows", "(III)I"⟩, ⟨"TablePager$Table", "putRow", "(II)V"⟩]
def am_mY_3 : List MethodName := [⟨"TablePager$Table", "dropRow", "(I)I"⟩, ⟨"TablePager$Table", "takeRowFromSpans", "(I)I"⟩, ⟨"TablePager$Table", "putSpan", "(IIZ)V"⟩, ⟨"TablePager$Table", "dropSpan", "(I)V"⟩, ⟨"TablePager$Table", "cutRows", "()I"⟩, ⟨"TablePager$Table", "endRows", "()I"⟩, ⟨"TablePager$Table", "upTo", "(I)I"⟩, ⟨"TablePager$Table", "playRound", "(I)V"⟩, ⟨"TablePager$Text", "<init>", "()V"⟩, ⟨"TablePager$Text", "isFull", "()Z"⟩, ⟨"TablePager$Text", "put", "(C)V"⟩, ⟨"TablePager$Text", "readInto", "(LTablePager$Table;)I"⟩, ⟨"TablePager$Text", "readHead", "(LTablePager$Table;)Z"⟩, ⟨"TablePager$Text", "readPart", "(LTablePager$Table;)Z"⟩, ⟨"TablePager$Text", "readRow", "(LTablePager$Table;)Z"⟩, ⟨"TablePager$Text", "readNote", "(LTablePager$Table;)Z"⟩, ⟨"TablePager$Text", "readNoteHeight", "(LTablePager$Table;)Z"⟩, ⟨"TablePager$Text", "readSpan", "(LTablePager$Table;)Z"⟩, ⟨"TablePager$Text", "takeSign", "(C)Z"⟩, ⟨"TablePager$Text", "takeDigit", "(II)I"⟩, ⟨"TablePager$Text", "takePair", "(II)I"⟩, ⟨"TablePagerLaw", "draw", "([II)I"⟩, ⟨"TablePagerLaw", "in", "(JJJ)Z"⟩, ⟨"TablePagerLaw", "append", "(LTablePager;I)J"⟩, ⟨"TablePagerLaw", "load", "(LTablePager;)J"⟩, ⟨"TablePagerLaw", "about", "(LTablePager;I)J"⟩, ⟨"TablePagerLaw", "row", "(LTablePager;II)J"⟩, ⟨"TablePagerLaw", "amount", "(LTablePager;II)J"⟩, ⟨"TablePagerLaw", "span", "(LTablePager;II)J"⟩, ⟨"TablePagerLaw", "note", "(LTablePager;I)J"⟩, ⟨"TablePagerLaw", "page", "(LTablePager;II)J"⟩, ⟨"TablePagerLaw", "brought", "(LTablePager;II)J"⟩]
def am_mY_4 : List MethodName := [⟨"TablePagerLaw", "carried", "(LTablePager;II)J"⟩, ⟨"TablePagerLaw", "richest", "(LTablePager;I)J"⟩, ⟨"TablePagerLaw", "addRow", "(LTablePager;II)J"⟩, ⟨"TablePagerLaw", "setAmount", "(LTablePager;III)J"⟩, ⟨"TablePagerLaw", "keep", "(LTablePager;IZ)J"⟩, ⟨"TablePagerLaw", "removeRow", "(LTablePager;I)J"⟩, ⟨"TablePagerLaw", "addSpan", "(LTablePager;IIZ)J"⟩, ⟨"TablePagerLaw", "removeSpan", "(LTablePager;I)J"⟩, ⟨"TablePagerLaw", "setHeight", "(LTablePager;II)J"⟩, ⟨"TablePagerLaw", "undo", "(LTablePager;)J"⟩, ⟨"TablePagerLaw", "heightFor", "(LTablePager;I)J"⟩, ⟨"TablePagerLaw", "evenCut", "(LTablePager;I)J"⟩, ⟨"TablePagerLaw", "emptyFrom", "(LTablePager;I)J"⟩, ⟨"TablePagerLaw", "script", "(LTablePager;IJ)J"⟩, ⟨"TablePagerLaw", "simulate", "(LTablePager;JI)J"⟩, ⟨"TablePagerLaw", "save", "(LTablePager;I)J"⟩, ⟨"TablePagerLaw", "restore", "(LTablePager;I)J"⟩, ⟨"TablePagerLaw", "now", "(LTablePager;)J"⟩, ⟨"TablePagerLaw", "errors", "(LTablePager;)Z"⟩, ⟨"TablePagerLaw", "kept", "(LTablePager;)Z"⟩, ⟨"TablePagerLaw", "follows", "(LTablePager;I)Z"⟩, ⟨"TablePagerLaw", "o", "(LTablePager;)J"⟩, ⟨"TablePagerLaw", "alike", "(LTablePager;LTablePager;I)Z"⟩, ⟨"TablePagerLaw", "says", "(LTablePager;I)Z"⟩, ⟨"TablePagerLaw", "tells", "(LTablePager;II)Z"⟩, ⟨"TablePagerLaw", "act", "(LTablePager;II)J"⟩, ⟨"TablePagerLaw", "law", "([I)Z"⟩]
def am_mY (y : Nat) : MethodName := match y / 32 with
  | 0 => am_mY_0.getD (y % 32) ⟨"", "", ""⟩
  | 1 => am_mY_1.getD (y % 32) ⟨"", "", ""⟩
  | 2 => am_mY_2.getD (y % 32) ⟨"", "", ""⟩
  | 3 => am_mY_3.getD (y % 32) ⟨"", "", ""⟩
  | _ => am_mY_4.getD (y % 32) ⟨"", "", ""⟩
def am_mB_0 : List ByteArray := [prog_1_method_1_code, prog_1_method_2_code, prog_1_method_3_code, prog_1_method_4_code, prog_1_method_5_code, prog_1_method_6_code, prog_1_method_7_code, prog_1_method_8_code, prog_1_method_9_code, prog_1_method_10_code, prog_1_method_11_code, prog_1_method_12_code, prog_1_method_13_code, prog_1_method_14_code, prog_1_method_15_code, prog_1_method_16_code, prog_1_method_17_code, prog_1_method_18_code, prog_1_method_19_code, prog_1_method_20_code, prog_1_method_21_code, prog_1_method_22_code, prog_1_method_23_code, prog_1_method_24_code, prog_1_method_25_code, prog_1_method_26_code, prog_1_method_27_code, prog_1_method_28_code, prog_1_method_29_code, prog_1_method_30_code, prog_1_method_31_code, prog_1_method_32_code]
def am_mB_1 : List ByteArray := [prog_1_method_33_code, prog_1_method_34_code, prog_1_method_35_code, prog_1_method_36_code, prog_1_method_37_code, prog_1_method_38_code, prog_1_method_39_code, prog_2_method_1_code, prog_2_method_2_code, prog_2_method_3_code, prog_2_method_4_code, prog_2_method_5_code, prog_2_method_6_code, prog_2_method_7_code, prog_2_method_8_code, prog_2_method_9_code, prog_2_method_10_code, prog_3_method_1_code, prog_3_method_2_code, prog_3_method_3_code, prog_3_method_4_code, prog_3_method_5_code, prog_4_method_1_code, prog_4_method_2_code, prog_4_method_3_code, prog_4_method_4_code, prog_5_method_1_code, prog_5_method_2_code, prog_5_method_3_code, prog_5_method_4_code, prog_5_method_5_code, prog_5_method_6_code]
def am_mB_2 : List ByteArray := [prog_5_method_7_code, prog_5_method_8_code, prog_5_method_9_code, prog_5_method_10_code, prog_5_method_11_code, prog_5_method_12_code, prog_5_method_13_code, prog_6_method_1_code, prog_6_method_2_code, prog_6_method_3_code, prog_6_method_4_code, prog_6_method_5_code, prog_7_method_1_code, prog_7_method_2_code, prog_7_method_3_code, prog_7_method_4_code, prog_7_method_5_code, prog_8_method_1_code, prog_8_method_2_code, prog_8_method_3_code, prog_8_method_4_code, prog_8_method_5_code, prog_8_method_6_code, prog_8_method_7_code, prog_8_method_8_code, prog_8_method_9_code, prog_8_method_10_code, prog_8_method_11_code, prog_8_method_12_code, prog_8_method_13_code, prog_8_method_14_code, prog_8_method_15_code]
def am_mB_3 : List ByteArray := [prog_8_method_16_code, prog_8_method_17_code, prog_8_method_18_code, prog_8_method_19_code, prog_8_method_20_code, prog_8_method_21_code, prog_8_method_22_code, prog_8_method_23_code, prog_9_method_1_code, prog_9_method_2_code, prog_9_method_3_code, prog_9_method_4_code, prog_9_method_5_code, prog_9_method_6_code, prog_9_method_7_code, prog_9_method_8_code, prog_9_method_9_code, prog_9_method_10_code, prog_9_method_11_code, prog_9_method_12_code, prog_9_method_13_code, method_2_code, method_3_code, method_4_code, method_5_code, method_6_code, method_7_code, method_8_code, method_9_code, method_10_code, method_11_code, method_12_code]
def am_mB_4 : List ByteArray := [method_13_code, method_14_code, method_15_code, method_16_code, method_17_code, method_18_code, method_19_code, method_20_code, method_21_code, method_22_code, method_23_code, method_24_code, method_25_code, method_26_code, method_27_code, method_28_code, method_29_code, method_30_code, method_31_code, method_33_code, method_34_code, method_35_code, method_36_code, method_37_code, method_38_code, method_39_code, code]
def am_mB (y : Nat) : ByteArray := match y / 32 with
  | 0 => am_mB_0.getD (y % 32) ⟨#[]⟩
  | 1 => am_mB_1.getD (y % 32) ⟨#[]⟩
  | 2 => am_mB_2.getD (y % 32) ⟨#[]⟩
  | 3 => am_mB_3.getD (y % 32) ⟨#[]⟩
  | _ => am_mB_4.getD (y % 32) ⟨#[]⟩
def am_mL_0 : List Nat := [1, 2, 2, 1, 1, 2, 3, 3, 3, 2, 4, 3, 3, 6, 3, 5, 3, 2, 4, 2, 3, 1, 3, 1, 2, 2, 7, 7, 2, 2, 1, 1]
def am_mL_1 : List Nat := [2, 2, 2, 2, 1, 6, 2, 1, 2, 3, 3, 1, 2, 2, 2, 2, 3, 1, 4, 7, 4, 6, 2, 1, 2, 2, 1, 6, 7, 3, 2, 2]
def am_mL_2 : List Nat := [2, 3, 3, 4, 3, 4, 5, 1, 4, 4, 1, 1, 2, 2, 2, 3, 3, 1, 2, 3, 2, 2, 2, 1, 1, 2, 2, 3, 3, 4, 6, 5]
def am_mL_3 : List Nat := [4, 6, 4, 3, 3, 1, 1, 4, 1, 1, 2, 4, 5, 2, 7, 3, 4, 5, 2, 4, 5, 2, 6, 3, 2, 3, 4, 4, 4, 3, 4, 4]
def am_mL_4 : List Nat := [4, 3, 4, 5, 4, 3, 5, 3, 4, 2, 3, 3, 3, 5, 5, 3, 3, 5, 8, 19, 30, 1, 3, 2, 9, 6, 7]
def am_mL (y : Nat) : Nat := match y / 32 with
  | 0 => am_mL_0.getD (y % 32) 0
  | 1 => am_mL_1.getD (y % 32) 0
  | 2 => am_mL_2.getD (y % 32) 0
  | 3 => am_mL_3.getD (y % 32) 0
  | _ => am_mL_4.getD (y % 32) 0
def am_mR_0 : List (Option FieldType) := [none, some .int, some .int, some .int, some .int, some .int, some .int, some .int, some .int, some .int, some .int, some .int, some .int, some .int, some .int, some .int, some .int, some .int, some .int, some .int, some .int, some .int, some .int, some .int, some .int, some .int, some .int, some .int, some .int, some .int, none, some .int]
def am_mR_1 : List (Option FieldType) := [none, none, none, none, none, some .long, some .boolean, none, none, some .boolean, some .boolean, some .int, some .boolean, some .boolean, some .boolean, some .boolean, some .boolean, none, some .int, none, some .int, some .int, none, none, none, none, none, none, some .int, some .int, some .boolean, some .int]
def am_mR_2 : List (Option FieldType) := [some .int, some .int, some .int, some .int, (some (.object "TablePager$Sheet")), some .int, none, none, none, none, some .int, some .int, none, none, some .boolean, none, none, none, none, none, some .boolean, some .boolean, some .boolean, some .boolean, some .boolean, some .boolean, some .boolean, none, some .int, none, some .int, none]
def am_mR_3 : List (Option FieldType) := [some .int, some .int, none, none, some .int, some .int, some .int, none, none, some .boolean, none, some .int, some .boolean, some .boolean, some .boolean, some .boolean, some .boolean, some .boolean, some .boolean, some .int, some .int, some .int, some .boolean, some .long, some .long, some .long, some .long, some .long, some .long, some .long, some .long, some .long]
def am_mR_4 : List (Option FieldType) := [some .long, some .long, some .long, some .long, some .long, some .long, some .long, some .long, some .long, some .long, some .long, some .long, some .long, some .long, some .long, some .long, some .long, some .long, some .boolean, some .boolean, some .boolean, some .long, some .boolean, some .boolean, some .boolean, some .long, some .boolean]
def am_mR (y : Nat) : Option FieldType := match y / 32 with
  | 0 => am_mR_0.getD (y % 32) none
  | 1 => am_mR_1.getD (y % 32) none
  | 2 => am_mR_2.getD (y % 32) none
  | 3 => am_mR_3.getD (y % 32) none
  | _ => am_mR_4.getD (y % 32) none
def am_mo_0 : List Nat := [0, 0, 0, 0, 0, 0, 0, 0, 0, 0, 0, 0, 0, 0, 0, 0, 0, 0, 0, 0, 0, 0, 0, 0, 0, 0, 0, 0, 0, 0, 0, 0]
def am_mo_1 : List Nat := [0, 0, 0, 0, 0, 0, 0, 0, 0, 0, 0, 0, 0, 0, 0, 0, 0, 0, 0, 0, 0, 0, 0, 0, 0, 0, 0, 0, 0, 0, 0, 0]
def am_mo_2 : List Nat := [0, 0, 0, 0, 0, 0, 0, 0, 0, 0, 0, 0, 0, 0, 0, 0, 0, 0, 0, 0, 0, 0, 0, 0, 0, 0, 0, 0, 0, 0, 0, 0]
def am_mo_3 : List Nat := [0, 0, 0, 0, 0, 0, 0, 0, 0, 0, 0, 0, 0, 0, 0, 0, 0, 0, 0, 0, 0, 0, 0, 1, 1, 1, 1, 1, 1, 1, 1, 1]
def am_mo_4 : List Nat := [1, 1, 1, 1, 1, 1, 1, 1, 1, 1, 1, 1, 1, 1, 1, 1, 1, 0, 0, 0, 0, 0, 0, 0, 0, 0, 2]
def am_mo (y : Nat) : Nat := match y / 32 with
  | 0 => am_mo_0.getD (y % 32) 0
  | 1 => am_mo_1.getD (y % 32) 0
  | 2 => am_mo_2.getD (y % 32) 0
  | 3 => am_mo_3.getD (y % 32) 0
  | _ => am_mo_4.getD (y % 32) 0
def am_mc_0 : List Nat := [177, 1, 0, 0, 1, 1, 2, 2, 2, 1, 2, 2, 2, 1, 1, 3, 1, 1, 3, 1, 1, 1, 1, 0, 1, 1, 1, 1, 1, 2, 0, 0]
def am_mc_1 : List Nat := [1, 1, 1, 1, 1, 0, 0, 0, 0, 0, 0, 0, 0, 0, 0, 0, 0, 3, 0, 0, 0, 0, 127, 0, 0, 0, 2, 0, 0, 0, 0, 0]
def am_mc_2 : List Nat := [0, 0, 0, 0, 0, 0, 0, 0, 0, 0, 0, 0, 20, 0, 0, 0, 0, 8, 0, 0, 0, 0, 0, 0, 0, 0, 0, 0, 0, 0, 0, 0]
def am_mc_3 : List Nat := [0, 0, 0, 0, 0, 0, 0, 0, 1, 0, 0, 0, 0, 0, 0, 0, 0, 0, 0, 0, 0, 0, 0, 1, 1, 1, 2, 2, 2, 1, 2, 2]
def am_mc_4 : List Nat := [2, 1, 1, 3, 1, 1, 3, 1, 1, 1, 1, 1, 1, 1, 1, 1, 2, 700, 1600, 12000, 7000, 0, 1500, 1, 400, 17, 600130]
def am_mc (y : Nat) : Nat := match y / 32 with
  | 0 => am_mc_0.getD (y % 32) 0
  | 1 => am_mc_1.getD (y % 32) 0
  | 2 => am_mc_2.getD (y % 32) 0
  | 3 => am_mc_3.getD (y % 32) 0
  | _ => am_mc_4.getD (y % 32) 0
def am_ms_0 : List Nat := [3987, 6, 0, 0, 6, 6, 12, 12, 12, 6, 12, 12, 12, 6, 6, 18, 6, 6, 18, 6, 6, 6, 6, 0, 6, 6, 6, 6, 6, 12, 0, 0]
def am_ms_1 : List Nat := [6, 6, 6, 6, 6, 0, 0, 0, 0, 0, 0, 0, 0, 0, 0, 0, 0, 53, 0, 0, 0, 0, 2898, 0, 0, 0, 28, 0, 0, 0, 0, 0]
def am_ms_2 : List Nat := [0, 0, 0, 0, 0, 0, 0, 0, 0, 0, 0, 0, 416, 0, 0, 0, 0, 193, 0, 0, 0, 0, 0, 0, 0, 0, 0, 0, 0, 0, 0, 0]
def am_ms_3 : List Nat := [0, 0, 0, 0, 0, 0, 0, 0, 160, 0, 0, 0, 0, 0, 0, 0, 0, 0, 0, 0, 0, 0, 0, 6, 6, 6, 12, 12, 12, 6, 12, 12]
def am_ms_4 : List Nat := [12, 6, 6, 18, 6, 6, 18, 6, 6, 6, 6, 6, 6, 6, 6, 6, 12, 4200, 9600, 72000, 42000, 0, 9000, 6, 2400, 102, 7301080]
def am_ms (y : Nat) : Nat := match y / 32 with
  | 0 => am_ms_0.getD (y % 32) 0
  | 1 => am_ms_1.getD (y % 32) 0
  | 2 => am_ms_2.getD (y % 32) 0
  | 3 => am_ms_3.getD (y % 32) 0
  | _ => am_ms_4.getD (y % 32) 0
def am_np_0 : List Nat := [0, 1, 0, 0, 0, 1, 2, 2, 2, 1, 2, 2, 2, 1, 2, 3, 2, 1, 3, 1, 2, 0, 1, 0, 1, 1, 2, 2, 1, 1, 0, 0]
def am_np_1 : List Nat := [1, 1, 1, 1, 1, 2, 2, 0, 1, 2, 2, 0, 1, 1, 1, 1, 1, 0, 1, 3, 2, 2, 0, 0, 1, 1, 0, 2, 4, 2, 1, 1]
def am_np_2 : List Nat := [1, 1, 2, 1, 2, 2, 3, 0, 2, 2, 0, 0, 0, 0, 1, 2, 2, 0, 0, 1, 1, 1, 1, 0, 0, 2, 2, 2, 2, 3, 3, 2]
def am_np_3 : List Nat := [1, 1, 3, 1, 0, 0, 1, 1, 0, 0, 1, 1, 1, 1, 1, 1, 1, 1, 1, 2, 2, 2, 3, 2, 1, 2, 3, 3, 3, 2, 3, 3]
def am_np_4 : List Nat := [3, 2, 3, 4, 3, 2, 4, 2, 3, 1, 2, 2, 2, 3, 3, 2, 2, 1, 1, 1, 2, 1, 3, 2, 3, 3, 1]
def am_np (y : Nat) : Nat := match y / 32 with
  | 0 => am_np_0.getD (y % 32) 0
  | 1 => am_np_1.getD (y % 32) 0
  | 2 => am_np_2.getD (y % 32) 0
  | 3 => am_np_3.getD (y % 32) 0
  | _ => am_np_4.getD (y % 32) 0
def am_mH_0 : List (List (Nat × Nat × Nat × Nat)) := [[], [], [], [], [], [], [], [], [], [], [], [], [], [], [], [], [], [], [], [], [], [], [], [], [], [], [], [], [], [], [], []]
def am_mH_1 : List (List (Nat × Nat × Nat × Nat)) := [[], [], [], [], [], [], [], [], [], [], [], [], [], [], [], [], [], [], [], [], [], [], [], [], [], [], [], [], [], [], [], []]
def am_mH_2 : List (List (Nat × Nat × Nat × Nat)) := [[], [], [], [], [], [], [], [], [], [], [], [], [], [], [], [], [], [], [], [], [], [], [], [], [], [], [], [], [], [], [], []]
def am_mH_3 : List (List (Nat × Nat × Nat × Nat)) := [[], [], [], [], [], [], [], [], [], [], [], [], [], [], [], [], [], [], [], [], [], [], [], [((0), (6), (7), (15)), ((0), (6), (12), (19))], [((0), (5), (6), (19))], [((0), (6), (7), (15))], [((0), (7), (8), (34)), ((0), (7), (13), (15))], [((0), (7), (8), (34))], [((0), (7), (8), (34)), ((0), (7), (13), (15))], [((0), (6), (7), (15))], [((0), (7), (8), (34)), ((0), (7), (13), (15))], [((0), (7), (8), (34))]]
def am_mH_4 : List (List (Nat × Nat × Nat × Nat)) := [[((0), (7), (8), (34))], [((0), (6), (7), (34))], [((0), (7), (8), (15)), ((0), (7), (13), (19))], [((0), (8), (9), (34)), ((0), (8), (15), (15))], [((0), (7), (8), (34))], [((0), (6), (7), (34))], [((0), (8), (9), (34)), ((0), (8), (15), (15)), ((0), (8), (21), (19))], [((0), (6), (7), (34))], [((0), (7), (8), (15))], [((0), (5), (6), (19))], [((0), (6), (7), (15))], [((0), (6), (7), (15))], [((0), (6), (7), (34))], [((0), (7), (8), (15))], [((0), (7), (8), (15))], [((0), (6), (7), (34))], [((0), (6), (7), (34)), ((0), (6), (12), (19))], [], [], [], [], [], [], [], [], [], []]
def am_mH (y : Nat) : List (Nat × Nat × Nat × Nat) := match y / 32 with
  | 0 => am_mH_0.getD (y % 32) []
  | 1 => am_mH_1.getD (y % 32) []
  | 2 => am_mH_2.getD (y % 32) []
  | 3 => am_mH_3.getD (y % 32) []
  | _ => am_mH_4.getD (y % 32) []
def am_cw (y : Nat) : Jvm.Cond := if am_mo y = 1 then .codeWith (am_mY y) (am_mB y) (am_mL y) (am_mR y) (am_mH y) else .code (am_mY y) (am_mB y) (am_mL y) (am_mR y)
/-- what the tables say of a method -/
def am_cf (y : Nat) : Prop := am_cw y ∈ am_tb ∧ Cond.initialized (am_mY y).cls ∈ am_tb ∧ ((am_mY y).cls ≠ "java/lang/invoke/MethodHandle" ∧ (am_mY y).cls ≠ "java/lang/invoke/VarHandle" ∧ (parseMethodDescriptor (am_mY y).desc).map (fun d => d.parameters.length) = some (am_np y)) ∧ plainName (am_mY y).cls = true ∧ am_mL y ≤ 31
set_option maxRecDepth 100000 in
theorem cf_P_init : am_cf y_P_init := ⟨am_tin 95 (by rfl) (by rfl), am_tin 74 (by decide +kernel) rfl, by decide +kernel, by decide +kernel, by decide +kernel⟩
theorem ci_P_init : Cond.instanceMethod (am_mY y_P_init) ∈ am_tb := am_tin 94 (by decide +kernel) rfl
set_option maxRecDepth 100000 in
theorem cf_P_append : am_cf y_P_append := ⟨am_tin 1014 (by rfl) (by rfl), am_tin 74 (by decide +kernel) rfl, by decide +kernel, by decide +kernel, by decide +kernel⟩
theorem ci_P_append : Cond.instanceMethod (am_mY y_P_append) ∈ am_tb := am_tin 1012 (by decide +kernel) rfl
theorem cv_P_append : Cond.selects (am_mY y_P_append).cls (am_mY y_P_append) (am_mY y_P_append) ∈ am_tb := am_tin 1013 (by decide +kernel) rfl
set_option maxRecDepth 100000 in
theorem cf_P_clearText : am_cf y_P_clearText := ⟨am_tin 1072 (by rfl) (by rfl), am_tin 74 (by decide +kernel) rfl, by decide +kernel, by decide +kernel, by decide +kernel⟩
theorem ci_P_clearText : Cond.instanceMethod (am_mY y_P_clearText) ∈ am_tb := am_tin 1070 (by decide +kernel) rfl
theorem cv_P_clearText : Cond.selects (am_mY y_P_clearText).cls (am_mY y_P_clearText) (am_mY y_P_clearText) ∈ am_tb := am_tin 1071 (by decide +kernel) rfl
set_option maxRecDepth 100000 in
theorem cf_P_errorPosition : am_cf y_P_errorPosition := ⟨am_tin 1064 (by rfl) (by rfl), am_tin 74 (by decide +kernel) rfl, by decide +kernel, by decide +kernel, by decide +kernel⟩
theorem ci_P_errorPosition : Cond.instanceMethod (am_mY y_P_errorPosition) ∈ am_tb := am_tin 1062 (by decide +kernel) rfl
theorem cv_P_errorPosition : Cond.selects (am_mY y_P_errorPosition).cls (am_mY y_P_errorPosition) (am_mY y_P_errorPosition) ∈ am_tb := am_tin 1063 (by decide +kernel) rfl
set_option maxRecDepth 100000 in
theorem cf_P_load : am_cf y_P_load := ⟨am_tin 360 (by rfl) (by rfl), am_tin 74 (by decide +kernel) rfl, by decide +kernel, by decide +kernel, by decide +kernel⟩
theorem ci_P_load : Cond.instanceMethod (am_mY y_P_load) ∈ am_tb := am_tin 358 (by decide +kernel) rfl
theorem cv_P_load : Cond.selects (am_mY y_P_load).cls (am_mY y_P_load) (am_mY y_P_load) ∈ am_tb := am_tin 359 (by decide +kernel) rfl
set_option maxRecDepth 100000 in
theorem cf_P_about : am_cf y_P_about := ⟨am_tin 579 (by rfl) (by rfl), am_tin 74 (by decide +kernel) rfl, by decide +kernel, by decide +kernel, by decide +kernel⟩
theorem ci_P_about : Cond.instanceMethod (am_mY y_P_about) ∈ am_tb := am_tin 577 (by decide +kernel) rfl
theorem cv_P_about : Cond.selects (am_mY y_P_about).cls (am_mY y_P_about) (am_mY y_P_about) ∈ am_tb := am_tin 578 (by decide +kernel) rfl
set_option maxRecDepth 100000 in
theorem cf_P_row : am_cf y_P_row := ⟨am_tin 670 (by rfl) (by rfl), am_tin 74 (by decide +kernel) rfl, by decide +kernel, by decide +kernel, by decide +kernel⟩
theorem ci_P_row : Cond.instanceMethod (am_mY y_P_row) ∈ am_tb := am_tin 668 (by decide +kernel) rfl
theorem cv_P_row : Cond.selects (am_mY y_P_row).cls (am_mY y_P_row) (am_mY y_P_row) ∈ am_tb := am_tin 669 (by decide +kernel) rfl
set_option maxRecDepth 100000 in
theorem cf_P_amount : am_cf y_P_amount := ⟨am_tin 690 (by rfl) (by rfl), am_tin 74 (by decide +kernel) rfl, by decide +kernel, by decide +kernel, by decide +kernel⟩
theorem ci_P_amount : Cond.instanceMethod (am_mY y_P_amount) ∈ am_tb := am_tin 688 (by decide +kernel) rfl
theorem cv_P_amount : Cond.selects (am_mY y_P_amount).cls (am_mY y_P_amount) (am_mY y_P_amount) ∈ am_tb := am_tin 689 (by decide +kernel) rfl
set_option maxRecDepth 100000 in
theorem cf_P_span : am_cf y_P_span := ⟨am_tin 711 (by rfl) (by rfl), am_tin 74 (by decide +kernel) rfl, by decide +kernel, by decide +kernel, by decide +kernel⟩
theorem ci_P_span : Cond.instanceMethod (am_mY y_P_span) ∈ am_tb := am_tin 709 (by decide +kernel) rfl
theorem cv_P_span : Cond.selects (am_mY y_P_span).cls (am_mY y_P_span) (am_mY y_P_span) ∈ am_tb := am_tin 710 (by decide +kernel) rfl
set_option maxRecDepth 100000 in
theorem cf_P_note : am_cf y_P_note := ⟨am_tin 662 (by rfl) (by rfl), am_tin 74 (by decide +kernel) rfl, by decide +kernel, by decide +kernel, by decide +kernel⟩
theorem ci_P_note : Cond.instanceMethod (am_mY y_P_note) ∈ am_tb := am_tin 660 (by decide +kernel) rfl
theorem cv_P_note : Cond.selects (am_mY y_P_note).cls (am_mY y_P_note) (am_mY y_P_note) ∈ am_tb := am_tin 661 (by decide +kernel) rfl
set_option maxRecDepth 100000 in
theorem cf_P_page : am_cf y_P_page := ⟨am_tin 729 (by rfl) (by rfl), am_tin 74 (by decide +kernel) rfl, by decide +kernel, by decide +kernel, by decide +kernel⟩
theorem ci_P_page : Cond.instanceMethod (am_mY y_P_page) ∈ am_tb := am_tin 727 (by decide +kernel) rfl
theorem cv_P_page : Cond.selects (am_mY y_P_page).cls (am_mY y_P_page) (am_mY y_P_page) ∈ am_tb := am_tin 728 (by decide +kernel) rfl
set_option maxRecDepth 100000 in
theorem cf_P_brought : am_cf y_P_brought := ⟨am_tin 769 (by rfl) (by rfl), am_tin 74 (by decide +kernel) rfl, by decide +kernel, by decide +kernel, by decide +kernel⟩
theorem ci_P_brought : Cond.instanceMethod (am_mY y_P_brought) ∈ am_tb := am_tin 767 (by decide +kernel) rfl
theorem cv_P_brought : Cond.selects (am_mY y_P_brought).cls (am_mY y_P_brought) (am_mY y_P_brought) ∈ am_tb := am_tin 768 (by decide +kernel) rfl
set_option maxRecDepth 100000 in
theorem cf_P_carried : am_cf y_P_carried := ⟨am_tin 781 (by rfl) (by rfl), am_tin 74 (by decide +kernel) rfl, by decide +kernel, by decide +kernel, by decide +kernel⟩
theorem ci_P_carried : Cond.instanceMethod (am_mY y_P_carried) ∈ am_tb := am_tin 779 (by decide +kernel) rfl
theorem cv_P_carried : Cond.selects (am_mY y_P_carried).cls (am_mY y_P_carried) (am_mY y_P_carried) ∈ am_tb := am_tin 780 (by decide +kernel) rfl
set_option maxRecDepth 100000 in
theorem cf_P_richest : am_cf y_P_richest := ⟨am_tin 788 (by rfl) (by rfl), am_tin 74 (by decide +kernel) rfl, by decide +kernel, by decide +kernel, by decide +kernel⟩
theorem ci_P_richest : Cond.instanceMethod (am_mY y_P_richest) ∈ am_tb := am_tin 786 (by decide +kernel) rfl
theorem cv_P_richest : Cond.selects (am_mY y_P_richest).cls (am_mY y_P_richest) (am_mY y_P_richest) ∈ am_tb := am_tin 787 (by decide +kernel) rfl
set_option maxRecDepth 100000 in
theorem cf_P_addRow : am_cf y_P_addRow := ⟨am_tin 795 (by rfl) (by rfl), am_tin 74 (by decide +kernel) rfl, by decide +kernel, by decide +kernel, by decide +kernel⟩
theorem ci_P_addRow : Cond.instanceMethod (am_mY y_P_addRow) ∈ am_tb := am_tin 793 (by decide +kernel) rfl
theorem cv_P_addRow : Cond.selects (am_mY y_P_addRow).cls (am_mY y_P_addRow) (am_mY y_P_addRow) ∈ am_tb := am_tin 794 (by decide +kernel) rfl
set_option maxRecDepth 100000 in
theorem cf_P_setAmount : am_cf y_P_setAmount := ⟨am_tin 815 (by rfl) (by rfl), am_tin 74 (by decide +kernel) rfl, by decide +kernel, by decide +kernel, by decide +kernel⟩
theorem ci_P_setAmount : Cond.instanceMethod (am_mY y_P_setAmount) ∈ am_tb := am_tin 813 (by decide +kernel) rfl
theorem cv_P_setAmount : Cond.selects (am_mY y_P_setAmount).cls (am_mY y_P_setAmount) (am_mY y_P_setAmount) ∈ am_tb := am_tin 814 (by decide +kernel) rfl
set_option maxRecDepth 100000 in
theorem cf_P_keep : am_cf y_P_keep := ⟨am_tin 835 (by rfl) (by rfl), am_tin 74 (by decide +kernel) rfl, by decide +kernel, by decide +kernel, by decide +kernel⟩
theorem ci_P_keep : Cond.instanceMethod (am_mY y_P_keep) ∈ am_tb := am_tin 833 (by decide +kernel) rfl
theorem cv_P_keep : Cond.selects (am_mY y_P_keep).cls (am_mY y_P_keep) (am_mY y_P_keep) ∈ am_tb := am_tin 834 (by decide +kernel) rfl
set_option maxRecDepth 100000 in
theorem cf_P_removeRow : am_cf y_P_removeRow := ⟨am_tin 842 (by rfl) (by rfl), am_tin 74 (by decide +kernel) rfl, by decide +kernel, by decide +kernel, by decide +kernel⟩
theorem ci_P_removeRow : Cond.instanceMethod (am_mY y_P_removeRow) ∈ am_tb := am_tin 840 (by decide +kernel) rfl
theorem cv_P_removeRow : Cond.selects (am_mY y_P_removeRow).cls (am_mY y_P_removeRow) (am_mY y_P_removeRow) ∈ am_tb := am_tin 841 (by decide +kernel) rfl
set_option maxRecDepth 100000 in
theorem cf_P_addSpan : am_cf y_P_addSpan := ⟨am_tin 824 (by rfl) (by rfl), am_tin 74 (by decide +kernel) rfl, by decide +kernel, by decide +kernel, by decide +kernel⟩
theorem ci_P_addSpan : Cond.instanceMethod (am_mY y_P_addSpan) ∈ am_tb := am_tin 822 (by decide +kernel) rfl
theorem cv_P_addSpan : Cond.selects (am_mY y_P_addSpan).cls (am_mY y_P_addSpan) (am_mY y_P_addSpan) ∈ am_tb := am_tin 823 (by decide +kernel) rfl
set_option maxRecDepth 100000 in
theorem cf_P_removeSpan : am_cf y_P_removeSpan := ⟨am_tin 858 (by rfl) (by rfl), am_tin 74 (by decide +kernel) rfl, by decide +kernel, by decide +kernel, by decide +kernel⟩
theorem ci_P_removeSpan : Cond.instanceMethod (am_mY y_P_removeSpan) ∈ am_tb := am_tin 856 (by decide +kernel) rfl
theorem cv_P_removeSpan : Cond.selects (am_mY y_P_removeSpan).cls (am_mY y_P_removeSpan) (am_mY y_P_removeSpan) ∈ am_tb := am_tin 857 (by decide +kernel) rfl
set_option maxRecDepth 100000 in
theorem cf_P_setHeight : am_cf y_P_setHeight := ⟨am_tin 869 (by rfl) (by rfl), am_tin 74 (by decide +kernel) rfl, by decide +kernel, by decide +kernel, by decide +kernel⟩
theorem ci_P_setHeight : Cond.instanceMethod (am_mY y_P_setHeight) ∈ am_tb := am_tin 867 (by decide +kernel) rfl
theorem cv_P_setHeight : Cond.selects (am_mY y_P_setHeight).cls (am_mY y_P_setHeight) (am_mY y_P_setHeight) ∈ am_tb := am_tin 868 (by decide +kernel) rfl
set_option maxRecDepth 100000 in
theorem cf_P_undo : am_cf y_P_undo := ⟨am_tin 1044 (by rfl) (by rfl), am_tin 74 (by decide +kernel) rfl, by decide +kernel, by decide +kernel, by decide +kernel⟩
theorem ci_P_undo : Cond.instanceMethod (am_mY y_P_undo) ∈ am_tb := am_tin 1042 (by decide +kernel) rfl
theorem cv_P_undo : Cond.selects (am_mY y_P_undo).cls (am_mY y_P_undo) (am_mY y_P_undo) ∈ am_tb := am_tin 1043 (by decide +kernel) rfl
set_option maxRecDepth 100000 in
theorem cf_P_heightFor : am_cf y_P_heightFor := ⟨am_tin 884 (by rfl) (by rfl), am_tin 74 (by decide +kernel) rfl, by decide +kernel, by decide +kernel, by decide +kernel⟩
theorem ci_P_heightFor : Cond.instanceMethod (am_mY y_P_heightFor) ∈ am_tb := am_tin 882 (by decide +kernel) rfl
theorem cv_P_heightFor : Cond.selects (am_mY y_P_heightFor).cls (am_mY y_P_heightFor) (am_mY y_P_heightFor) ∈ am_tb := am_tin 883 (by decide +kernel) rfl
set_option maxRecDepth 100000 in
theorem cf_P_evenest : am_cf y_P_evenest := ⟨am_tin 1057 (by rfl) (by rfl), am_tin 74 (by decide +kernel) rfl, by decide +kernel, by decide +kernel, by decide +kernel⟩
theorem ci_P_evenest : Cond.instanceMethod (am_mY y_P_evenest) ∈ am_tb := am_tin 1055 (by decide +kernel) rfl
theorem cv_P_evenest : Cond.selects (am_mY y_P_evenest).cls (am_mY y_P_evenest) (am_mY y_P_evenest) ∈ am_tb := am_tin 1056 (by decide +kernel) rfl
set_option maxRecDepth 100000 in
theorem cf_P_evenCut : am_cf y_P_evenCut := ⟨am_tin 892 (by rfl) (by rfl), am_tin 74 (by decide +kernel) rfl, by decide +kernel, by decide +kernel, by decide +kernel⟩
theorem ci_P_evenCut : Cond.instanceMethod (am_mY y_P_evenCut) ∈ am_tb := am_tin 890 (by decide +kernel) rfl
theorem cv_P_evenCut : Cond.selects (am_mY y_P_evenCut).cls (am_mY y_P_evenCut) (am_mY y_P_evenCut) ∈ am_tb := am_tin 891 (by decide +kernel) rfl
set_option maxRecDepth 100000 in
theorem cf_P_emptyFrom : am_cf y_P_emptyFrom := ⟨am_tin 921 (by rfl) (by rfl), am_tin 74 (by decide +kernel) rfl, by decide +kernel, by decide +kernel, by decide +kernel⟩
theorem ci_P_emptyFrom : Cond.instanceMethod (am_mY y_P_emptyFrom) ∈ am_tb := am_tin 919 (by decide +kernel) rfl
theorem cv_P_emptyFrom : Cond.selects (am_mY y_P_emptyFrom).cls (am_mY y_P_emptyFrom) (am_mY y_P_emptyFrom) ∈ am_tb := am_tin 920 (by decide +kernel) rfl
set_option maxRecDepth 100000 in
theorem cf_P_runScript : am_cf y_P_runScript := ⟨am_tin 932 (by rfl) (by rfl), am_tin 74 (by decide +kernel) rfl, by decide +kernel, by decide +kernel, by decide +kernel⟩
theorem ci_P_runScript : Cond.instanceMethod (am_mY y_P_runScript) ∈ am_tb := am_tin 930 (by decide +kernel) rfl
theorem cv_P_runScript : Cond.selects (am_mY y_P_runScript).cls (am_mY y_P_runScript) (am_mY y_P_runScript) ∈ am_tb := am_tin 931 (by decide +kernel) rfl
set_option maxRecDepth 100000 in
theorem cf_P_simulate : am_cf y_P_simulate := ⟨am_tin 996 (by rfl) (by rfl), am_tin 74 (by decide +kernel) rfl, by decide +kernel, by decide +kernel, by decide +kernel⟩
theorem ci_P_simulate : Cond.instanceMethod (am_mY y_P_simulate) ∈ am_tb := am_tin 994 (by decide +kernel) rfl
theorem cv_P_simulate : Cond.selects (am_mY y_P_simulate).cls (am_mY y_P_simulate) (am_mY y_P_simulate) ∈ am_tb := am_tin 995 (by decide +kernel) rfl
set_option maxRecDepth 100000 in
theorem cf_P_save : am_cf y_P_save := ⟨am_tin 522 (by rfl) (by rfl), am_tin 74 (by decide +kernel) rfl, by decide +kernel, by decide +kernel, by decide +kernel⟩
theorem ci_P_save : Cond.instanceMethod (am_mY y_P_save) ∈ am_tb := am_tin 520 (by decide +kernel) rfl
theorem cv_P_save : Cond.selects (am_mY y_P_save).cls (am_mY y_P_save) (am_mY y_P_save) ∈ am_tb := am_tin 521 (by decide +kernel) rfl
set_option maxRecDepth 100000 in
theorem cf_P_restore : am_cf y_P_restore := ⟨am_tin 554 (by rfl) (by rfl), am_tin 74 (by decide +kernel) rfl, by decide +kernel, by decide +kernel, by decide +kernel⟩
theorem ci_P_restore : Cond.instanceMethod (am_mY y_P_restore) ∈ am_tb := am_tin 552 (by decide +kernel) rfl
theorem cv_P_restore : Cond.selects (am_mY y_P_restore).cls (am_mY y_P_restore) (am_mY y_P_restore) ∈ am_tb := am_tin 553 (by decide +kernel) rfl
set_option maxRecDepth 100000 in
theorem cf_P_layOut : am_cf y_P_layOut := ⟨am_tin 587 (by rfl) (by rfl), am_tin 74 (by decide +kernel) rfl, by decide +kernel, by decide +kernel, by decide +kernel⟩
theorem ci_P_layOut : Cond.instanceMethod (am_mY y_P_layOut) ∈ am_tb := am_tin 586 (by decide +kernel) rfl
theorem cv_P_layOut : Cond.selects (am_mY y_P_layOut).cls (am_mY y_P_layOut) (am_mY y_P_layOut) ∈ am_tb := am_tin 24 (by decide +kernel) rfl
set_option maxRecDepth 100000 in
theorem cf_P_countPages : am_cf y_P_countPages := ⟨am_tin 583 (by rfl) (by rfl), am_tin 74 (by decide +kernel) rfl, by decide +kernel, by decide +kernel, by decide +kernel⟩
theorem ci_P_countPages : Cond.instanceMethod (am_mY y_P_countPages) ∈ am_tb := am_tin 582 (by decide +kernel) rfl
theorem cv_P_countPages : Cond.selects (am_mY y_P_countPages).cls (am_mY y_P_countPages) (am_mY y_P_countPages) ∈ am_tb := am_tin 23 (by decide +kernel) rfl
set_option maxRecDepth 100000 in
theorem cf_P_requireRow : am_cf y_P_requireRow := ⟨am_tin 674 (by rfl) (by rfl), am_tin 74 (by decide +kernel) rfl, by decide +kernel, by decide +kernel, by decide +kernel⟩
theorem ci_P_requireRow : Cond.instanceMethod (am_mY y_P_requireRow) ∈ am_tb := am_tin 673 (by decide +kernel) rfl
theorem cv_P_requireRow : Cond.selects (am_mY y_P_requireRow).cls (am_mY y_P_requireRow) (am_mY y_P_requireRow) ∈ am_tb := am_tin 35 (by decide +kernel) rfl
set_option maxRecDepth 100000 in
theorem cf_P_requireColumn : am_cf y_P_requireColumn := ⟨am_tin 694 (by rfl) (by rfl), am_tin 74 (by decide +kernel) rfl, by decide +kernel, by decide +kernel, by decide +kernel⟩
theorem ci_P_requireColumn : Cond.instanceMethod (am_mY y_P_requireColumn) ∈ am_tb := am_tin 693 (by decide +kernel) rfl
theorem cv_P_requireColumn : Cond.selects (am_mY y_P_requireColumn).cls (am_mY y_P_requireColumn) (am_mY y_P_requireColumn) ∈ am_tb := am_tin 37 (by decide +kernel) rfl
set_option maxRecDepth 100000 in
theorem cf_P_requireSpan : am_cf y_P_requireSpan := ⟨am_tin 715 (by rfl) (by rfl), am_tin 74 (by decide +kernel) rfl, by decide +kernel, by decide +kernel, by decide +kernel⟩
theorem ci_P_requireSpan : Cond.instanceMethod (am_mY y_P_requireSpan) ∈ am_tb := am_tin 714 (by decide +kernel) rfl
theorem cv_P_requireSpan : Cond.selects (am_mY y_P_requireSpan).cls (am_mY y_P_requireSpan) (am_mY y_P_requireSpan) ∈ am_tb := am_tin 40 (by decide +kernel) rfl
set_option maxRecDepth 100000 in
theorem cf_P_requirePage : am_cf y_P_requirePage := ⟨am_tin 733 (by rfl) (by rfl), am_tin 74 (by decide +kernel) rfl, by decide +kernel, by decide +kernel, by decide +kernel⟩
theorem ci_P_requirePage : Cond.instanceMethod (am_mY y_P_requirePage) ∈ am_tb := am_tin 732 (by decide +kernel) rfl
theorem cv_P_requirePage : Cond.selects (am_mY y_P_requirePage).cls (am_mY y_P_requirePage) (am_mY y_P_requirePage) ∈ am_tb := am_tin 42 (by decide +kernel) rfl
set_option maxRecDepth 100000 in
theorem cf_P_requireSlot : am_cf y_P_requireSlot := ⟨am_tin 525 (by rfl) (by rfl), am_tin 74 (by decide +kernel) rfl, by decide +kernel, by decide +kernel, by decide +kernel⟩
theorem cs_P_requireSlot : Cond.static (am_mY y_P_requireSlot) ∈ am_tb := am_tin 524 (by decide +kernel) rfl
set_option maxRecDepth 100000 in
theorem cf_P_withoutGroups : am_cf y_P_withoutGroups := ⟨am_tin 936 (by rfl) (by rfl), am_tin 74 (by decide +kernel) rfl, by decide +kernel, by decide +kernel, by decide +kernel⟩
theorem cs_P_withoutGroups : Cond.static (am_mY y_P_withoutGroups) ∈ am_tb := am_tin 935 (by decide +kernel) rfl
set_option maxRecDepth 100000 in
theorem cf_P_isIn : am_cf y_P_isIn := ⟨am_tin 618 (by rfl) (by rfl), am_tin 74 (by decide +kernel) rfl, by decide +kernel, by decide +kernel, by decide +kernel⟩
theorem cs_P_isIn : Cond.static (am_mY y_P_isIn) ∈ am_tb := am_tin 617 (by decide +kernel) rfl
set_option maxRecDepth 100000 in
theorem cf_Command_init : am_cf y_Command_init := ⟨am_tin 305 (by rfl) (by rfl), am_tin 82 (by decide +kernel) rfl, by decide +kernel, by decide +kernel, by decide +kernel⟩
theorem ci_Command_init : Cond.instanceMethod (am_mY y_Command_init) ∈ am_tb := am_tin 304 (by decide +kernel) rfl
set_option maxRecDepth 100000 in
theorem cf_Command_setDigits : am_cf y_Command_setDigits := ⟨am_tin 942 (by rfl) (by rfl), am_tin 82 (by decide +kernel) rfl, by decide +kernel, by decide +kernel, by decide +kernel⟩
theorem ci_Command_setDigits : Cond.instanceMethod (am_mY y_Command_setDigits) ∈ am_tb := am_tin 941 (by decide +kernel) rfl
theorem cv_Command_setDigits : Cond.selects (am_mY y_Command_setDigits).cls (am_mY y_Command_setDigits) (am_mY y_Command_setDigits) ∈ am_tb := am_tin 60 (by decide +kernel) rfl
set_option maxRecDepth 100000 in
theorem cf_Command_runOn : am_cf y_Command_runOn := ⟨am_tin 946 (by rfl) (by rfl), am_tin 82 (by decide +kernel) rfl, by decide +kernel, by decide +kernel, by decide +kernel⟩
theorem ci_Command_runOn : Cond.instanceMethod (am_mY y_Command_runOn) ∈ am_tb := am_tin 945 (by decide +kernel) rfl
theorem cv_Command_runOn : Cond.selects (am_mY y_Command_runOn).cls (am_mY y_Command_runOn) (am_mY y_Command_runOn) ∈ am_tb := am_tin 61 (by decide +kernel) rfl
set_option maxRecDepth 100000 in
theorem cf_Command_holds : am_cf y_Command_holds := ⟨am_tin 983 (by rfl) (by rfl), am_tin 82 (by decide +kernel) rfl, by decide +kernel, by decide +kernel, by decide +kernel⟩
theorem ci_Command_holds : Cond.instanceMethod (am_mY y_Command_holds) ∈ am_tb := am_tin 982 (by decide +kernel) rfl
theorem cv_Command_holds : Cond.selects (am_mY y_Command_holds).cls (am_mY y_Command_holds) (am_mY y_Command_holds) ∈ am_tb := am_tin 68 (by decide +kernel) rfl
set_option maxRecDepth 100000 in
theorem cf_Command_firstPair : am_cf y_Command_firstPair := ⟨am_tin 961 (by rfl) (by rfl), am_tin 82 (by decide +kernel) rfl, by decide +kernel, by decide +kernel, by decide +kernel⟩
theorem ci_Command_firstPair : Cond.instanceMethod (am_mY y_Command_firstPair) ∈ am_tb := am_tin 960 (by decide +kernel) rfl
theorem cv_Command_firstPair : Cond.selects (am_mY y_Command_firstPair).cls (am_mY y_Command_firstPair) (am_mY y_Command_firstPair) ∈ am_tb := am_tin 64 (by decide +kernel) rfl
set_option maxRecDepth 100000 in
theorem cf_Command_addsRow : am_cf y_Command_addsRow := ⟨am_tin 950 (by rfl) (by rfl), am_tin 82 (by decide +kernel) rfl, by decide +kernel, by decide +kernel, by decide +kernel⟩
theorem ci_Command_addsRow : Cond.instanceMethod (am_mY y_Command_addsRow) ∈ am_tb := am_tin 949 (by decide +kernel) rfl
theorem cv_Command_addsRow : Cond.selects (am_mY y_Command_addsRow).cls (am_mY y_Command_addsRow) (am_mY y_Command_addsRow) ∈ am_tb := am_tin 62 (by decide +kernel) rfl
set_option maxRecDepth 100000 in
theorem cf_Command_putsAmount : am_cf y_Command_putsAmount := ⟨am_tin 957 (by rfl) (by rfl), am_tin 82 (by decide +kernel) rfl, by decide +kernel, by decide +kernel, by decide +kernel⟩
theorem ci_Command_putsAmount : Cond.instanceMethod (am_mY y_Command_putsAmount) ∈ am_tb := am_tin 956 (by decide +kernel) rfl
theorem cv_Command_putsAmount : Cond.selects (am_mY y_Command_putsAmount).cls (am_mY y_Command_putsAmount) (am_mY y_Command_putsAmount) ∈ am_tb := am_tin 63 (by decide +kernel) rfl
set_option maxRecDepth 100000 in
theorem cf_Command_marksRow : am_cf y_Command_marksRow := ⟨am_tin 968 (by rfl) (by rfl), am_tin 82 (by decide +kernel) rfl, by decide +kernel, by decide +kernel, by decide +kernel⟩
theorem ci_Command_marksRow : Cond.instanceMethod (am_mY y_Command_marksRow) ∈ am_tb := am_tin 967 (by decide +kernel) rfl
theorem cv_Command_marksRow : Cond.selects (am_mY y_Command_marksRow).cls (am_mY y_Command_marksRow) (am_mY y_Command_marksRow) ∈ am_tb := am_tin 65 (by decide +kernel) rfl
set_option maxRecDepth 100000 in
theorem cf_Command_dropsRow : am_cf y_Command_dropsRow := ⟨am_tin 972 (by rfl) (by rfl), am_tin 82 (by decide +kernel) rfl, by decide +kernel, by decide +kernel, by decide +kernel⟩
theorem ci_Command_dropsRow : Cond.instanceMethod (am_mY y_Command_dropsRow) ∈ am_tb := am_tin 971 (by decide +kernel) rfl
theorem cv_Command_dropsRow : Cond.selects (am_mY y_Command_dropsRow).cls (am_mY y_Command_dropsRow) (am_mY y_Command_dropsRow) ∈ am_tb := am_tin 66 (by decide +kernel) rfl
set_option maxRecDepth 100000 in
theorem cf_Command_putsHeight : am_cf y_Command_putsHeight := ⟨am_tin 977 (by rfl) (by rfl), am_tin 82 (by decide +kernel) rfl, by decide +kernel, by decide +kernel, by decide +kernel⟩
theorem ci_Command_putsHeight : Cond.instanceMethod (am_mY y_Command_putsHeight) ∈ am_tb := am_tin 976 (by decide +kernel) rfl
theorem cv_Command_putsHeight : Cond.selects (am_mY y_Command_putsHeight).cls (am_mY y_Command_putsHeight) (am_mY y_Command_putsHeight) ∈ am_tb := am_tin 67 (by decide +kernel) rfl
set_option maxRecDepth 100000 in
theorem cf_Evener_init : am_cf y_Evener_init := ⟨am_tin 287 (by rfl) (by rfl), am_tin 81 (by decide +kernel) rfl, by decide +kernel, by decide +kernel, by decide +kernel⟩
theorem ci_Evener_init : Cond.instanceMethod (am_mY y_Evener_init) ∈ am_tb := am_tin 286 (by decide +kernel) rfl
set_option maxRecDepth 100000 in
theorem cf_Evener_leastCost : am_cf y_Evener_leastCost := ⟨am_tin 896 (by rfl) (by rfl), am_tin 81 (by decide +kernel) rfl, by decide +kernel, by decide +kernel, by decide +kernel⟩
theorem ci_Evener_leastCost : Cond.instanceMethod (am_mY y_Evener_leastCost) ∈ am_tb := am_tin 895 (by decide +kernel) rfl
theorem cv_Evener_leastCost : Cond.selects (am_mY y_Evener_leastCost).cls (am_mY y_Evener_leastCost) (am_mY y_Evener_leastCost) ∈ am_tb := am_tin 55 (by decide +kernel) rfl
set_option maxRecDepth 100000 in
theorem cf_Evener_chooseEnd : am_cf y_Evener_chooseEnd := ⟨am_tin 901 (by rfl) (by rfl), am_tin 81 (by decide +kernel) rfl, by decide +kernel, by decide +kernel, by decide +kernel⟩
theorem ci_Evener_chooseEnd : Cond.instanceMethod (am_mY y_Evener_chooseEnd) ∈ am_tb := am_tin 900 (by decide +kernel) rfl
theorem cv_Evener_chooseEnd : Cond.selects (am_mY y_Evener_chooseEnd).cls (am_mY y_Evener_chooseEnd) (am_mY y_Evener_chooseEnd) ∈ am_tb := am_tin 56 (by decide +kernel) rfl
set_option maxRecDepth 100000 in
theorem cf_Evener_costOfSheet : am_cf y_Evener_costOfSheet := ⟨am_tin 908 (by rfl) (by rfl), am_tin 81 (by decide +kernel) rfl, by decide +kernel, by decide +kernel, by decide +kernel⟩
theorem ci_Evener_costOfSheet : Cond.instanceMethod (am_mY y_Evener_costOfSheet) ∈ am_tb := am_tin 907 (by decide +kernel) rfl
theorem cv_Evener_costOfSheet : Cond.selects (am_mY y_Evener_costOfSheet).cls (am_mY y_Evener_costOfSheet) (am_mY y_Evener_costOfSheet) ∈ am_tb := am_tin 57 (by decide +kernel) rfl
set_option maxRecDepth 100000 in
theorem cf_Evener_lastOf : am_cf y_Evener_lastOf := ⟨am_tin 913 (by rfl) (by rfl), am_tin 81 (by decide +kernel) rfl, by decide +kernel, by decide +kernel, by decide +kernel⟩
theorem ci_Evener_lastOf : Cond.instanceMethod (am_mY y_Evener_lastOf) ∈ am_tb := am_tin 912 (by decide +kernel) rfl
theorem cv_Evener_lastOf : Cond.selects (am_mY y_Evener_lastOf).cls (am_mY y_Evener_lastOf) (am_mY y_Evener_lastOf) ∈ am_tb := am_tin 58 (by decide +kernel) rfl
set_option maxRecDepth 100000 in
theorem cf_History_init : am_cf y_History_init := ⟨am_tin 209 (by rfl) (by rfl), am_tin 77 (by decide +kernel) rfl, by decide +kernel, by decide +kernel, by decide +kernel⟩
theorem ci_History_init : Cond.instanceMethod (am_mY y_History_init) ∈ am_tb := am_tin 208 (by decide +kernel) rfl
set_option maxRecDepth 100000 in
theorem cf_History_forget : am_cf y_History_forget := ⟨am_tin 509 (by rfl) (by rfl), am_tin 77 (by decide +kernel) rfl, by decide +kernel, by decide +kernel, by decide +kernel⟩
theorem ci_History_forget : Cond.instanceMethod (am_mY y_History_forget) ∈ am_tb := am_tin 508 (by decide +kernel) rfl
theorem cv_History_forget : Cond.selects (am_mY y_History_forget).cls (am_mY y_History_forget) (am_mY y_History_forget) ∈ am_tb := am_tin 18 (by decide +kernel) rfl
set_option maxRecDepth 100000 in
theorem cf_History_remember : am_cf y_History_remember := ⟨am_tin 805 (by rfl) (by rfl), am_tin 77 (by decide +kernel) rfl, by decide +kernel, by decide +kernel, by decide +kernel⟩
theorem ci_History_remember : Cond.instanceMethod (am_mY y_History_remember) ∈ am_tb := am_tin 804 (by decide +kernel) rfl
theorem cv_History_remember : Cond.selects (am_mY y_History_remember).cls (am_mY y_History_remember) (am_mY y_History_remember) ∈ am_tb := am_tin 50 (by decide +kernel) rfl
set_option maxRecDepth 100000 in
theorem cf_History_takeBack : am_cf y_History_takeBack := ⟨am_tin 1049 (by rfl) (by rfl), am_tin 77 (by decide +kernel) rfl, by decide +kernel, by decide +kernel, by decide +kernel⟩
theorem ci_History_takeBack : Cond.instanceMethod (am_mY y_History_takeBack) ∈ am_tb := am_tin 1048 (by decide +kernel) rfl
theorem cv_History_takeBack : Cond.selects (am_mY y_History_takeBack).cls (am_mY y_History_takeBack) (am_mY y_History_takeBack) ∈ am_tb := am_tin 72 (by decide +kernel) rfl
set_option maxRecDepth 100000 in
theorem cf_Layout_init : am_cf y_Layout_init := ⟨am_tin 244 (by rfl) (by rfl), am_tin 79 (by decide +kernel) rfl, by decide +kernel, by decide +kernel, by decide +kernel⟩
theorem ci_Layout_init : Cond.instanceMethod (am_mY y_Layout_init) ∈ am_tb := am_tin 243 (by decide +kernel) rfl
set_option maxRecDepth 100000 in
theorem cf_Layout_lay : am_cf y_Layout_lay := ⟨am_tin 591 (by rfl) (by rfl), am_tin 79 (by decide +kernel) rfl, by decide +kernel, by decide +kernel, by decide +kernel⟩
theorem ci_Layout_lay : Cond.instanceMethod (am_mY y_Layout_lay) ∈ am_tb := am_tin 590 (by decide +kernel) rfl
theorem cv_Layout_lay : Cond.selects (am_mY y_Layout_lay).cls (am_mY y_Layout_lay) (am_mY y_Layout_lay) ∈ am_tb := am_tin 25 (by decide +kernel) rfl
set_option maxRecDepth 100000 in
theorem cf_Layout_lastThatFits : am_cf y_Layout_lastThatFits := ⟨am_tin 606 (by rfl) (by rfl), am_tin 79 (by decide +kernel) rfl, by decide +kernel, by decide +kernel, by decide +kernel⟩
theorem ci_Layout_lastThatFits : Cond.instanceMethod (am_mY y_Layout_lastThatFits) ∈ am_tb := am_tin 605 (by decide +kernel) rfl
theorem cv_Layout_lastThatFits : Cond.selects (am_mY y_Layout_lastThatFits).cls (am_mY y_Layout_lastThatFits) (am_mY y_Layout_lastThatFits) ∈ am_tb := am_tin 28 (by decide +kernel) rfl
set_option maxRecDepth 100000 in
theorem cf_Layout_firstEnd : am_cf y_Layout_firstEnd := ⟨am_tin 626 (by rfl) (by rfl), am_tin 79 (by decide +kernel) rfl, by decide +kernel, by decide +kernel, by decide +kernel⟩
theorem cs_Layout_firstEnd : Cond.static (am_mY y_Layout_firstEnd) ∈ am_tb := am_tin 625 (by decide +kernel) rfl
set_option maxRecDepth 100000 in
theorem cf_Layout_hasPage : am_cf y_Layout_hasPage := ⟨am_tin 737 (by rfl) (by rfl), am_tin 79 (by decide +kernel) rfl, by decide +kernel, by decide +kernel, by decide +kernel⟩
theorem ci_Layout_hasPage : Cond.instanceMethod (am_mY y_Layout_hasPage) ∈ am_tb := am_tin 736 (by decide +kernel) rfl
theorem cv_Layout_hasPage : Cond.selects (am_mY y_Layout_hasPage).cls (am_mY y_Layout_hasPage) (am_mY y_Layout_hasPage) ∈ am_tb := am_tin 43 (by decide +kernel) rfl
set_option maxRecDepth 100000 in
theorem cf_Layout_firstOf : am_cf y_Layout_firstOf := ⟨am_tin 746 (by rfl) (by rfl), am_tin 79 (by decide +kernel) rfl, by decide +kernel, by decide +kernel, by decide +kernel⟩
theorem ci_Layout_firstOf : Cond.instanceMethod (am_mY y_Layout_firstOf) ∈ am_tb := am_tin 745 (by decide +kernel) rfl
theorem cv_Layout_firstOf : Cond.selects (am_mY y_Layout_firstOf).cls (am_mY y_Layout_firstOf) (am_mY y_Layout_firstOf) ∈ am_tb := am_tin 45 (by decide +kernel) rfl
set_option maxRecDepth 100000 in
theorem cf_Layout_lastOf : am_cf y_Layout_lastOf := ⟨am_tin 750 (by rfl) (by rfl), am_tin 79 (by decide +kernel) rfl, by decide +kernel, by decide +kernel, by decide +kernel⟩
theorem ci_Layout_lastOf : Cond.instanceMethod (am_mY y_Layout_lastOf) ∈ am_tb := am_tin 749 (by decide +kernel) rfl
theorem cv_Layout_lastOf : Cond.selects (am_mY y_Layout_lastOf).cls (am_mY y_Layout_lastOf) (am_mY y_Layout_lastOf) ∈ am_tb := am_tin 46 (by decide +kernel) rfl
set_option maxRecDepth 100000 in
theorem cf_Layout_pageOf : am_cf y_Layout_pageOf := ⟨am_tin 638 (by rfl) (by rfl), am_tin 79 (by decide +kernel) rfl, by decide +kernel, by decide +kernel, by decide +kernel⟩
theorem ci_Layout_pageOf : Cond.instanceMethod (am_mY y_Layout_pageOf) ∈ am_tb := am_tin 637 (by decide +kernel) rfl
theorem cv_Layout_pageOf : Cond.selects (am_mY y_Layout_pageOf).cls (am_mY y_Layout_pageOf) (am_mY y_Layout_pageOf) ∈ am_tb := am_tin 34 (by decide +kernel) rfl
set_option maxRecDepth 100000 in
theorem cf_Layout_pagesOfSpan : am_cf y_Layout_pagesOfSpan := ⟨am_tin 634 (by rfl) (by rfl), am_tin 79 (by decide +kernel) rfl, by decide +kernel, by decide +kernel, by decide +kernel⟩
theorem ci_Layout_pagesOfSpan : Cond.instanceMethod (am_mY y_Layout_pagesOfSpan) ∈ am_tb := am_tin 633 (by decide +kernel) rfl
theorem cv_Layout_pagesOfSpan : Cond.selects (am_mY y_Layout_pagesOfSpan).cls (am_mY y_Layout_pagesOfSpan) (am_mY y_Layout_pagesOfSpan) ∈ am_tb := am_tin 33 (by decide +kernel) rfl
set_option maxRecDepth 100000 in
theorem cf_Layout_countCutSpans : am_cf y_Layout_countCutSpans := ⟨am_tin 630 (by rfl) (by rfl), am_tin 79 (by decide +kernel) rfl, by decide +kernel, by decide +kernel, by decide +kernel⟩
theorem ci_Layout_countCutSpans : Cond.instanceMethod (am_mY y_Layout_countCutSpans) ∈ am_tb := am_tin 629 (by decide +kernel) rfl
theorem cv_Layout_countCutSpans : Cond.selects (am_mY y_Layout_countCutSpans).cls (am_mY y_Layout_countCutSpans) (am_mY y_Layout_countCutSpans) ∈ am_tb := am_tin 32 (by decide +kernel) rfl
set_option maxRecDepth 100000 in
theorem cf_Layout_sheetOf : am_cf y_Layout_sheetOf := ⟨am_tin 742 (by rfl) (by rfl), am_tin 79 (by decide +kernel) rfl, by decide +kernel, by decide +kernel, by decide +kernel⟩
theorem ci_Layout_sheetOf : Cond.instanceMethod (am_mY y_Layout_sheetOf) ∈ am_tb := am_tin 741 (by decide +kernel) rfl
theorem cv_Layout_sheetOf : Cond.selects (am_mY y_Layout_sheetOf).cls (am_mY y_Layout_sheetOf) (am_mY y_Layout_sheetOf) ∈ am_tb := am_tin 44 (by decide +kernel) rfl
set_option maxRecDepth 100000 in
theorem cf_Layout_emptyFromRow : am_cf y_Layout_emptyFromRow := ⟨am_tin 925 (by rfl) (by rfl), am_tin 79 (by decide +kernel) rfl, by decide +kernel, by decide +kernel, by decide +kernel⟩
theorem ci_Layout_emptyFromRow : Cond.instanceMethod (am_mY y_Layout_emptyFromRow) ∈ am_tb := am_tin 924 (by decide +kernel) rfl
theorem cv_Layout_emptyFromRow : Cond.selects (am_mY y_Layout_emptyFromRow).cls (am_mY y_Layout_emptyFromRow) (am_mY y_Layout_emptyFromRow) ∈ am_tb := am_tin 59 (by decide +kernel) rfl
set_option maxRecDepth 100000 in
theorem cf_Layout_fill : am_cf y_Layout_fill := ⟨am_tin 754 (by rfl) (by rfl), am_tin 79 (by decide +kernel) rfl, by decide +kernel, by decide +kernel, by decide +kernel⟩
theorem ci_Layout_fill : Cond.instanceMethod (am_mY y_Layout_fill) ∈ am_tb := am_tin 753 (by decide +kernel) rfl
theorem cv_Layout_fill : Cond.selects (am_mY y_Layout_fill).cls (am_mY y_Layout_fill) (am_mY y_Layout_fill) ∈ am_tb := am_tin 47 (by decide +kernel) rfl
set_option maxRecDepth 100000 in
theorem cf_Sheet_init : am_cf y_Sheet_init := ⟨am_tin 250 (by rfl) (by rfl), am_tin 80 (by decide +kernel) rfl, by decide +kernel, by decide +kernel, by decide +kernel⟩
theorem ci_Sheet_init : Cond.instanceMethod (am_mY y_Sheet_init) ∈ am_tb := am_tin 249 (by decide +kernel) rfl
set_option maxRecDepth 100000 in
theorem cf_Sheet_begin : am_cf y_Sheet_begin := ⟨am_tin 611 (by rfl) (by rfl), am_tin 80 (by decide +kernel) rfl, by decide +kernel, by decide +kernel, by decide +kernel⟩
theorem ci_Sheet_begin : Cond.instanceMethod (am_mY y_Sheet_begin) ∈ am_tb := am_tin 610 (by decide +kernel) rfl
theorem cv_Sheet_begin : Cond.selects (am_mY y_Sheet_begin).cls (am_mY y_Sheet_begin) (am_mY y_Sheet_begin) ∈ am_tb := am_tin 29 (by decide +kernel) rfl
set_option maxRecDepth 100000 in
theorem cf_Sheet_take : am_cf y_Sheet_take := ⟨am_tin 615 (by rfl) (by rfl), am_tin 80 (by decide +kernel) rfl, by decide +kernel, by decide +kernel, by decide +kernel⟩
theorem ci_Sheet_take : Cond.instanceMethod (am_mY y_Sheet_take) ∈ am_tb := am_tin 614 (by decide +kernel) rfl
theorem cv_Sheet_take : Cond.selects (am_mY y_Sheet_take).cls (am_mY y_Sheet_take) (am_mY y_Sheet_take) ∈ am_tb := am_tin 30 (by decide +kernel) rfl
set_option maxRecDepth 100000 in
theorem cf_Sheet_needed : am_cf y_Sheet_needed := ⟨am_tin 622 (by rfl) (by rfl), am_tin 80 (by decide +kernel) rfl, by decide +kernel, by decide +kernel, by decide +kernel⟩
theorem ci_Sheet_needed : Cond.instanceMethod (am_mY y_Sheet_needed) ∈ am_tb := am_tin 621 (by decide +kernel) rfl
theorem cv_Sheet_needed : Cond.selects (am_mY y_Sheet_needed).cls (am_mY y_Sheet_needed) (am_mY y_Sheet_needed) ∈ am_tb := am_tin 31 (by decide +kernel) rfl
set_option maxRecDepth 100000 in
theorem cf_Sheet_noteBits : am_cf y_Sheet_noteBits := ⟨am_tin 761 (by rfl) (by rfl), am_tin 80 (by decide +kernel) rfl, by decide +kernel, by decide +kernel, by decide +kernel⟩
theorem ci_Sheet_noteBits : Cond.instanceMethod (am_mY y_Sheet_noteBits) ∈ am_tb := am_tin 760 (by decide +kernel) rfl
theorem cv_Sheet_noteBits : Cond.selects (am_mY y_Sheet_noteBits).cls (am_mY y_Sheet_noteBits) (am_mY y_Sheet_noteBits) ∈ am_tb := am_tin 48 (by decide +kernel) rfl
set_option maxRecDepth 100000 in
theorem cf_Slots_init : am_cf y_Slots_init := ⟨am_tin 229 (by rfl) (by rfl), am_tin 78 (by decide +kernel) rfl, by decide +kernel, by decide +kernel, by decide +kernel⟩
theorem ci_Slots_init : Cond.instanceMethod (am_mY y_Slots_init) ∈ am_tb := am_tin 228 (by decide +kernel) rfl
set_option maxRecDepth 100000 in
theorem cf_Slots_empty : am_cf y_Slots_empty := ⟨am_tin 513 (by rfl) (by rfl), am_tin 78 (by decide +kernel) rfl, by decide +kernel, by decide +kernel, by decide +kernel⟩
theorem ci_Slots_empty : Cond.instanceMethod (am_mY y_Slots_empty) ∈ am_tb := am_tin 512 (by decide +kernel) rfl
theorem cv_Slots_empty : Cond.selects (am_mY y_Slots_empty).cls (am_mY y_Slots_empty) (am_mY y_Slots_empty) ∈ am_tb := am_tin 19 (by decide +kernel) rfl
set_option maxRecDepth 100000 in
theorem cf_Slots_isFilled : am_cf y_Slots_isFilled := ⟨am_tin 558 (by rfl) (by rfl), am_tin 78 (by decide +kernel) rfl, by decide +kernel, by decide +kernel, by decide +kernel⟩
theorem ci_Slots_isFilled : Cond.instanceMethod (am_mY y_Slots_isFilled) ∈ am_tb := am_tin 557 (by decide +kernel) rfl
theorem cv_Slots_isFilled : Cond.selects (am_mY y_Slots_isFilled).cls (am_mY y_Slots_isFilled) (am_mY y_Slots_isFilled) ∈ am_tb := am_tin 21 (by decide +kernel) rfl
set_option maxRecDepth 100000 in
theorem cf_Slots_put : am_cf y_Slots_put := ⟨am_tin 545 (by rfl) (by rfl), am_tin 78 (by decide +kernel) rfl, by decide +kernel, by decide +kernel, by decide +kernel⟩
theorem ci_Slots_put : Cond.instanceMethod (am_mY y_Slots_put) ∈ am_tb := am_tin 544 (by decide +kernel) rfl
theorem cv_Slots_put : Cond.selects (am_mY y_Slots_put).cls (am_mY y_Slots_put) (am_mY y_Slots_put) ∈ am_tb := am_tin 20 (by decide +kernel) rfl
set_option maxRecDepth 100000 in
theorem cf_Slots_copyTo : am_cf y_Slots_copyTo := ⟨am_tin 563 (by rfl) (by rfl), am_tin 78 (by decide +kernel) rfl, by decide +kernel, by decide +kernel, by decide +kernel⟩
theorem ci_Slots_copyTo : Cond.instanceMethod (am_mY y_Slots_copyTo) ∈ am_tb := am_tin 562 (by decide +kernel) rfl
theorem cv_Slots_copyTo : Cond.selects (am_mY y_Slots_copyTo).cls (am_mY y_Slots_copyTo) (am_mY y_Slots_copyTo) ∈ am_tb := am_tin 22 (by decide +kernel) rfl
set_option maxRecDepth 100000 in
theorem cf_Table_init : am_cf y_Table_init := ⟨am_tin 121 (by rfl) (by rfl), am_tin 76 (by decide +kernel) rfl, by decide +kernel, by decide +kernel, by decide +kernel⟩
theorem ci_Table_init : Cond.instanceMethod (am_mY y_Table_init) ∈ am_tb := am_tin 120 (by decide +kernel) rfl
set_option maxRecDepth 100000 in
theorem cf_Table_makeNew : am_cf y_Table_makeNew := ⟨am_tin 126 (by rfl) (by rfl), am_tin 76 (by decide +kernel) rfl, by decide +kernel, by decide +kernel, by decide +kernel⟩
theorem ci_Table_makeNew : Cond.instanceMethod (am_mY y_Table_makeNew) ∈ am_tb := am_tin 125 (by decide +kernel) rfl
theorem cv_Table_makeNew : Cond.selects (am_mY y_Table_makeNew).cls (am_mY y_Table_makeNew) (am_mY y_Table_makeNew) ∈ am_tb := am_tin 0 (by decide +kernel) rfl
set_option maxRecDepth 100000 in
theorem cf_Table_copyFrom : am_cf y_Table_copyFrom := ⟨am_tin 502 (by rfl) (by rfl), am_tin 76 (by decide +kernel) rfl, by decide +kernel, by decide +kernel, by decide +kernel⟩
theorem ci_Table_copyFrom : Cond.instanceMethod (am_mY y_Table_copyFrom) ∈ am_tb := am_tin 501 (by decide +kernel) rfl
theorem cv_Table_copyFrom : Cond.selects (am_mY y_Table_copyFrom).cls (am_mY y_Table_copyFrom) (am_mY y_Table_copyFrom) ∈ am_tb := am_tin 17 (by decide +kernel) rfl
set_option maxRecDepth 100000 in
theorem cf_Table_hasRow : am_cf y_Table_hasRow := ⟨am_tin 678 (by rfl) (by rfl), am_tin 76 (by decide +kernel) rfl, by decide +kernel, by decide +kernel, by decide +kernel⟩
theorem ci_Table_hasRow : Cond.instanceMethod (am_mY y_Table_hasRow) ∈ am_tb := am_tin 677 (by decide +kernel) rfl
theorem cv_Table_hasRow : Cond.selects (am_mY y_Table_hasRow).cls (am_mY y_Table_hasRow) (am_mY y_Table_hasRow) ∈ am_tb := am_tin 36 (by decide +kernel) rfl
set_option maxRecDepth 100000 in
theorem cf_Table_hasColumn : am_cf y_Table_hasColumn := ⟨am_tin 698 (by rfl) (by rfl), am_tin 76 (by decide +kernel) rfl, by decide +kernel, by decide +kernel, by decide +kernel⟩
theorem ci_Table_hasColumn : Cond.instanceMethod (am_mY y_Table_hasColumn) ∈ am_tb := am_tin 697 (by decide +kernel) rfl
theorem cv_Table_hasColumn : Cond.selects (am_mY y_Table_hasColumn).cls (am_mY y_Table_hasColumn) (am_mY y_Table_hasColumn) ∈ am_tb := am_tin 38 (by decide +kernel) rfl
set_option maxRecDepth 100000 in
theorem cf_Table_hasSpan : am_cf y_Table_hasSpan := ⟨am_tin 719 (by rfl) (by rfl), am_tin 76 (by decide +kernel) rfl, by decide +kernel, by decide +kernel, by decide +kernel⟩
theorem ci_Table_hasSpan : Cond.instanceMethod (am_mY y_Table_hasSpan) ∈ am_tb := am_tin 718 (by decide +kernel) rfl
theorem cv_Table_hasSpan : Cond.selects (am_mY y_Table_hasSpan).cls (am_mY y_Table_hasSpan) (am_mY y_Table_hasSpan) ∈ am_tb := am_tin 41 (by decide +kernel) rfl
set_option maxRecDepth 100000 in
theorem cf_Table_isFull : am_cf y_Table_isFull := ⟨am_tin 395 (by rfl) (by rfl), am_tin 76 (by decide +kernel) rfl, by decide +kernel, by decide +kernel, by decide +kernel⟩
theorem ci_Table_isFull : Cond.instanceMethod (am_mY y_Table_isFull) ∈ am_tb := am_tin 394 (by decide +kernel) rfl
theorem cv_Table_isFull : Cond.selects (am_mY y_Table_isFull).cls (am_mY y_Table_isFull) (am_mY y_Table_isFull) ∈ am_tb := am_tin 7 (by decide +kernel) rfl
set_option maxRecDepth 100000 in
theorem cf_Table_hasAllSpans : am_cf y_Table_hasAllSpans := ⟨am_tin 420 (by rfl) (by rfl), am_tin 76 (by decide +kernel) rfl, by decide +kernel, by decide +kernel, by decide +kernel⟩
theorem ci_Table_hasAllSpans : Cond.instanceMethod (am_mY y_Table_hasAllSpans) ∈ am_tb := am_tin 419 (by decide +kernel) rfl
theorem cv_Table_hasAllSpans : Cond.selects (am_mY y_Table_hasAllSpans).cls (am_mY y_Table_hasAllSpans) (am_mY y_Table_hasAllSpans) ∈ am_tb := am_tin 13 (by decide +kernel) rfl
set_option maxRecDepth 100000 in
theorem cf_Table_allowsRow : am_cf y_Table_allowsRow := ⟨am_tin 798 (by rfl) (by rfl), am_tin 76 (by decide +kernel) rfl, by decide +kernel, by decide +kernel, by decide +kernel⟩
theorem cs_Table_allowsRow : Cond.static (am_mY y_Table_allowsRow) ∈ am_tb := am_tin 797 (by decide +kernel) rfl
set_option maxRecDepth 100000 in
theorem cf_Table_allowsHeight : am_cf y_Table_allowsHeight := ⟨am_tin 872 (by rfl) (by rfl), am_tin 76 (by decide +kernel) rfl, by decide +kernel, by decide +kernel, by decide +kernel⟩
theorem cs_Table_allowsHeight : Cond.static (am_mY y_Table_allowsHeight) ∈ am_tb := am_tin 871 (by decide +kernel) rfl
set_option maxRecDepth 100000 in
theorem cf_Table_putHeight : am_cf y_Table_putHeight := ⟨am_tin 877 (by rfl) (by rfl), am_tin 76 (by decide +kernel) rfl, by decide +kernel, by decide +kernel, by decide +kernel⟩
theorem ci_Table_putHeight : Cond.instanceMethod (am_mY y_Table_putHeight) ∈ am_tb := am_tin 876 (by decide +kernel) rfl
theorem cv_Table_putHeight : Cond.selects (am_mY y_Table_putHeight).cls (am_mY y_Table_putHeight) (am_mY y_Table_putHeight) ∈ am_tb := am_tin 54 (by decide +kernel) rfl
set_option maxRecDepth 100000 in
theorem cf_Table_amountAt : am_cf y_Table_amountAt := ⟨am_tin 703 (by rfl) (by rfl), am_tin 76 (by decide +kernel) rfl, by decide +kernel, by decide +kernel, by decide +kernel⟩
theorem ci_Table_amountAt : Cond.instanceMethod (am_mY y_Table_amountAt) ∈ am_tb := am_tin 702 (by decide +kernel) rfl
theorem cv_Table_amountAt : Cond.selects (am_mY y_Table_amountAt).cls (am_mY y_Table_amountAt) (am_mY y_Table_amountAt) ∈ am_tb := am_tin 39 (by decide +kernel) rfl
set_option maxRecDepth 100000 in
theorem cf_Table_putAmount : am_cf y_Table_putAmount := ⟨am_tin 407 (by rfl) (by rfl), am_tin 76 (by decide +kernel) rfl, by decide +kernel, by decide +kernel, by decide +kernel⟩
theorem ci_Table_putAmount : Cond.instanceMethod (am_mY y_Table_putAmount) ∈ am_tb := am_tin 406 (by decide +kernel) rfl
theorem cv_Table_putAmount : Cond.selects (am_mY y_Table_putAmount).cls (am_mY y_Table_putAmount) (am_mY y_Table_putAmount) ∈ am_tb := am_tin 10 (by decide +kernel) rfl
set_option maxRecDepth 100000 in
theorem cf_Table_sumOfRows : am_cf y_Table_sumOfRows := ⟨am_tin 773 (by rfl) (by rfl), am_tin 76 (by decide +kernel) rfl, by decide +kernel, by decide +kernel, by decide +kernel⟩
theorem ci_Table_sumOfRows : Cond.instanceMethod (am_mY y_Table_sumOfRows) ∈ am_tb := am_tin 772 (by decide +kernel) rfl
theorem cv_Table_sumOfRows : Cond.selects (am_mY y_Table_sumOfRows).cls (am_mY y_Table_sumOfRows) (am_mY y_Table_sumOfRows) ∈ am_tb := am_tin 49 (by decide +kernel) rfl
set_option maxRecDepth 100000 in
theorem cf_Table_putRow : am_cf y_Table_putRow := ⟨am_tin 403 (by rfl) (by rfl), am_tin 76 (by decide +kernel) rfl, by decide +kernel, by decide +kernel, by decide +kernel⟩
theorem ci_Table_putRow : Cond.instanceMethod (am_mY y_Table_putRow) ∈ am_tb := am_tin 402 (by decide +kernel) rfl
theorem cv_Table_putRow : Cond.selects (am_mY y_Table_putRow).cls (am_mY y_Table_putRow) (am_mY y_Table_putRow) ∈ am_tb := am_tin 9 (by decide +kernel) rfl
set_option maxRecDepth 100000 in
theorem cf_Table_dropRow : am_cf y_Table_dropRow := ⟨am_tin 846 (by rfl) (by rfl), am_tin 76 (by decide +kernel) rfl, by decide +kernel, by decide +kernel, by decide +kernel⟩
theorem ci_Table_dropRow : Cond.instanceMethod (am_mY y_Table_dropRow) ∈ am_tb := am_tin 845 (by decide +kernel) rfl
theorem cv_Table_dropRow : Cond.selects (am_mY y_Table_dropRow).cls (am_mY y_Table_dropRow) (am_mY y_Table_dropRow) ∈ am_tb := am_tin 51 (by decide +kernel) rfl
set_option maxRecDepth 100000 in
theorem cf_Table_takeRowFromSpans : am_cf y_Table_takeRowFromSpans := ⟨am_tin 850 (by rfl) (by rfl), am_tin 76 (by decide +kernel) rfl, by decide +kernel, by decide +kernel, by decide +kernel⟩
theorem ci_Table_takeRowFromSpans : Cond.instanceMethod (am_mY y_Table_takeRowFromSpans) ∈ am_tb := am_tin 849 (by decide +kernel) rfl
theorem cv_Table_takeRowFromSpans : Cond.selects (am_mY y_Table_takeRowFromSpans).cls (am_mY y_Table_takeRowFromSpans) (am_mY y_Table_takeRowFromSpans) ∈ am_tb := am_tin 52 (by decide +kernel) rfl
set_option maxRecDepth 100000 in
theorem cf_Table_putSpan : am_cf y_Table_putSpan := ⟨am_tin 428 (by rfl) (by rfl), am_tin 76 (by decide +kernel) rfl, by decide +kernel, by decide +kernel, by decide +kernel⟩
theorem ci_Table_putSpan : Cond.instanceMethod (am_mY y_Table_putSpan) ∈ am_tb := am_tin 427 (by decide +kernel) rfl
theorem cv_Table_putSpan : Cond.selects (am_mY y_Table_putSpan).cls (am_mY y_Table_putSpan) (am_mY y_Table_putSpan) ∈ am_tb := am_tin 15 (by decide +kernel) rfl
set_option maxRecDepth 100000 in
theorem cf_Table_dropSpan : am_cf y_Table_dropSpan := ⟨am_tin 862 (by rfl) (by rfl), am_tin 76 (by decide +kernel) rfl, by decide +kernel, by decide +kernel, by decide +kernel⟩
theorem ci_Table_dropSpan : Cond.instanceMethod (am_mY y_Table_dropSpan) ∈ am_tb := am_tin 861 (by decide +kernel) rfl
theorem cv_Table_dropSpan : Cond.selects (am_mY y_Table_dropSpan).cls (am_mY y_Table_dropSpan) (am_mY y_Table_dropSpan) ∈ am_tb := am_tin 53 (by decide +kernel) rfl
set_option maxRecDepth 100000 in
theorem cf_Table_cutRows : am_cf y_Table_cutRows := ⟨am_tin 599 (by rfl) (by rfl), am_tin 76 (by decide +kernel) rfl, by decide +kernel, by decide +kernel, by decide +kernel⟩
theorem ci_Table_cutRows : Cond.instanceMethod (am_mY y_Table_cutRows) ∈ am_tb := am_tin 598 (by decide +kernel) rfl
theorem cv_Table_cutRows : Cond.selects (am_mY y_Table_cutRows).cls (am_mY y_Table_cutRows) (am_mY y_Table_cutRows) ∈ am_tb := am_tin 27 (by decide +kernel) rfl
set_option maxRecDepth 100000 in
theorem cf_Table_endRows : am_cf y_Table_endRows := ⟨am_tin 595 (by rfl) (by rfl), am_tin 76 (by decide +kernel) rfl, by decide +kernel, by decide +kernel, by decide +kernel⟩
theorem ci_Table_endRows : Cond.instanceMethod (am_mY y_Table_endRows) ∈ am_tb := am_tin 594 (by decide +kernel) rfl
theorem cv_Table_endRows : Cond.selects (am_mY y_Table_endRows).cls (am_mY y_Table_endRows) (am_mY y_Table_endRows) ∈ am_tb := am_tin 26 (by decide +kernel) rfl
set_option maxRecDepth 100000 in
theorem cf_Table_upTo : am_cf y_Table_upTo := ⟨am_tin 602 (by rfl) (by rfl), am_tin 76 (by decide +kernel) rfl, by decide +kernel, by decide +kernel, by decide +kernel⟩
theorem cs_Table_upTo : Cond.static (am_mY y_Table_upTo) ∈ am_tb := am_tin 601 (by decide +kernel) rfl
set_option maxRecDepth 100000 in
theorem cf_Table_playRound : am_cf y_Table_playRound := ⟨am_tin 1003 (by rfl) (by rfl), am_tin 76 (by decide +kernel) rfl, by decide +kernel, by decide +kernel, by decide +kernel⟩
theorem ci_Table_playRound : Cond.instanceMethod (am_mY y_Table_playRound) ∈ am_tb := am_tin 1002 (by decide +kernel) rfl
theorem cv_Table_playRound : Cond.selects (am_mY y_Table_playRound).cls (am_mY y_Table_playRound) (am_mY y_Table_playRound) ∈ am_tb := am_tin 69 (by decide +kernel) rfl
set_option maxRecDepth 100000 in
theorem cf_Text_init : am_cf y_Text_init := ⟨am_tin 103 (by rfl) (by rfl), am_tin 75 (by decide +kernel) rfl, by decide +kernel, by decide +kernel, by decide +kernel⟩
theorem ci_Text_init : Cond.instanceMethod (am_mY y_Text_init) ∈ am_tb := am_tin 102 (by decide +kernel) rfl
set_option maxRecDepth 100000 in
theorem cf_Text_isFull : am_cf y_Text_isFull := ⟨am_tin 1019 (by rfl) (by rfl), am_tin 75 (by decide +kernel) rfl, by decide +kernel, by decide +kernel, by decide +kernel⟩
theorem ci_Text_isFull : Cond.instanceMethod (am_mY y_Text_isFull) ∈ am_tb := am_tin 1018 (by decide +kernel) rfl
theorem cv_Text_isFull : Cond.selects (am_mY y_Text_isFull).cls (am_mY y_Text_isFull) (am_mY y_Text_isFull) ∈ am_tb := am_tin 70 (by decide +kernel) rfl
set_option maxRecDepth 100000 in
theorem cf_Text_put : am_cf y_Text_put := ⟨am_tin 1024 (by rfl) (by rfl), am_tin 75 (by decide +kernel) rfl, by decide +kernel, by decide +kernel, by decide +kernel⟩
theorem ci_Text_put : Cond.instanceMethod (am_mY y_Text_put) ∈ am_tb := am_tin 1023 (by decide +kernel) rfl
theorem cv_Text_put : Cond.selects (am_mY y_Text_put).cls (am_mY y_Text_put) (am_mY y_Text_put) ∈ am_tb := am_tin 71 (by decide +kernel) rfl
set_option maxRecDepth 100000 in
theorem cf_Text_readInto : am_cf y_Text_readInto := ⟨am_tin 364 (by rfl) (by rfl), am_tin 75 (by decide +kernel) rfl, by decide +kernel, by decide +kernel, by decide +kernel⟩
theorem ci_Text_readInto : Cond.instanceMethod (am_mY y_Text_readInto) ∈ am_tb := am_tin 363 (by decide +kernel) rfl
theorem cv_Text_readInto : Cond.selects (am_mY y_Text_readInto).cls (am_mY y_Text_readInto) (am_mY y_Text_readInto) ∈ am_tb := am_tin 1 (by decide +kernel) rfl
set_option maxRecDepth 100000 in
theorem cf_Text_readHead : am_cf y_Text_readHead := ⟨am_tin 369 (by rfl) (by rfl), am_tin 75 (by decide +kernel) rfl, by decide +kernel, by decide +kernel, by decide +kernel⟩
theorem ci_Text_readHead : Cond.instanceMethod (am_mY y_Text_readHead) ∈ am_tb := am_tin 368 (by decide +kernel) rfl
theorem cv_Text_readHead : Cond.selects (am_mY y_Text_readHead).cls (am_mY y_Text_readHead) (am_mY y_Text_readHead) ∈ am_tb := am_tin 2 (by decide +kernel) rfl
set_option maxRecDepth 100000 in
theorem cf_Text_readPart : am_cf y_Text_readPart := ⟨am_tin 391 (by rfl) (by rfl), am_tin 75 (by decide +kernel) rfl, by decide +kernel, by decide +kernel, by decide +kernel⟩
theorem ci_Text_readPart : Cond.instanceMethod (am_mY y_Text_readPart) ∈ am_tb := am_tin 390 (by decide +kernel) rfl
theorem cv_Text_readPart : Cond.selects (am_mY y_Text_readPart).cls (am_mY y_Text_readPart) (am_mY y_Text_readPart) ∈ am_tb := am_tin 6 (by decide +kernel) rfl
set_option maxRecDepth 100000 in
theorem cf_Text_readRow : am_cf y_Text_readRow := ⟨am_tin 399 (by rfl) (by rfl), am_tin 75 (by decide +kernel) rfl, by decide +kernel, by decide +kernel, by decide +kernel⟩
theorem ci_Text_readRow : Cond.instanceMethod (am_mY y_Text_readRow) ∈ am_tb := am_tin 398 (by decide +kernel) rfl
theorem cv_Text_readRow : Cond.selects (am_mY y_Text_readRow).cls (am_mY y_Text_readRow) (am_mY y_Text_readRow) ∈ am_tb := am_tin 8 (by decide +kernel) rfl
set_option maxRecDepth 100000 in
theorem cf_Text_readNote : am_cf y_Text_readNote := ⟨am_tin 412 (by rfl) (by rfl), am_tin 75 (by decide +kernel) rfl, by decide +kernel, by decide +kernel, by decide +kernel⟩
theorem ci_Text_readNote : Cond.instanceMethod (am_mY y_Text_readNote) ∈ am_tb := am_tin 411 (by decide +kernel) rfl
theorem cv_Text_readNote : Cond.selects (am_mY y_Text_readNote).cls (am_mY y_Text_readNote) (am_mY y_Text_readNote) ∈ am_tb := am_tin 11 (by decide +kernel) rfl
set_option maxRecDepth 100000 in
theorem cf_Text_readNoteHeight : am_cf y_Text_readNoteHeight := ⟨am_tin 416 (by rfl) (by rfl), am_tin 75 (by decide +kernel) rfl, by decide +kernel, by decide +kernel, by decide +kernel⟩
theorem ci_Text_readNoteHeight : Cond.instanceMethod (am_mY y_Text_readNoteHeight) ∈ am_tb := am_tin 415 (by decide +kernel) rfl
theorem cv_Text_readNoteHeight : Cond.selects (am_mY y_Text_readNoteHeight).cls (am_mY y_Text_readNoteHeight) (am_mY y_Text_readNoteHeight) ∈ am_tb := am_tin 12 (by decide +kernel) rfl
set_option maxRecDepth 100000 in
theorem cf_Text_readSpan : am_cf y_Text_readSpan := ⟨am_tin 424 (by rfl) (by rfl), am_tin 75 (by decide +kernel) rfl, by decide +kernel, by decide +kernel, by decide +kernel⟩
theorem ci_Text_readSpan : Cond.instanceMethod (am_mY y_Text_readSpan) ∈ am_tb := am_tin 423 (by decide +kernel) rfl
theorem cv_Text_readSpan : Cond.selects (am_mY y_Text_readSpan).cls (am_mY y_Text_readSpan) (am_mY y_Text_readSpan) ∈ am_tb := am_tin 14 (by decide +kernel) rfl
set_option maxRecDepth 100000 in
theorem cf_Text_takeSign : am_cf y_Text_takeSign := ⟨am_tin 373 (by rfl) (by rfl), am_tin 75 (by decide +kernel) rfl, by decide +kernel, by decide +kernel, by decide +kernel⟩
theorem ci_Text_takeSign : Cond.instanceMethod (am_mY y_Text_takeSign) ∈ am_tb := am_tin 372 (by decide +kernel) rfl
theorem cv_Text_takeSign : Cond.selects (am_mY y_Text_takeSign).cls (am_mY y_Text_takeSign) (am_mY y_Text_takeSign) ∈ am_tb := am_tin 3 (by decide +kernel) rfl
set_option maxRecDepth 100000 in
theorem cf_Text_takeDigit : am_cf y_Text_takeDigit := ⟨am_tin 377 (by rfl) (by rfl), am_tin 75 (by decide +kernel) rfl, by decide +kernel, by decide +kernel, by decide +kernel⟩
theorem ci_Text_takeDigit : Cond.instanceMethod (am_mY y_Text_takeDigit) ∈ am_tb := am_tin 376 (by decide +kernel) rfl
theorem cv_Text_takeDigit : Cond.selects (am_mY y_Text_takeDigit).cls (am_mY y_Text_takeDigit) (am_mY y_Text_takeDigit) ∈ am_tb := am_tin 4 (by decide +kernel) rfl
set_option maxRecDepth 100000 in
theorem cf_Text_takePair : am_cf y_Text_takePair := ⟨am_tin 381 (by rfl) (by rfl), am_tin 75 (by decide +kernel) rfl, by decide +kernel, by decide +kernel, by decide +kernel⟩
theorem ci_Text_takePair : Cond.instanceMethod (am_mY y_Text_takePair) ∈ am_tb := am_tin 380 (by decide +kernel) rfl
theorem cv_Text_takePair : Cond.selects (am_mY y_Text_takePair).cls (am_mY y_Text_takePair) (am_mY y_Text_takePair) ∈ am_tb := am_tin 5 (by decide +kernel) rfl
set_option maxRecDepth 100000 in
theorem cf_L_draw : am_cf y_L_draw := ⟨am_tin 350 (by rfl) (by rfl), am_tin 73 (by decide +kernel) rfl, by decide +kernel, by decide +kernel, by decide +kernel⟩
theorem cs_L_draw : Cond.static (am_mY y_L_draw) ∈ am_tb := am_tin 349 (by decide +kernel) rfl
set_option maxRecDepth 100000 in
theorem cf_L_in : am_cf y_L_in := ⟨am_tin 1030 (by rfl) (by rfl), am_tin 73 (by decide +kernel) rfl, by decide +kernel, by decide +kernel, by decide +kernel⟩
theorem cs_L_in : Cond.static (am_mY y_L_in) ∈ am_tb := am_tin 1029 (by decide +kernel) rfl
set_option maxRecDepth 100000 in
theorem cf_L_append : am_cf y_L_append := ⟨am_tin 1010 (by rfl) (by rfl), am_tin 73 (by decide +kernel) rfl, by decide +kernel, by decide +kernel, by decide +kernel⟩
theorem cs_L_append : Cond.static (am_mY y_L_append) ∈ am_tb := am_tin 1009 (by decide +kernel) rfl
set_option maxRecDepth 100000 in
theorem cf_L_load : am_cf y_L_load := ⟨am_tin 355 (by rfl) (by rfl), am_tin 73 (by decide +kernel) rfl, by decide +kernel, by decide +kernel, by decide +kernel⟩
theorem cs_L_load : Cond.static (am_mY y_L_load) ∈ am_tb := am_tin 354 (by decide +kernel) rfl
set_option maxRecDepth 100000 in
theorem cf_L_about : am_cf y_L_about := ⟨am_tin 574 (by rfl) (by rfl), am_tin 73 (by decide +kernel) rfl, by decide +kernel, by decide +kernel, by decide +kernel⟩
theorem cs_L_about : Cond.static (am_mY y_L_about) ∈ am_tb := am_tin 573 (by decide +kernel) rfl
set_option maxRecDepth 100000 in
theorem cf_L_row : am_cf y_L_row := ⟨am_tin 666 (by rfl) (by rfl), am_tin 73 (by decide +kernel) rfl, by decide +kernel, by decide +kernel, by decide +kernel⟩
theorem cs_L_row : Cond.static (am_mY y_L_row) ∈ am_tb := am_tin 665 (by decide +kernel) rfl
set_option maxRecDepth 100000 in
theorem cf_L_amount : am_cf y_L_amount := ⟨am_tin 686 (by rfl) (by rfl), am_tin 73 (by decide +kernel) rfl, by decide +kernel, by decide +kernel, by decide +kernel⟩
theorem cs_L_amount : Cond.static (am_mY y_L_amount) ∈ am_tb := am_tin 685 (by decide +kernel) rfl
set_option maxRecDepth 100000 in
theorem cf_L_span : am_cf y_L_span := ⟨am_tin 707 (by rfl) (by rfl), am_tin 73 (by decide +kernel) rfl, by decide +kernel, by decide +kernel, by decide +kernel⟩
theorem cs_L_span : Cond.static (am_mY y_L_span) ∈ am_tb := am_tin 706 (by decide +kernel) rfl
set_option maxRecDepth 100000 in
theorem cf_L_note : am_cf y_L_note := ⟨am_tin 658 (by rfl) (by rfl), am_tin 73 (by decide +kernel) rfl, by decide +kernel, by decide +kernel, by decide +kernel⟩
theorem cs_L_note : Cond.static (am_mY y_L_note) ∈ am_tb := am_tin 657 (by decide +kernel) rfl
set_option maxRecDepth 100000 in
theorem cf_L_page : am_cf y_L_page := ⟨am_tin 725 (by rfl) (by rfl), am_tin 73 (by decide +kernel) rfl, by decide +kernel, by decide +kernel, by decide +kernel⟩
theorem cs_L_page : Cond.static (am_mY y_L_page) ∈ am_tb := am_tin 724 (by decide +kernel) rfl
set_option maxRecDepth 100000 in
theorem cf_L_brought : am_cf y_L_brought := ⟨am_tin 765 (by rfl) (by rfl), am_tin 73 (by decide +kernel) rfl, by decide +kernel, by decide +kernel, by decide +kernel⟩
theorem cs_L_brought : Cond.static (am_mY y_L_brought) ∈ am_tb := am_tin 764 (by decide +kernel) rfl
set_option maxRecDepth 100000 in
theorem cf_L_carried : am_cf y_L_carried := ⟨am_tin 777 (by rfl) (by rfl), am_tin 73 (by decide +kernel) rfl, by decide +kernel, by decide +kernel, by decide +kernel⟩
theorem cs_L_carried : Cond.static (am_mY y_L_carried) ∈ am_tb := am_tin 776 (by decide +kernel) rfl
set_option maxRecDepth 100000 in
theorem cf_L_richest : am_cf y_L_richest := ⟨am_tin 784 (by rfl) (by rfl), am_tin 73 (by decide +kernel) rfl, by decide +kernel, by decide +kernel, by decide +kernel⟩
theorem cs_L_richest : Cond.static (am_mY y_L_richest) ∈ am_tb := am_tin 783 (by decide +kernel) rfl
set_option maxRecDepth 100000 in
theorem cf_L_addRow : am_cf y_L_addRow := ⟨am_tin 791 (by rfl) (by rfl), am_tin 73 (by decide +kernel) rfl, by decide +kernel, by decide +kernel, by decide +kernel⟩
theorem cs_L_addRow : Cond.static (am_mY y_L_addRow) ∈ am_tb := am_tin 790 (by decide +kernel) rfl
set_option maxRecDepth 100000 in
theorem cf_L_setAmount : am_cf y_L_setAmount := ⟨am_tin 811 (by rfl) (by rfl), am_tin 73 (by decide +kernel) rfl, by decide +kernel, by decide +kernel, by decide +kernel⟩
theorem cs_L_setAmount : Cond.static (am_mY y_L_setAmount) ∈ am_tb := am_tin 810 (by decide +kernel) rfl
set_option maxRecDepth 100000 in
theorem cf_L_keep : am_cf y_L_keep := ⟨am_tin 831 (by rfl) (by rfl), am_tin 73 (by decide +kernel) rfl, by decide +kernel, by decide +kernel, by decide +kernel⟩
theorem cs_L_keep : Cond.static (am_mY y_L_keep) ∈ am_tb := am_tin 830 (by decide +kernel) rfl
set_option maxRecDepth 100000 in
theorem cf_L_removeRow : am_cf y_L_removeRow := ⟨am_tin 838 (by rfl) (by rfl), am_tin 73 (by decide +kernel) rfl, by decide +kernel, by decide +kernel, by decide +kernel⟩
theorem cs_L_removeRow : Cond.static (am_mY y_L_removeRow) ∈ am_tb := am_tin 837 (by decide +kernel) rfl
set_option maxRecDepth 100000 in
theorem cf_L_addSpan : am_cf y_L_addSpan := ⟨am_tin 820 (by rfl) (by rfl), am_tin 73 (by decide +kernel) rfl, by decide +kernel, by decide +kernel, by decide +kernel⟩
theorem cs_L_addSpan : Cond.static (am_mY y_L_addSpan) ∈ am_tb := am_tin 819 (by decide +kernel) rfl
set_option maxRecDepth 100000 in
theorem cf_L_removeSpan : am_cf y_L_removeSpan := ⟨am_tin 854 (by rfl) (by rfl), am_tin 73 (by decide +kernel) rfl, by decide +kernel, by decide +kernel, by decide +kernel⟩
theorem cs_L_removeSpan : Cond.static (am_mY y_L_removeSpan) ∈ am_tb := am_tin 853 (by decide +kernel) rfl
set_option maxRecDepth 100000 in
theorem cf_L_setHeight : am_cf y_L_setHeight := ⟨am_tin 865 (by rfl) (by rfl), am_tin 73 (by decide +kernel) rfl, by decide +kernel, by decide +kernel, by decide +kernel⟩
theorem cs_L_setHeight : Cond.static (am_mY y_L_setHeight) ∈ am_tb := am_tin 864 (by decide +kernel) rfl
set_option maxRecDepth 100000 in
theorem cf_L_undo : am_cf y_L_undo := ⟨am_tin 1040 (by rfl) (by rfl), am_tin 73 (by decide +kernel) rfl, by decide +kernel, by decide +kernel, by decide +kernel⟩
theorem cs_L_undo : Cond.static (am_mY y_L_undo) ∈ am_tb := am_tin 1039 (by decide +kernel) rfl
set_option maxRecDepth 100000 in
theorem cf_L_heightFor : am_cf y_L_heightFor := ⟨am_tin 880 (by rfl) (by rfl), am_tin 73 (by decide +kernel) rfl, by decide +kernel, by decide +kernel, by decide +kernel⟩
theorem cs_L_heightFor : Cond.static (am_mY y_L_heightFor) ∈ am_tb := am_tin 879 (by decide +kernel) rfl
set_option maxRecDepth 100000 in
theorem cf_L_evenCut : am_cf y_L_evenCut := ⟨am_tin 888 (by rfl) (by rfl), am_tin 73 (by decide +kernel) rfl, by decide +kernel, by decide +kernel, by decide +kernel⟩
theorem cs_L_evenCut : Cond.static (am_mY y_L_evenCut) ∈ am_tb := am_tin 887 (by decide +kernel) rfl
set_option maxRecDepth 100000 in
theorem cf_L_emptyFrom : am_cf y_L_emptyFrom := ⟨am_tin 917 (by rfl) (by rfl), am_tin 73 (by decide +kernel) rfl, by decide +kernel, by decide +kernel, by decide +kernel⟩
theorem cs_L_emptyFrom : Cond.static (am_mY y_L_emptyFrom) ∈ am_tb := am_tin 916 (by decide +kernel) rfl
set_option maxRecDepth 100000 in
theorem cf_L_script : am_cf y_L_script := ⟨am_tin 928 (by rfl) (by rfl), am_tin 73 (by decide +kernel) rfl, by decide +kernel, by decide +kernel, by decide +kernel⟩
theorem cs_L_script : Cond.static (am_mY y_L_script) ∈ am_tb := am_tin 927 (by decide +kernel) rfl
set_option maxRecDepth 100000 in
theorem cf_L_simulate : am_cf y_L_simulate := ⟨am_tin 992 (by rfl) (by rfl), am_tin 73 (by decide +kernel) rfl, by decide +kernel, by decide +kernel, by decide +kernel⟩
theorem cs_L_simulate : Cond.static (am_mY y_L_simulate) ∈ am_tb := am_tin 991 (by decide +kernel) rfl
set_option maxRecDepth 100000 in
theorem cf_L_save : am_cf y_L_save := ⟨am_tin 517 (by rfl) (by rfl), am_tin 73 (by decide +kernel) rfl, by decide +kernel, by decide +kernel, by decide +kernel⟩
theorem cs_L_save : Cond.static (am_mY y_L_save) ∈ am_tb := am_tin 516 (by decide +kernel) rfl
set_option maxRecDepth 100000 in
theorem cf_L_restore : am_cf y_L_restore := ⟨am_tin 550 (by rfl) (by rfl), am_tin 73 (by decide +kernel) rfl, by decide +kernel, by decide +kernel, by decide +kernel⟩
theorem cs_L_restore : Cond.static (am_mY y_L_restore) ∈ am_tb := am_tin 549 (by decide +kernel) rfl
set_option maxRecDepth 100000 in
theorem cf_L_now : am_cf y_L_now := ⟨am_tin 569 (by rfl) (by rfl), am_tin 73 (by decide +kernel) rfl, by decide +kernel, by decide +kernel, by decide +kernel⟩
theorem cs_L_now : Cond.static (am_mY y_L_now) ∈ am_tb := am_tin 568 (by decide +kernel) rfl
set_option maxRecDepth 100000 in
theorem cf_L_errors : am_cf y_L_errors := ⟨am_tin 566 (by rfl) (by rfl), am_tin 73 (by decide +kernel) rfl, by decide +kernel, by decide +kernel, by decide +kernel⟩
theorem cs_L_errors : Cond.static (am_mY y_L_errors) ∈ am_tb := am_tin 565 (by decide +kernel) rfl
set_option maxRecDepth 100000 in
theorem cf_L_kept : am_cf y_L_kept := ⟨am_tin 1027 (by rfl) (by rfl), am_tin 73 (by decide +kernel) rfl, by decide +kernel, by decide +kernel, by decide +kernel⟩
theorem cs_L_kept : Cond.static (am_mY y_L_kept) ∈ am_tb := am_tin 1026 (by decide +kernel) rfl
set_option maxRecDepth 100000 in
theorem cf_L_follows : am_cf y_L_follows := ⟨am_tin 1035 (by rfl) (by rfl), am_tin 73 (by decide +kernel) rfl, by decide +kernel, by decide +kernel, by decide +kernel⟩
theorem cs_L_follows : Cond.static (am_mY y_L_follows) ∈ am_tb := am_tin 1034 (by decide +kernel) rfl
set_option maxRecDepth 100000 in
theorem cf_L_o : am_cf y_L_o := ⟨am_tin 1053 (by rfl) (by rfl), am_tin 73 (by decide +kernel) rfl, by decide +kernel, by decide +kernel, by decide +kernel⟩
theorem cs_L_o : Cond.static (am_mY y_L_o) ∈ am_tb := am_tin 1052 (by decide +kernel) rfl
set_option maxRecDepth 100000 in
theorem cf_L_alike : am_cf y_L_alike := ⟨am_tin 1060 (by rfl) (by rfl), am_tin 73 (by decide +kernel) rfl, by decide +kernel, by decide +kernel, by decide +kernel⟩
theorem cs_L_alike : Cond.static (am_mY y_L_alike) ∈ am_tb := am_tin 1059 (by decide +kernel) rfl
set_option maxRecDepth 100000 in
theorem cf_L_says : am_cf y_L_says := ⟨am_tin 1075 (by rfl) (by rfl), am_tin 73 (by decide +kernel) rfl, by decide +kernel, by decide +kernel, by decide +kernel⟩
theorem cs_L_says : Cond.static (am_mY y_L_says) ∈ am_tb := am_tin 1074 (by decide +kernel) rfl
set_option maxRecDepth 100000 in
theorem cf_L_tells : am_cf y_L_tells := ⟨am_tin 1068 (by rfl) (by rfl), am_tin 73 (by decide +kernel) rfl, by decide +kernel, by decide +kernel, by decide +kernel⟩
theorem cs_L_tells : Cond.static (am_mY y_L_tells) ∈ am_tb := am_tin 1067 (by decide +kernel) rfl
set_option maxRecDepth 100000 in
theorem cf_L_act : am_cf y_L_act := ⟨am_tin 1079 (by rfl) (by rfl), am_tin 73 (by decide +kernel) rfl, by decide +kernel, by decide +kernel, by decide +kernel⟩
theorem cs_L_act : Cond.static (am_mY y_L_act) ∈ am_tb := am_tin 1078 (by decide +kernel) rfl
def am_str : List (String × Nat × String) := [("TablePager", 90, "the text is not a table"), ("TablePager", 360, "no such save slot"), ("TablePager", 334, "nothing is saved in this slot"), ("TablePager", 130, "no such number of the table"), ("TablePager", 185, "no such note"), ("TablePager", 344, "no such row"), ("TablePager", 158, "no such number of a row"), ("TablePager", 350, "no such column"), ("TablePager", 355, "no such span"), ("TablePager", 183, "no such number of a span"), ("TablePager", 286, "no such page"), ("TablePager", 214, "no such number of a page"), ("TablePager", 226, "no such height or note of a row"), ("TablePager", 229, "there are as many rows as there may be"), ("TablePager", 238, "no such amount"), ("TablePager", 247, "the last row is not behind the first one"), ("TablePager", 252, "there are as many spans as there may be"), ("TablePager", 264, "no such height"), ("TablePager", 277, "no such number of pages"), ("TablePager", 293, "no such number of commands"), ("TablePager", 299, "no script of so many commands"), ("TablePager", 310, "no such number of rounds"), ("TablePager", 63, "no character code"), ("TablePager", 74, "the text is full"), ("TablePager", 272, "no state is remembered")]
def am_nc : List (String × String) := [("java/lang/IllegalArgumentException", "java/lang/IllegalStateException"), ("java/lang/IllegalArgumentException", "java/lang/IndexOutOfBoundsException"), ("java/lang/IllegalStateException", "java/lang/IllegalArgumentException"), ("java/lang/IllegalStateException", "java/lang/IndexOutOfBoundsException"), ("java/lang/IndexOutOfBoundsException", "java/lang/IllegalArgumentException"), ("java/lang/IndexOutOfBoundsException", "java/lang/IllegalStateException")]
