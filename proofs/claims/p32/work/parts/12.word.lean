/-! written by wip/p32/gen.py: the words that the code tables use -/
def am_flo (own : String) (idx ci k : Nat) : Prop := Cond.fieldLink own idx (am_cT ci k).1 (am_cT ci k).2.1 (am_cT ci k).2.2.1 ∈ am_tb ∨ ∃ host : String, Cond.fieldLinkNest own idx (am_cT ci k).1 (am_cT ci k).2.1 (am_cT ci k).2.2.1 host ∈ am_tb
def am_mlo (own : String) (idx y : Nat) : Prop := Cond.methodLink own idx (am_mY y) ∈ am_tb ∨ ∃ host : String, Cond.methodLinkNest own idx (am_mY y) host ∈ am_tb
theorem am_nfw : nativeFrameWords "java/lang/System" "arraycopy" 5 + 11 ≤ 35 := by decide +kernel
theorem w_49 : (Jvm.Cond.methodLink "TablePager$Table" (3 : Nat) ({ cls := "java/lang/Object", name := "<init>", desc := "()V" } : Jvm.MethodName)) ∈ am_tb := am_tin 122 (by decide +kernel) rfl
theorem w_24 : (Jvm.Cond.instanceMethod ({ cls := "java/lang/Object", name := "<init>", desc := "()V" } : Jvm.MethodName)) ∈ am_tb := am_tin 97 (by decide +kernel) rfl
theorem w_25 : (Jvm.Cond.code ({ cls := "java/lang/Object", name := "<init>", desc := "()V" } : Jvm.MethodName) object_method_1_code (1 : Nat) (Option.none : Option Jvm.ClassFile.FieldType)) ∈ am_tb := am_tin 98 (by decide +kernel) rfl
theorem w_130 : (Jvm.Cond.arrayClass Jvm.ClassFile.FieldType.int) ∈ am_tb := am_tin 203 (by decide +kernel) rfl
theorem w_77 : (Jvm.Cond.fieldLink "TablePager$Table" (9 : Nat) "TablePager$Table" "heights" "[I") ∈ am_tb := am_tin 150 (by decide +kernel) rfl
theorem w_80 : (Jvm.Cond.fieldLink "TablePager$Table" (15 : Nat) "TablePager$Table" "notes" "[I") ∈ am_tb := am_tin 153 (by decide +kernel) rfl
theorem w_131 : (Jvm.Cond.arrayClass Jvm.ClassFile.FieldType.boolean) ∈ am_tb := am_tin 204 (by decide +kernel) rfl
theorem w_84 : (Jvm.Cond.fieldLink "TablePager$Table" (18 : Nat) "TablePager$Table" "stays" "[Z") ∈ am_tb := am_tin 157 (by decide +kernel) rfl
theorem w_88 : (Jvm.Cond.fieldLink "TablePager$Table" (22 : Nat) "TablePager$Table" "amounts" "[I") ∈ am_tb := am_tin 161 (by decide +kernel) rfl
theorem w_89 : (Jvm.Cond.fieldLink "TablePager$Table" (25 : Nat) "TablePager$Table" "firsts" "[I") ∈ am_tb := am_tin 162 (by decide +kernel) rfl
theorem w_93 : (Jvm.Cond.fieldLink "TablePager$Table" (28 : Nat) "TablePager$Table" "lasts" "[I") ∈ am_tb := am_tin 166 (by decide +kernel) rfl
theorem w_97 : (Jvm.Cond.fieldLink "TablePager$Table" (31 : Nat) "TablePager$Table" "mayBeCut" "[Z") ∈ am_tb := am_tin 170 (by decide +kernel) rfl
theorem w_99 : (Jvm.Cond.fieldLink "TablePager$Table" (34 : Nat) "TablePager$Table" "noteHeights" "[I") ∈ am_tb := am_tin 172 (by decide +kernel) rfl
theorem w_50 : (Jvm.Cond.methodLink "TablePager$Table" (37 : Nat) ({ cls := "TablePager$Table", name := "makeNew", desc := "()V" } : Jvm.MethodName)) ∈ am_tb := am_tin 123 (by decide +kernel) rfl
theorem w_54 : (Jvm.Cond.fieldLink "TablePager$Table" (40 : Nat) "TablePager$Table" "columns" "I") ∈ am_tb := am_tin 127 (by decide +kernel) rfl
theorem w_57 : (Jvm.Cond.fieldLink "TablePager$Table" (44 : Nat) "TablePager$Table" "rows" "I") ∈ am_tb := am_tin 130 (by decide +kernel) rfl
theorem w_64 : (Jvm.Cond.fieldLink "TablePager$Table" (47 : Nat) "TablePager$Table" "spans" "I") ∈ am_tb := am_tin 137 (by decide +kernel) rfl
theorem w_67 : (Jvm.Cond.fieldLink "TablePager$Table" (50 : Nat) "TablePager$Table" "pageHeight" "I") ∈ am_tb := am_tin 140 (by decide +kernel) rfl
theorem w_73 : (Jvm.Cond.fieldLink "TablePager$Table" (53 : Nat) "TablePager$Table" "headingHeight" "I") ∈ am_tb := am_tin 146 (by decide +kernel) rfl
theorem w_430 : (Jvm.Cond.methodLink "TablePager$Table" (56 : Nat) ({ cls := "java/lang/System", name := "arraycopy", desc := "(Ljava/lang/Object;ILjava/lang/Object;II)V" } : Jvm.MethodName)) ∈ am_tb := am_tin 503 (by decide +kernel) rfl
theorem w_432 : (Jvm.Cond.native ({ cls := "java/lang/System", name := "arraycopy", desc := "(Ljava/lang/Object;ILjava/lang/Object;II)V" } : Jvm.MethodName)) ∈ am_tb := am_tin 505 (by decide +kernel) rfl
theorem w_431 : (Jvm.Cond.static ({ cls := "java/lang/System", name := "arraycopy", desc := "(Ljava/lang/Object;ILjava/lang/Object;II)V" } : Jvm.MethodName)) ∈ am_tb := am_tin 504 (by decide +kernel) rfl
theorem w_16 : (Jvm.Cond.initialized "java/lang/System") ∈ am_tb := am_tin 89 (by decide +kernel) rfl
theorem w_701 : (Jvm.Cond.methodLink "TablePager$Table" (62 : Nat) ({ cls := "TablePager$Table", name := "amountAt", desc := "(II)I" } : Jvm.MethodName)) ∈ am_tb := am_tin 774 (by decide +kernel) rfl
theorem w_331 : (Jvm.Cond.methodLink "TablePager$Table" (66 : Nat) ({ cls := "TablePager$Table", name := "putAmount", desc := "(III)V" } : Jvm.MethodName)) ∈ am_tb := am_tin 404 (by decide +kernel) rfl
theorem w_774 : (Jvm.Cond.methodLink "TablePager$Table" (70 : Nat) ({ cls := "TablePager$Table", name := "takeRowFromSpans", desc := "(I)I" } : Jvm.MethodName)) ∈ am_tb := am_tin 847 (by decide +kernel) rfl
theorem w_778 : (Jvm.Cond.methodLink "TablePager$Table" (74 : Nat) ({ cls := "TablePager$Table", name := "putSpan", desc := "(IIZ)V" } : Jvm.MethodName)) ∈ am_tb := am_tin 851 (by decide +kernel) rfl
theorem w_527 : (Jvm.Cond.methodLink "TablePager$Table" (78 : Nat) ({ cls := "TablePager$Table", name := "upTo", desc := "(I)I" } : Jvm.MethodName)) ∈ am_tb := am_tin 600 (by decide +kernel) rfl
theorem w_523 : (Jvm.Cond.methodLink "TablePager$Table" (81 : Nat) ({ cls := "TablePager$Table", name := "cutRows", desc := "()I" } : Jvm.MethodName)) ∈ am_tb := am_tin 596 (by decide +kernel) rfl
theorem w_931 : (Jvm.Cond.methodLink "TablePager$Table" (85 : Nat) ({ cls := "TablePager$Table", name := "isFull", desc := "()Z" } : Jvm.MethodName)) ∈ am_tb := am_tin 1004 (by decide +kernel) rfl
theorem w_932 : (Jvm.Cond.methodLink "TablePager$Table" (89 : Nat) ({ cls := "TablePager$Table", name := "putRow", desc := "(II)V" } : Jvm.MethodName)) ∈ am_tb := am_tin 1005 (by decide +kernel) rfl
theorem w_933 : (Jvm.Cond.methodLink "TablePager$Table" (93 : Nat) ({ cls := "TablePager$Table", name := "dropRow", desc := "(I)I" } : Jvm.MethodName)) ∈ am_tb := am_tin 1006 (by decide +kernel) rfl
theorem w_233 : (Jvm.Cond.methodLink "TablePager$Command" (1 : Nat) ({ cls := "java/lang/Object", name := "<init>", desc := "()V" } : Jvm.MethodName)) ∈ am_tb := am_tin 306 (by decide +kernel) rfl
theorem w_234 : (Jvm.Cond.fieldLink "TablePager$Command" (7 : Nat) "TablePager$Command" "kind" "I") ∈ am_tb := am_tin 307 (by decide +kernel) rfl
theorem w_235 : (Jvm.Cond.fieldLink "TablePager$Command" (13 : Nat) "TablePager$Command" "second" "I") ∈ am_tb := am_tin 308 (by decide +kernel) rfl
theorem w_236 : (Jvm.Cond.fieldLink "TablePager$Command" (16 : Nat) "TablePager$Command" "third" "I") ∈ am_tb := am_tin 309 (by decide +kernel) rfl
theorem w_237 : (Jvm.Cond.fieldLink "TablePager$Command" (19 : Nat) "TablePager$Command" "fourth" "I") ∈ am_tb := am_tin 310 (by decide +kernel) rfl
theorem w_238 : (Jvm.Cond.fieldLink "TablePager$Command" (22 : Nat) "TablePager$Command" "fifth" "I") ∈ am_tb := am_tin 311 (by decide +kernel) rfl
theorem w_874 : (Jvm.Cond.methodLink "TablePager$Command" (25 : Nat) ({ cls := "TablePager$Command", name := "addsRow", desc := "(LTablePager$Table;)Z" } : Jvm.MethodName)) ∈ am_tb := am_tin 947 (by decide +kernel) rfl
theorem w_881 : (Jvm.Cond.methodLink "TablePager$Command" (29 : Nat) ({ cls := "TablePager$Command", name := "putsAmount", desc := "(LTablePager$Table;)Z" } : Jvm.MethodName)) ∈ am_tb := am_tin 954 (by decide +kernel) rfl
theorem w_892 : (Jvm.Cond.methodLink "TablePager$Command" (32 : Nat) ({ cls := "TablePager$Command", name := "marksRow", desc := "(LTablePager$Table;)Z" } : Jvm.MethodName)) ∈ am_tb := am_tin 965 (by decide +kernel) rfl
theorem w_896 : (Jvm.Cond.methodLink "TablePager$Command" (35 : Nat) ({ cls := "TablePager$Command", name := "dropsRow", desc := "(LTablePager$Table;)Z" } : Jvm.MethodName)) ∈ am_tb := am_tin 969 (by decide +kernel) rfl
theorem w_901 : (Jvm.Cond.methodLink "TablePager$Command" (38 : Nat) ({ cls := "TablePager$Command", name := "putsHeight", desc := "(LTablePager$Table;)Z" } : Jvm.MethodName)) ∈ am_tb := am_tin 974 (by decide +kernel) rfl
theorem w_907 : (Jvm.Cond.methodLink "TablePager$Command" (41 : Nat) ({ cls := "TablePager$Command", name := "holds", desc := "(LTablePager$Table;LTablePager$Layout;)Z" } : Jvm.MethodName)) ∈ am_tb := am_tin 980 (by decide +kernel) rfl
theorem w_69 : (Jvm.Cond.fieldLinkNest "TablePager$Command" (45 : Nat) "TablePager$Table" "pageHeight" "I" "TablePager") ∈ am_tb := am_tin 142 (by decide +kernel) rfl
theorem w_911 : (Jvm.Cond.methodLinkNest "TablePager$Command" (50 : Nat) ({ cls := "TablePager$Layout", name := "lay", desc := "(LTablePager$Table;I)V" } : Jvm.MethodName) "TablePager") ∈ am_tb := am_tin 984 (by decide +kernel) rfl
theorem w_194 : (Jvm.Cond.fieldLinkNest "TablePager$Command" (56 : Nat) "TablePager$Layout" "pages" "I" "TablePager") ∈ am_tb := am_tin 267 (by decide +kernel) rfl
theorem w_885 : (Jvm.Cond.methodLink "TablePager$Command" (59 : Nat) ({ cls := "TablePager$Command", name := "firstPair", desc := "()I" } : Jvm.MethodName)) ∈ am_tb := am_tin 958 (by decide +kernel) rfl
theorem w_912 : (Jvm.Cond.methodLinkNest "TablePager$Command" (63 : Nat) ({ cls := "TablePager$Layout", name := "hasPage", desc := "(I)Z" } : Jvm.MethodName) "TablePager") ∈ am_tb := am_tin 985 (by decide +kernel) rfl
theorem w_913 : (Jvm.Cond.methodLinkNest "TablePager$Command" (67 : Nat) ({ cls := "TablePager$Layout", name := "lastOf", desc := "(I)I" } : Jvm.MethodName) "TablePager") ∈ am_tb := am_tin 986 (by decide +kernel) rfl
theorem w_914 : (Jvm.Cond.methodLinkNest "TablePager$Command" (71 : Nat) ({ cls := "TablePager$Table", name := "hasSpan", desc := "(I)Z" } : Jvm.MethodName) "TablePager") ∈ am_tb := am_tin 987 (by decide +kernel) rfl
theorem w_915 : (Jvm.Cond.methodLinkNest "TablePager$Command" (74 : Nat) ({ cls := "TablePager$Layout", name := "pagesOfSpan", desc := "(LTablePager$Table;I)I" } : Jvm.MethodName) "TablePager") ∈ am_tb := am_tin 988 (by decide +kernel) rfl
theorem w_197 : (Jvm.Cond.fieldLinkNest "TablePager$Command" (78 : Nat) "TablePager$Layout" "overfull" "I" "TablePager") ∈ am_tb := am_tin 270 (by decide +kernel) rfl
theorem w_878 : (Jvm.Cond.methodLinkNest "TablePager$Command" (81 : Nat) ({ cls := "TablePager$Table", name := "allowsRow", desc := "(II)Z" } : Jvm.MethodName) "TablePager") ∈ am_tb := am_tin 951 (by decide +kernel) rfl
theorem w_879 : (Jvm.Cond.methodLinkNest "TablePager$Command" (85 : Nat) ({ cls := "TablePager$Table", name := "isFull", desc := "()Z" } : Jvm.MethodName) "TablePager") ∈ am_tb := am_tin 952 (by decide +kernel) rfl
theorem w_880 : (Jvm.Cond.methodLinkNest "TablePager$Command" (89 : Nat) ({ cls := "TablePager$Table", name := "putRow", desc := "(II)V" } : Jvm.MethodName) "TablePager") ∈ am_tb := am_tin 953 (by decide +kernel) rfl
theorem w_889 : (Jvm.Cond.methodLinkNest "TablePager$Command" (93 : Nat) ({ cls := "TablePager$Table", name := "hasRow", desc := "(I)Z" } : Jvm.MethodName) "TablePager") ∈ am_tb := am_tin 962 (by decide +kernel) rfl
theorem w_890 : (Jvm.Cond.methodLinkNest "TablePager$Command" (96 : Nat) ({ cls := "TablePager$Table", name := "hasColumn", desc := "(I)Z" } : Jvm.MethodName) "TablePager") ∈ am_tb := am_tin 963 (by decide +kernel) rfl
theorem w_891 : (Jvm.Cond.methodLinkNest "TablePager$Command" (99 : Nat) ({ cls := "TablePager$Table", name := "putAmount", desc := "(III)V" } : Jvm.MethodName) "TablePager") ∈ am_tb := am_tin 964 (by decide +kernel) rfl
theorem w_87 : (Jvm.Cond.fieldLinkNest "TablePager$Command" (103 : Nat) "TablePager$Table" "stays" "[Z" "TablePager") ∈ am_tb := am_tin 160 (by decide +kernel) rfl
theorem w_900 : (Jvm.Cond.methodLinkNest "TablePager$Command" (107 : Nat) ({ cls := "TablePager$Table", name := "dropRow", desc := "(I)I" } : Jvm.MethodName) "TablePager") ∈ am_tb := am_tin 973 (by decide +kernel) rfl
theorem w_905 : (Jvm.Cond.methodLinkNest "TablePager$Command" (110 : Nat) ({ cls := "TablePager$Table", name := "allowsHeight", desc := "(II)Z" } : Jvm.MethodName) "TablePager") ∈ am_tb := am_tin 978 (by decide +kernel) rfl
theorem w_906 : (Jvm.Cond.methodLinkNest "TablePager$Command" (113 : Nat) ({ cls := "TablePager$Table", name := "putHeight", desc := "(II)V" } : Jvm.MethodName) "TablePager") ∈ am_tb := am_tin 979 (by decide +kernel) rfl
theorem w_215 : (Jvm.Cond.methodLink "TablePager$Evener" (3 : Nat) ({ cls := "java/lang/Object", name := "<init>", desc := "()V" } : Jvm.MethodName)) ∈ am_tb := am_tin 288 (by decide +kernel) rfl
theorem w_218 : (Jvm.Cond.fieldLink "TablePager$Evener" (9 : Nat) "TablePager$Evener" "costs" "[I") ∈ am_tb := am_tin 291 (by decide +kernel) rfl
theorem w_219 : (Jvm.Cond.fieldLink "TablePager$Evener" (15 : Nat) "TablePager$Evener" "ends" "[I") ∈ am_tb := am_tin 292 (by decide +kernel) rfl
theorem w_216 : (Jvm.Cond.classLink "TablePager$Evener" (18 : Nat) "TablePager$Sheet") ∈ am_tb := am_tin 289 (by decide +kernel) rfl
theorem w_217 : (Jvm.Cond.methodLinkNest "TablePager$Evener" (20 : Nat) ({ cls := "TablePager$Sheet", name := "<init>", desc := "()V" } : Jvm.MethodName) "TablePager") ∈ am_tb := am_tin 290 (by decide +kernel) rfl
theorem w_220 : (Jvm.Cond.fieldLink "TablePager$Evener" (21 : Nat) "TablePager$Evener" "sheet" "LTablePager$Sheet;") ∈ am_tb := am_tin 293 (by decide +kernel) rfl
theorem w_824 : (Jvm.Cond.methodLinkNest "TablePager$Evener" (25 : Nat) ({ cls := "TablePager$Table", name := "endRows", desc := "()I" } : Jvm.MethodName) "TablePager") ∈ am_tb := am_tin 897 (by decide +kernel) rfl
theorem w_58 : (Jvm.Cond.fieldLinkNest "TablePager$Evener" (31 : Nat) "TablePager$Table" "rows" "I" "TablePager") ∈ am_tb := am_tin 131 (by decide +kernel) rfl
theorem w_825 : (Jvm.Cond.methodLink "TablePager$Evener" (35 : Nat) ({ cls := "TablePager$Evener", name := "chooseEnd", desc := "(LTablePager$Table;II)V" } : Jvm.MethodName)) ∈ am_tb := am_tin 898 (by decide +kernel) rfl
theorem w_829 : (Jvm.Cond.methodLinkNest "TablePager$Evener" (39 : Nat) ({ cls := "TablePager$Sheet", name := "begin", desc := "(LTablePager$Table;I)V" } : Jvm.MethodName) "TablePager") ∈ am_tb := am_tin 902 (by decide +kernel) rfl
theorem w_830 : (Jvm.Cond.methodLinkNest "TablePager$Evener" (43 : Nat) ({ cls := "TablePager$Sheet", name := "take", desc := "(LTablePager$Table;I)V" } : Jvm.MethodName) "TablePager") ∈ am_tb := am_tin 903 (by decide +kernel) rfl
theorem w_831 : (Jvm.Cond.methodLinkNest "TablePager$Evener" (46 : Nat) ({ cls := "TablePager", name := "isIn", desc := "(II)Z" } : Jvm.MethodName) "TablePager") ∈ am_tb := am_tin 904 (by decide +kernel) rfl
theorem w_832 : (Jvm.Cond.methodLink "TablePager$Evener" (50 : Nat) ({ cls := "TablePager$Evener", name := "costOfSheet", desc := "(LTablePager$Table;I)I" } : Jvm.MethodName)) ∈ am_tb := am_tin 905 (by decide +kernel) rfl
theorem w_68 : (Jvm.Cond.fieldLinkNest "TablePager$Evener" (54 : Nat) "TablePager$Table" "pageHeight" "I" "TablePager") ∈ am_tb := am_tin 141 (by decide +kernel) rfl
theorem w_836 : (Jvm.Cond.methodLinkNest "TablePager$Evener" (57 : Nat) ({ cls := "TablePager$Sheet", name := "needed", desc := "()I" } : Jvm.MethodName) "TablePager") ∈ am_tb := am_tin 909 (by decide +kernel) rfl
theorem w_841 : (Jvm.Cond.constant "TablePager$Evener" (60 : Nat) (-999999 : Int32)) ∈ am_tb := am_tin 914 (by decide +kernel) rfl
theorem w_137 : (Jvm.Cond.methodLink "TablePager$History" (3 : Nat) ({ cls := "java/lang/Object", name := "<init>", desc := "()V" } : Jvm.MethodName)) ∈ am_tb := am_tin 210 (by decide +kernel) rfl
theorem w_138 : (Jvm.Cond.classLink "TablePager$History" (9 : Nat) "TablePager$Table") ∈ am_tb := am_tin 211 (by decide +kernel) rfl
theorem w_141 : (Jvm.Cond.fieldLink "TablePager$History" (11 : Nat) "TablePager$History" "kept" "[LTablePager$Table;") ∈ am_tb := am_tin 214 (by decide +kernel) rfl
theorem w_140 : (Jvm.Cond.methodLinkNest "TablePager$History" (17 : Nat) ({ cls := "TablePager$Table", name := "<init>", desc := "()V" } : Jvm.MethodName) "TablePager") ∈ am_tb := am_tin 213 (by decide +kernel) rfl
theorem w_143 : (Jvm.Cond.fieldLink "TablePager$History" (18 : Nat) "TablePager$History" "count" "I") ∈ am_tb := am_tin 216 (by decide +kernel) rfl
theorem w_142 : (Jvm.Cond.fieldLink "TablePager$History" (22 : Nat) "TablePager$History" "next" "I") ∈ am_tb := am_tin 215 (by decide +kernel) rfl
theorem w_733 : (Jvm.Cond.methodLinkNest "TablePager$History" (25 : Nat) ({ cls := "TablePager$Table", name := "copyFrom", desc := "(LTablePager$Table;)V" } : Jvm.MethodName) "TablePager") ∈ am_tb := am_tin 806 (by decide +kernel) rfl
theorem w_734 : (Jvm.Cond.methodLink "TablePager$History" (29 : Nat) ({ cls := "java/lang/Math", name := "min", desc := "(II)I" } : Jvm.MethodName)) ∈ am_tb := am_tin 807 (by decide +kernel) rfl
theorem w_313 : (Jvm.Cond.static ({ cls := "java/lang/Math", name := "min", desc := "(II)I" } : Jvm.MethodName)) ∈ am_tb := am_tin 386 (by decide +kernel) rfl
theorem w_15 : (Jvm.Cond.initialized "java/lang/Math") ∈ am_tb := am_tin 88 (by decide +kernel) rfl
theorem w_314 : (Jvm.Cond.code ({ cls := "java/lang/Math", name := "min", desc := "(II)I" } : Jvm.MethodName) prog_16_method_69_code (2 : Nat) (Option.some Jvm.ClassFile.FieldType.int)) ∈ am_tb := am_tin 387 (by decide +kernel) rfl
theorem w_172 : (Jvm.Cond.methodLink "TablePager$Layout" (3 : Nat) ({ cls := "java/lang/Object", name := "<init>", desc := "()V" } : Jvm.MethodName)) ∈ am_tb := am_tin 245 (by decide +kernel) rfl
theorem w_199 : (Jvm.Cond.fieldLink "TablePager$Layout" (9 : Nat) "TablePager$Layout" "ends" "[I") ∈ am_tb := am_tin 272 (by decide +kernel) rfl
theorem w_173 : (Jvm.Cond.classLink "TablePager$Layout" (15 : Nat) "TablePager$Sheet") ∈ am_tb := am_tin 246 (by decide +kernel) rfl
theorem w_175 : (Jvm.Cond.methodLinkNest "TablePager$Layout" (17 : Nat) ({ cls := "TablePager$Sheet", name := "<init>", desc := "()V" } : Jvm.MethodName) "TablePager") ∈ am_tb := am_tin 248 (by decide +kernel) rfl
theorem w_200 : (Jvm.Cond.fieldLink "TablePager$Layout" (18 : Nat) "TablePager$Layout" "sheet" "LTablePager$Sheet;") ∈ am_tb := am_tin 273 (by decide +kernel) rfl
theorem w_519 : (Jvm.Cond.methodLinkNest "TablePager$Layout" (22 : Nat) ({ cls := "TablePager$Table", name := "endRows", desc := "()I" } : Jvm.MethodName) "TablePager") ∈ am_tb := am_tin 592 (by decide +kernel) rfl
theorem w_193 : (Jvm.Cond.fieldLink "TablePager$Layout" (28 : Nat) "TablePager$Layout" "pages" "I") ∈ am_tb := am_tin 266 (by decide +kernel) rfl
theorem w_196 : (Jvm.Cond.fieldLink "TablePager$Layout" (32 : Nat) "TablePager$Layout" "overfull" "I") ∈ am_tb := am_tin 269 (by decide +kernel) rfl
theorem w_59 : (Jvm.Cond.fieldLinkNest "TablePager$Layout" (35 : Nat) "TablePager$Table" "rows" "I" "TablePager") ∈ am_tb := am_tin 132 (by decide +kernel) rfl
theorem w_530 : (Jvm.Cond.methodLink "TablePager$Layout" (38 : Nat) ({ cls := "TablePager$Layout", name := "lastThatFits", desc := "(LTablePager$Table;III)I" } : Jvm.MethodName)) ∈ am_tb := am_tin 603 (by decide +kernel) rfl
theorem w_534 : (Jvm.Cond.constant "TablePager$Layout" (42 : Nat) (-999999 : Int32)) ∈ am_tb := am_tin 607 (by decide +kernel) rfl
theorem w_551 : (Jvm.Cond.methodLink "TablePager$Layout" (43 : Nat) ({ cls := "TablePager$Layout", name := "firstEnd", desc := "(II)I" } : Jvm.MethodName)) ∈ am_tb := am_tin 624 (by decide +kernel) rfl
theorem w_535 : (Jvm.Cond.methodLinkNest "TablePager$Layout" (47 : Nat) ({ cls := "TablePager$Sheet", name := "begin", desc := "(LTablePager$Table;I)V" } : Jvm.MethodName) "TablePager") ∈ am_tb := am_tin 608 (by decide +kernel) rfl
theorem w_539 : (Jvm.Cond.methodLinkNest "TablePager$Layout" (51 : Nat) ({ cls := "TablePager$Sheet", name := "take", desc := "(LTablePager$Table;I)V" } : Jvm.MethodName) "TablePager") ∈ am_tb := am_tin 612 (by decide +kernel) rfl
theorem w_546 : (Jvm.Cond.methodLinkNest "TablePager$Layout" (54 : Nat) ({ cls := "TablePager$Sheet", name := "needed", desc := "()I" } : Jvm.MethodName) "TablePager") ∈ am_tb := am_tin 619 (by decide +kernel) rfl
theorem w_550 : (Jvm.Cond.methodLinkNest "TablePager$Layout" (57 : Nat) ({ cls := "TablePager", name := "isIn", desc := "(II)Z" } : Jvm.MethodName) "TablePager") ∈ am_tb := am_tin 623 (by decide +kernel) rfl
theorem w_95 : (Jvm.Cond.fieldLinkNest "TablePager$Layout" (61 : Nat) "TablePager$Table" "lasts" "[I" "TablePager") ∈ am_tb := am_tin 168 (by decide +kernel) rfl
theorem w_562 : (Jvm.Cond.methodLink "TablePager$Layout" (64 : Nat) ({ cls := "TablePager$Layout", name := "pageOf", desc := "(I)I" } : Jvm.MethodName)) ∈ am_tb := am_tin 635 (by decide +kernel) rfl
theorem w_91 : (Jvm.Cond.fieldLinkNest "TablePager$Layout" (68 : Nat) "TablePager$Table" "firsts" "[I" "TablePager") ∈ am_tb := am_tin 164 (by decide +kernel) rfl
theorem w_66 : (Jvm.Cond.fieldLinkNest "TablePager$Layout" (71 : Nat) "TablePager$Table" "spans" "I" "TablePager") ∈ am_tb := am_tin 139 (by decide +kernel) rfl
theorem w_558 : (Jvm.Cond.methodLink "TablePager$Layout" (74 : Nat) ({ cls := "TablePager$Layout", name := "pagesOfSpan", desc := "(LTablePager$Table;I)I" } : Jvm.MethodName)) ∈ am_tb := am_tin 631 (by decide +kernel) rfl
theorem w_670 : (Jvm.Cond.methodLink "TablePager$Layout" (78 : Nat) ({ cls := "TablePager$Layout", name := "firstOf", desc := "(I)I" } : Jvm.MethodName)) ∈ am_tb := am_tin 743 (by decide +kernel) rfl
theorem w_674 : (Jvm.Cond.methodLink "TablePager$Layout" (81 : Nat) ({ cls := "TablePager$Layout", name := "lastOf", desc := "(I)I" } : Jvm.MethodName)) ∈ am_tb := am_tin 747 (by decide +kernel) rfl
theorem w_678 : (Jvm.Cond.methodLink "TablePager$Layout" (84 : Nat) ({ cls := "TablePager$Layout", name := "fill", desc := "(LTablePager$Table;II)V" } : Jvm.MethodName)) ∈ am_tb := am_tin 751 (by decide +kernel) rfl
theorem w_72 : (Jvm.Cond.fieldLinkNest "TablePager$Layout" (88 : Nat) "TablePager$Table" "pageHeight" "I" "TablePager") ∈ am_tb := am_tin 145 (by decide +kernel) rfl
theorem w_178 : (Jvm.Cond.methodLink "TablePager$Sheet" (1 : Nat) ({ cls := "java/lang/Object", name := "<init>", desc := "()V" } : Jvm.MethodName)) ∈ am_tb := am_tin 251 (by decide +kernel) rfl
theorem w_179 : (Jvm.Cond.fieldLink "TablePager$Sheet" (7 : Nat) "TablePager$Sheet" "names" "I") ∈ am_tb := am_tin 252 (by decide +kernel) rfl
theorem w_63 : (Jvm.Cond.fieldLinkNest "TablePager$Sheet" (13 : Nat) "TablePager$Table" "spans" "I" "TablePager") ∈ am_tb := am_tin 136 (by decide +kernel) rfl
theorem w_90 : (Jvm.Cond.fieldLinkNest "TablePager$Sheet" (18 : Nat) "TablePager$Table" "firsts" "[I" "TablePager") ∈ am_tb := am_tin 163 (by decide +kernel) rfl
theorem w_94 : (Jvm.Cond.fieldLinkNest "TablePager$Sheet" (22 : Nat) "TablePager$Table" "lasts" "[I" "TablePager") ∈ am_tb := am_tin 167 (by decide +kernel) rfl
theorem w_181 : (Jvm.Cond.fieldLink "TablePager$Sheet" (25 : Nat) "TablePager$Sheet" "notes" "I") ∈ am_tb := am_tin 254 (by decide +kernel) rfl
theorem w_74 : (Jvm.Cond.fieldLinkNest "TablePager$Sheet" (28 : Nat) "TablePager$Table" "headingHeight" "I" "TablePager") ∈ am_tb := am_tin 147 (by decide +kernel) rfl
theorem w_182 : (Jvm.Cond.fieldLink "TablePager$Sheet" (31 : Nat) "TablePager$Sheet" "lines" "I") ∈ am_tb := am_tin 255 (by decide +kernel) rfl
theorem w_183 : (Jvm.Cond.fieldLink "TablePager$Sheet" (34 : Nat) "TablePager$Sheet" "carry" "I") ∈ am_tb := am_tin 256 (by decide +kernel) rfl
theorem w_78 : (Jvm.Cond.fieldLinkNest "TablePager$Sheet" (37 : Nat) "TablePager$Table" "heights" "[I" "TablePager") ∈ am_tb := am_tin 151 (by decide +kernel) rfl
theorem w_81 : (Jvm.Cond.fieldLinkNest "TablePager$Sheet" (40 : Nat) "TablePager$Table" "notes" "[I" "TablePager") ∈ am_tb := am_tin 154 (by decide +kernel) rfl
theorem w_543 : (Jvm.Cond.methodLinkNest "TablePager$Sheet" (42 : Nat) ({ cls := "TablePager", name := "isIn", desc := "(II)Z" } : Jvm.MethodName) "TablePager") ∈ am_tb := am_tin 616 (by decide +kernel) rfl
theorem w_100 : (Jvm.Cond.fieldLinkNest "TablePager$Sheet" (48 : Nat) "TablePager$Table" "noteHeights" "[I" "TablePager") ∈ am_tb := am_tin 173 (by decide +kernel) rfl
theorem w_60 : (Jvm.Cond.fieldLinkNest "TablePager$Sheet" (51 : Nat) "TablePager$Table" "rows" "I" "TablePager") ∈ am_tb := am_tin 133 (by decide +kernel) rfl
theorem w_157 : (Jvm.Cond.methodLink "TablePager$Slots" (3 : Nat) ({ cls := "java/lang/Object", name := "<init>", desc := "()V" } : Jvm.MethodName)) ∈ am_tb := am_tin 230 (by decide +kernel) rfl
theorem w_158 : (Jvm.Cond.classLink "TablePager$Slots" (9 : Nat) "TablePager$Table") ∈ am_tb := am_tin 231 (by decide +kernel) rfl
theorem w_160 : (Jvm.Cond.fieldLink "TablePager$Slots" (11 : Nat) "TablePager$Slots" "kept" "[LTablePager$Table;") ∈ am_tb := am_tin 233 (by decide +kernel) rfl
theorem w_161 : (Jvm.Cond.fieldLink "TablePager$Slots" (17 : Nat) "TablePager$Slots" "filled" "[Z") ∈ am_tb := am_tin 234 (by decide +kernel) rfl
theorem w_159 : (Jvm.Cond.methodLinkNest "TablePager$Slots" (21 : Nat) ({ cls := "TablePager$Table", name := "<init>", desc := "()V" } : Jvm.MethodName) "TablePager") ∈ am_tb := am_tin 232 (by decide +kernel) rfl
theorem w_473 : (Jvm.Cond.methodLinkNest "TablePager$Slots" (22 : Nat) ({ cls := "TablePager$Table", name := "copyFrom", desc := "(LTablePager$Table;)V" } : Jvm.MethodName) "TablePager") ∈ am_tb := am_tin 546 (by decide +kernel) rfl
theorem w_31 : (Jvm.Cond.methodLink "TablePager$Text" (3 : Nat) ({ cls := "java/lang/Object", name := "<init>", desc := "()V" } : Jvm.MethodName)) ∈ am_tb := am_tin 104 (by decide +kernel) rfl
theorem w_43 : (Jvm.Cond.arrayClass Jvm.ClassFile.FieldType.char) ∈ am_tb := am_tin 116 (by decide +kernel) rfl
theorem w_32 : (Jvm.Cond.fieldLink "TablePager$Text" (9 : Nat) "TablePager$Text" "signs" "[C") ∈ am_tb := am_tin 105 (by decide +kernel) rfl
theorem w_33 : (Jvm.Cond.fieldLink "TablePager$Text" (15 : Nat) "TablePager$Text" "length" "I") ∈ am_tb := am_tin 106 (by decide +kernel) rfl
theorem w_35 : (Jvm.Cond.fieldLink "TablePager$Text" (19 : Nat) "TablePager$Text" "at" "I") ∈ am_tb := am_tin 108 (by decide +kernel) rfl
theorem w_292 : (Jvm.Cond.methodLinkNest "TablePager$Text" (22 : Nat) ({ cls := "TablePager$Table", name := "makeNew", desc := "()V" } : Jvm.MethodName) "TablePager") ∈ am_tb := am_tin 365 (by decide +kernel) rfl
theorem w_293 : (Jvm.Cond.methodLink "TablePager$Text" (27 : Nat) ({ cls := "TablePager$Text", name := "readHead", desc := "(LTablePager$Table;)Z" } : Jvm.MethodName)) ∈ am_tb := am_tin 366 (by decide +kernel) rfl
theorem w_315 : (Jvm.Cond.methodLink "TablePager$Text" (31 : Nat) ({ cls := "TablePager$Text", name := "readPart", desc := "(LTablePager$Table;)Z" } : Jvm.MethodName)) ∈ am_tb := am_tin 388 (by decide +kernel) rfl
theorem w_356 : (Jvm.Cond.constant "TablePager$Text" (34 : Nat) (-999999 : Int32)) ∈ am_tb := am_tin 429 (by decide +kernel) rfl
theorem w_297 : (Jvm.Cond.methodLink "TablePager$Text" (35 : Nat) ({ cls := "TablePager$Text", name := "takeSign", desc := "(C)Z" } : Jvm.MethodName)) ∈ am_tb := am_tin 370 (by decide +kernel) rfl
theorem w_301 : (Jvm.Cond.methodLink "TablePager$Text" (39 : Nat) ({ cls := "TablePager$Text", name := "takeDigit", desc := "(II)I" } : Jvm.MethodName)) ∈ am_tb := am_tin 374 (by decide +kernel) rfl
theorem w_305 : (Jvm.Cond.methodLink "TablePager$Text" (43 : Nat) ({ cls := "TablePager$Text", name := "takePair", desc := "(II)I" } : Jvm.MethodName)) ∈ am_tb := am_tin 378 (by decide +kernel) rfl
theorem w_55 : (Jvm.Cond.fieldLinkNest "TablePager$Text" (46 : Nat) "TablePager$Table" "columns" "I" "TablePager") ∈ am_tb := am_tin 128 (by decide +kernel) rfl
theorem w_70 : (Jvm.Cond.fieldLinkNest "TablePager$Text" (49 : Nat) "TablePager$Table" "pageHeight" "I" "TablePager") ∈ am_tb := am_tin 143 (by decide +kernel) rfl
theorem w_75 : (Jvm.Cond.fieldLinkNest "TablePager$Text" (52 : Nat) "TablePager$Table" "headingHeight" "I" "TablePager") ∈ am_tb := am_tin 148 (by decide +kernel) rfl
theorem w_319 : (Jvm.Cond.methodLinkNest "TablePager$Text" (55 : Nat) ({ cls := "TablePager$Table", name := "isFull", desc := "()Z" } : Jvm.MethodName) "TablePager") ∈ am_tb := am_tin 392 (by decide +kernel) rfl
theorem w_323 : (Jvm.Cond.methodLink "TablePager$Text" (59 : Nat) ({ cls := "TablePager$Text", name := "readRow", desc := "(LTablePager$Table;)Z" } : Jvm.MethodName)) ∈ am_tb := am_tin 396 (by decide +kernel) rfl
theorem w_62 : (Jvm.Cond.fieldLinkNest "TablePager$Text" (62 : Nat) "TablePager$Table" "rows" "I" "TablePager") ∈ am_tb := am_tin 135 (by decide +kernel) rfl
theorem w_85 : (Jvm.Cond.fieldLinkNest "TablePager$Text" (65 : Nat) "TablePager$Table" "stays" "[Z" "TablePager") ∈ am_tb := am_tin 158 (by decide +kernel) rfl
theorem w_336 : (Jvm.Cond.methodLink "TablePager$Text" (69 : Nat) ({ cls := "TablePager$Text", name := "readNote", desc := "(LTablePager$Table;)Z" } : Jvm.MethodName)) ∈ am_tb := am_tin 409 (by decide +kernel) rfl
theorem w_340 : (Jvm.Cond.methodLink "TablePager$Text" (72 : Nat) ({ cls := "TablePager$Text", name := "readNoteHeight", desc := "(LTablePager$Table;)Z" } : Jvm.MethodName)) ∈ am_tb := am_tin 413 (by decide +kernel) rfl
theorem w_344 : (Jvm.Cond.methodLinkNest "TablePager$Text" (75 : Nat) ({ cls := "TablePager$Table", name := "hasAllSpans", desc := "()Z" } : Jvm.MethodName) "TablePager") ∈ am_tb := am_tin 417 (by decide +kernel) rfl
theorem w_348 : (Jvm.Cond.methodLink "TablePager$Text" (78 : Nat) ({ cls := "TablePager$Text", name := "readSpan", desc := "(LTablePager$Table;)Z" } : Jvm.MethodName)) ∈ am_tb := am_tin 421 (by decide +kernel) rfl
theorem w_327 : (Jvm.Cond.methodLinkNest "TablePager$Text" (81 : Nat) ({ cls := "TablePager$Table", name := "putRow", desc := "(II)V" } : Jvm.MethodName) "TablePager") ∈ am_tb := am_tin 400 (by decide +kernel) rfl
theorem w_335 : (Jvm.Cond.methodLinkNest "TablePager$Text" (85 : Nat) ({ cls := "TablePager$Table", name := "putAmount", desc := "(III)V" } : Jvm.MethodName) "TablePager") ∈ am_tb := am_tin 408 (by decide +kernel) rfl
theorem w_83 : (Jvm.Cond.fieldLinkNest "TablePager$Text" (89 : Nat) "TablePager$Table" "notes" "[I" "TablePager") ∈ am_tb := am_tin 156 (by decide +kernel) rfl
theorem w_101 : (Jvm.Cond.fieldLinkNest "TablePager$Text" (93 : Nat) "TablePager$Table" "noteHeights" "[I" "TablePager") ∈ am_tb := am_tin 174 (by decide +kernel) rfl
theorem w_352 : (Jvm.Cond.methodLinkNest "TablePager$Text" (96 : Nat) ({ cls := "TablePager$Table", name := "putSpan", desc := "(IIZ)V" } : Jvm.MethodName) "TablePager") ∈ am_tb := am_tin 425 (by decide +kernel) rfl
theorem w_309 : (Jvm.Cond.methodLink "TablePager$Text" (100 : Nat) ({ cls := "java/lang/Math", name := "max", desc := "(II)I" } : Jvm.MethodName)) ∈ am_tb := am_tin 382 (by decide +kernel) rfl
theorem w_310 : (Jvm.Cond.static ({ cls := "java/lang/Math", name := "max", desc := "(II)I" } : Jvm.MethodName)) ∈ am_tb := am_tin 383 (by decide +kernel) rfl
theorem w_311 : (Jvm.Cond.code ({ cls := "java/lang/Math", name := "max", desc := "(II)I" } : Jvm.MethodName) prog_16_method_65_code (2 : Nat) (Option.some Jvm.ClassFile.FieldType.int)) ∈ am_tb := am_tin 384 (by decide +kernel) rfl
theorem w_312 : (Jvm.Cond.methodLink "TablePager$Text" (105 : Nat) ({ cls := "java/lang/Math", name := "min", desc := "(II)I" } : Jvm.MethodName)) ∈ am_tb := am_tin 385 (by decide +kernel) rfl
theorem w_23 : (Jvm.Cond.methodLink "TablePager" (1 : Nat) ({ cls := "java/lang/Object", name := "<init>", desc := "()V" } : Jvm.MethodName)) ∈ am_tb := am_tin 96 (by decide +kernel) rfl
theorem w_26 : (Jvm.Cond.classLink "TablePager" (7 : Nat) "TablePager$Text") ∈ am_tb := am_tin 99 (by decide +kernel) rfl
theorem w_28 : (Jvm.Cond.methodLinkNest "TablePager" (9 : Nat) ({ cls := "TablePager$Text", name := "<init>", desc := "()V" } : Jvm.MethodName) "TablePager") ∈ am_tb := am_tin 101 (by decide +kernel) rfl
theorem w_250 : (Jvm.Cond.fieldLink "TablePager" (10 : Nat) "TablePager" "text" "LTablePager$Text;") ∈ am_tb := am_tin 323 (by decide +kernel) rfl
theorem w_44 : (Jvm.Cond.classLink "TablePager" (16 : Nat) "TablePager$Table") ∈ am_tb := am_tin 117 (by decide +kernel) rfl
theorem w_46 : (Jvm.Cond.methodLinkNest "TablePager" (18 : Nat) ({ cls := "TablePager$Table", name := "<init>", desc := "()V" } : Jvm.MethodName) "TablePager") ∈ am_tb := am_tin 119 (by decide +kernel) rfl
theorem w_251 : (Jvm.Cond.fieldLink "TablePager" (19 : Nat) "TablePager" "table" "LTablePager$Table;") ∈ am_tb := am_tin 324 (by decide +kernel) rfl
theorem w_132 : (Jvm.Cond.classLink "TablePager" (23 : Nat) "TablePager$History") ∈ am_tb := am_tin 205 (by decide +kernel) rfl
theorem w_134 : (Jvm.Cond.methodLinkNest "TablePager" (25 : Nat) ({ cls := "TablePager$History", name := "<init>", desc := "()V" } : Jvm.MethodName) "TablePager") ∈ am_tb := am_tin 207 (by decide +kernel) rfl
theorem w_252 : (Jvm.Cond.fieldLink "TablePager" (26 : Nat) "TablePager" "history" "LTablePager$History;") ∈ am_tb := am_tin 325 (by decide +kernel) rfl
theorem w_152 : (Jvm.Cond.classLink "TablePager" (30 : Nat) "TablePager$Slots") ∈ am_tb := am_tin 225 (by decide +kernel) rfl
theorem w_154 : (Jvm.Cond.methodLinkNest "TablePager" (32 : Nat) ({ cls := "TablePager$Slots", name := "<init>", desc := "()V" } : Jvm.MethodName) "TablePager") ∈ am_tb := am_tin 227 (by decide +kernel) rfl
theorem w_253 : (Jvm.Cond.fieldLink "TablePager" (33 : Nat) "TablePager" "slots" "LTablePager$Slots;") ∈ am_tb := am_tin 326 (by decide +kernel) rfl
theorem w_167 : (Jvm.Cond.classLink "TablePager" (37 : Nat) "TablePager$Layout") ∈ am_tb := am_tin 240 (by decide +kernel) rfl
theorem w_169 : (Jvm.Cond.methodLinkNest "TablePager" (39 : Nat) ({ cls := "TablePager$Layout", name := "<init>", desc := "()V" } : Jvm.MethodName) "TablePager") ∈ am_tb := am_tin 242 (by decide +kernel) rfl
theorem w_254 : (Jvm.Cond.fieldLink "TablePager" (40 : Nat) "TablePager" "layout" "LTablePager$Layout;") ∈ am_tb := am_tin 327 (by decide +kernel) rfl
theorem w_210 : (Jvm.Cond.classLink "TablePager" (44 : Nat) "TablePager$Evener") ∈ am_tb := am_tin 283 (by decide +kernel) rfl
theorem w_212 : (Jvm.Cond.methodLinkNest "TablePager" (46 : Nat) ({ cls := "TablePager$Evener", name := "<init>", desc := "()V" } : Jvm.MethodName) "TablePager") ∈ am_tb := am_tin 285 (by decide +kernel) rfl
theorem w_255 : (Jvm.Cond.fieldLink "TablePager" (47 : Nat) "TablePager" "evener" "LTablePager$Evener;") ∈ am_tb := am_tin 328 (by decide +kernel) rfl
theorem w_228 : (Jvm.Cond.classLink "TablePager" (51 : Nat) "TablePager$Command") ∈ am_tb := am_tin 301 (by decide +kernel) rfl
theorem w_230 : (Jvm.Cond.methodLinkNest "TablePager" (53 : Nat) ({ cls := "TablePager$Command", name := "<init>", desc := "()V" } : Jvm.MethodName) "TablePager") ∈ am_tb := am_tin 303 (by decide +kernel) rfl
theorem w_256 : (Jvm.Cond.fieldLink "TablePager" (54 : Nat) "TablePager" "command" "LTablePager$Command;") ∈ am_tb := am_tin 329 (by decide +kernel) rfl
theorem w_257 : (Jvm.Cond.fieldLink "TablePager" (58 : Nat) "TablePager" "scratch" "LTablePager$Table;") ∈ am_tb := am_tin 330 (by decide +kernel) rfl
theorem w_943 : (Jvm.Cond.methodLinkNest "TablePager" (68 : Nat) ({ cls := "TablePager$Text", name := "isFull", desc := "()Z" } : Jvm.MethodName) "TablePager") ∈ am_tb := am_tin 1016 (by decide +kernel) rfl
theorem w_948 : (Jvm.Cond.methodLinkNest "TablePager" (77 : Nat) ({ cls := "TablePager$Text", name := "put", desc := "(C)V" } : Jvm.MethodName) "TablePager") ∈ am_tb := am_tin 1021 (by decide +kernel) rfl
theorem w_34 : (Jvm.Cond.fieldLinkNest "TablePager" (81 : Nat) "TablePager$Text" "length" "I" "TablePager") ∈ am_tb := am_tin 107 (by decide +kernel) rfl
theorem w_288 : (Jvm.Cond.methodLinkNest "TablePager" (85 : Nat) ({ cls := "TablePager$Text", name := "readInto", desc := "(LTablePager$Table;)I" } : Jvm.MethodName) "TablePager") ∈ am_tb := am_tin 361 (by decide +kernel) rfl
theorem w_357 : (Jvm.Cond.constant "TablePager" (89 : Nat) (-999999 : Int32)) ∈ am_tb := am_tin 430 (by decide +kernel) rfl
theorem w_426 : (Jvm.Cond.methodLinkNest "TablePager" (92 : Nat) ({ cls := "TablePager$Table", name := "copyFrom", desc := "(LTablePager$Table;)V" } : Jvm.MethodName) "TablePager") ∈ am_tb := am_tin 499 (by decide +kernel) rfl
theorem w_433 : (Jvm.Cond.methodLinkNest "TablePager" (96 : Nat) ({ cls := "TablePager$History", name := "forget", desc := "()V" } : Jvm.MethodName) "TablePager") ∈ am_tb := am_tin 506 (by decide +kernel) rfl
theorem w_437 : (Jvm.Cond.methodLinkNest "TablePager" (99 : Nat) ({ cls := "TablePager$Slots", name := "empty", desc := "()V" } : Jvm.MethodName) "TablePager") ∈ am_tb := am_tin 510 (by decide +kernel) rfl
theorem w_61 : (Jvm.Cond.fieldLinkNest "TablePager" (102 : Nat) "TablePager$Table" "rows" "I" "TablePager") ∈ am_tb := am_tin 134 (by decide +kernel) rfl
theorem w_56 : (Jvm.Cond.fieldLinkNest "TablePager" (105 : Nat) "TablePager$Table" "columns" "I" "TablePager") ∈ am_tb := am_tin 129 (by decide +kernel) rfl
theorem w_65 : (Jvm.Cond.fieldLinkNest "TablePager" (108 : Nat) "TablePager$Table" "spans" "I" "TablePager") ∈ am_tb := am_tin 138 (by decide +kernel) rfl
theorem w_71 : (Jvm.Cond.fieldLinkNest "TablePager" (111 : Nat) "TablePager$Table" "pageHeight" "I" "TablePager") ∈ am_tb := am_tin 144 (by decide +kernel) rfl
theorem w_76 : (Jvm.Cond.fieldLinkNest "TablePager" (114 : Nat) "TablePager$Table" "headingHeight" "I" "TablePager") ∈ am_tb := am_tin 149 (by decide +kernel) rfl
theorem w_507 : (Jvm.Cond.methodLink "TablePager" (117 : Nat) ({ cls := "TablePager", name := "countPages", desc := "()I" } : Jvm.MethodName)) ∈ am_tb := am_tin 580 (by decide +kernel) rfl
theorem w_511 : (Jvm.Cond.methodLink "TablePager" (121 : Nat) ({ cls := "TablePager", name := "layOut", desc := "()V" } : Jvm.MethodName)) ∈ am_tb := am_tin 584 (by decide +kernel) rfl
theorem w_198 : (Jvm.Cond.fieldLinkNest "TablePager" (124 : Nat) "TablePager$Layout" "overfull" "I" "TablePager") ∈ am_tb := am_tin 271 (by decide +kernel) rfl
theorem w_554 : (Jvm.Cond.methodLinkNest "TablePager" (127 : Nat) ({ cls := "TablePager$Layout", name := "countCutSpans", desc := "(LTablePager$Table;)I" } : Jvm.MethodName) "TablePager") ∈ am_tb := am_tin 627 (by decide +kernel) rfl
theorem w_598 : (Jvm.Cond.methodLink "TablePager" (132 : Nat) ({ cls := "TablePager", name := "requireRow", desc := "(I)V" } : Jvm.MethodName)) ∈ am_tb := am_tin 671 (by decide +kernel) rfl
theorem w_79 : (Jvm.Cond.fieldLinkNest "TablePager" (136 : Nat) "TablePager$Table" "heights" "[I" "TablePager") ∈ am_tb := am_tin 152 (by decide +kernel) rfl
theorem w_82 : (Jvm.Cond.fieldLinkNest "TablePager" (140 : Nat) "TablePager$Table" "notes" "[I" "TablePager") ∈ am_tb := am_tin 155 (by decide +kernel) rfl
theorem w_86 : (Jvm.Cond.fieldLinkNest "TablePager" (143 : Nat) "TablePager$Table" "stays" "[Z" "TablePager") ∈ am_tb := am_tin 159 (by decide +kernel) rfl
theorem w_607 : (Jvm.Cond.methodLinkNest "TablePager" (147 : Nat) ({ cls := "TablePager$Table", name := "cutRows", desc := "()I" } : Jvm.MethodName) "TablePager") ∈ am_tb := am_tin 680 (by decide +kernel) rfl
theorem w_608 : (Jvm.Cond.methodLink "TablePager" (150 : Nat) ({ cls := "TablePager", name := "isIn", desc := "(II)Z" } : Jvm.MethodName)) ∈ am_tb := am_tin 681 (by decide +kernel) rfl
theorem w_609 : (Jvm.Cond.methodLinkNest "TablePager" (154 : Nat) ({ cls := "TablePager$Layout", name := "pageOf", desc := "(I)I" } : Jvm.MethodName) "TablePager") ∈ am_tb := am_tin 682 (by decide +kernel) rfl
theorem w_618 : (Jvm.Cond.methodLink "TablePager" (160 : Nat) ({ cls := "TablePager", name := "requireColumn", desc := "(I)V" } : Jvm.MethodName)) ∈ am_tb := am_tin 691 (by decide +kernel) rfl
theorem w_627 : (Jvm.Cond.methodLinkNest "TablePager" (163 : Nat) ({ cls := "TablePager$Table", name := "amountAt", desc := "(II)I" } : Jvm.MethodName) "TablePager") ∈ am_tb := am_tin 700 (by decide +kernel) rfl
theorem w_639 : (Jvm.Cond.methodLink "TablePager" (167 : Nat) ({ cls := "TablePager", name := "requireSpan", desc := "(I)V" } : Jvm.MethodName)) ∈ am_tb := am_tin 712 (by decide +kernel) rfl
theorem w_92 : (Jvm.Cond.fieldLinkNest "TablePager" (170 : Nat) "TablePager$Table" "firsts" "[I" "TablePager") ∈ am_tb := am_tin 165 (by decide +kernel) rfl
theorem w_96 : (Jvm.Cond.fieldLinkNest "TablePager" (173 : Nat) "TablePager$Table" "lasts" "[I" "TablePager") ∈ am_tb := am_tin 169 (by decide +kernel) rfl
theorem w_98 : (Jvm.Cond.fieldLinkNest "TablePager" (176 : Nat) "TablePager$Table" "mayBeCut" "[Z" "TablePager") ∈ am_tb := am_tin 171 (by decide +kernel) rfl
theorem w_648 : (Jvm.Cond.methodLinkNest "TablePager" (179 : Nat) ({ cls := "TablePager$Layout", name := "pagesOfSpan", desc := "(LTablePager$Table;I)I" } : Jvm.MethodName) "TablePager") ∈ am_tb := am_tin 721 (by decide +kernel) rfl
theorem w_102 : (Jvm.Cond.fieldLinkNest "TablePager" (187 : Nat) "TablePager$Table" "noteHeights" "[I" "TablePager") ∈ am_tb := am_tin 175 (by decide +kernel) rfl
theorem w_657 : (Jvm.Cond.methodLink "TablePager" (190 : Nat) ({ cls := "TablePager", name := "requirePage", desc := "(I)V" } : Jvm.MethodName)) ∈ am_tb := am_tin 730 (by decide +kernel) rfl
theorem w_666 : (Jvm.Cond.methodLinkNest "TablePager" (193 : Nat) ({ cls := "TablePager$Layout", name := "sheetOf", desc := "(LTablePager$Table;I)LTablePager$Sheet;" } : Jvm.MethodName) "TablePager") ∈ am_tb := am_tin 739 (by decide +kernel) rfl
theorem w_682 : (Jvm.Cond.methodLinkNest "TablePager" (197 : Nat) ({ cls := "TablePager$Layout", name := "firstOf", desc := "(I)I" } : Jvm.MethodName) "TablePager") ∈ am_tb := am_tin 755 (by decide +kernel) rfl
theorem w_683 : (Jvm.Cond.methodLinkNest "TablePager" (200 : Nat) ({ cls := "TablePager$Layout", name := "lastOf", desc := "(I)I" } : Jvm.MethodName) "TablePager") ∈ am_tb := am_tin 756 (by decide +kernel) rfl
theorem w_684 : (Jvm.Cond.methodLinkNest "TablePager" (203 : Nat) ({ cls := "TablePager$Sheet", name := "needed", desc := "()I" } : Jvm.MethodName) "TablePager") ∈ am_tb := am_tin 757 (by decide +kernel) rfl
theorem w_180 : (Jvm.Cond.fieldLinkNest "TablePager" (208 : Nat) "TablePager$Sheet" "names" "I" "TablePager") ∈ am_tb := am_tin 253 (by decide +kernel) rfl
theorem w_685 : (Jvm.Cond.methodLinkNest "TablePager" (211 : Nat) ({ cls := "TablePager$Sheet", name := "noteBits", desc := "()I" } : Jvm.MethodName) "TablePager") ∈ am_tb := am_tin 758 (by decide +kernel) rfl
theorem w_697 : (Jvm.Cond.methodLinkNest "TablePager" (216 : Nat) ({ cls := "TablePager$Table", name := "sumOfRows", desc := "(III)I" } : Jvm.MethodName) "TablePager") ∈ am_tb := am_tin 770 (by decide +kernel) rfl
theorem w_195 : (Jvm.Cond.fieldLinkNest "TablePager" (220 : Nat) "TablePager$Layout" "pages" "I" "TablePager") ∈ am_tb := am_tin 268 (by decide +kernel) rfl
theorem w_723 : (Jvm.Cond.methodLinkNest "TablePager" (223 : Nat) ({ cls := "TablePager$Table", name := "allowsRow", desc := "(II)Z" } : Jvm.MethodName) "TablePager") ∈ am_tb := am_tin 796 (by decide +kernel) rfl
theorem w_727 : (Jvm.Cond.methodLinkNest "TablePager" (228 : Nat) ({ cls := "TablePager$Table", name := "isFull", desc := "()Z" } : Jvm.MethodName) "TablePager") ∈ am_tb := am_tin 800 (by decide +kernel) rfl
theorem w_729 : (Jvm.Cond.methodLinkNest "TablePager" (231 : Nat) ({ cls := "TablePager$History", name := "remember", desc := "(LTablePager$Table;)V" } : Jvm.MethodName) "TablePager") ∈ am_tb := am_tin 802 (by decide +kernel) rfl
theorem w_735 : (Jvm.Cond.methodLinkNest "TablePager" (234 : Nat) ({ cls := "TablePager$Table", name := "putRow", desc := "(II)V" } : Jvm.MethodName) "TablePager") ∈ am_tb := am_tin 808 (by decide +kernel) rfl
theorem w_744 : (Jvm.Cond.methodLinkNest "TablePager" (240 : Nat) ({ cls := "TablePager$Table", name := "putAmount", desc := "(III)V" } : Jvm.MethodName) "TablePager") ∈ am_tb := am_tin 817 (by decide +kernel) rfl
theorem w_770 : (Jvm.Cond.methodLinkNest "TablePager" (244 : Nat) ({ cls := "TablePager$Table", name := "dropRow", desc := "(I)I" } : Jvm.MethodName) "TablePager") ∈ am_tb := am_tin 843 (by decide +kernel) rfl
theorem w_753 : (Jvm.Cond.methodLinkNest "TablePager" (249 : Nat) ({ cls := "TablePager$Table", name := "hasAllSpans", desc := "()Z" } : Jvm.MethodName) "TablePager") ∈ am_tb := am_tin 826 (by decide +kernel) rfl
theorem w_755 : (Jvm.Cond.methodLinkNest "TablePager" (254 : Nat) ({ cls := "TablePager$Table", name := "putSpan", desc := "(IIZ)V" } : Jvm.MethodName) "TablePager") ∈ am_tb := am_tin 828 (by decide +kernel) rfl
theorem w_786 : (Jvm.Cond.methodLinkNest "TablePager" (258 : Nat) ({ cls := "TablePager$Table", name := "dropSpan", desc := "(I)V" } : Jvm.MethodName) "TablePager") ∈ am_tb := am_tin 859 (by decide +kernel) rfl
theorem w_797 : (Jvm.Cond.methodLinkNest "TablePager" (261 : Nat) ({ cls := "TablePager$Table", name := "allowsHeight", desc := "(II)Z" } : Jvm.MethodName) "TablePager") ∈ am_tb := am_tin 870 (by decide +kernel) rfl
theorem w_801 : (Jvm.Cond.methodLinkNest "TablePager" (266 : Nat) ({ cls := "TablePager$Table", name := "putHeight", desc := "(II)V" } : Jvm.MethodName) "TablePager") ∈ am_tb := am_tin 874 (by decide +kernel) rfl
theorem w_144 : (Jvm.Cond.fieldLinkNest "TablePager" (269 : Nat) "TablePager$History" "count" "I" "TablePager") ∈ am_tb := am_tin 217 (by decide +kernel) rfl
theorem w_973 : (Jvm.Cond.methodLinkNest "TablePager" (274 : Nat) ({ cls := "TablePager$History", name := "takeBack", desc := "(LTablePager$Table;)V" } : Jvm.MethodName) "TablePager") ∈ am_tb := am_tin 1046 (by decide +kernel) rfl
theorem w_515 : (Jvm.Cond.methodLinkNest "TablePager" (279 : Nat) ({ cls := "TablePager$Layout", name := "lay", desc := "(LTablePager$Table;I)V" } : Jvm.MethodName) "TablePager") ∈ am_tb := am_tin 588 (by decide +kernel) rfl
theorem w_820 : (Jvm.Cond.methodLinkNest "TablePager" (283 : Nat) ({ cls := "TablePager$Evener", name := "leastCost", desc := "(LTablePager$Table;)I" } : Jvm.MethodName) "TablePager") ∈ am_tb := am_tin 893 (by decide +kernel) rfl
theorem w_837 : (Jvm.Cond.methodLinkNest "TablePager" (288 : Nat) ({ cls := "TablePager$Evener", name := "lastOf", desc := "(LTablePager$Table;I)I" } : Jvm.MethodName) "TablePager") ∈ am_tb := am_tin 910 (by decide +kernel) rfl
theorem w_849 : (Jvm.Cond.methodLinkNest "TablePager" (290 : Nat) ({ cls := "TablePager$Layout", name := "emptyFromRow", desc := "(LTablePager$Table;I)I" } : Jvm.MethodName) "TablePager") ∈ am_tb := am_tin 922 (by decide +kernel) rfl
theorem w_861 : (Jvm.Cond.methodLink "TablePager" (295 : Nat) ({ cls := "TablePager", name := "withoutGroups", desc := "(JI)J" } : Jvm.MethodName)) ∈ am_tb := am_tin 934 (by decide +kernel) rfl
theorem w_864 : (Jvm.Cond.constantLong "TablePager" (301 : Nat) (100000 : Int64)) ∈ am_tb := am_tin 937 (by decide +kernel) rfl
theorem w_866 : (Jvm.Cond.methodLinkNest "TablePager" (303 : Nat) ({ cls := "TablePager$Command", name := "setDigits", desc := "(I)V" } : Jvm.MethodName) "TablePager") ∈ am_tb := am_tin 939 (by decide +kernel) rfl
theorem w_870 : (Jvm.Cond.methodLinkNest "TablePager" (306 : Nat) ({ cls := "TablePager$Command", name := "runOn", desc := "(LTablePager$Table;LTablePager$Layout;)Z" } : Jvm.MethodName) "TablePager") ∈ am_tb := am_tin 943 (by decide +kernel) rfl
theorem w_925 : (Jvm.Cond.constantLong "TablePager" (312 : Nat) (6364136223846793005 : Int64)) ∈ am_tb := am_tin 998 (by decide +kernel) rfl
theorem w_926 : (Jvm.Cond.constantLong "TablePager" (314 : Nat) (1442695040888963407 : Int64)) ∈ am_tb := am_tin 999 (by decide +kernel) rfl
theorem w_927 : (Jvm.Cond.methodLinkNest "TablePager" (316 : Nat) ({ cls := "TablePager$Table", name := "playRound", desc := "(I)V" } : Jvm.MethodName) "TablePager") ∈ am_tb := am_tin 1000 (by decide +kernel) rfl
theorem w_934 : (Jvm.Cond.methodLink "TablePager" (319 : Nat) ({ cls := "java/lang/Math", name := "min", desc := "(II)I" } : Jvm.MethodName)) ∈ am_tb := am_tin 1007 (by decide +kernel) rfl
theorem w_450 : (Jvm.Cond.methodLink "TablePager" (324 : Nat) ({ cls := "TablePager", name := "requireSlot", desc := "(I)V" } : Jvm.MethodName)) ∈ am_tb := am_tin 523 (by decide +kernel) rfl
theorem w_469 : (Jvm.Cond.methodLinkNest "TablePager" (327 : Nat) ({ cls := "TablePager$Slots", name := "put", desc := "(ILTablePager$Table;)V" } : Jvm.MethodName) "TablePager") ∈ am_tb := am_tin 542 (by decide +kernel) rfl
theorem w_482 : (Jvm.Cond.methodLinkNest "TablePager" (330 : Nat) ({ cls := "TablePager$Slots", name := "isFilled", desc := "(I)Z" } : Jvm.MethodName) "TablePager") ∈ am_tb := am_tin 555 (by decide +kernel) rfl
theorem w_487 : (Jvm.Cond.methodLinkNest "TablePager" (336 : Nat) ({ cls := "TablePager$Slots", name := "copyTo", desc := "(ILTablePager$Table;)V" } : Jvm.MethodName) "TablePager") ∈ am_tb := am_tin 560 (by decide +kernel) rfl
theorem w_602 : (Jvm.Cond.methodLinkNest "TablePager" (339 : Nat) ({ cls := "TablePager$Table", name := "hasRow", desc := "(I)Z" } : Jvm.MethodName) "TablePager") ∈ am_tb := am_tin 675 (by decide +kernel) rfl
theorem w_622 : (Jvm.Cond.methodLinkNest "TablePager" (347 : Nat) ({ cls := "TablePager$Table", name := "hasColumn", desc := "(I)Z" } : Jvm.MethodName) "TablePager") ∈ am_tb := am_tin 695 (by decide +kernel) rfl
theorem w_643 : (Jvm.Cond.methodLinkNest "TablePager" (352 : Nat) ({ cls := "TablePager$Table", name := "hasSpan", desc := "(I)Z" } : Jvm.MethodName) "TablePager") ∈ am_tb := am_tin 716 (by decide +kernel) rfl
theorem w_661 : (Jvm.Cond.methodLinkNest "TablePager" (357 : Nat) ({ cls := "TablePager$Layout", name := "hasPage", desc := "(I)Z" } : Jvm.MethodName) "TablePager") ∈ am_tb := am_tin 734 (by decide +kernel) rfl
theorem w_278 : (Jvm.Cond.constant "TablePagerLaw" (7 : Nat) (15593401 : Int32)) ∈ am_tb := am_tin 351 (by decide +kernel) rfl
theorem w_279 : (Jvm.Cond.constant "TablePagerLaw" (8 : Nat) (2147483647 : Int32)) ∈ am_tb := am_tin 352 (by decide +kernel) rfl
theorem w_938 : (Jvm.Cond.methodLink "TablePagerLaw" (9 : Nat) ({ cls := "TablePager", name := "append", desc := "(I)I" } : Jvm.MethodName)) ∈ am_tb := am_tin 1011 (by decide +kernel) rfl
theorem w_502 : (Jvm.Cond.classLink "TablePagerLaw" (15 : Nat) "java/lang/IllegalArgumentException") ∈ am_tb := am_tin 575 (by decide +kernel) rfl
theorem w_568 : (Jvm.Cond.castable "java/lang/IllegalArgumentException" "java/lang/IllegalArgumentException") ∈ am_tb := am_tin 641 (by decide +kernel) rfl
theorem w_582 : (Jvm.Cond.constantLong "TablePagerLaw" (17 : Nat) (-9000000000000000002 : Int64)) ∈ am_tb := am_tin 655 (by decide +kernel) rfl
theorem w_283 : (Jvm.Cond.classLink "TablePagerLaw" (19 : Nat) "java/lang/IllegalStateException") ∈ am_tb := am_tin 356 (by decide +kernel) rfl
theorem w_360 : (Jvm.Cond.castable "java/lang/IllegalStateException" "java/lang/IllegalStateException") ∈ am_tb := am_tin 433 (by decide +kernel) rfl
theorem w_441 : (Jvm.Cond.constantLong "TablePagerLaw" (21 : Nat) (-9000000000000000003 : Int64)) ∈ am_tb := am_tin 514 (by decide +kernel) rfl
theorem w_284 : (Jvm.Cond.methodLink "TablePagerLaw" (23 : Nat) ({ cls := "TablePager", name := "load", desc := "()I" } : Jvm.MethodName)) ∈ am_tb := am_tin 357 (by decide +kernel) rfl
theorem w_503 : (Jvm.Cond.methodLink "TablePagerLaw" (27 : Nat) ({ cls := "TablePager", name := "about", desc := "(I)I" } : Jvm.MethodName)) ∈ am_tb := am_tin 576 (by decide +kernel) rfl
theorem w_594 : (Jvm.Cond.methodLink "TablePagerLaw" (30 : Nat) ({ cls := "TablePager", name := "row", desc := "(II)I" } : Jvm.MethodName)) ∈ am_tb := am_tin 667 (by decide +kernel) rfl
theorem w_445 : (Jvm.Cond.classLink "TablePagerLaw" (34 : Nat) "java/lang/IndexOutOfBoundsException") ∈ am_tb := am_tin 518 (by decide +kernel) rfl
theorem w_455 : (Jvm.Cond.castable "java/lang/IndexOutOfBoundsException" "java/lang/IndexOutOfBoundsException") ∈ am_tb := am_tin 528 (by decide +kernel) rfl
theorem w_474 : (Jvm.Cond.constantLong "TablePagerLaw" (36 : Nat) (-9000000000000000001 : Int64)) ∈ am_tb := am_tin 547 (by decide +kernel) rfl
theorem w_614 : (Jvm.Cond.methodLink "TablePagerLaw" (38 : Nat) ({ cls := "TablePager", name := "amount", desc := "(II)I" } : Jvm.MethodName)) ∈ am_tb := am_tin 687 (by decide +kernel) rfl
theorem w_635 : (Jvm.Cond.methodLink "TablePagerLaw" (41 : Nat) ({ cls := "TablePager", name := "span", desc := "(II)I" } : Jvm.MethodName)) ∈ am_tb := am_tin 708 (by decide +kernel) rfl
theorem w_586 : (Jvm.Cond.methodLink "TablePagerLaw" (44 : Nat) ({ cls := "TablePager", name := "note", desc := "(I)I" } : Jvm.MethodName)) ∈ am_tb := am_tin 659 (by decide +kernel) rfl
theorem w_653 : (Jvm.Cond.methodLink "TablePagerLaw" (47 : Nat) ({ cls := "TablePager", name := "page", desc := "(II)I" } : Jvm.MethodName)) ∈ am_tb := am_tin 726 (by decide +kernel) rfl
theorem w_693 : (Jvm.Cond.methodLink "TablePagerLaw" (50 : Nat) ({ cls := "TablePager", name := "brought", desc := "(II)I" } : Jvm.MethodName)) ∈ am_tb := am_tin 766 (by decide +kernel) rfl
theorem w_705 : (Jvm.Cond.methodLink "TablePagerLaw" (53 : Nat) ({ cls := "TablePager", name := "carried", desc := "(II)I" } : Jvm.MethodName)) ∈ am_tb := am_tin 778 (by decide +kernel) rfl
theorem w_712 : (Jvm.Cond.methodLink "TablePagerLaw" (56 : Nat) ({ cls := "TablePager", name := "richest", desc := "(I)I" } : Jvm.MethodName)) ∈ am_tb := am_tin 785 (by decide +kernel) rfl
theorem w_719 : (Jvm.Cond.methodLink "TablePagerLaw" (59 : Nat) ({ cls := "TablePager", name := "addRow", desc := "(II)I" } : Jvm.MethodName)) ∈ am_tb := am_tin 792 (by decide +kernel) rfl
theorem w_739 : (Jvm.Cond.methodLink "TablePagerLaw" (62 : Nat) ({ cls := "TablePager", name := "setAmount", desc := "(III)I" } : Jvm.MethodName)) ∈ am_tb := am_tin 812 (by decide +kernel) rfl
theorem w_759 : (Jvm.Cond.methodLink "TablePagerLaw" (66 : Nat) ({ cls := "TablePager", name := "keep", desc := "(IZ)I" } : Jvm.MethodName)) ∈ am_tb := am_tin 832 (by decide +kernel) rfl
theorem w_766 : (Jvm.Cond.methodLink "TablePagerLaw" (70 : Nat) ({ cls := "TablePager", name := "removeRow", desc := "(I)I" } : Jvm.MethodName)) ∈ am_tb := am_tin 839 (by decide +kernel) rfl
theorem w_748 : (Jvm.Cond.methodLink "TablePagerLaw" (73 : Nat) ({ cls := "TablePager", name := "addSpan", desc := "(IIZ)I" } : Jvm.MethodName)) ∈ am_tb := am_tin 821 (by decide +kernel) rfl
theorem w_782 : (Jvm.Cond.methodLink "TablePagerLaw" (77 : Nat) ({ cls := "TablePager", name := "removeSpan", desc := "(I)I" } : Jvm.MethodName)) ∈ am_tb := am_tin 855 (by decide +kernel) rfl
theorem w_793 : (Jvm.Cond.methodLink "TablePagerLaw" (80 : Nat) ({ cls := "TablePager", name := "setHeight", desc := "(II)I" } : Jvm.MethodName)) ∈ am_tb := am_tin 866 (by decide +kernel) rfl
theorem w_968 : (Jvm.Cond.methodLink "TablePagerLaw" (83 : Nat) ({ cls := "TablePager", name := "undo", desc := "()I" } : Jvm.MethodName)) ∈ am_tb := am_tin 1041 (by decide +kernel) rfl
theorem w_808 : (Jvm.Cond.methodLink "TablePagerLaw" (86 : Nat) ({ cls := "TablePager", name := "heightFor", desc := "(I)I" } : Jvm.MethodName)) ∈ am_tb := am_tin 881 (by decide +kernel) rfl
theorem w_816 : (Jvm.Cond.methodLink "TablePagerLaw" (89 : Nat) ({ cls := "TablePager", name := "evenCut", desc := "(I)I" } : Jvm.MethodName)) ∈ am_tb := am_tin 889 (by decide +kernel) rfl
theorem w_845 : (Jvm.Cond.methodLink "TablePagerLaw" (92 : Nat) ({ cls := "TablePager", name := "emptyFrom", desc := "(I)I" } : Jvm.MethodName)) ∈ am_tb := am_tin 918 (by decide +kernel) rfl
theorem w_856 : (Jvm.Cond.methodLink "TablePagerLaw" (95 : Nat) ({ cls := "TablePager", name := "runScript", desc := "(IJ)I" } : Jvm.MethodName)) ∈ am_tb := am_tin 929 (by decide +kernel) rfl
theorem w_920 : (Jvm.Cond.methodLink "TablePagerLaw" (99 : Nat) ({ cls := "TablePager", name := "simulate", desc := "(JI)I" } : Jvm.MethodName)) ∈ am_tb := am_tin 993 (by decide +kernel) rfl
theorem w_446 : (Jvm.Cond.methodLink "TablePagerLaw" (103 : Nat) ({ cls := "TablePager", name := "save", desc := "(I)I" } : Jvm.MethodName)) ∈ am_tb := am_tin 519 (by decide +kernel) rfl
theorem w_478 : (Jvm.Cond.methodLink "TablePagerLaw" (106 : Nat) ({ cls := "TablePager", name := "restore", desc := "(I)I" } : Jvm.MethodName)) ∈ am_tb := am_tin 551 (by decide +kernel) rfl
theorem w_981 : (Jvm.Cond.methodLink "TablePagerLaw" (198 : Nat) ({ cls := "TablePager", name := "evenest", desc := "()I" } : Jvm.MethodName)) ∈ am_tb := am_tin 1054 (by decide +kernel) rfl
theorem w_935 : (Jvm.Cond.methodLink "TablePagerLaw" (177 : Nat) ({ cls := "TablePagerLaw", name := "append", desc := "(LTablePager;I)J" } : Jvm.MethodName)) ∈ am_tb := am_tin 1008 (by decide +kernel) rfl
theorem w_497 : (Jvm.Cond.constantLong "TablePagerLaw" (109 : Nat) (47 : Int64)) ∈ am_tb := am_tin 570 (by decide +kernel) rfl
theorem w_498 : (Jvm.Cond.constantLong "TablePagerLaw" (111 : Nat) (31 : Int64)) ∈ am_tb := am_tin 571 (by decide +kernel) rfl
theorem w_499 : (Jvm.Cond.methodLink "TablePagerLaw" (113 : Nat) ({ cls := "TablePagerLaw", name := "about", desc := "(LTablePager;I)J" } : Jvm.MethodName)) ∈ am_tb := am_tin 572 (by decide +kernel) rfl
theorem w_583 : (Jvm.Cond.methodLink "TablePagerLaw" (118 : Nat) ({ cls := "TablePagerLaw", name := "note", desc := "(LTablePager;I)J" } : Jvm.MethodName)) ∈ am_tb := am_tin 656 (by decide +kernel) rfl
theorem w_591 : (Jvm.Cond.methodLink "TablePagerLaw" (120 : Nat) ({ cls := "TablePagerLaw", name := "row", desc := "(LTablePager;II)J" } : Jvm.MethodName)) ∈ am_tb := am_tin 664 (by decide +kernel) rfl
theorem w_611 : (Jvm.Cond.methodLink "TablePagerLaw" (123 : Nat) ({ cls := "TablePagerLaw", name := "amount", desc := "(LTablePager;II)J" } : Jvm.MethodName)) ∈ am_tb := am_tin 684 (by decide +kernel) rfl
theorem w_631 : (Jvm.Cond.constantLong "TablePagerLaw" (125 : Nat) (4 : Int64)) ∈ am_tb := am_tin 704 (by decide +kernel) rfl
theorem w_632 : (Jvm.Cond.methodLink "TablePagerLaw" (127 : Nat) ({ cls := "TablePagerLaw", name := "span", desc := "(LTablePager;II)J" } : Jvm.MethodName)) ∈ am_tb := am_tin 705 (by decide +kernel) rfl
theorem w_494 : (Jvm.Cond.methodLink "TablePagerLaw" (129 : Nat) ({ cls := "TablePagerLaw", name := "now", desc := "(LTablePager;)J" } : Jvm.MethodName)) ∈ am_tb := am_tin 567 (by decide +kernel) rfl
theorem w_988 : (Jvm.Cond.methodLink "TablePagerLaw" (201 : Nat) ({ cls := "TablePager", name := "errorPosition", desc := "()I" } : Jvm.MethodName)) ∈ am_tb := am_tin 1061 (by decide +kernel) rfl
theorem w_813 : (Jvm.Cond.methodLink "TablePagerLaw" (160 : Nat) ({ cls := "TablePagerLaw", name := "evenCut", desc := "(LTablePager;I)J" } : Jvm.MethodName)) ∈ am_tb := am_tin 886 (by decide +kernel) rfl
theorem w_805 : (Jvm.Cond.methodLink "TablePagerLaw" (158 : Nat) ({ cls := "TablePagerLaw", name := "heightFor", desc := "(LTablePager;I)J" } : Jvm.MethodName)) ∈ am_tb := am_tin 878 (by decide +kernel) rfl
theorem w_842 : (Jvm.Cond.methodLink "TablePagerLaw" (162 : Nat) ({ cls := "TablePagerLaw", name := "emptyFrom", desc := "(LTablePager;I)J" } : Jvm.MethodName)) ∈ am_tb := am_tin 915 (by decide +kernel) rfl
theorem w_709 : (Jvm.Cond.methodLink "TablePagerLaw" (139 : Nat) ({ cls := "TablePagerLaw", name := "richest", desc := "(LTablePager;I)J" } : Jvm.MethodName)) ∈ am_tb := am_tin 782 (by decide +kernel) rfl
theorem w_650 : (Jvm.Cond.methodLink "TablePagerLaw" (133 : Nat) ({ cls := "TablePagerLaw", name := "page", desc := "(LTablePager;II)J" } : Jvm.MethodName)) ∈ am_tb := am_tin 723 (by decide +kernel) rfl
theorem w_702 : (Jvm.Cond.methodLink "TablePagerLaw" (137 : Nat) ({ cls := "TablePagerLaw", name := "carried", desc := "(LTablePager;II)J" } : Jvm.MethodName)) ∈ am_tb := am_tin 775 (by decide +kernel) rfl
theorem w_917 : (Jvm.Cond.methodLink "TablePagerLaw" (170 : Nat) ({ cls := "TablePagerLaw", name := "simulate", desc := "(LTablePager;JI)J" } : Jvm.MethodName)) ∈ am_tb := am_tin 990 (by decide +kernel) rfl
theorem w_992 : (Jvm.Cond.constantLong "TablePagerLaw" (204 : Nat) (123005020060000 : Int64)) ∈ am_tb := am_tin 1065 (by decide +kernel) rfl
theorem w_853 : (Jvm.Cond.methodLink "TablePagerLaw" (164 : Nat) ({ cls := "TablePagerLaw", name := "script", desc := "(LTablePager;IJ)J" } : Jvm.MethodName)) ∈ am_tb := am_tin 926 (by decide +kernel) rfl
theorem w_996 : (Jvm.Cond.methodLink "TablePagerLaw" (206 : Nat) ({ cls := "TablePager", name := "clearText", desc := "()I" } : Jvm.MethodName)) ∈ am_tb := am_tin 1069 (by decide +kernel) rfl
theorem w_1000 : (Jvm.Cond.methodLink "TablePagerLaw" (209 : Nat) ({ cls := "TablePagerLaw", name := "says", desc := "(LTablePager;I)Z" } : Jvm.MethodName)) ∈ am_tb := am_tin 1073 (by decide +kernel) rfl
theorem w_1003 : (Jvm.Cond.constant "TablePagerLaw" (213 : Nat) (-999999 : Int32)) ∈ am_tb := am_tin 1076 (by decide +kernel) rfl
theorem w_716 : (Jvm.Cond.methodLink "TablePagerLaw" (141 : Nat) ({ cls := "TablePagerLaw", name := "addRow", desc := "(LTablePager;II)J" } : Jvm.MethodName)) ∈ am_tb := am_tin 789 (by decide +kernel) rfl
theorem w_736 : (Jvm.Cond.methodLink "TablePagerLaw" (143 : Nat) ({ cls := "TablePagerLaw", name := "setAmount", desc := "(LTablePager;III)J" } : Jvm.MethodName)) ∈ am_tb := am_tin 809 (by decide +kernel) rfl
theorem w_756 : (Jvm.Cond.methodLink "TablePagerLaw" (149 : Nat) ({ cls := "TablePagerLaw", name := "keep", desc := "(LTablePager;IZ)J" } : Jvm.MethodName)) ∈ am_tb := am_tin 829 (by decide +kernel) rfl
theorem w_763 : (Jvm.Cond.methodLink "TablePagerLaw" (152 : Nat) ({ cls := "TablePagerLaw", name := "removeRow", desc := "(LTablePager;I)J" } : Jvm.MethodName)) ∈ am_tb := am_tin 836 (by decide +kernel) rfl
theorem w_745 : (Jvm.Cond.methodLink "TablePagerLaw" (146 : Nat) ({ cls := "TablePagerLaw", name := "addSpan", desc := "(LTablePager;IIZ)J" } : Jvm.MethodName)) ∈ am_tb := am_tin 818 (by decide +kernel) rfl
theorem w_779 : (Jvm.Cond.methodLink "TablePagerLaw" (154 : Nat) ({ cls := "TablePagerLaw", name := "removeSpan", desc := "(LTablePager;I)J" } : Jvm.MethodName)) ∈ am_tb := am_tin 852 (by decide +kernel) rfl
theorem w_965 : (Jvm.Cond.methodLink "TablePagerLaw" (191 : Nat) ({ cls := "TablePagerLaw", name := "undo", desc := "(LTablePager;)J" } : Jvm.MethodName)) ∈ am_tb := am_tin 1038 (by decide +kernel) rfl
theorem w_442 : (Jvm.Cond.methodLink "TablePagerLaw" (173 : Nat) ({ cls := "TablePagerLaw", name := "save", desc := "(LTablePager;I)J" } : Jvm.MethodName)) ∈ am_tb := am_tin 515 (by decide +kernel) rfl
theorem w_475 : (Jvm.Cond.methodLink "TablePagerLaw" (175 : Nat) ({ cls := "TablePagerLaw", name := "restore", desc := "(LTablePager;I)J" } : Jvm.MethodName)) ∈ am_tb := am_tin 548 (by decide +kernel) rfl
theorem w_790 : (Jvm.Cond.methodLink "TablePagerLaw" (156 : Nat) ({ cls := "TablePagerLaw", name := "setHeight", desc := "(LTablePager;II)J" } : Jvm.MethodName)) ∈ am_tb := am_tin 863 (by decide +kernel) rfl
theorem w_690 : (Jvm.Cond.methodLink "TablePagerLaw" (135 : Nat) ({ cls := "TablePagerLaw", name := "brought", desc := "(LTablePager;II)J" } : Jvm.MethodName)) ∈ am_tb := am_tin 763 (by decide +kernel) rfl
theorem w_916 : (Jvm.Cond.constantLong "TablePagerLaw" (168 : Nat) (1000000000000000 : Int64)) ∈ am_tb := am_tin 989 (by decide +kernel) rfl
theorem w_955 : (Jvm.Cond.methodLink "TablePagerLaw" (179 : Nat) ({ cls := "TablePagerLaw", name := "in", desc := "(JJJ)Z" } : Jvm.MethodName)) ∈ am_tb := am_tin 1028 (by decide +kernel) rfl
theorem w_958 : (Jvm.Cond.constantLong "TablePagerLaw" (183 : Nat) (24 : Int64)) ∈ am_tb := am_tin 1031 (by decide +kernel) rfl
theorem w_959 : (Jvm.Cond.constantLong "TablePagerLaw" (185 : Nat) (-999999 : Int64)) ∈ am_tb := am_tin 1032 (by decide +kernel) rfl
theorem w_963 : (Jvm.Cond.constantLong "TablePagerLaw" (187 : Nat) (6 : Int64)) ∈ am_tb := am_tin 1036 (by decide +kernel) rfl
theorem w_964 : (Jvm.Cond.constantLong "TablePagerLaw" (189 : Nat) (40 : Int64)) ∈ am_tb := am_tin 1037 (by decide +kernel) rfl
theorem w_977 : (Jvm.Cond.constantLong "TablePagerLaw" (193 : Nat) (-1000 : Int64)) ∈ am_tb := am_tin 1050 (by decide +kernel) rfl
theorem w_978 : (Jvm.Cond.methodLink "TablePagerLaw" (195 : Nat) ({ cls := "TablePagerLaw", name := "o", desc := "(LTablePager;)J" } : Jvm.MethodName)) ∈ am_tb := am_tin 1051 (by decide +kernel) rfl
theorem w_18 : (Jvm.Cond.classLink "TablePagerLaw" (10 : Nat) "TablePager") ∈ am_tb := am_tin 91 (by decide +kernel) rfl
theorem w_20 : (Jvm.Cond.methodLink "TablePagerLaw" (214 : Nat) ({ cls := "TablePager", name := "<init>", desc := "()V" } : Jvm.MethodName)) ∈ am_tb := am_tin 93 (by decide +kernel) rfl
theorem w_275 : (Jvm.Cond.methodLink "TablePagerLaw" (215 : Nat) ({ cls := "TablePagerLaw", name := "draw", desc := "([II)I" } : Jvm.MethodName)) ∈ am_tb := am_tin 348 (by decide +kernel) rfl
theorem w_985 : (Jvm.Cond.methodLink "TablePagerLaw" (219 : Nat) ({ cls := "TablePagerLaw", name := "alike", desc := "(LTablePager;LTablePager;I)Z" } : Jvm.MethodName)) ∈ am_tb := am_tin 1058 (by decide +kernel) rfl
theorem w_491 : (Jvm.Cond.methodLink "TablePagerLaw" (223 : Nat) ({ cls := "TablePagerLaw", name := "errors", desc := "(LTablePager;)Z" } : Jvm.MethodName)) ∈ am_tb := am_tin 564 (by decide +kernel) rfl
theorem w_952 : (Jvm.Cond.methodLink "TablePagerLaw" (227 : Nat) ({ cls := "TablePagerLaw", name := "kept", desc := "(LTablePager;)Z" } : Jvm.MethodName)) ∈ am_tb := am_tin 1025 (by decide +kernel) rfl
theorem w_993 : (Jvm.Cond.methodLink "TablePagerLaw" (230 : Nat) ({ cls := "TablePagerLaw", name := "tells", desc := "(LTablePager;II)Z" } : Jvm.MethodName)) ∈ am_tb := am_tin 1066 (by decide +kernel) rfl
theorem w_280 : (Jvm.Cond.methodLink "TablePagerLaw" (234 : Nat) ({ cls := "TablePagerLaw", name := "load", desc := "(LTablePager;)J" } : Jvm.MethodName)) ∈ am_tb := am_tin 353 (by decide +kernel) rfl
theorem w_1004 : (Jvm.Cond.methodLink "TablePagerLaw" (236 : Nat) ({ cls := "TablePagerLaw", name := "act", desc := "(LTablePager;II)J" } : Jvm.MethodName)) ∈ am_tb := am_tin 1077 (by decide +kernel) rfl
theorem w_960 : (Jvm.Cond.methodLink "TablePagerLaw" (239 : Nat) ({ cls := "TablePagerLaw", name := "follows", desc := "(LTablePager;I)Z" } : Jvm.MethodName)) ∈ am_tb := am_tin 1033 (by decide +kernel) rfl
theorem w_1007 : (Jvm.Cond.constant "TablePagerLaw" (242 : Nat) (83003 : Int32)) ∈ am_tb := am_tin 1080 (by decide +kernel) rfl
theorem w_566 : (Jvm.Cond.classLink "TablePager" (61 : Nat) "java/lang/IllegalArgumentException") ∈ am_tb := am_tin 639 (by decide +kernel) rfl
theorem w_13 : (Jvm.Cond.initialized "java/lang/IllegalArgumentException") ∈ am_tb := am_tin 86 (by decide +kernel) rfl
theorem w_358 : (Jvm.Cond.classLink "TablePager" (72 : Nat) "java/lang/IllegalStateException") ∈ am_tb := am_tin 431 (by decide +kernel) rfl
theorem w_17 : (Jvm.Cond.initialized "java/lang/IllegalStateException") ∈ am_tb := am_tin 90 (by decide +kernel) rfl
theorem w_453 : (Jvm.Cond.classLink "TablePager" (342 : Nat) "java/lang/IndexOutOfBoundsException") ∈ am_tb := am_tin 526 (by decide +kernel) rfl
theorem w_14 : (Jvm.Cond.initialized "java/lang/IndexOutOfBoundsException") ∈ am_tb := am_tin 87 (by decide +kernel) rfl
theorem fl_Table_9 : am_flo "TablePager$Table" 9 7 5 := Or.inl w_77
theorem fl_Table_15 : am_flo "TablePager$Table" 15 7 6 := Or.inl w_80
theorem fl_Table_18 : am_flo "TablePager$Table" 18 7 7 := Or.inl w_84
theorem fl_Table_22 : am_flo "TablePager$Table" 22 7 8 := Or.inl w_88
theorem fl_Table_25 : am_flo "TablePager$Table" 25 7 9 := Or.inl w_89
theorem fl_Table_28 : am_flo "TablePager$Table" 28 7 10 := Or.inl w_93
theorem fl_Table_31 : am_flo "TablePager$Table" 31 7 11 := Or.inl w_97
theorem fl_Table_34 : am_flo "TablePager$Table" 34 7 12 := Or.inl w_99
theorem fl_Table_40 : am_flo "TablePager$Table" 40 7 0 := Or.inl w_54
theorem fl_Table_44 : am_flo "TablePager$Table" 44 7 1 := Or.inl w_57
theorem fl_Table_47 : am_flo "TablePager$Table" 47 7 2 := Or.inl w_64
theorem fl_Table_50 : am_flo "TablePager$Table" 50 7 3 := Or.inl w_67
theorem fl_Table_53 : am_flo "TablePager$Table" 53 7 4 := Or.inl w_73
theorem fl_Command_7 : am_flo "TablePager$Command" 7 1 0 := Or.inl w_234
theorem fl_Command_13 : am_flo "TablePager$Command" 13 1 1 := Or.inl w_235
theorem fl_Command_16 : am_flo "TablePager$Command" 16 1 2 := Or.inl w_236
theorem fl_Command_19 : am_flo "TablePager$Command" 19 1 3 := Or.inl w_237
theorem fl_Command_22 : am_flo "TablePager$Command" 22 1 4 := Or.inl w_238
theorem fl_Command_45 : am_flo "TablePager$Command" 45 7 3 := Or.inr ⟨_, w_69⟩
theorem fl_Command_56 : am_flo "TablePager$Command" 56 4 0 := Or.inr ⟨_, w_194⟩
theorem fl_Command_78 : am_flo "TablePager$Command" 78 4 1 := Or.inr ⟨_, w_197⟩
theorem fl_Command_103 : am_flo "TablePager$Command" 103 7 7 := Or.inr ⟨_, w_87⟩
theorem fl_Evener_9 : am_flo "TablePager$Evener" 9 2 0 := Or.inl w_218
theorem fl_Evener_15 : am_flo "TablePager$Evener" 15 2 1 := Or.inl w_219
theorem fl_Evener_21 : am_flo "TablePager$Evener" 21 2 2 := Or.inl w_220
theorem fl_Evener_31 : am_flo "TablePager$Evener" 31 7 1 := Or.inr ⟨_, w_58⟩
theorem fl_Evener_54 : am_flo "TablePager$Evener" 54 7 3 := Or.inr ⟨_, w_68⟩
theorem fl_History_11 : am_flo "TablePager$History" 11 3 0 := Or.inl w_141
theorem fl_History_18 : am_flo "TablePager$History" 18 3 2 := Or.inl w_143
theorem fl_History_22 : am_flo "TablePager$History" 22 3 1 := Or.inl w_142
theorem fl_Layout_9 : am_flo "TablePager$Layout" 9 4 2 := Or.inl w_199
theorem fl_Layout_18 : am_flo "TablePager$Layout" 18 4 3 := Or.inl w_200
theorem fl_Layout_28 : am_flo "TablePager$Layout" 28 4 0 := Or.inl w_193
theorem fl_Layout_32 : am_flo "TablePager$Layout" 32 4 1 := Or.inl w_196
theorem fl_Layout_35 : am_flo "TablePager$Layout" 35 7 1 := Or.inr ⟨_, w_59⟩
theorem fl_Layout_61 : am_flo "TablePager$Layout" 61 7 10 := Or.inr ⟨_, w_95⟩
theorem fl_Layout_68 : am_flo "TablePager$Layout" 68 7 9 := Or.inr ⟨_, w_91⟩
theorem fl_Layout_71 : am_flo "TablePager$Layout" 71 7 2 := Or.inr ⟨_, w_66⟩
theorem fl_Layout_88 : am_flo "TablePager$Layout" 88 7 3 := Or.inr ⟨_, w_72⟩
theorem fl_Sheet_7 : am_flo "TablePager$Sheet" 7 5 0 := Or.inl w_179
theorem fl_Sheet_13 : am_flo "TablePager$Sheet" 13 7 2 := Or.inr ⟨_, w_63⟩
theorem fl_Sheet_18 : am_flo "TablePager$Sheet" 18 7 9 := Or.inr ⟨_, w_90⟩
theorem fl_Sheet_22 : am_flo "TablePager$Sheet" 22 7 10 := Or.inr ⟨_, w_94⟩
theorem fl_Sheet_25 : am_flo "TablePager$Sheet" 25 5 1 := Or.inl w_181
theorem fl_Sheet_28 : am_flo "TablePager$Sheet" 28 7 4 := Or.inr ⟨_, w_74⟩
theorem fl_Sheet_31 : am_flo "TablePager$Sheet" 31 5 2 := Or.inl w_182
theorem fl_Sheet_34 : am_flo "TablePager$Sheet" 34 5 3 := Or.inl w_183
theorem fl_Sheet_37 : am_flo "TablePager$Sheet" 37 7 5 := Or.inr ⟨_, w_78⟩
theorem fl_Sheet_40 : am_flo "TablePager$Sheet" 40 7 6 := Or.inr ⟨_, w_81⟩
theorem fl_Sheet_48 : am_flo "TablePager$Sheet" 48 7 12 := Or.inr ⟨_, w_100⟩
theorem fl_Sheet_51 : am_flo "TablePager$Sheet" 51 7 1 := Or.inr ⟨_, w_60⟩
theorem fl_Slots_11 : am_flo "TablePager$Slots" 11 6 0 := Or.inl w_160
theorem fl_Slots_17 : am_flo "TablePager$Slots" 17 6 1 := Or.inl w_161
theorem fl_Text_9 : am_flo "TablePager$Text" 9 8 0 := Or.inl w_32
theorem fl_Text_15 : am_flo "TablePager$Text" 15 8 1 := Or.inl w_33
theorem fl_Text_19 : am_flo "TablePager$Text" 19 8 2 := Or.inl w_35
theorem fl_Text_46 : am_flo "TablePager$Text" 46 7 0 := Or.inr ⟨_, w_55⟩
theorem fl_Text_49 : am_flo "TablePager$Text" 49 7 3 := Or.inr ⟨_, w_70⟩
theorem fl_Text_52 : am_flo "TablePager$Text" 52 7 4 := Or.inr ⟨_, w_75⟩
theorem fl_Text_62 : am_flo "TablePager$Text" 62 7 1 := Or.inr ⟨_, w_62⟩
theorem fl_Text_65 : am_flo "TablePager$Text" 65 7 7 := Or.inr ⟨_, w_85⟩
theorem fl_Text_89 : am_flo "TablePager$Text" 89 7 6 := Or.inr ⟨_, w_83⟩
theorem fl_Text_93 : am_flo "TablePager$Text" 93 7 12 := Or.inr ⟨_, w_101⟩
theorem fl_P_10 : am_flo "TablePager" 10 0 0 := Or.inl w_250
theorem fl_P_19 : am_flo "TablePager" 19 0 1 := Or.inl w_251
theorem fl_P_26 : am_flo "TablePager" 26 0 2 := Or.inl w_252
theorem fl_P_33 : am_flo "TablePager" 33 0 3 := Or.inl w_253
theorem fl_P_40 : am_flo "TablePager" 40 0 4 := Or.inl w_254
theorem fl_P_47 : am_flo "TablePager" 47 0 5 := Or.inl w_255
theorem fl_P_54 : am_flo "TablePager" 54 0 6 := Or.inl w_256
theorem fl_P_58 : am_flo "TablePager" 58 0 7 := Or.inl w_257
theorem fl_P_81 : am_flo "TablePager" 81 8 1 := Or.inr ⟨_, w_34⟩
theorem fl_P_102 : am_flo "TablePager" 102 7 1 := Or.inr ⟨_, w_61⟩
theorem fl_P_105 : am_flo "TablePager" 105 7 0 := Or.inr ⟨_, w_56⟩
theorem fl_P_108 : am_flo "TablePager" 108 7 2 := Or.inr ⟨_, w_65⟩
theorem fl_P_111 : am_flo "TablePager" 111 7 3 := Or.inr ⟨_, w_71⟩
theorem fl_P_114 : am_flo "TablePager" 114 7 4 := Or.inr ⟨_, w_76⟩
theorem fl_P_124 : am_flo "TablePager" 124 4 1 := Or.inr ⟨_, w_198⟩
theorem fl_P_136 : am_flo "TablePager" 136 7 5 := Or.inr ⟨_, w_79⟩
theorem fl_P_140 : am_flo "TablePager" 140 7 6 := Or.inr ⟨_, w_82⟩
theorem fl_P_143 : am_flo "TablePager" 143 7 7 := Or.inr ⟨_, w_86⟩
theorem fl_P_170 : am_flo "TablePager" 170 7 9 := Or.inr ⟨_, w_92⟩
theorem fl_P_173 : am_flo "TablePager" 173 7 10 := Or.inr ⟨_, w_96⟩
theorem fl_P_176 : am_flo "TablePager" 176 7 11 := Or.inr ⟨_, w_98⟩
theorem fl_P_187 : am_flo "TablePager" 187 7 12 := Or.inr ⟨_, w_102⟩
theorem fl_P_208 : am_flo "TablePager" 208 5 0 := Or.inr ⟨_, w_180⟩
theorem fl_P_220 : am_flo "TablePager" 220 4 0 := Or.inr ⟨_, w_195⟩
theorem fl_P_269 : am_flo "TablePager" 269 3 2 := Or.inr ⟨_, w_144⟩
theorem ml_Table_37 : am_mlo "TablePager$Table" 37 y_Table_makeNew := Or.inl w_50
theorem ml_Table_62 : am_mlo "TablePager$Table" 62 y_Table_amountAt := Or.inl w_701
theorem ml_Table_66 : am_mlo "TablePager$Table" 66 y_Table_putAmount := Or.inl w_331
theorem ml_Table_70 : am_mlo "TablePager$Table" 70 y_Table_takeRowFromSpans := Or.inl w_774
theorem ml_Table_74 : am_mlo "TablePager$Table" 74 y_Table_putSpan := Or.inl w_778
theorem ml_Table_78 : am_mlo "TablePager$Table" 78 y_Table_upTo := Or.inl w_527
theorem ml_Table_81 : am_mlo "TablePager$Table" 81 y_Table_cutRows := Or.inl w_523
theorem ml_Table_85 : am_mlo "TablePager$Table" 85 y_Table_isFull := Or.inl w_931
theorem ml_Table_89 : am_mlo "TablePager$Table" 89 y_Table_putRow := Or.inl w_932
theorem ml_Table_93 : am_mlo "TablePager$Table" 93 y_Table_dropRow := Or.inl w_933
theorem ml_Command_25 : am_mlo "TablePager$Command" 25 y_Command_addsRow := Or.inl w_874
theorem ml_Command_29 : am_mlo "TablePager$Command" 29 y_Command_putsAmount := Or.inl w_881
theorem ml_Command_32 : am_mlo "TablePager$Command" 32 y_Command_marksRow := Or.inl w_892
theorem ml_Command_35 : am_mlo "TablePager$Command" 35 y_Command_dropsRow := Or.inl w_896
theorem ml_Command_38 : am_mlo "TablePager$Command" 38 y_Command_putsHeight := Or.inl w_901
theorem ml_Command_41 : am_mlo "TablePager$Command" 41 y_Command_holds := Or.inl w_907
theorem ml_Command_50 : am_mlo "TablePager$Command" 50 y_Layout_lay := Or.inr ⟨_, w_911⟩
theorem ml_Command_59 : am_mlo "TablePager$Command" 59 y_Command_firstPair := Or.inl w_885
theorem ml_Command_63 : am_mlo "TablePager$Command" 63 y_Layout_hasPage := Or.inr ⟨_, w_912⟩
theorem ml_Command_67 : am_mlo "TablePager$Command" 67 y_Layout_lastOf := Or.inr ⟨_, w_913⟩
theorem ml_Command_71 : am_mlo "TablePager$Command" 71 y_Table_hasSpan := Or.inr ⟨_, w_914⟩
theorem ml_Command_74 : am_mlo "TablePager$Command" 74 y_Layout_pagesOfSpan := Or.inr ⟨_, w_915⟩
theorem ml_Command_81 : am_mlo "TablePager$Command" 81 y_Table_allowsRow := Or.inr ⟨_, w_878⟩
theorem ml_Command_85 : am_mlo "TablePager$Command" 85 y_Table_isFull := Or.inr ⟨_, w_879⟩
theorem ml_Command_89 : am_mlo "TablePager$Command" 89 y_Table_putRow := Or.inr ⟨_, w_880⟩
theorem ml_Command_93 : am_mlo "TablePager$Command" 93 y_Table_hasRow := Or.inr ⟨_, w_889⟩
theorem ml_Command_96 : am_mlo "TablePager$Command" 96 y_Table_hasColumn := Or.inr ⟨_, w_890⟩
theorem ml_Command_99 : am_mlo "TablePager$Command" 99 y_Table_putAmount := Or.inr ⟨_, w_891⟩
theorem ml_Command_107 : am_mlo "TablePager$Command" 107 y_Table_dropRow := Or.inr ⟨_, w_900⟩
theorem ml_Command_110 : am_mlo "TablePager$Command" 110 y_Table_allowsHeight := Or.inr ⟨_, w_905⟩
theorem ml_Command_113 : am_mlo "TablePager$Command" 113 y_Table_putHeight := Or.inr ⟨_, w_906⟩
theorem ml_Evener_20 : am_mlo "TablePager$Evener" 20 y_Sheet_init := Or.inr ⟨_, w_217⟩
theorem ml_Evener_25 : am_mlo "TablePager$Evener" 25 y_Table_endRows := Or.inr ⟨_, w_824⟩
theorem ml_Evener_35 : am_mlo "TablePager$Evener" 35 y_Evener_chooseEnd := Or.inl w_825
theorem ml_Evener_39 : am_mlo "TablePager$Evener" 39 y_Sheet_begin := Or.inr ⟨_, w_829⟩
theorem ml_Evener_43 : am_mlo "TablePager$Evener" 43 y_Sheet_take := Or.inr ⟨_, w_830⟩
theorem ml_Evener_46 : am_mlo "TablePager$Evener" 46 y_P_isIn := Or.inr ⟨_, w_831⟩
theorem ml_Evener_50 : am_mlo "TablePager$Evener" 50 y_Evener_costOfSheet := Or.inl w_832
theorem ml_Evener_57 : am_mlo "TablePager$Evener" 57 y_Sheet_needed := Or.inr ⟨_, w_836⟩
theorem ml_History_17 : am_mlo "TablePager$History" 17 y_Table_init := Or.inr ⟨_, w_140⟩
theorem ml_History_25 : am_mlo "TablePager$History" 25 y_Table_copyFrom := Or.inr ⟨_, w_733⟩
theorem ml_Layout_17 : am_mlo "TablePager$Layout" 17 y_Sheet_init := Or.inr ⟨_, w_175⟩
theorem ml_Layout_22 : am_mlo "TablePager$Layout" 22 y_Table_endRows := Or.inr ⟨_, w_519⟩
theorem ml_Layout_38 : am_mlo "TablePager$Layout" 38 y_Layout_lastThatFits := Or.inl w_530
theorem ml_Layout_43 : am_mlo "TablePager$Layout" 43 y_Layout_firstEnd := Or.inl w_551
theorem ml_Layout_47 : am_mlo "TablePager$Layout" 47 y_Sheet_begin := Or.inr ⟨_, w_535⟩
theorem ml_Layout_51 : am_mlo "TablePager$Layout" 51 y_Sheet_take := Or.inr ⟨_, w_539⟩
theorem ml_Layout_54 : am_mlo "TablePager$Layout" 54 y_Sheet_needed := Or.inr ⟨_, w_546⟩
theorem ml_Layout_57 : am_mlo "TablePager$Layout" 57 y_P_isIn := Or.inr ⟨_, w_550⟩
theorem ml_Layout_64 : am_mlo "TablePager$Layout" 64 y_Layout_pageOf := Or.inl w_562
theorem ml_Layout_74 : am_mlo "TablePager$Layout" 74 y_Layout_pagesOfSpan := Or.inl w_558
theorem ml_Layout_78 : am_mlo "TablePager$Layout" 78 y_Layout_firstOf := Or.inl w_670
theorem ml_Layout_81 : am_mlo "TablePager$Layout" 81 y_Layout_lastOf := Or.inl w_674
theorem ml_Layout_84 : am_mlo "TablePager$Layout" 84 y_Layout_fill := Or.inl w_678
theorem ml_Sheet_42 : am_mlo "TablePager$Sheet" 42 y_P_isIn := Or.inr ⟨_, w_543⟩
theorem ml_Slots_21 : am_mlo "TablePager$Slots" 21 y_Table_init := Or.inr ⟨_, w_159⟩
theorem ml_Slots_22 : am_mlo "TablePager$Slots" 22 y_Table_copyFrom := Or.inr ⟨_, w_473⟩
theorem ml_Text_22 : am_mlo "TablePager$Text" 22 y_Table_makeNew := Or.inr ⟨_, w_292⟩
theorem ml_Text_27 : am_mlo "TablePager$Text" 27 y_Text_readHead := Or.inl w_293
theorem ml_Text_31 : am_mlo "TablePager$Text" 31 y_Text_readPart := Or.inl w_315
theorem ml_Text_35 : am_mlo "TablePager$Text" 35 y_Text_takeSign := Or.inl w_297
theorem ml_Text_39 : am_mlo "TablePager$Text" 39 y_Text_takeDigit := Or.inl w_301
theorem ml_Text_43 : am_mlo "TablePager$Text" 43 y_Text_takePair := Or.inl w_305
theorem ml_Text_55 : am_mlo "TablePager$Text" 55 y_Table_isFull := Or.inr ⟨_, w_319⟩
theorem ml_Text_59 : am_mlo "TablePager$Text" 59 y_Text_readRow := Or.inl w_323
theorem ml_Text_69 : am_mlo "TablePager$Text" 69 y_Text_readNote := Or.inl w_336
theorem ml_Text_72 : am_mlo "TablePager$Text" 72 y_Text_readNoteHeight := Or.inl w_340
theorem ml_Text_75 : am_mlo "TablePager$Text" 75 y_Table_hasAllSpans := Or.inr ⟨_, w_344⟩
theorem ml_Text_78 : am_mlo "TablePager$Text" 78 y_Text_readSpan := Or.inl w_348
theorem ml_Text_81 : am_mlo "TablePager$Text" 81 y_Table_putRow := Or.inr ⟨_, w_327⟩
theorem ml_Text_85 : am_mlo "TablePager$Text" 85 y_Table_putAmount := Or.inr ⟨_, w_335⟩
theorem ml_Text_96 : am_mlo "TablePager$Text" 96 y_Table_putSpan := Or.inr ⟨_, w_352⟩
theorem ml_P_9 : am_mlo "TablePager" 9 y_Text_init := Or.inr ⟨_, w_28⟩
theorem ml_P_18 : am_mlo "TablePager" 18 y_Table_init := Or.inr ⟨_, w_46⟩
theorem ml_P_25 : am_mlo "TablePager" 25 y_History_init := Or.inr ⟨_, w_134⟩
theorem ml_P_32 : am_mlo "TablePager" 32 y_Slots_init := Or.inr ⟨_, w_154⟩
theorem ml_P_39 : am_mlo "TablePager" 39 y_Layout_init := Or.inr ⟨_, w_169⟩
theorem ml_P_46 : am_mlo "TablePager" 46 y_Evener_init := Or.inr ⟨_, w_212⟩
theorem ml_P_53 : am_mlo "TablePager" 53 y_Command_init := Or.inr ⟨_, w_230⟩
theorem ml_P_68 : am_mlo "TablePager" 68 y_Text_isFull := Or.inr ⟨_, w_943⟩
theorem ml_P_77 : am_mlo "TablePager" 77 y_Text_put := Or.inr ⟨_, w_948⟩
theorem ml_P_85 : am_mlo "TablePager" 85 y_Text_readInto := Or.inr ⟨_, w_288⟩
theorem ml_P_92 : am_mlo "TablePager" 92 y_Table_copyFrom := Or.inr ⟨_, w_426⟩
theorem ml_P_96 : am_mlo "TablePager" 96 y_History_forget := Or.inr ⟨_, w_433⟩
theorem ml_P_99 : am_mlo "TablePager" 99 y_Slots_empty := Or.inr ⟨_, w_437⟩
theorem ml_P_117 : am_mlo "TablePager" 117 y_P_countPages := Or.inl w_507
theorem ml_P_121 : am_mlo "TablePager" 121 y_P_layOut := Or.inl w_511
theorem ml_P_127 : am_mlo "TablePager" 127 y_Layout_countCutSpans := Or.inr ⟨_, w_554⟩
theorem ml_P_132 : am_mlo "TablePager" 132 y_P_requireRow := Or.inl w_598
theorem ml_P_147 : am_mlo "TablePager" 147 y_Table_cutRows := Or.inr ⟨_, w_607⟩
theorem ml_P_150 : am_mlo "TablePager" 150 y_P_isIn := Or.inl w_608
theorem ml_P_154 : am_mlo "TablePager" 154 y_Layout_pageOf := Or.inr ⟨_, w_609⟩
theorem ml_P_160 : am_mlo "TablePager" 160 y_P_requireColumn := Or.inl w_618
theorem ml_P_163 : am_mlo "TablePager" 163 y_Table_amountAt := Or.inr ⟨_, w_627⟩
theorem ml_P_167 : am_mlo "TablePager" 167 y_P_requireSpan := Or.inl w_639
theorem ml_P_179 : am_mlo "TablePager" 179 y_Layout_pagesOfSpan := Or.inr ⟨_, w_648⟩
theorem ml_P_190 : am_mlo "TablePager" 190 y_P_requirePage := Or.inl w_657
theorem ml_P_193 : am_mlo "TablePager" 193 y_Layout_sheetOf := Or.inr ⟨_, w_666⟩
theorem ml_P_197 : am_mlo "TablePager" 197 y_Layout_firstOf := Or.inr ⟨_, w_682⟩
theorem ml_P_200 : am_mlo "TablePager" 200 y_Layout_lastOf := Or.inr ⟨_, w_683⟩
theorem ml_P_203 : am_mlo "TablePager" 203 y_Sheet_needed := Or.inr ⟨_, w_684⟩
theorem ml_P_211 : am_mlo "TablePager" 211 y_Sheet_noteBits := Or.inr ⟨_, w_685⟩
theorem ml_P_216 : am_mlo "TablePager" 216 y_Table_sumOfRows := Or.inr ⟨_, w_697⟩
theorem ml_P_223 : am_mlo "TablePager" 223 y_Table_allowsRow := Or.inr ⟨_, w_723⟩
theorem ml_P_228 : am_mlo "TablePager" 228 y_Table_isFull := Or.inr ⟨_, w_727⟩
theorem ml_P_231 : am_mlo "TablePager" 231 y_History_remember := Or.inr ⟨_, w_729⟩
theorem ml_P_234 : am_mlo "TablePager" 234 y_Table_putRow := Or.inr ⟨_, w_735⟩
theorem ml_P_240 : am_mlo "TablePager" 240 y_Table_putAmount := Or.inr ⟨_, w_744⟩
theorem ml_P_244 : am_mlo "TablePager" 244 y_Table_dropRow := Or.inr ⟨_, w_770⟩
theorem ml_P_249 : am_mlo "TablePager" 249 y_Table_hasAllSpans := Or.inr ⟨_, w_753⟩
theorem ml_P_254 : am_mlo "TablePager" 254 y_Table_putSpan := Or.inr ⟨_, w_755⟩
theorem ml_P_258 : am_mlo "TablePager" 258 y_Table_dropSpan := Or.inr ⟨_, w_786⟩
theorem ml_P_261 : am_mlo "TablePager" 261 y_Table_allowsHeight := Or.inr ⟨_, w_797⟩
theorem ml_P_266 : am_mlo "TablePager" 266 y_Table_putHeight := Or.inr ⟨_, w_801⟩
theorem ml_P_274 : am_mlo "TablePager" 274 y_History_takeBack := Or.inr ⟨_, w_973⟩
theorem ml_P_279 : am_mlo "TablePager" 279 y_Layout_lay := Or.inr ⟨_, w_515⟩
theorem ml_P_283 : am_mlo "TablePager" 283 y_Evener_leastCost := Or.inr ⟨_, w_820⟩
theorem ml_P_288 : am_mlo "TablePager" 288 y_Evener_lastOf := Or.inr ⟨_, w_837⟩
theorem ml_P_290 : am_mlo "TablePager" 290 y_Layout_emptyFromRow := Or.inr ⟨_, w_849⟩
theorem ml_P_295 : am_mlo "TablePager" 295 y_P_withoutGroups := Or.inl w_861
theorem ml_P_303 : am_mlo "TablePager" 303 y_Command_setDigits := Or.inr ⟨_, w_866⟩
theorem ml_P_306 : am_mlo "TablePager" 306 y_Command_runOn := Or.inr ⟨_, w_870⟩
theorem ml_P_316 : am_mlo "TablePager" 316 y_Table_playRound := Or.inr ⟨_, w_927⟩
theorem ml_P_324 : am_mlo "TablePager" 324 y_P_requireSlot := Or.inl w_450
theorem ml_P_327 : am_mlo "TablePager" 327 y_Slots_put := Or.inr ⟨_, w_469⟩
theorem ml_P_330 : am_mlo "TablePager" 330 y_Slots_isFilled := Or.inr ⟨_, w_482⟩
theorem ml_P_336 : am_mlo "TablePager" 336 y_Slots_copyTo := Or.inr ⟨_, w_487⟩
theorem ml_P_339 : am_mlo "TablePager" 339 y_Table_hasRow := Or.inr ⟨_, w_602⟩
theorem ml_P_347 : am_mlo "TablePager" 347 y_Table_hasColumn := Or.inr ⟨_, w_622⟩
theorem ml_P_352 : am_mlo "TablePager" 352 y_Table_hasSpan := Or.inr ⟨_, w_643⟩
theorem ml_P_357 : am_mlo "TablePager" 357 y_Layout_hasPage := Or.inr ⟨_, w_661⟩
theorem ml_L_9 : am_mlo "TablePagerLaw" 9 y_P_append := Or.inl w_938
theorem ml_L_23 : am_mlo "TablePagerLaw" 23 y_P_load := Or.inl w_284
theorem ml_L_27 : am_mlo "TablePagerLaw" 27 y_P_about := Or.inl w_503
theorem ml_L_30 : am_mlo "TablePagerLaw" 30 y_P_row := Or.inl w_594
theorem ml_L_38 : am_mlo "TablePagerLaw" 38 y_P_amount := Or.inl w_614
theorem ml_L_41 : am_mlo "TablePagerLaw" 41 y_P_span := Or.inl w_635
theorem ml_L_44 : am_mlo "TablePagerLaw" 44 y_P_note := Or.inl w_586
theorem ml_L_47 : am_mlo "TablePagerLaw" 47 y_P_page := Or.inl w_653
theorem ml_L_50 : am_mlo "TablePagerLaw" 50 y_P_brought := Or.inl w_693
theorem ml_L_53 : am_mlo "TablePagerLaw" 53 y_P_carried := Or.inl w_705
theorem ml_L_56 : am_mlo "TablePagerLaw" 56 y_P_richest := Or.inl w_712
theorem ml_L_59 : am_mlo "TablePagerLaw" 59 y_P_addRow := Or.inl w_719
theorem ml_L_62 : am_mlo "TablePagerLaw" 62 y_P_setAmount := Or.inl w_739
theorem ml_L_66 : am_mlo "TablePagerLaw" 66 y_P_keep := Or.inl w_759
theorem ml_L_70 : am_mlo "TablePagerLaw" 70 y_P_removeRow := Or.inl w_766
theorem ml_L_73 : am_mlo "TablePagerLaw" 73 y_P_addSpan := Or.inl w_748
theorem ml_L_77 : am_mlo "TablePagerLaw" 77 y_P_removeSpan := Or.inl w_782
theorem ml_L_80 : am_mlo "TablePagerLaw" 80 y_P_setHeight := Or.inl w_793
theorem ml_L_83 : am_mlo "TablePagerLaw" 83 y_P_undo := Or.inl w_968
theorem ml_L_86 : am_mlo "TablePagerLaw" 86 y_P_heightFor := Or.inl w_808
theorem ml_L_89 : am_mlo "TablePagerLaw" 89 y_P_evenCut := Or.inl w_816
theorem ml_L_92 : am_mlo "TablePagerLaw" 92 y_P_emptyFrom := Or.inl w_845
theorem ml_L_95 : am_mlo "TablePagerLaw" 95 y_P_runScript := Or.inl w_856
theorem ml_L_99 : am_mlo "TablePagerLaw" 99 y_P_simulate := Or.inl w_920
theorem ml_L_103 : am_mlo "TablePagerLaw" 103 y_P_save := Or.inl w_446
theorem ml_L_106 : am_mlo "TablePagerLaw" 106 y_P_restore := Or.inl w_478
theorem ml_L_198 : am_mlo "TablePagerLaw" 198 y_P_evenest := Or.inl w_981
theorem ml_L_177 : am_mlo "TablePagerLaw" 177 y_L_append := Or.inl w_935
theorem ml_L_113 : am_mlo "TablePagerLaw" 113 y_L_about := Or.inl w_499
theorem ml_L_118 : am_mlo "TablePagerLaw" 118 y_L_note := Or.inl w_583
theorem ml_L_120 : am_mlo "TablePagerLaw" 120 y_L_row := Or.inl w_591
theorem ml_L_123 : am_mlo "TablePagerLaw" 123 y_L_amount := Or.inl w_611
theorem ml_L_127 : am_mlo "TablePagerLaw" 127 y_L_span := Or.inl w_632
theorem ml_L_129 : am_mlo "TablePagerLaw" 129 y_L_now := Or.inl w_494
theorem ml_L_201 : am_mlo "TablePagerLaw" 201 y_P_errorPosition := Or.inl w_988
theorem ml_L_160 : am_mlo "TablePagerLaw" 160 y_L_evenCut := Or.inl w_813
theorem ml_L_158 : am_mlo "TablePagerLaw" 158 y_L_heightFor := Or.inl w_805
theorem ml_L_162 : am_mlo "TablePagerLaw" 162 y_L_emptyFrom := Or.inl w_842
theorem ml_L_139 : am_mlo "TablePagerLaw" 139 y_L_richest := Or.inl w_709
theorem ml_L_133 : am_mlo "TablePagerLaw" 133 y_L_page := Or.inl w_650
theorem ml_L_137 : am_mlo "TablePagerLaw" 137 y_L_carried := Or.inl w_702
theorem ml_L_170 : am_mlo "TablePagerLaw" 170 y_L_simulate := Or.inl w_917
theorem ml_L_164 : am_mlo "TablePagerLaw" 164 y_L_script := Or.inl w_853
theorem ml_L_206 : am_mlo "TablePagerLaw" 206 y_P_clearText := Or.inl w_996
theorem ml_L_209 : am_mlo "TablePagerLaw" 209 y_L_says := Or.inl w_1000
theorem ml_L_141 : am_mlo "TablePagerLaw" 141 y_L_addRow := Or.inl w_716
theorem ml_L_143 : am_mlo "TablePagerLaw" 143 y_L_setAmount := Or.inl w_736
theorem ml_L_149 : am_mlo "TablePagerLaw" 149 y_L_keep := Or.inl w_756
theorem ml_L_152 : am_mlo "TablePagerLaw" 152 y_L_removeRow := Or.inl w_763
theorem ml_L_146 : am_mlo "TablePagerLaw" 146 y_L_addSpan := Or.inl w_745
theorem ml_L_154 : am_mlo "TablePagerLaw" 154 y_L_removeSpan := Or.inl w_779
theorem ml_L_191 : am_mlo "TablePagerLaw" 191 y_L_undo := Or.inl w_965
theorem ml_L_173 : am_mlo "TablePagerLaw" 173 y_L_save := Or.inl w_442
theorem ml_L_175 : am_mlo "TablePagerLaw" 175 y_L_restore := Or.inl w_475
theorem ml_L_156 : am_mlo "TablePagerLaw" 156 y_L_setHeight := Or.inl w_790
theorem ml_L_135 : am_mlo "TablePagerLaw" 135 y_L_brought := Or.inl w_690
theorem ml_L_179 : am_mlo "TablePagerLaw" 179 y_L_in := Or.inl w_955
theorem ml_L_195 : am_mlo "TablePagerLaw" 195 y_L_o := Or.inl w_978
theorem ml_L_214 : am_mlo "TablePagerLaw" 214 y_P_init := Or.inl w_20
theorem ml_L_215 : am_mlo "TablePagerLaw" 215 y_L_draw := Or.inl w_275
theorem ml_L_219 : am_mlo "TablePagerLaw" 219 y_L_alike := Or.inl w_985
theorem ml_L_223 : am_mlo "TablePagerLaw" 223 y_L_errors := Or.inl w_491
theorem ml_L_227 : am_mlo "TablePagerLaw" 227 y_L_kept := Or.inl w_952
theorem ml_L_230 : am_mlo "TablePagerLaw" 230 y_L_tells := Or.inl w_993
theorem ml_L_234 : am_mlo "TablePagerLaw" 234 y_L_load := Or.inl w_280
theorem ml_L_236 : am_mlo "TablePagerLaw" 236 y_L_act := Or.inl w_1004
theorem ml_L_239 : am_mlo "TablePagerLaw" 239 y_L_follows := Or.inl w_960
def am_two (own : String) (n ik ic : Nat) : Prop := (1 ≤ n ∧ n ≤ 3) ∧ Cond.classLink own ik (am_en n) ∈ am_tb ∧ Cond.initialized (am_en n) ∈ am_tb ∧ (∀ w ∈ vx_atS own ic (am_en n) am_names, w ∈ am_tb) ∧ (∀ w ∈ Cond.classLink own ik (am_en n) :: Cond.initialized (am_en n) :: vx_atS own ic (am_en n) am_names, vx_ot w = true) ∧ Bundle.fit (am_en n) = true ∧ ∀ n ∈ am_names, Bundle.fit n = true
theorem ta_P_1_65 : (vx_atS "TablePager" 65 (am_en 1) am_names).all (fun w => decide (w ∈ lw_tbl) && am_sv w) = true := by decide +kernel
theorem tw_P_1_65 : am_two "TablePager" 1 61 65 := ⟨by decide, w_566, w_13, fun w hw => by
  have h := List.all_eq_true.mp ta_P_1_65 w hw
  simp only [Bool.and_eq_true, decide_eq_true_eq] at h
  exact List.mem_filter.mpr h, fun w hw => List.all_eq_true.mp (show (Cond.classLink "TablePager" 61 (am_en 1) :: Cond.initialized (am_en 1) :: vx_atS "TablePager" 65 (am_en 1) am_names).all vx_ot = true by decide +kernel) w hw, by decide +kernel, by decide +kernel⟩
theorem ta_P_2_76 : (vx_atS "TablePager" 76 (am_en 2) am_names).all (fun w => decide (w ∈ lw_tbl) && am_sv w) = true := by decide +kernel
theorem tw_P_2_76 : am_two "TablePager" 2 72 76 := ⟨by decide, w_358, w_17, fun w hw => by
  have h := List.all_eq_true.mp ta_P_2_76 w hw
  simp only [Bool.and_eq_true, decide_eq_true_eq] at h
  exact List.mem_filter.mpr h, fun w hw => List.all_eq_true.mp (show (Cond.classLink "TablePager" 72 (am_en 2) :: Cond.initialized (am_en 2) :: vx_atS "TablePager" 76 (am_en 2) am_names).all vx_ot = true by decide +kernel) w hw, by decide +kernel, by decide +kernel⟩
theorem ta_P_3_346 : (vx_atS "TablePager" 346 (am_en 3) am_names).all (fun w => decide (w ∈ lw_tbl) && am_sv w) = true := by decide +kernel
theorem tw_P_3_346 : am_two "TablePager" 3 342 346 := ⟨by decide, w_453, w_14, fun w hw => by
  have h := List.all_eq_true.mp ta_P_3_346 w hw
  simp only [Bool.and_eq_true, decide_eq_true_eq] at h
  exact List.mem_filter.mpr h, fun w hw => List.all_eq_true.mp (show (Cond.classLink "TablePager" 342 (am_en 3) :: Cond.initialized (am_en 3) :: vx_atS "TablePager" 346 (am_en 3) am_names).all vx_ot = true by decide +kernel) w hw, by decide +kernel, by decide +kernel⟩
