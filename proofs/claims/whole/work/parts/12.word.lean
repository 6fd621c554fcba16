/-! written by wip/whole/gen.py: the words that the code tables use -/
def am_flo (own : String) (idx ci k : Nat) : Prop := Cond.fieldLink own idx (am_cT ci k).1 (am_cT ci k).2.1 (am_cT ci k).2.2.1 ∈ am_tb ∨ ∃ host : String, Cond.fieldLinkNest own idx (am_cT ci k).1 (am_cT ci k).2.1 (am_cT ci k).2.2.1 host ∈ am_tb
def am_mlo (own : String) (idx y : Nat) : Prop := Cond.methodLink own idx (am_mY y) ∈ am_tb ∨ ∃ host : String, Cond.methodLinkNest own idx (am_mY y) host ∈ am_tb
theorem am_nfw : nativeFrameWords "java/lang/System" "arraycopy" 5 + 11 ≤ 35 := by decide +kernel
theorem w_50 : (Jvm.Cond.methodLink "TablePager$Table" (3 : Nat) ({ cls := "java/lang/Object", name := "<init>", desc := "()V" } : Jvm.MethodName)) ∈ am_tb := am_tin 148 (by decide +kernel) rfl
theorem w_25 : (Jvm.Cond.instanceMethod ({ cls := "java/lang/Object", name := "<init>", desc := "()V" } : Jvm.MethodName)) ∈ am_tb := am_tin 123 (by decide +kernel) rfl
theorem w_26 : (Jvm.Cond.code ({ cls := "java/lang/Object", name := "<init>", desc := "()V" } : Jvm.MethodName) object_method_1_code (1 : Nat) (Option.none : Option Jvm.ClassFile.FieldType)) ∈ am_tb := am_tin 124 (by decide +kernel) rfl
theorem w_131 : (Jvm.Cond.arrayClass Jvm.ClassFile.FieldType.int) ∈ am_tb := am_tin 229 (by decide +kernel) rfl
theorem w_78 : (Jvm.Cond.fieldLink "TablePager$Table" (9 : Nat) "TablePager$Table" "heights" "[I") ∈ am_tb := am_tin 176 (by decide +kernel) rfl
theorem w_81 : (Jvm.Cond.fieldLink "TablePager$Table" (15 : Nat) "TablePager$Table" "notes" "[I") ∈ am_tb := am_tin 179 (by decide +kernel) rfl
theorem w_132 : (Jvm.Cond.arrayClass Jvm.ClassFile.FieldType.boolean) ∈ am_tb := am_tin 230 (by decide +kernel) rfl
theorem w_85 : (Jvm.Cond.fieldLink "TablePager$Table" (18 : Nat) "TablePager$Table" "stays" "[Z") ∈ am_tb := am_tin 183 (by decide +kernel) rfl
theorem w_89 : (Jvm.Cond.fieldLink "TablePager$Table" (22 : Nat) "TablePager$Table" "amounts" "[I") ∈ am_tb := am_tin 187 (by decide +kernel) rfl
theorem w_90 : (Jvm.Cond.fieldLink "TablePager$Table" (25 : Nat) "TablePager$Table" "firsts" "[I") ∈ am_tb := am_tin 188 (by decide +kernel) rfl
theorem w_94 : (Jvm.Cond.fieldLink "TablePager$Table" (28 : Nat) "TablePager$Table" "lasts" "[I") ∈ am_tb := am_tin 192 (by decide +kernel) rfl
theorem w_98 : (Jvm.Cond.fieldLink "TablePager$Table" (31 : Nat) "TablePager$Table" "mayBeCut" "[Z") ∈ am_tb := am_tin 196 (by decide +kernel) rfl
theorem w_100 : (Jvm.Cond.fieldLink "TablePager$Table" (34 : Nat) "TablePager$Table" "noteHeights" "[I") ∈ am_tb := am_tin 198 (by decide +kernel) rfl
theorem w_51 : (Jvm.Cond.methodLink "TablePager$Table" (37 : Nat) ({ cls := "TablePager$Table", name := "makeNew", desc := "()V" } : Jvm.MethodName)) ∈ am_tb := am_tin 149 (by decide +kernel) rfl
theorem w_55 : (Jvm.Cond.fieldLink "TablePager$Table" (40 : Nat) "TablePager$Table" "columns" "I") ∈ am_tb := am_tin 153 (by decide +kernel) rfl
theorem w_58 : (Jvm.Cond.fieldLink "TablePager$Table" (44 : Nat) "TablePager$Table" "rows" "I") ∈ am_tb := am_tin 156 (by decide +kernel) rfl
theorem w_65 : (Jvm.Cond.fieldLink "TablePager$Table" (47 : Nat) "TablePager$Table" "spans" "I") ∈ am_tb := am_tin 163 (by decide +kernel) rfl
theorem w_68 : (Jvm.Cond.fieldLink "TablePager$Table" (50 : Nat) "TablePager$Table" "pageHeight" "I") ∈ am_tb := am_tin 166 (by decide +kernel) rfl
theorem w_74 : (Jvm.Cond.fieldLink "TablePager$Table" (53 : Nat) "TablePager$Table" "headingHeight" "I") ∈ am_tb := am_tin 172 (by decide +kernel) rfl
theorem w_510 : (Jvm.Cond.methodLink "TablePager$Table" (56 : Nat) ({ cls := "java/lang/System", name := "arraycopy", desc := "(Ljava/lang/Object;ILjava/lang/Object;II)V" } : Jvm.MethodName)) ∈ am_tb := am_tin 608 (by decide +kernel) rfl
theorem w_512 : (Jvm.Cond.native ({ cls := "java/lang/System", name := "arraycopy", desc := "(Ljava/lang/Object;ILjava/lang/Object;II)V" } : Jvm.MethodName)) ∈ am_tb := am_tin 610 (by decide +kernel) rfl
theorem w_511 : (Jvm.Cond.static ({ cls := "java/lang/System", name := "arraycopy", desc := "(Ljava/lang/Object;ILjava/lang/Object;II)V" } : Jvm.MethodName)) ∈ am_tb := am_tin 609 (by decide +kernel) rfl
theorem w_17 : (Jvm.Cond.initialized "java/lang/System") ∈ am_tb := am_tin 115 (by decide +kernel) rfl
theorem w_699 : (Jvm.Cond.methodLink "TablePager$Table" (62 : Nat) ({ cls := "TablePager$Table", name := "amountAt", desc := "(II)I" } : Jvm.MethodName)) ∈ am_tb := am_tin 797 (by decide +kernel) rfl
theorem w_327 : (Jvm.Cond.methodLink "TablePager$Table" (66 : Nat) ({ cls := "TablePager$Table", name := "putAmount", desc := "(III)V" } : Jvm.MethodName)) ∈ am_tb := am_tin 425 (by decide +kernel) rfl
theorem w_761 : (Jvm.Cond.methodLink "TablePager$Table" (70 : Nat) ({ cls := "TablePager$Table", name := "takeRowFromSpans", desc := "(I)I" } : Jvm.MethodName)) ∈ am_tb := am_tin 859 (by decide +kernel) rfl
theorem w_765 : (Jvm.Cond.methodLink "TablePager$Table" (74 : Nat) ({ cls := "TablePager$Table", name := "putSpan", desc := "(IIZ)V" } : Jvm.MethodName)) ∈ am_tb := am_tin 863 (by decide +kernel) rfl
theorem w_369 : (Jvm.Cond.methodLink "TablePager$Table" (78 : Nat) ({ cls := "TablePager$Table", name := "upTo", desc := "(I)I" } : Jvm.MethodName)) ∈ am_tb := am_tin 467 (by decide +kernel) rfl
theorem w_365 : (Jvm.Cond.methodLink "TablePager$Table" (81 : Nat) ({ cls := "TablePager$Table", name := "cutRows", desc := "()I" } : Jvm.MethodName)) ∈ am_tb := am_tin 463 (by decide +kernel) rfl
theorem w_923 : (Jvm.Cond.methodLink "TablePager$Table" (85 : Nat) ({ cls := "TablePager$Table", name := "isFull", desc := "()Z" } : Jvm.MethodName)) ∈ am_tb := am_tin 1021 (by decide +kernel) rfl
theorem w_924 : (Jvm.Cond.methodLink "TablePager$Table" (89 : Nat) ({ cls := "TablePager$Table", name := "putRow", desc := "(II)V" } : Jvm.MethodName)) ∈ am_tb := am_tin 1022 (by decide +kernel) rfl
theorem w_925 : (Jvm.Cond.methodLink "TablePager$Table" (93 : Nat) ({ cls := "TablePager$Table", name := "dropRow", desc := "(I)I" } : Jvm.MethodName)) ∈ am_tb := am_tin 1023 (by decide +kernel) rfl
theorem w_234 : (Jvm.Cond.methodLink "TablePager$Command" (1 : Nat) ({ cls := "java/lang/Object", name := "<init>", desc := "()V" } : Jvm.MethodName)) ∈ am_tb := am_tin 332 (by decide +kernel) rfl
theorem w_235 : (Jvm.Cond.fieldLink "TablePager$Command" (7 : Nat) "TablePager$Command" "kind" "I") ∈ am_tb := am_tin 333 (by decide +kernel) rfl
theorem w_236 : (Jvm.Cond.fieldLink "TablePager$Command" (13 : Nat) "TablePager$Command" "second" "I") ∈ am_tb := am_tin 334 (by decide +kernel) rfl
theorem w_237 : (Jvm.Cond.fieldLink "TablePager$Command" (16 : Nat) "TablePager$Command" "third" "I") ∈ am_tb := am_tin 335 (by decide +kernel) rfl
theorem w_238 : (Jvm.Cond.fieldLink "TablePager$Command" (19 : Nat) "TablePager$Command" "fourth" "I") ∈ am_tb := am_tin 336 (by decide +kernel) rfl
theorem w_239 : (Jvm.Cond.fieldLink "TablePager$Command" (22 : Nat) "TablePager$Command" "fifth" "I") ∈ am_tb := am_tin 337 (by decide +kernel) rfl
theorem w_867 : (Jvm.Cond.methodLink "TablePager$Command" (25 : Nat) ({ cls := "TablePager$Command", name := "addsRow", desc := "(LTablePager$Table;)Z" } : Jvm.MethodName)) ∈ am_tb := am_tin 965 (by decide +kernel) rfl
theorem w_874 : (Jvm.Cond.methodLink "TablePager$Command" (29 : Nat) ({ cls := "TablePager$Command", name := "putsAmount", desc := "(LTablePager$Table;)Z" } : Jvm.MethodName)) ∈ am_tb := am_tin 972 (by decide +kernel) rfl
theorem w_885 : (Jvm.Cond.methodLink "TablePager$Command" (32 : Nat) ({ cls := "TablePager$Command", name := "marksRow", desc := "(LTablePager$Table;)Z" } : Jvm.MethodName)) ∈ am_tb := am_tin 983 (by decide +kernel) rfl
theorem w_889 : (Jvm.Cond.methodLink "TablePager$Command" (35 : Nat) ({ cls := "TablePager$Command", name := "dropsRow", desc := "(LTablePager$Table;)Z" } : Jvm.MethodName)) ∈ am_tb := am_tin 987 (by decide +kernel) rfl
theorem w_894 : (Jvm.Cond.methodLink "TablePager$Command" (38 : Nat) ({ cls := "TablePager$Command", name := "putsHeight", desc := "(LTablePager$Table;)Z" } : Jvm.MethodName)) ∈ am_tb := am_tin 992 (by decide +kernel) rfl
theorem w_900 : (Jvm.Cond.methodLink "TablePager$Command" (41 : Nat) ({ cls := "TablePager$Command", name := "holds", desc := "(LTablePager$Table;LTablePager$Layout;)Z" } : Jvm.MethodName)) ∈ am_tb := am_tin 998 (by decide +kernel) rfl
theorem w_70 : (Jvm.Cond.fieldLinkNest "TablePager$Command" (45 : Nat) "TablePager$Table" "pageHeight" "I" "TablePager") ∈ am_tb := am_tin 168 (by decide +kernel) rfl
theorem w_904 : (Jvm.Cond.methodLinkNest "TablePager$Command" (50 : Nat) ({ cls := "TablePager$Layout", name := "lay", desc := "(LTablePager$Table;I)V" } : Jvm.MethodName) "TablePager") ∈ am_tb := am_tin 1002 (by decide +kernel) rfl
theorem w_195 : (Jvm.Cond.fieldLinkNest "TablePager$Command" (56 : Nat) "TablePager$Layout" "pages" "I" "TablePager") ∈ am_tb := am_tin 293 (by decide +kernel) rfl
theorem w_878 : (Jvm.Cond.methodLink "TablePager$Command" (59 : Nat) ({ cls := "TablePager$Command", name := "firstPair", desc := "()I" } : Jvm.MethodName)) ∈ am_tb := am_tin 976 (by decide +kernel) rfl
theorem w_905 : (Jvm.Cond.methodLinkNest "TablePager$Command" (63 : Nat) ({ cls := "TablePager$Layout", name := "hasPage", desc := "(I)Z" } : Jvm.MethodName) "TablePager") ∈ am_tb := am_tin 1003 (by decide +kernel) rfl
theorem w_906 : (Jvm.Cond.methodLinkNest "TablePager$Command" (67 : Nat) ({ cls := "TablePager$Layout", name := "lastOf", desc := "(I)I" } : Jvm.MethodName) "TablePager") ∈ am_tb := am_tin 1004 (by decide +kernel) rfl
theorem w_907 : (Jvm.Cond.methodLinkNest "TablePager$Command" (71 : Nat) ({ cls := "TablePager$Table", name := "hasSpan", desc := "(I)Z" } : Jvm.MethodName) "TablePager") ∈ am_tb := am_tin 1005 (by decide +kernel) rfl
theorem w_908 : (Jvm.Cond.methodLinkNest "TablePager$Command" (74 : Nat) ({ cls := "TablePager$Layout", name := "pagesOfSpan", desc := "(LTablePager$Table;I)I" } : Jvm.MethodName) "TablePager") ∈ am_tb := am_tin 1006 (by decide +kernel) rfl
theorem w_198 : (Jvm.Cond.fieldLinkNest "TablePager$Command" (78 : Nat) "TablePager$Layout" "overfull" "I" "TablePager") ∈ am_tb := am_tin 296 (by decide +kernel) rfl
theorem w_871 : (Jvm.Cond.methodLinkNest "TablePager$Command" (81 : Nat) ({ cls := "TablePager$Table", name := "allowsRow", desc := "(II)Z" } : Jvm.MethodName) "TablePager") ∈ am_tb := am_tin 969 (by decide +kernel) rfl
theorem w_872 : (Jvm.Cond.methodLinkNest "TablePager$Command" (85 : Nat) ({ cls := "TablePager$Table", name := "isFull", desc := "()Z" } : Jvm.MethodName) "TablePager") ∈ am_tb := am_tin 970 (by decide +kernel) rfl
theorem w_873 : (Jvm.Cond.methodLinkNest "TablePager$Command" (89 : Nat) ({ cls := "TablePager$Table", name := "putRow", desc := "(II)V" } : Jvm.MethodName) "TablePager") ∈ am_tb := am_tin 971 (by decide +kernel) rfl
theorem w_882 : (Jvm.Cond.methodLinkNest "TablePager$Command" (93 : Nat) ({ cls := "TablePager$Table", name := "hasRow", desc := "(I)Z" } : Jvm.MethodName) "TablePager") ∈ am_tb := am_tin 980 (by decide +kernel) rfl
theorem w_883 : (Jvm.Cond.methodLinkNest "TablePager$Command" (96 : Nat) ({ cls := "TablePager$Table", name := "hasColumn", desc := "(I)Z" } : Jvm.MethodName) "TablePager") ∈ am_tb := am_tin 981 (by decide +kernel) rfl
theorem w_884 : (Jvm.Cond.methodLinkNest "TablePager$Command" (99 : Nat) ({ cls := "TablePager$Table", name := "putAmount", desc := "(III)V" } : Jvm.MethodName) "TablePager") ∈ am_tb := am_tin 982 (by decide +kernel) rfl
theorem w_88 : (Jvm.Cond.fieldLinkNest "TablePager$Command" (103 : Nat) "TablePager$Table" "stays" "[Z" "TablePager") ∈ am_tb := am_tin 186 (by decide +kernel) rfl
theorem w_893 : (Jvm.Cond.methodLinkNest "TablePager$Command" (107 : Nat) ({ cls := "TablePager$Table", name := "dropRow", desc := "(I)I" } : Jvm.MethodName) "TablePager") ∈ am_tb := am_tin 991 (by decide +kernel) rfl
theorem w_898 : (Jvm.Cond.methodLinkNest "TablePager$Command" (110 : Nat) ({ cls := "TablePager$Table", name := "allowsHeight", desc := "(II)Z" } : Jvm.MethodName) "TablePager") ∈ am_tb := am_tin 996 (by decide +kernel) rfl
theorem w_899 : (Jvm.Cond.methodLinkNest "TablePager$Command" (113 : Nat) ({ cls := "TablePager$Table", name := "putHeight", desc := "(II)V" } : Jvm.MethodName) "TablePager") ∈ am_tb := am_tin 997 (by decide +kernel) rfl
theorem w_216 : (Jvm.Cond.methodLink "TablePager$Evener" (3 : Nat) ({ cls := "java/lang/Object", name := "<init>", desc := "()V" } : Jvm.MethodName)) ∈ am_tb := am_tin 314 (by decide +kernel) rfl
theorem w_219 : (Jvm.Cond.fieldLink "TablePager$Evener" (9 : Nat) "TablePager$Evener" "costs" "[I") ∈ am_tb := am_tin 317 (by decide +kernel) rfl
theorem w_220 : (Jvm.Cond.fieldLink "TablePager$Evener" (15 : Nat) "TablePager$Evener" "ends" "[I") ∈ am_tb := am_tin 318 (by decide +kernel) rfl
theorem w_217 : (Jvm.Cond.classLink "TablePager$Evener" (18 : Nat) "TablePager$Sheet") ∈ am_tb := am_tin 315 (by decide +kernel) rfl
theorem w_218 : (Jvm.Cond.methodLinkNest "TablePager$Evener" (20 : Nat) ({ cls := "TablePager$Sheet", name := "<init>", desc := "()V" } : Jvm.MethodName) "TablePager") ∈ am_tb := am_tin 316 (by decide +kernel) rfl
theorem w_221 : (Jvm.Cond.fieldLink "TablePager$Evener" (21 : Nat) "TablePager$Evener" "sheet" "LTablePager$Sheet;") ∈ am_tb := am_tin 319 (by decide +kernel) rfl
theorem w_361 : (Jvm.Cond.methodLinkNest "TablePager$Evener" (25 : Nat) ({ cls := "TablePager$Table", name := "endRows", desc := "()I" } : Jvm.MethodName) "TablePager") ∈ am_tb := am_tin 459 (by decide +kernel) rfl
theorem w_59 : (Jvm.Cond.fieldLinkNest "TablePager$Evener" (31 : Nat) "TablePager$Table" "rows" "I" "TablePager") ∈ am_tb := am_tin 157 (by decide +kernel) rfl
theorem w_372 : (Jvm.Cond.methodLink "TablePager$Evener" (35 : Nat) ({ cls := "TablePager$Evener", name := "chooseEnd", desc := "(LTablePager$Table;II)V" } : Jvm.MethodName)) ∈ am_tb := am_tin 470 (by decide +kernel) rfl
theorem w_376 : (Jvm.Cond.methodLinkNest "TablePager$Evener" (39 : Nat) ({ cls := "TablePager$Sheet", name := "begin", desc := "(LTablePager$Table;I)V" } : Jvm.MethodName) "TablePager") ∈ am_tb := am_tin 474 (by decide +kernel) rfl
theorem w_380 : (Jvm.Cond.methodLinkNest "TablePager$Evener" (43 : Nat) ({ cls := "TablePager$Sheet", name := "take", desc := "(LTablePager$Table;I)V" } : Jvm.MethodName) "TablePager") ∈ am_tb := am_tin 478 (by decide +kernel) rfl
theorem w_387 : (Jvm.Cond.methodLinkNest "TablePager$Evener" (46 : Nat) ({ cls := "TablePager", name := "isIn", desc := "(II)Z" } : Jvm.MethodName) "TablePager") ∈ am_tb := am_tin 485 (by decide +kernel) rfl
theorem w_388 : (Jvm.Cond.methodLink "TablePager$Evener" (50 : Nat) ({ cls := "TablePager$Evener", name := "costOfSheet", desc := "(LTablePager$Table;I)I" } : Jvm.MethodName)) ∈ am_tb := am_tin 486 (by decide +kernel) rfl
theorem w_69 : (Jvm.Cond.fieldLinkNest "TablePager$Evener" (54 : Nat) "TablePager$Table" "pageHeight" "I" "TablePager") ∈ am_tb := am_tin 167 (by decide +kernel) rfl
theorem w_392 : (Jvm.Cond.methodLinkNest "TablePager$Evener" (57 : Nat) ({ cls := "TablePager$Sheet", name := "needed", desc := "()I" } : Jvm.MethodName) "TablePager") ∈ am_tb := am_tin 490 (by decide +kernel) rfl
theorem w_834 : (Jvm.Cond.constant "TablePager$Evener" (60 : Nat) (-999999 : Int32)) ∈ am_tb := am_tin 932 (by decide +kernel) rfl
theorem w_138 : (Jvm.Cond.methodLink "TablePager$History" (3 : Nat) ({ cls := "java/lang/Object", name := "<init>", desc := "()V" } : Jvm.MethodName)) ∈ am_tb := am_tin 236 (by decide +kernel) rfl
theorem w_139 : (Jvm.Cond.classLink "TablePager$History" (9 : Nat) "TablePager$Table") ∈ am_tb := am_tin 237 (by decide +kernel) rfl
theorem w_142 : (Jvm.Cond.fieldLink "TablePager$History" (11 : Nat) "TablePager$History" "kept" "[LTablePager$Table;") ∈ am_tb := am_tin 240 (by decide +kernel) rfl
theorem w_141 : (Jvm.Cond.methodLinkNest "TablePager$History" (17 : Nat) ({ cls := "TablePager$Table", name := "<init>", desc := "()V" } : Jvm.MethodName) "TablePager") ∈ am_tb := am_tin 239 (by decide +kernel) rfl
theorem w_144 : (Jvm.Cond.fieldLink "TablePager$History" (18 : Nat) "TablePager$History" "count" "I") ∈ am_tb := am_tin 242 (by decide +kernel) rfl
theorem w_143 : (Jvm.Cond.fieldLink "TablePager$History" (22 : Nat) "TablePager$History" "next" "I") ∈ am_tb := am_tin 241 (by decide +kernel) rfl
theorem w_731 : (Jvm.Cond.methodLinkNest "TablePager$History" (25 : Nat) ({ cls := "TablePager$Table", name := "copyFrom", desc := "(LTablePager$Table;)V" } : Jvm.MethodName) "TablePager") ∈ am_tb := am_tin 829 (by decide +kernel) rfl
theorem w_732 : (Jvm.Cond.methodLink "TablePager$History" (29 : Nat) ({ cls := "java/lang/Math", name := "min", desc := "(II)I" } : Jvm.MethodName)) ∈ am_tb := am_tin 830 (by decide +kernel) rfl
theorem w_309 : (Jvm.Cond.static ({ cls := "java/lang/Math", name := "min", desc := "(II)I" } : Jvm.MethodName)) ∈ am_tb := am_tin 407 (by decide +kernel) rfl
theorem w_16 : (Jvm.Cond.initialized "java/lang/Math") ∈ am_tb := am_tin 114 (by decide +kernel) rfl
theorem w_310 : (Jvm.Cond.code ({ cls := "java/lang/Math", name := "min", desc := "(II)I" } : Jvm.MethodName) prog_16_method_69_code (2 : Nat) (Option.some Jvm.ClassFile.FieldType.int)) ∈ am_tb := am_tin 408 (by decide +kernel) rfl
theorem w_173 : (Jvm.Cond.methodLink "TablePager$Layout" (3 : Nat) ({ cls := "java/lang/Object", name := "<init>", desc := "()V" } : Jvm.MethodName)) ∈ am_tb := am_tin 271 (by decide +kernel) rfl
theorem w_200 : (Jvm.Cond.fieldLink "TablePager$Layout" (9 : Nat) "TablePager$Layout" "ends" "[I") ∈ am_tb := am_tin 298 (by decide +kernel) rfl
theorem w_174 : (Jvm.Cond.classLink "TablePager$Layout" (15 : Nat) "TablePager$Sheet") ∈ am_tb := am_tin 272 (by decide +kernel) rfl
theorem w_176 : (Jvm.Cond.methodLinkNest "TablePager$Layout" (17 : Nat) ({ cls := "TablePager$Sheet", name := "<init>", desc := "()V" } : Jvm.MethodName) "TablePager") ∈ am_tb := am_tin 274 (by decide +kernel) rfl
theorem w_201 : (Jvm.Cond.fieldLink "TablePager$Layout" (18 : Nat) "TablePager$Layout" "sheet" "LTablePager$Sheet;") ∈ am_tb := am_tin 299 (by decide +kernel) rfl
theorem w_540 : (Jvm.Cond.methodLinkNest "TablePager$Layout" (22 : Nat) ({ cls := "TablePager$Table", name := "endRows", desc := "()I" } : Jvm.MethodName) "TablePager") ∈ am_tb := am_tin 638 (by decide +kernel) rfl
theorem w_194 : (Jvm.Cond.fieldLink "TablePager$Layout" (28 : Nat) "TablePager$Layout" "pages" "I") ∈ am_tb := am_tin 292 (by decide +kernel) rfl
theorem w_197 : (Jvm.Cond.fieldLink "TablePager$Layout" (32 : Nat) "TablePager$Layout" "overfull" "I") ∈ am_tb := am_tin 295 (by decide +kernel) rfl
theorem w_60 : (Jvm.Cond.fieldLinkNest "TablePager$Layout" (35 : Nat) "TablePager$Table" "rows" "I" "TablePager") ∈ am_tb := am_tin 158 (by decide +kernel) rfl
theorem w_541 : (Jvm.Cond.methodLink "TablePager$Layout" (38 : Nat) ({ cls := "TablePager$Layout", name := "lastThatFits", desc := "(LTablePager$Table;III)I" } : Jvm.MethodName)) ∈ am_tb := am_tin 639 (by decide +kernel) rfl
theorem w_545 : (Jvm.Cond.constant "TablePager$Layout" (42 : Nat) (-999999 : Int32)) ∈ am_tb := am_tin 643 (by decide +kernel) rfl
theorem w_550 : (Jvm.Cond.methodLink "TablePager$Layout" (43 : Nat) ({ cls := "TablePager$Layout", name := "firstEnd", desc := "(II)I" } : Jvm.MethodName)) ∈ am_tb := am_tin 648 (by decide +kernel) rfl
theorem w_546 : (Jvm.Cond.methodLinkNest "TablePager$Layout" (47 : Nat) ({ cls := "TablePager$Sheet", name := "begin", desc := "(LTablePager$Table;I)V" } : Jvm.MethodName) "TablePager") ∈ am_tb := am_tin 644 (by decide +kernel) rfl
theorem w_547 : (Jvm.Cond.methodLinkNest "TablePager$Layout" (51 : Nat) ({ cls := "TablePager$Sheet", name := "take", desc := "(LTablePager$Table;I)V" } : Jvm.MethodName) "TablePager") ∈ am_tb := am_tin 645 (by decide +kernel) rfl
theorem w_548 : (Jvm.Cond.methodLinkNest "TablePager$Layout" (54 : Nat) ({ cls := "TablePager$Sheet", name := "needed", desc := "()I" } : Jvm.MethodName) "TablePager") ∈ am_tb := am_tin 646 (by decide +kernel) rfl
theorem w_549 : (Jvm.Cond.methodLinkNest "TablePager$Layout" (57 : Nat) ({ cls := "TablePager", name := "isIn", desc := "(II)Z" } : Jvm.MethodName) "TablePager") ∈ am_tb := am_tin 647 (by decide +kernel) rfl
theorem w_96 : (Jvm.Cond.fieldLinkNest "TablePager$Layout" (61 : Nat) "TablePager$Table" "lasts" "[I" "TablePager") ∈ am_tb := am_tin 194 (by decide +kernel) rfl
theorem w_561 : (Jvm.Cond.methodLink "TablePager$Layout" (64 : Nat) ({ cls := "TablePager$Layout", name := "pageOf", desc := "(I)I" } : Jvm.MethodName)) ∈ am_tb := am_tin 659 (by decide +kernel) rfl
theorem w_92 : (Jvm.Cond.fieldLinkNest "TablePager$Layout" (68 : Nat) "TablePager$Table" "firsts" "[I" "TablePager") ∈ am_tb := am_tin 190 (by decide +kernel) rfl
theorem w_67 : (Jvm.Cond.fieldLinkNest "TablePager$Layout" (71 : Nat) "TablePager$Table" "spans" "I" "TablePager") ∈ am_tb := am_tin 165 (by decide +kernel) rfl
theorem w_557 : (Jvm.Cond.methodLink "TablePager$Layout" (74 : Nat) ({ cls := "TablePager$Layout", name := "pagesOfSpan", desc := "(LTablePager$Table;I)I" } : Jvm.MethodName)) ∈ am_tb := am_tin 655 (by decide +kernel) rfl
theorem w_668 : (Jvm.Cond.methodLink "TablePager$Layout" (78 : Nat) ({ cls := "TablePager$Layout", name := "firstOf", desc := "(I)I" } : Jvm.MethodName)) ∈ am_tb := am_tin 766 (by decide +kernel) rfl
theorem w_672 : (Jvm.Cond.methodLink "TablePager$Layout" (81 : Nat) ({ cls := "TablePager$Layout", name := "lastOf", desc := "(I)I" } : Jvm.MethodName)) ∈ am_tb := am_tin 770 (by decide +kernel) rfl
theorem w_676 : (Jvm.Cond.methodLink "TablePager$Layout" (84 : Nat) ({ cls := "TablePager$Layout", name := "fill", desc := "(LTablePager$Table;II)V" } : Jvm.MethodName)) ∈ am_tb := am_tin 774 (by decide +kernel) rfl
theorem w_73 : (Jvm.Cond.fieldLinkNest "TablePager$Layout" (88 : Nat) "TablePager$Table" "pageHeight" "I" "TablePager") ∈ am_tb := am_tin 171 (by decide +kernel) rfl
theorem w_179 : (Jvm.Cond.methodLink "TablePager$Sheet" (1 : Nat) ({ cls := "java/lang/Object", name := "<init>", desc := "()V" } : Jvm.MethodName)) ∈ am_tb := am_tin 277 (by decide +kernel) rfl
theorem w_180 : (Jvm.Cond.fieldLink "TablePager$Sheet" (7 : Nat) "TablePager$Sheet" "names" "I") ∈ am_tb := am_tin 278 (by decide +kernel) rfl
theorem w_64 : (Jvm.Cond.fieldLinkNest "TablePager$Sheet" (13 : Nat) "TablePager$Table" "spans" "I" "TablePager") ∈ am_tb := am_tin 162 (by decide +kernel) rfl
theorem w_91 : (Jvm.Cond.fieldLinkNest "TablePager$Sheet" (18 : Nat) "TablePager$Table" "firsts" "[I" "TablePager") ∈ am_tb := am_tin 189 (by decide +kernel) rfl
theorem w_95 : (Jvm.Cond.fieldLinkNest "TablePager$Sheet" (22 : Nat) "TablePager$Table" "lasts" "[I" "TablePager") ∈ am_tb := am_tin 193 (by decide +kernel) rfl
theorem w_182 : (Jvm.Cond.fieldLink "TablePager$Sheet" (25 : Nat) "TablePager$Sheet" "notes" "I") ∈ am_tb := am_tin 280 (by decide +kernel) rfl
theorem w_75 : (Jvm.Cond.fieldLinkNest "TablePager$Sheet" (28 : Nat) "TablePager$Table" "headingHeight" "I" "TablePager") ∈ am_tb := am_tin 173 (by decide +kernel) rfl
theorem w_183 : (Jvm.Cond.fieldLink "TablePager$Sheet" (31 : Nat) "TablePager$Sheet" "lines" "I") ∈ am_tb := am_tin 281 (by decide +kernel) rfl
theorem w_184 : (Jvm.Cond.fieldLink "TablePager$Sheet" (34 : Nat) "TablePager$Sheet" "carry" "I") ∈ am_tb := am_tin 282 (by decide +kernel) rfl
theorem w_79 : (Jvm.Cond.fieldLinkNest "TablePager$Sheet" (37 : Nat) "TablePager$Table" "heights" "[I" "TablePager") ∈ am_tb := am_tin 177 (by decide +kernel) rfl
theorem w_82 : (Jvm.Cond.fieldLinkNest "TablePager$Sheet" (40 : Nat) "TablePager$Table" "notes" "[I" "TablePager") ∈ am_tb := am_tin 180 (by decide +kernel) rfl
theorem w_384 : (Jvm.Cond.methodLinkNest "TablePager$Sheet" (42 : Nat) ({ cls := "TablePager", name := "isIn", desc := "(II)Z" } : Jvm.MethodName) "TablePager") ∈ am_tb := am_tin 482 (by decide +kernel) rfl
theorem w_101 : (Jvm.Cond.fieldLinkNest "TablePager$Sheet" (48 : Nat) "TablePager$Table" "noteHeights" "[I" "TablePager") ∈ am_tb := am_tin 199 (by decide +kernel) rfl
theorem w_61 : (Jvm.Cond.fieldLinkNest "TablePager$Sheet" (51 : Nat) "TablePager$Table" "rows" "I" "TablePager") ∈ am_tb := am_tin 159 (by decide +kernel) rfl
theorem w_158 : (Jvm.Cond.methodLink "TablePager$Slots" (3 : Nat) ({ cls := "java/lang/Object", name := "<init>", desc := "()V" } : Jvm.MethodName)) ∈ am_tb := am_tin 256 (by decide +kernel) rfl
theorem w_159 : (Jvm.Cond.classLink "TablePager$Slots" (9 : Nat) "TablePager$Table") ∈ am_tb := am_tin 257 (by decide +kernel) rfl
theorem w_161 : (Jvm.Cond.fieldLink "TablePager$Slots" (11 : Nat) "TablePager$Slots" "kept" "[LTablePager$Table;") ∈ am_tb := am_tin 259 (by decide +kernel) rfl
theorem w_162 : (Jvm.Cond.fieldLink "TablePager$Slots" (17 : Nat) "TablePager$Slots" "filled" "[Z") ∈ am_tb := am_tin 260 (by decide +kernel) rfl
theorem w_160 : (Jvm.Cond.methodLinkNest "TablePager$Slots" (21 : Nat) ({ cls := "TablePager$Table", name := "<init>", desc := "()V" } : Jvm.MethodName) "TablePager") ∈ am_tb := am_tin 258 (by decide +kernel) rfl
theorem w_942 : (Jvm.Cond.methodLinkNest "TablePager$Slots" (22 : Nat) ({ cls := "TablePager$Table", name := "copyFrom", desc := "(LTablePager$Table;)V" } : Jvm.MethodName) "TablePager") ∈ am_tb := am_tin 1040 (by decide +kernel) rfl
theorem w_32 : (Jvm.Cond.methodLink "TablePager$Text" (3 : Nat) ({ cls := "java/lang/Object", name := "<init>", desc := "()V" } : Jvm.MethodName)) ∈ am_tb := am_tin 130 (by decide +kernel) rfl
theorem w_44 : (Jvm.Cond.arrayClass Jvm.ClassFile.FieldType.char) ∈ am_tb := am_tin 142 (by decide +kernel) rfl
theorem w_33 : (Jvm.Cond.fieldLink "TablePager$Text" (9 : Nat) "TablePager$Text" "signs" "[C") ∈ am_tb := am_tin 131 (by decide +kernel) rfl
theorem w_34 : (Jvm.Cond.fieldLink "TablePager$Text" (15 : Nat) "TablePager$Text" "length" "I") ∈ am_tb := am_tin 132 (by decide +kernel) rfl
theorem w_36 : (Jvm.Cond.fieldLink "TablePager$Text" (19 : Nat) "TablePager$Text" "at" "I") ∈ am_tb := am_tin 134 (by decide +kernel) rfl
theorem w_288 : (Jvm.Cond.methodLinkNest "TablePager$Text" (22 : Nat) ({ cls := "TablePager$Table", name := "makeNew", desc := "()V" } : Jvm.MethodName) "TablePager") ∈ am_tb := am_tin 386 (by decide +kernel) rfl
theorem w_289 : (Jvm.Cond.methodLink "TablePager$Text" (27 : Nat) ({ cls := "TablePager$Text", name := "readHead", desc := "(LTablePager$Table;)Z" } : Jvm.MethodName)) ∈ am_tb := am_tin 387 (by decide +kernel) rfl
theorem w_311 : (Jvm.Cond.methodLink "TablePager$Text" (31 : Nat) ({ cls := "TablePager$Text", name := "readPart", desc := "(LTablePager$Table;)Z" } : Jvm.MethodName)) ∈ am_tb := am_tin 409 (by decide +kernel) rfl
theorem w_352 : (Jvm.Cond.constant "TablePager$Text" (34 : Nat) (-999999 : Int32)) ∈ am_tb := am_tin 450 (by decide +kernel) rfl
theorem w_293 : (Jvm.Cond.methodLink "TablePager$Text" (35 : Nat) ({ cls := "TablePager$Text", name := "takeSign", desc := "(C)Z" } : Jvm.MethodName)) ∈ am_tb := am_tin 391 (by decide +kernel) rfl
theorem w_297 : (Jvm.Cond.methodLink "TablePager$Text" (39 : Nat) ({ cls := "TablePager$Text", name := "takeDigit", desc := "(II)I" } : Jvm.MethodName)) ∈ am_tb := am_tin 395 (by decide +kernel) rfl
theorem w_301 : (Jvm.Cond.methodLink "TablePager$Text" (43 : Nat) ({ cls := "TablePager$Text", name := "takePair", desc := "(II)I" } : Jvm.MethodName)) ∈ am_tb := am_tin 399 (by decide +kernel) rfl
theorem w_56 : (Jvm.Cond.fieldLinkNest "TablePager$Text" (46 : Nat) "TablePager$Table" "columns" "I" "TablePager") ∈ am_tb := am_tin 154 (by decide +kernel) rfl
theorem w_71 : (Jvm.Cond.fieldLinkNest "TablePager$Text" (49 : Nat) "TablePager$Table" "pageHeight" "I" "TablePager") ∈ am_tb := am_tin 169 (by decide +kernel) rfl
theorem w_76 : (Jvm.Cond.fieldLinkNest "TablePager$Text" (52 : Nat) "TablePager$Table" "headingHeight" "I" "TablePager") ∈ am_tb := am_tin 174 (by decide +kernel) rfl
theorem w_315 : (Jvm.Cond.methodLinkNest "TablePager$Text" (55 : Nat) ({ cls := "TablePager$Table", name := "isFull", desc := "()Z" } : Jvm.MethodName) "TablePager") ∈ am_tb := am_tin 413 (by decide +kernel) rfl
theorem w_319 : (Jvm.Cond.methodLink "TablePager$Text" (59 : Nat) ({ cls := "TablePager$Text", name := "readRow", desc := "(LTablePager$Table;)Z" } : Jvm.MethodName)) ∈ am_tb := am_tin 417 (by decide +kernel) rfl
theorem w_63 : (Jvm.Cond.fieldLinkNest "TablePager$Text" (62 : Nat) "TablePager$Table" "rows" "I" "TablePager") ∈ am_tb := am_tin 161 (by decide +kernel) rfl
theorem w_86 : (Jvm.Cond.fieldLinkNest "TablePager$Text" (65 : Nat) "TablePager$Table" "stays" "[Z" "TablePager") ∈ am_tb := am_tin 184 (by decide +kernel) rfl
theorem w_332 : (Jvm.Cond.methodLink "TablePager$Text" (69 : Nat) ({ cls := "TablePager$Text", name := "readNote", desc := "(LTablePager$Table;)Z" } : Jvm.MethodName)) ∈ am_tb := am_tin 430 (by decide +kernel) rfl
theorem w_336 : (Jvm.Cond.methodLink "TablePager$Text" (72 : Nat) ({ cls := "TablePager$Text", name := "readNoteHeight", desc := "(LTablePager$Table;)Z" } : Jvm.MethodName)) ∈ am_tb := am_tin 434 (by decide +kernel) rfl
theorem w_340 : (Jvm.Cond.methodLinkNest "TablePager$Text" (75 : Nat) ({ cls := "TablePager$Table", name := "hasAllSpans", desc := "()Z" } : Jvm.MethodName) "TablePager") ∈ am_tb := am_tin 438 (by decide +kernel) rfl
theorem w_344 : (Jvm.Cond.methodLink "TablePager$Text" (78 : Nat) ({ cls := "TablePager$Text", name := "readSpan", desc := "(LTablePager$Table;)Z" } : Jvm.MethodName)) ∈ am_tb := am_tin 442 (by decide +kernel) rfl
theorem w_323 : (Jvm.Cond.methodLinkNest "TablePager$Text" (81 : Nat) ({ cls := "TablePager$Table", name := "putRow", desc := "(II)V" } : Jvm.MethodName) "TablePager") ∈ am_tb := am_tin 421 (by decide +kernel) rfl
theorem w_331 : (Jvm.Cond.methodLinkNest "TablePager$Text" (85 : Nat) ({ cls := "TablePager$Table", name := "putAmount", desc := "(III)V" } : Jvm.MethodName) "TablePager") ∈ am_tb := am_tin 429 (by decide +kernel) rfl
theorem w_84 : (Jvm.Cond.fieldLinkNest "TablePager$Text" (89 : Nat) "TablePager$Table" "notes" "[I" "TablePager") ∈ am_tb := am_tin 182 (by decide +kernel) rfl
theorem w_102 : (Jvm.Cond.fieldLinkNest "TablePager$Text" (93 : Nat) "TablePager$Table" "noteHeights" "[I" "TablePager") ∈ am_tb := am_tin 200 (by decide +kernel) rfl
theorem w_348 : (Jvm.Cond.methodLinkNest "TablePager$Text" (96 : Nat) ({ cls := "TablePager$Table", name := "putSpan", desc := "(IIZ)V" } : Jvm.MethodName) "TablePager") ∈ am_tb := am_tin 446 (by decide +kernel) rfl
theorem w_305 : (Jvm.Cond.methodLink "TablePager$Text" (100 : Nat) ({ cls := "java/lang/Math", name := "max", desc := "(II)I" } : Jvm.MethodName)) ∈ am_tb := am_tin 403 (by decide +kernel) rfl
theorem w_306 : (Jvm.Cond.static ({ cls := "java/lang/Math", name := "max", desc := "(II)I" } : Jvm.MethodName)) ∈ am_tb := am_tin 404 (by decide +kernel) rfl
theorem w_307 : (Jvm.Cond.code ({ cls := "java/lang/Math", name := "max", desc := "(II)I" } : Jvm.MethodName) prog_16_method_65_code (2 : Nat) (Option.some Jvm.ClassFile.FieldType.int)) ∈ am_tb := am_tin 405 (by decide +kernel) rfl
theorem w_308 : (Jvm.Cond.methodLink "TablePager$Text" (105 : Nat) ({ cls := "java/lang/Math", name := "min", desc := "(II)I" } : Jvm.MethodName)) ∈ am_tb := am_tin 406 (by decide +kernel) rfl
theorem w_24 : (Jvm.Cond.methodLink "TablePager" (1 : Nat) ({ cls := "java/lang/Object", name := "<init>", desc := "()V" } : Jvm.MethodName)) ∈ am_tb := am_tin 122 (by decide +kernel) rfl
theorem w_27 : (Jvm.Cond.classLink "TablePager" (7 : Nat) "TablePager$Text") ∈ am_tb := am_tin 125 (by decide +kernel) rfl
theorem w_29 : (Jvm.Cond.methodLinkNest "TablePager" (9 : Nat) ({ cls := "TablePager$Text", name := "<init>", desc := "()V" } : Jvm.MethodName) "TablePager") ∈ am_tb := am_tin 127 (by decide +kernel) rfl
theorem w_251 : (Jvm.Cond.fieldLink "TablePager" (10 : Nat) "TablePager" "text" "LTablePager$Text;") ∈ am_tb := am_tin 349 (by decide +kernel) rfl
theorem w_45 : (Jvm.Cond.classLink "TablePager" (16 : Nat) "TablePager$Table") ∈ am_tb := am_tin 143 (by decide +kernel) rfl
theorem w_47 : (Jvm.Cond.methodLinkNest "TablePager" (18 : Nat) ({ cls := "TablePager$Table", name := "<init>", desc := "()V" } : Jvm.MethodName) "TablePager") ∈ am_tb := am_tin 145 (by decide +kernel) rfl
theorem w_252 : (Jvm.Cond.fieldLink "TablePager" (19 : Nat) "TablePager" "table" "LTablePager$Table;") ∈ am_tb := am_tin 350 (by decide +kernel) rfl
theorem w_133 : (Jvm.Cond.classLink "TablePager" (23 : Nat) "TablePager$History") ∈ am_tb := am_tin 231 (by decide +kernel) rfl
theorem w_135 : (Jvm.Cond.methodLinkNest "TablePager" (25 : Nat) ({ cls := "TablePager$History", name := "<init>", desc := "()V" } : Jvm.MethodName) "TablePager") ∈ am_tb := am_tin 233 (by decide +kernel) rfl
theorem w_253 : (Jvm.Cond.fieldLink "TablePager" (26 : Nat) "TablePager" "history" "LTablePager$History;") ∈ am_tb := am_tin 351 (by decide +kernel) rfl
theorem w_153 : (Jvm.Cond.classLink "TablePager" (30 : Nat) "TablePager$Slots") ∈ am_tb := am_tin 251 (by decide +kernel) rfl
theorem w_155 : (Jvm.Cond.methodLinkNest "TablePager" (32 : Nat) ({ cls := "TablePager$Slots", name := "<init>", desc := "()V" } : Jvm.MethodName) "TablePager") ∈ am_tb := am_tin 253 (by decide +kernel) rfl
theorem w_254 : (Jvm.Cond.fieldLink "TablePager" (33 : Nat) "TablePager" "slots" "LTablePager$Slots;") ∈ am_tb := am_tin 352 (by decide +kernel) rfl
theorem w_168 : (Jvm.Cond.classLink "TablePager" (37 : Nat) "TablePager$Layout") ∈ am_tb := am_tin 266 (by decide +kernel) rfl
theorem w_170 : (Jvm.Cond.methodLinkNest "TablePager" (39 : Nat) ({ cls := "TablePager$Layout", name := "<init>", desc := "()V" } : Jvm.MethodName) "TablePager") ∈ am_tb := am_tin 268 (by decide +kernel) rfl
theorem w_255 : (Jvm.Cond.fieldLink "TablePager" (40 : Nat) "TablePager" "layout" "LTablePager$Layout;") ∈ am_tb := am_tin 353 (by decide +kernel) rfl
theorem w_211 : (Jvm.Cond.classLink "TablePager" (44 : Nat) "TablePager$Evener") ∈ am_tb := am_tin 309 (by decide +kernel) rfl
theorem w_213 : (Jvm.Cond.methodLinkNest "TablePager" (46 : Nat) ({ cls := "TablePager$Evener", name := "<init>", desc := "()V" } : Jvm.MethodName) "TablePager") ∈ am_tb := am_tin 311 (by decide +kernel) rfl
theorem w_256 : (Jvm.Cond.fieldLink "TablePager" (47 : Nat) "TablePager" "evener" "LTablePager$Evener;") ∈ am_tb := am_tin 354 (by decide +kernel) rfl
theorem w_229 : (Jvm.Cond.classLink "TablePager" (51 : Nat) "TablePager$Command") ∈ am_tb := am_tin 327 (by decide +kernel) rfl
theorem w_231 : (Jvm.Cond.methodLinkNest "TablePager" (53 : Nat) ({ cls := "TablePager$Command", name := "<init>", desc := "()V" } : Jvm.MethodName) "TablePager") ∈ am_tb := am_tin 329 (by decide +kernel) rfl
theorem w_257 : (Jvm.Cond.fieldLink "TablePager" (54 : Nat) "TablePager" "command" "LTablePager$Command;") ∈ am_tb := am_tin 355 (by decide +kernel) rfl
theorem w_258 : (Jvm.Cond.fieldLink "TablePager" (58 : Nat) "TablePager" "scratch" "LTablePager$Table;") ∈ am_tb := am_tin 356 (by decide +kernel) rfl
theorem w_473 : (Jvm.Cond.methodLinkNest "TablePager" (68 : Nat) ({ cls := "TablePager$Text", name := "isFull", desc := "()Z" } : Jvm.MethodName) "TablePager") ∈ am_tb := am_tin 571 (by decide +kernel) rfl
theorem w_493 : (Jvm.Cond.methodLinkNest "TablePager" (77 : Nat) ({ cls := "TablePager$Text", name := "put", desc := "(C)V" } : Jvm.MethodName) "TablePager") ∈ am_tb := am_tin 591 (by decide +kernel) rfl
theorem w_35 : (Jvm.Cond.fieldLinkNest "TablePager" (81 : Nat) "TablePager$Text" "length" "I" "TablePager") ∈ am_tb := am_tin 133 (by decide +kernel) rfl
theorem w_284 : (Jvm.Cond.methodLinkNest "TablePager" (85 : Nat) ({ cls := "TablePager$Text", name := "readInto", desc := "(LTablePager$Table;)I" } : Jvm.MethodName) "TablePager") ∈ am_tb := am_tin 382 (by decide +kernel) rfl
theorem w_504 : (Jvm.Cond.constant "TablePager" (89 : Nat) (-999999 : Int32)) ∈ am_tb := am_tin 602 (by decide +kernel) rfl
theorem w_506 : (Jvm.Cond.methodLinkNest "TablePager" (92 : Nat) ({ cls := "TablePager$Table", name := "copyFrom", desc := "(LTablePager$Table;)V" } : Jvm.MethodName) "TablePager") ∈ am_tb := am_tin 604 (by decide +kernel) rfl
theorem w_513 : (Jvm.Cond.methodLinkNest "TablePager" (96 : Nat) ({ cls := "TablePager$History", name := "forget", desc := "()V" } : Jvm.MethodName) "TablePager") ∈ am_tb := am_tin 611 (by decide +kernel) rfl
theorem w_517 : (Jvm.Cond.methodLinkNest "TablePager" (99 : Nat) ({ cls := "TablePager$Slots", name := "empty", desc := "()V" } : Jvm.MethodName) "TablePager") ∈ am_tb := am_tin 615 (by decide +kernel) rfl
theorem w_62 : (Jvm.Cond.fieldLinkNest "TablePager" (102 : Nat) "TablePager$Table" "rows" "I" "TablePager") ∈ am_tb := am_tin 160 (by decide +kernel) rfl
theorem w_57 : (Jvm.Cond.fieldLinkNest "TablePager" (105 : Nat) "TablePager$Table" "columns" "I" "TablePager") ∈ am_tb := am_tin 155 (by decide +kernel) rfl
theorem w_66 : (Jvm.Cond.fieldLinkNest "TablePager" (108 : Nat) "TablePager$Table" "spans" "I" "TablePager") ∈ am_tb := am_tin 164 (by decide +kernel) rfl
theorem w_72 : (Jvm.Cond.fieldLinkNest "TablePager" (111 : Nat) "TablePager$Table" "pageHeight" "I" "TablePager") ∈ am_tb := am_tin 170 (by decide +kernel) rfl
theorem w_77 : (Jvm.Cond.fieldLinkNest "TablePager" (114 : Nat) "TablePager$Table" "headingHeight" "I" "TablePager") ∈ am_tb := am_tin 175 (by decide +kernel) rfl
theorem w_528 : (Jvm.Cond.methodLink "TablePager" (117 : Nat) ({ cls := "TablePager", name := "countPages", desc := "()I" } : Jvm.MethodName)) ∈ am_tb := am_tin 626 (by decide +kernel) rfl
theorem w_532 : (Jvm.Cond.methodLink "TablePager" (121 : Nat) ({ cls := "TablePager", name := "layOut", desc := "()V" } : Jvm.MethodName)) ∈ am_tb := am_tin 630 (by decide +kernel) rfl
theorem w_199 : (Jvm.Cond.fieldLinkNest "TablePager" (124 : Nat) "TablePager$Layout" "overfull" "I" "TablePager") ∈ am_tb := am_tin 297 (by decide +kernel) rfl
theorem w_553 : (Jvm.Cond.methodLinkNest "TablePager" (127 : Nat) ({ cls := "TablePager$Layout", name := "countCutSpans", desc := "(LTablePager$Table;)I" } : Jvm.MethodName) "TablePager") ∈ am_tb := am_tin 651 (by decide +kernel) rfl
theorem w_574 : (Jvm.Cond.methodLink "TablePager" (132 : Nat) ({ cls := "TablePager", name := "requireRow", desc := "(I)V" } : Jvm.MethodName)) ∈ am_tb := am_tin 672 (by decide +kernel) rfl
theorem w_80 : (Jvm.Cond.fieldLinkNest "TablePager" (136 : Nat) "TablePager$Table" "heights" "[I" "TablePager") ∈ am_tb := am_tin 178 (by decide +kernel) rfl
theorem w_83 : (Jvm.Cond.fieldLinkNest "TablePager" (140 : Nat) "TablePager$Table" "notes" "[I" "TablePager") ∈ am_tb := am_tin 181 (by decide +kernel) rfl
theorem w_87 : (Jvm.Cond.fieldLinkNest "TablePager" (143 : Nat) "TablePager$Table" "stays" "[Z" "TablePager") ∈ am_tb := am_tin 185 (by decide +kernel) rfl
theorem w_598 : (Jvm.Cond.methodLinkNest "TablePager" (147 : Nat) ({ cls := "TablePager$Table", name := "cutRows", desc := "()I" } : Jvm.MethodName) "TablePager") ∈ am_tb := am_tin 696 (by decide +kernel) rfl
theorem w_599 : (Jvm.Cond.methodLink "TablePager" (150 : Nat) ({ cls := "TablePager", name := "isIn", desc := "(II)Z" } : Jvm.MethodName)) ∈ am_tb := am_tin 697 (by decide +kernel) rfl
theorem w_600 : (Jvm.Cond.methodLinkNest "TablePager" (154 : Nat) ({ cls := "TablePager$Layout", name := "pageOf", desc := "(I)I" } : Jvm.MethodName) "TablePager") ∈ am_tb := am_tin 698 (by decide +kernel) rfl
theorem w_609 : (Jvm.Cond.methodLink "TablePager" (160 : Nat) ({ cls := "TablePager", name := "requireColumn", desc := "(I)V" } : Jvm.MethodName)) ∈ am_tb := am_tin 707 (by decide +kernel) rfl
theorem w_618 : (Jvm.Cond.methodLinkNest "TablePager" (163 : Nat) ({ cls := "TablePager$Table", name := "amountAt", desc := "(II)I" } : Jvm.MethodName) "TablePager") ∈ am_tb := am_tin 716 (by decide +kernel) rfl
theorem w_629 : (Jvm.Cond.methodLink "TablePager" (167 : Nat) ({ cls := "TablePager", name := "requireSpan", desc := "(I)V" } : Jvm.MethodName)) ∈ am_tb := am_tin 727 (by decide +kernel) rfl
theorem w_93 : (Jvm.Cond.fieldLinkNest "TablePager" (170 : Nat) "TablePager$Table" "firsts" "[I" "TablePager") ∈ am_tb := am_tin 191 (by decide +kernel) rfl
theorem w_97 : (Jvm.Cond.fieldLinkNest "TablePager" (173 : Nat) "TablePager$Table" "lasts" "[I" "TablePager") ∈ am_tb := am_tin 195 (by decide +kernel) rfl
theorem w_99 : (Jvm.Cond.fieldLinkNest "TablePager" (176 : Nat) "TablePager$Table" "mayBeCut" "[Z" "TablePager") ∈ am_tb := am_tin 197 (by decide +kernel) rfl
theorem w_638 : (Jvm.Cond.methodLinkNest "TablePager" (179 : Nat) ({ cls := "TablePager$Layout", name := "pagesOfSpan", desc := "(LTablePager$Table;I)I" } : Jvm.MethodName) "TablePager") ∈ am_tb := am_tin 736 (by decide +kernel) rfl
theorem w_103 : (Jvm.Cond.fieldLinkNest "TablePager" (187 : Nat) "TablePager$Table" "noteHeights" "[I" "TablePager") ∈ am_tb := am_tin 201 (by decide +kernel) rfl
theorem w_655 : (Jvm.Cond.methodLink "TablePager" (190 : Nat) ({ cls := "TablePager", name := "requirePage", desc := "(I)V" } : Jvm.MethodName)) ∈ am_tb := am_tin 753 (by decide +kernel) rfl
theorem w_664 : (Jvm.Cond.methodLinkNest "TablePager" (193 : Nat) ({ cls := "TablePager$Layout", name := "sheetOf", desc := "(LTablePager$Table;I)LTablePager$Sheet;" } : Jvm.MethodName) "TablePager") ∈ am_tb := am_tin 762 (by decide +kernel) rfl
theorem w_680 : (Jvm.Cond.methodLinkNest "TablePager" (197 : Nat) ({ cls := "TablePager$Layout", name := "firstOf", desc := "(I)I" } : Jvm.MethodName) "TablePager") ∈ am_tb := am_tin 778 (by decide +kernel) rfl
theorem w_681 : (Jvm.Cond.methodLinkNest "TablePager" (200 : Nat) ({ cls := "TablePager$Layout", name := "lastOf", desc := "(I)I" } : Jvm.MethodName) "TablePager") ∈ am_tb := am_tin 779 (by decide +kernel) rfl
theorem w_682 : (Jvm.Cond.methodLinkNest "TablePager" (203 : Nat) ({ cls := "TablePager$Sheet", name := "needed", desc := "()I" } : Jvm.MethodName) "TablePager") ∈ am_tb := am_tin 780 (by decide +kernel) rfl
theorem w_181 : (Jvm.Cond.fieldLinkNest "TablePager" (208 : Nat) "TablePager$Sheet" "names" "I" "TablePager") ∈ am_tb := am_tin 279 (by decide +kernel) rfl
theorem w_683 : (Jvm.Cond.methodLinkNest "TablePager" (211 : Nat) ({ cls := "TablePager$Sheet", name := "noteBits", desc := "()I" } : Jvm.MethodName) "TablePager") ∈ am_tb := am_tin 781 (by decide +kernel) rfl
theorem w_695 : (Jvm.Cond.methodLinkNest "TablePager" (216 : Nat) ({ cls := "TablePager$Table", name := "sumOfRows", desc := "(III)I" } : Jvm.MethodName) "TablePager") ∈ am_tb := am_tin 793 (by decide +kernel) rfl
theorem w_196 : (Jvm.Cond.fieldLinkNest "TablePager" (220 : Nat) "TablePager$Layout" "pages" "I" "TablePager") ∈ am_tb := am_tin 294 (by decide +kernel) rfl
theorem w_721 : (Jvm.Cond.methodLinkNest "TablePager" (223 : Nat) ({ cls := "TablePager$Table", name := "allowsRow", desc := "(II)Z" } : Jvm.MethodName) "TablePager") ∈ am_tb := am_tin 819 (by decide +kernel) rfl
theorem w_725 : (Jvm.Cond.methodLinkNest "TablePager" (228 : Nat) ({ cls := "TablePager$Table", name := "isFull", desc := "()Z" } : Jvm.MethodName) "TablePager") ∈ am_tb := am_tin 823 (by decide +kernel) rfl
theorem w_727 : (Jvm.Cond.methodLinkNest "TablePager" (231 : Nat) ({ cls := "TablePager$History", name := "remember", desc := "(LTablePager$Table;)V" } : Jvm.MethodName) "TablePager") ∈ am_tb := am_tin 825 (by decide +kernel) rfl
theorem w_733 : (Jvm.Cond.methodLinkNest "TablePager" (234 : Nat) ({ cls := "TablePager$Table", name := "putRow", desc := "(II)V" } : Jvm.MethodName) "TablePager") ∈ am_tb := am_tin 831 (by decide +kernel) rfl
theorem w_742 : (Jvm.Cond.methodLinkNest "TablePager" (240 : Nat) ({ cls := "TablePager$Table", name := "putAmount", desc := "(III)V" } : Jvm.MethodName) "TablePager") ∈ am_tb := am_tin 840 (by decide +kernel) rfl
theorem w_757 : (Jvm.Cond.methodLinkNest "TablePager" (244 : Nat) ({ cls := "TablePager$Table", name := "dropRow", desc := "(I)I" } : Jvm.MethodName) "TablePager") ∈ am_tb := am_tin 855 (by decide +kernel) rfl
theorem w_774 : (Jvm.Cond.methodLinkNest "TablePager" (249 : Nat) ({ cls := "TablePager$Table", name := "hasAllSpans", desc := "()Z" } : Jvm.MethodName) "TablePager") ∈ am_tb := am_tin 872 (by decide +kernel) rfl
theorem w_776 : (Jvm.Cond.methodLinkNest "TablePager" (254 : Nat) ({ cls := "TablePager$Table", name := "putSpan", desc := "(IIZ)V" } : Jvm.MethodName) "TablePager") ∈ am_tb := am_tin 874 (by decide +kernel) rfl
theorem w_784 : (Jvm.Cond.methodLinkNest "TablePager" (258 : Nat) ({ cls := "TablePager$Table", name := "dropSpan", desc := "(I)V" } : Jvm.MethodName) "TablePager") ∈ am_tb := am_tin 882 (by decide +kernel) rfl
theorem w_795 : (Jvm.Cond.methodLinkNest "TablePager" (261 : Nat) ({ cls := "TablePager$Table", name := "allowsHeight", desc := "(II)Z" } : Jvm.MethodName) "TablePager") ∈ am_tb := am_tin 893 (by decide +kernel) rfl
theorem w_799 : (Jvm.Cond.methodLinkNest "TablePager" (266 : Nat) ({ cls := "TablePager$Table", name := "putHeight", desc := "(II)V" } : Jvm.MethodName) "TablePager") ∈ am_tb := am_tin 897 (by decide +kernel) rfl
theorem w_145 : (Jvm.Cond.fieldLinkNest "TablePager" (269 : Nat) "TablePager$History" "count" "I" "TablePager") ∈ am_tb := am_tin 243 (by decide +kernel) rfl
theorem w_811 : (Jvm.Cond.methodLinkNest "TablePager" (274 : Nat) ({ cls := "TablePager$History", name := "takeBack", desc := "(LTablePager$Table;)V" } : Jvm.MethodName) "TablePager") ∈ am_tb := am_tin 909 (by decide +kernel) rfl
theorem w_536 : (Jvm.Cond.methodLinkNest "TablePager" (279 : Nat) ({ cls := "TablePager$Layout", name := "lay", desc := "(LTablePager$Table;I)V" } : Jvm.MethodName) "TablePager") ∈ am_tb := am_tin 634 (by decide +kernel) rfl
theorem w_357 : (Jvm.Cond.methodLinkNest "TablePager" (283 : Nat) ({ cls := "TablePager$Evener", name := "leastCost", desc := "(LTablePager$Table;)I" } : Jvm.MethodName) "TablePager") ∈ am_tb := am_tin 455 (by decide +kernel) rfl
theorem w_830 : (Jvm.Cond.methodLinkNest "TablePager" (288 : Nat) ({ cls := "TablePager$Evener", name := "lastOf", desc := "(LTablePager$Table;I)I" } : Jvm.MethodName) "TablePager") ∈ am_tb := am_tin 928 (by decide +kernel) rfl
theorem w_842 : (Jvm.Cond.methodLinkNest "TablePager" (290 : Nat) ({ cls := "TablePager$Layout", name := "emptyFromRow", desc := "(LTablePager$Table;I)I" } : Jvm.MethodName) "TablePager") ∈ am_tb := am_tin 940 (by decide +kernel) rfl
theorem w_854 : (Jvm.Cond.methodLink "TablePager" (295 : Nat) ({ cls := "TablePager", name := "withoutGroups", desc := "(JI)J" } : Jvm.MethodName)) ∈ am_tb := am_tin 952 (by decide +kernel) rfl
theorem w_857 : (Jvm.Cond.constantLong "TablePager" (301 : Nat) (100000 : Int64)) ∈ am_tb := am_tin 955 (by decide +kernel) rfl
theorem w_859 : (Jvm.Cond.methodLinkNest "TablePager" (303 : Nat) ({ cls := "TablePager$Command", name := "setDigits", desc := "(I)V" } : Jvm.MethodName) "TablePager") ∈ am_tb := am_tin 957 (by decide +kernel) rfl
theorem w_863 : (Jvm.Cond.methodLinkNest "TablePager" (306 : Nat) ({ cls := "TablePager$Command", name := "runOn", desc := "(LTablePager$Table;LTablePager$Layout;)Z" } : Jvm.MethodName) "TablePager") ∈ am_tb := am_tin 961 (by decide +kernel) rfl
theorem w_917 : (Jvm.Cond.constantLong "TablePager" (312 : Nat) (6364136223846793005 : Int64)) ∈ am_tb := am_tin 1015 (by decide +kernel) rfl
theorem w_918 : (Jvm.Cond.constantLong "TablePager" (314 : Nat) (1442695040888963407 : Int64)) ∈ am_tb := am_tin 1016 (by decide +kernel) rfl
theorem w_919 : (Jvm.Cond.methodLinkNest "TablePager" (316 : Nat) ({ cls := "TablePager$Table", name := "playRound", desc := "(I)V" } : Jvm.MethodName) "TablePager") ∈ am_tb := am_tin 1017 (by decide +kernel) rfl
theorem w_926 : (Jvm.Cond.methodLink "TablePager" (319 : Nat) ({ cls := "java/lang/Math", name := "min", desc := "(II)I" } : Jvm.MethodName)) ∈ am_tb := am_tin 1024 (by decide +kernel) rfl
theorem w_934 : (Jvm.Cond.methodLink "TablePager" (324 : Nat) ({ cls := "TablePager", name := "requireSlot", desc := "(I)V" } : Jvm.MethodName)) ∈ am_tb := am_tin 1032 (by decide +kernel) rfl
theorem w_938 : (Jvm.Cond.methodLinkNest "TablePager" (327 : Nat) ({ cls := "TablePager$Slots", name := "put", desc := "(ILTablePager$Table;)V" } : Jvm.MethodName) "TablePager") ∈ am_tb := am_tin 1036 (by decide +kernel) rfl
theorem w_950 : (Jvm.Cond.methodLinkNest "TablePager" (330 : Nat) ({ cls := "TablePager$Slots", name := "isFilled", desc := "(I)Z" } : Jvm.MethodName) "TablePager") ∈ am_tb := am_tin 1048 (by decide +kernel) rfl
theorem w_955 : (Jvm.Cond.methodLinkNest "TablePager" (336 : Nat) ({ cls := "TablePager$Slots", name := "copyTo", desc := "(ILTablePager$Table;)V" } : Jvm.MethodName) "TablePager") ∈ am_tb := am_tin 1053 (by decide +kernel) rfl
theorem w_578 : (Jvm.Cond.methodLinkNest "TablePager" (339 : Nat) ({ cls := "TablePager$Table", name := "hasRow", desc := "(I)Z" } : Jvm.MethodName) "TablePager") ∈ am_tb := am_tin 676 (by decide +kernel) rfl
theorem w_613 : (Jvm.Cond.methodLinkNest "TablePager" (347 : Nat) ({ cls := "TablePager$Table", name := "hasColumn", desc := "(I)Z" } : Jvm.MethodName) "TablePager") ∈ am_tb := am_tin 711 (by decide +kernel) rfl
theorem w_633 : (Jvm.Cond.methodLinkNest "TablePager" (352 : Nat) ({ cls := "TablePager$Table", name := "hasSpan", desc := "(I)Z" } : Jvm.MethodName) "TablePager") ∈ am_tb := am_tin 731 (by decide +kernel) rfl
theorem w_659 : (Jvm.Cond.methodLinkNest "TablePager" (357 : Nat) ({ cls := "TablePager$Layout", name := "hasPage", desc := "(I)Z" } : Jvm.MethodName) "TablePager") ∈ am_tb := am_tin 757 (by decide +kernel) rfl
theorem w_964 : (Jvm.Cond.methodLink "TablePagerModel" (1 : Nat) ({ cls := "java/lang/Object", name := "<init>", desc := "()V" } : Jvm.MethodName)) ∈ am_tb := am_tin 1062 (by decide +kernel) rfl
theorem w_969 : (Jvm.Cond.fieldLink "TablePagerModel" (7 : Nat) "TablePagerModel" "script" "[I") ∈ am_tb := am_tin 1067 (by decide +kernel) rfl
theorem w_973 : (Jvm.Cond.fieldLink "TablePagerModel" (13 : Nat) "TablePagerModel" "read" "[I") ∈ am_tb := am_tin 1071 (by decide +kernel) rfl
theorem w_974 : (Jvm.Cond.fieldLink "TablePagerModel" (16 : Nat) "TablePagerModel" "now" "[I") ∈ am_tb := am_tin 1072 (by decide +kernel) rfl
theorem w_975 : (Jvm.Cond.fieldLink "TablePagerModel" (19 : Nat) "TablePagerModel" "trial" "[I") ∈ am_tb := am_tin 1073 (by decide +kernel) rfl
theorem w_976 : (Jvm.Cond.fieldLink "TablePagerModel" (22 : Nat) "TablePagerModel" "diary" "[I") ∈ am_tb := am_tin 1074 (by decide +kernel) rfl
theorem w_978 : (Jvm.Cond.fieldLink "TablePagerModel" (25 : Nat) "TablePagerModel" "kept" "[I") ∈ am_tb := am_tin 1076 (by decide +kernel) rfl
theorem w_979 : (Jvm.Cond.fieldLink "TablePagerModel" (28 : Nat) "TablePagerModel" "isKept" "[Z") ∈ am_tb := am_tin 1077 (by decide +kernel) rfl
theorem w_980 : (Jvm.Cond.fieldLink "TablePagerModel" (32 : Nat) "TablePagerModel" "ends" "[I") ∈ am_tb := am_tin 1078 (by decide +kernel) rfl
theorem w_982 : (Jvm.Cond.fieldLink "TablePagerModel" (35 : Nat) "TablePagerModel" "cost" "[I") ∈ am_tb := am_tin 1080 (by decide +kernel) rfl
theorem w_983 : (Jvm.Cond.fieldLink "TablePagerModel" (38 : Nat) "TablePagerModel" "cut" "[I") ∈ am_tb := am_tin 1081 (by decide +kernel) rfl
theorem w_965 : (Jvm.Cond.methodLink "TablePagerModel" (41 : Nat) ({ cls := "TablePagerModel", name := "clean", desc := "([I)V" } : Jvm.MethodName)) ∈ am_tb := am_tin 1063 (by decide +kernel) rfl
theorem w_968 : (Jvm.Cond.fieldLink "TablePagerModel" (45 : Nat) "TablePagerModel" "refusal" "I") ∈ am_tb := am_tin 1066 (by decide +kernel) rfl
theorem w_1294 : (Jvm.Cond.constantLong "TablePagerModel" (49 : Nat) (10 : Int64)) ∈ am_tb := am_tin 1392 (by decide +kernel) rfl
theorem w_977 : (Jvm.Cond.fieldLink "TablePagerModel" (51 : Nat) "TablePagerModel" "acts" "I") ∈ am_tb := am_tin 1075 (by decide +kernel) rfl
theorem w_1088 : (Jvm.Cond.methodLink "TablePagerModel" (54 : Nat) ({ cls := "TablePagerModel", name := "copy", desc := "([II[III)V" } : Jvm.MethodName)) ∈ am_tb := am_tin 1186 (by decide +kernel) rfl
theorem w_1109 : (Jvm.Cond.methodLink "TablePagerModel" (58 : Nat) ({ cls := "TablePagerModel", name := "canCut", desc := "([II)Z" } : Jvm.MethodName)) ∈ am_tb := am_tin 1207 (by decide +kernel) rfl
theorem w_1070 : (Jvm.Cond.methodLink "TablePagerModel" (62 : Nat) ({ cls := "TablePagerModel", name := "cell", desc := "(II)I" } : Jvm.MethodName)) ∈ am_tb := am_tin 1168 (by decide +kernel) rfl
theorem w_1112 : (Jvm.Cond.methodLink "TablePagerModel" (66 : Nat) ({ cls := "TablePagerModel", name := "first", desc := "([II)I" } : Jvm.MethodName)) ∈ am_tb := am_tin 1210 (by decide +kernel) rfl
theorem w_1115 : (Jvm.Cond.methodLink "TablePagerModel" (70 : Nat) ({ cls := "TablePagerModel", name := "last", desc := "([II)I" } : Jvm.MethodName)) ∈ am_tb := am_tin 1213 (by decide +kernel) rfl
theorem w_1121 : (Jvm.Cond.methodLink "TablePagerModel" (73 : Nat) ({ cls := "TablePagerModel", name := "names", desc := "([II)I" } : Jvm.MethodName)) ∈ am_tb := am_tin 1219 (by decide +kernel) rfl
theorem w_1124 : (Jvm.Cond.methodLink "TablePagerModel" (76 : Nat) ({ cls := "TablePagerModel", name := "notes", desc := "([III)I" } : Jvm.MethodName)) ∈ am_tb := am_tin 1222 (by decide +kernel) rfl
theorem w_1127 : (Jvm.Cond.methodLink "TablePagerModel" (80 : Nat) ({ cls := "TablePagerModel", name := "has", desc := "(II)Z" } : Jvm.MethodName)) ∈ am_tb := am_tin 1225 (by decide +kernel) rfl
theorem w_1106 : (Jvm.Cond.methodLink "TablePagerModel" (84 : Nat) ({ cls := "TablePagerModel", name := "mayEnd", desc := "([II)Z" } : Jvm.MethodName)) ∈ am_tb := am_tin 1204 (by decide +kernel) rfl
theorem w_1118 : (Jvm.Cond.methodLink "TablePagerModel" (87 : Nat) ({ cls := "TablePagerModel", name := "lines", desc := "([III)I" } : Jvm.MethodName)) ∈ am_tb := am_tin 1216 (by decide +kernel) rfl
theorem w_1057 : (Jvm.Cond.constant "TablePagerModel" (90 : Nat) (-999999 : Int32)) ∈ am_tb := am_tin 1155 (by decide +kernel) rfl
theorem w_1103 : (Jvm.Cond.methodLink "TablePagerModel" (91 : Nat) ({ cls := "TablePagerModel", name := "lastFor", desc := "([II)I" } : Jvm.MethodName)) ∈ am_tb := am_tin 1201 (by decide +kernel) rfl
theorem w_981 : (Jvm.Cond.fieldLink "TablePagerModel" (94 : Nat) "TablePagerModel" "pages" "I") ∈ am_tb := am_tin 1079 (by decide +kernel) rfl
theorem w_1100 : (Jvm.Cond.methodLink "TablePagerModel" (97 : Nat) ({ cls := "TablePagerModel", name := "endOf", desc := "([II)I" } : Jvm.MethodName)) ∈ am_tb := am_tin 1198 (by decide +kernel) rfl
theorem w_1134 : (Jvm.Cond.methodLink "TablePagerModel" (100 : Nat) ({ cls := "TablePagerModel", name := "startOf", desc := "(I)I" } : Jvm.MethodName)) ∈ am_tb := am_tin 1232 (by decide +kernel) rfl
theorem w_1146 : (Jvm.Cond.methodLink "TablePagerModel" (104 : Nat) ({ cls := "TablePagerModel", name := "pageOf", desc := "(I)I" } : Jvm.MethodName)) ∈ am_tb := am_tin 1244 (by decide +kernel) rfl
theorem w_1230 : (Jvm.Cond.methodLink "TablePagerModel" (107 : Nat) ({ cls := "TablePagerModel", name := "dropSpan", desc := "([II)V" } : Jvm.MethodName)) ∈ am_tb := am_tin 1328 (by decide +kernel) rfl
theorem w_1095 : (Jvm.Cond.constantLong "TablePagerModel" (111 : Nat) (7 : Int64)) ∈ am_tb := am_tin 1193 (by decide +kernel) rfl
theorem w_1026 : (Jvm.Cond.methodLink "TablePagerModel" (113 : Nat) ({ cls := "TablePagerModel", name := "in", desc := "(JJJ)Z" } : Jvm.MethodName)) ∈ am_tb := am_tin 1124 (by decide +kernel) rfl
theorem w_1248 : (Jvm.Cond.methodLink "TablePagerModel" (117 : Nat) ({ cls := "TablePagerModel", name := "least", desc := "(I)I" } : Jvm.MethodName)) ∈ am_tb := am_tin 1346 (by decide +kernel) rfl
theorem w_1251 : (Jvm.Cond.methodLink "TablePagerModel" (120 : Nat) ({ cls := "TablePagerModel", name := "most", desc := "(I)I" } : Jvm.MethodName)) ∈ am_tb := am_tin 1349 (by decide +kernel) rfl
theorem w_1025 : (Jvm.Cond.constantLong "TablePagerModel" (123 : Nat) (255 : Int64)) ∈ am_tb := am_tin 1123 (by decide +kernel) rfl
theorem w_970 : (Jvm.Cond.fieldLink "TablePagerModel" (125 : Nat) "TablePagerModel" "scriptSize" "I") ∈ am_tb := am_tin 1068 (by decide +kernel) rfl
theorem w_1029 : (Jvm.Cond.methodLink "TablePagerModel" (128 : Nat) ({ cls := "TablePagerModel", name := "refused", desc := "(I)Z" } : Jvm.MethodName)) ∈ am_tb := am_tin 1127 (by decide +kernel) rfl
theorem w_971 : (Jvm.Cond.fieldLink "TablePagerModel" (132 : Nat) "TablePagerModel" "spot" "I") ∈ am_tb := am_tin 1069 (by decide +kernel) rfl
theorem w_972 : (Jvm.Cond.fieldLink "TablePagerModel" (135 : Nat) "TablePagerModel" "isGood" "Z") ∈ am_tb := am_tin 1070 (by decide +kernel) rfl
theorem w_1058 : (Jvm.Cond.constantLong "TablePagerModel" (139 : Nat) (9 : Int64)) ∈ am_tb := am_tin 1156 (by decide +kernel) rfl
theorem w_1049 : (Jvm.Cond.methodLink "TablePagerModel" (141 : Nat) ({ cls := "TablePagerModel", name := "accept", desc := "(Z)V" } : Jvm.MethodName)) ∈ am_tb := am_tin 1147 (by decide +kernel) rfl
theorem w_1053 : (Jvm.Cond.methodLink "TablePagerModel" (145 : Nat) ({ cls := "TablePagerModel", name := "digit", desc := "(II)I" } : Jvm.MethodName)) ∈ am_tb := am_tin 1151 (by decide +kernel) rfl
theorem w_1067 : (Jvm.Cond.methodLink "TablePagerModel" (148 : Nat) ({ cls := "TablePagerModel", name := "addTo", desc := "([III)V" } : Jvm.MethodName)) ∈ am_tb := am_tin 1165 (by decide +kernel) rfl
theorem w_1045 : (Jvm.Cond.methodLink "TablePagerModel" (152 : Nat) ({ cls := "TablePagerModel", name := "isNext", desc := "(I)Z" } : Jvm.MethodName)) ∈ am_tb := am_tin 1143 (by decide +kernel) rfl
theorem w_1059 : (Jvm.Cond.methodLink "TablePagerModel" (155 : Nat) ({ cls := "TablePagerModel", name := "two", desc := "(II)I" } : Jvm.MethodName)) ∈ am_tb := am_tin 1157 (by decide +kernel) rfl
theorem w_1077 : (Jvm.Cond.methodLink "TablePagerModel" (158 : Nat) ({ cls := "TablePagerModel", name := "putSpan", desc := "([IIII)V" } : Jvm.MethodName)) ∈ am_tb := am_tin 1175 (by decide +kernel) rfl
theorem w_1063 : (Jvm.Cond.methodLink "TablePagerModel" (162 : Nat) ({ cls := "TablePagerModel", name := "readRow", desc := "()V" } : Jvm.MethodName)) ∈ am_tb := am_tin 1161 (by decide +kernel) rfl
theorem w_1073 : (Jvm.Cond.methodLink "TablePagerModel" (165 : Nat) ({ cls := "TablePagerModel", name := "readSpan", desc := "()V" } : Jvm.MethodName)) ∈ am_tb := am_tin 1171 (by decide +kernel) rfl
theorem w_1080 : (Jvm.Cond.methodLink "TablePagerModel" (168 : Nat) ({ cls := "TablePagerModel", name := "readMore", desc := "()V" } : Jvm.MethodName)) ∈ am_tb := am_tin 1178 (by decide +kernel) rfl
theorem w_1041 : (Jvm.Cond.methodLink "TablePagerModel" (171 : Nat) ({ cls := "TablePagerModel", name := "readText", desc := "()I" } : Jvm.MethodName)) ∈ am_tb := am_tin 1139 (by decide +kernel) rfl
theorem w_1142 : (Jvm.Cond.methodLink "TablePagerModel" (175 : Nat) ({ cls := "TablePagerModel", name := "pagesOf", desc := "([II)I" } : Jvm.MethodName)) ∈ am_tb := am_tin 1240 (by decide +kernel) rfl
theorem w_1096 : (Jvm.Cond.methodLink "TablePagerModel" (178 : Nat) ({ cls := "TablePagerModel", name := "lay", desc := "([I)I" } : Jvm.MethodName)) ∈ am_tb := am_tin 1194 (by decide +kernel) rfl
theorem w_1130 : (Jvm.Cond.methodLink "TablePagerModel" (182 : Nat) ({ cls := "TablePagerModel", name := "overfull", desc := "([I)I" } : Jvm.MethodName)) ∈ am_tb := am_tin 1228 (by decide +kernel) rfl
theorem w_1138 : (Jvm.Cond.methodLink "TablePagerModel" (185 : Nat) ({ cls := "TablePagerModel", name := "cutSpans", desc := "()I" } : Jvm.MethodName)) ∈ am_tb := am_tin 1236 (by decide +kernel) rfl
theorem w_1154 : (Jvm.Cond.methodLink "TablePagerModel" (188 : Nat) ({ cls := "TablePagerModel", name := "isRow", desc := "(I)Z" } : Jvm.MethodName)) ∈ am_tb := am_tin 1252 (by decide +kernel) rfl
theorem w_1158 : (Jvm.Cond.constantLong "TablePagerModel" (191 : Nat) (4 : Int64)) ∈ am_tb := am_tin 1256 (by decide +kernel) rfl
theorem w_1163 : (Jvm.Cond.methodLink "TablePagerModel" (193 : Nat) ({ cls := "TablePagerModel", name := "isColumn", desc := "(I)Z" } : Jvm.MethodName)) ∈ am_tb := am_tin 1261 (by decide +kernel) rfl
theorem w_1171 : (Jvm.Cond.methodLink "TablePagerModel" (196 : Nat) ({ cls := "TablePagerModel", name := "isSpan", desc := "(I)Z" } : Jvm.MethodName)) ∈ am_tb := am_tin 1269 (by decide +kernel) rfl
theorem w_1175 : (Jvm.Cond.constantLong "TablePagerModel" (199 : Nat) (3 : Int64)) ∈ am_tb := am_tin 1273 (by decide +kernel) rfl
theorem w_1180 : (Jvm.Cond.constantLong "TablePagerModel" (201 : Nat) (6 : Int64)) ∈ am_tb := am_tin 1278 (by decide +kernel) rfl
theorem w_1185 : (Jvm.Cond.methodLink "TablePagerModel" (203 : Nat) ({ cls := "TablePagerModel", name := "isPage", desc := "(I)Z" } : Jvm.MethodName)) ∈ am_tb := am_tin 1283 (by decide +kernel) rfl
theorem w_1189 : (Jvm.Cond.constantLong "TablePagerModel" (206 : Nat) (5 : Int64)) ∈ am_tb := am_tin 1287 (by decide +kernel) rfl
theorem w_1194 : (Jvm.Cond.methodLink "TablePagerModel" (208 : Nat) ({ cls := "TablePagerModel", name := "sum", desc := "([IIII)I" } : Jvm.MethodName)) ∈ am_tb := am_tin 1292 (by decide +kernel) rfl
theorem w_1209 : (Jvm.Cond.methodLink "TablePagerModel" (212 : Nat) ({ cls := "TablePagerModel", name := "remember", desc := "()V" } : Jvm.MethodName)) ∈ am_tb := am_tin 1307 (by decide +kernel) rfl
theorem w_1217 : (Jvm.Cond.constantLong "TablePagerModel" (215 : Nat) (-99 : Int64)) ∈ am_tb := am_tin 1315 (by decide +kernel) rfl
theorem w_1218 : (Jvm.Cond.constantLong "TablePagerModel" (217 : Nat) (99 : Int64)) ∈ am_tb := am_tin 1316 (by decide +kernel) rfl
theorem w_1227 : (Jvm.Cond.methodLink "TablePagerModel" (219 : Nat) ({ cls := "TablePagerModel", name := "dropRow", desc := "([II)I" } : Jvm.MethodName)) ∈ am_tb := am_tin 1325 (by decide +kernel) rfl
theorem w_1245 : (Jvm.Cond.methodLink "TablePagerModel" (222 : Nat) ({ cls := "TablePagerModel", name := "isHeight", desc := "(II)Z" } : Jvm.MethodName)) ∈ am_tb := am_tin 1343 (by decide +kernel) rfl
theorem w_1262 : (Jvm.Cond.constantLong "TablePagerModel" (225 : Nat) (24 : Int64)) ∈ am_tb := am_tin 1360 (by decide +kernel) rfl
theorem w_1263 : (Jvm.Cond.methodLink "TablePagerModel" (227 : Nat) ({ cls := "TablePagerModel", name := "begin", desc := "()V" } : Jvm.MethodName)) ∈ am_tb := am_tin 1361 (by decide +kernel) rfl
theorem w_1275 : (Jvm.Cond.methodLink "TablePagerModel" (230 : Nat) ({ cls := "TablePagerModel", name := "costOf", desc := "(II)I" } : Jvm.MethodName)) ∈ am_tb := am_tin 1373 (by decide +kernel) rfl
theorem w_1271 : (Jvm.Cond.methodLink "TablePagerModel" (233 : Nat) ({ cls := "TablePagerModel", name := "layCuts", desc := "()I" } : Jvm.MethodName)) ∈ am_tb := am_tin 1369 (by decide +kernel) rfl
theorem w_1291 : (Jvm.Cond.methodLink "TablePagerModel" (236 : Nat) ({ cls := "TablePagerModel", name := "tenTo", desc := "(I)J" } : Jvm.MethodName)) ∈ am_tb := am_tin 1389 (by decide +kernel) rfl
theorem w_1295 : (Jvm.Cond.constantLong "TablePagerModel" (240 : Nat) (100000 : Int64)) ∈ am_tb := am_tin 1393 (by decide +kernel) rfl
theorem w_1296 : (Jvm.Cond.methodLink "TablePagerModel" (242 : Nat) ({ cls := "TablePagerModel", name := "does", desc := "(I)Z" } : Jvm.MethodName)) ∈ am_tb := am_tin 1394 (by decide +kernel) rfl
theorem w_1304 : (Jvm.Cond.constantLong "TablePagerModel" (245 : Nat) (6364136223846793005 : Int64)) ∈ am_tb := am_tin 1402 (by decide +kernel) rfl
theorem w_1305 : (Jvm.Cond.constantLong "TablePagerModel" (247 : Nat) (1442695040888963407 : Int64)) ∈ am_tb := am_tin 1403 (by decide +kernel) rfl
theorem w_1306 : (Jvm.Cond.methodLink "TablePagerModel" (249 : Nat) ({ cls := "TablePagerModel", name := "round", desc := "(I)V" } : Jvm.MethodName)) ∈ am_tb := am_tin 1404 (by decide +kernel) rfl
theorem w_401 : (Jvm.Cond.methodLink "TablePagerLaw" (7 : Nat) ({ cls := "TablePager", name := "append", desc := "(I)I" } : Jvm.MethodName)) ∈ am_tb := am_tin 499 (by decide +kernel) rfl
theorem w_399 : (Jvm.Cond.classLink "TablePagerLaw" (13 : Nat) "java/lang/IllegalArgumentException") ∈ am_tb := am_tin 497 (by decide +kernel) rfl
theorem w_407 : (Jvm.Cond.castable "java/lang/IllegalArgumentException" "java/lang/IllegalArgumentException") ∈ am_tb := am_tin 505 (by decide +kernel) rfl
theorem w_400 : (Jvm.Cond.classLink "TablePagerLaw" (15 : Nat) "java/lang/IllegalStateException") ∈ am_tb := am_tin 498 (by decide +kernel) rfl
theorem w_479 : (Jvm.Cond.castable "java/lang/IllegalStateException" "java/lang/IllegalStateException") ∈ am_tb := am_tin 577 (by decide +kernel) rfl
theorem w_500 : (Jvm.Cond.methodLink "TablePagerLaw" (17 : Nat) ({ cls := "TablePager", name := "load", desc := "()I" } : Jvm.MethodName)) ∈ am_tb := am_tin 598 (by decide +kernel) rfl
theorem w_524 : (Jvm.Cond.methodLink "TablePagerLaw" (21 : Nat) ({ cls := "TablePager", name := "about", desc := "(I)I" } : Jvm.MethodName)) ∈ am_tb := am_tin 622 (by decide +kernel) rfl
theorem w_570 : (Jvm.Cond.methodLink "TablePagerLaw" (24 : Nat) ({ cls := "TablePager", name := "row", desc := "(II)I" } : Jvm.MethodName)) ∈ am_tb := am_tin 668 (by decide +kernel) rfl
theorem w_569 : (Jvm.Cond.classLink "TablePagerLaw" (28 : Nat) "java/lang/IndexOutOfBoundsException") ∈ am_tb := am_tin 667 (by decide +kernel) rfl
theorem w_584 : (Jvm.Cond.castable "java/lang/IndexOutOfBoundsException" "java/lang/IndexOutOfBoundsException") ∈ am_tb := am_tin 682 (by decide +kernel) rfl
theorem w_605 : (Jvm.Cond.methodLink "TablePagerLaw" (30 : Nat) ({ cls := "TablePager", name := "amount", desc := "(II)I" } : Jvm.MethodName)) ∈ am_tb := am_tin 703 (by decide +kernel) rfl
theorem w_625 : (Jvm.Cond.methodLink "TablePagerLaw" (33 : Nat) ({ cls := "TablePager", name := "span", desc := "(II)I" } : Jvm.MethodName)) ∈ am_tb := am_tin 723 (by decide +kernel) rfl
theorem w_643 : (Jvm.Cond.methodLink "TablePagerLaw" (36 : Nat) ({ cls := "TablePager", name := "note", desc := "(I)I" } : Jvm.MethodName)) ∈ am_tb := am_tin 741 (by decide +kernel) rfl
theorem w_651 : (Jvm.Cond.methodLink "TablePagerLaw" (39 : Nat) ({ cls := "TablePager", name := "page", desc := "(II)I" } : Jvm.MethodName)) ∈ am_tb := am_tin 749 (by decide +kernel) rfl
theorem w_691 : (Jvm.Cond.methodLink "TablePagerLaw" (42 : Nat) ({ cls := "TablePager", name := "brought", desc := "(II)I" } : Jvm.MethodName)) ∈ am_tb := am_tin 789 (by decide +kernel) rfl
theorem w_703 : (Jvm.Cond.methodLink "TablePagerLaw" (45 : Nat) ({ cls := "TablePager", name := "carried", desc := "(II)I" } : Jvm.MethodName)) ∈ am_tb := am_tin 801 (by decide +kernel) rfl
theorem w_710 : (Jvm.Cond.methodLink "TablePagerLaw" (48 : Nat) ({ cls := "TablePager", name := "richest", desc := "(I)I" } : Jvm.MethodName)) ∈ am_tb := am_tin 808 (by decide +kernel) rfl
theorem w_717 : (Jvm.Cond.methodLink "TablePagerLaw" (51 : Nat) ({ cls := "TablePager", name := "addRow", desc := "(II)I" } : Jvm.MethodName)) ∈ am_tb := am_tin 815 (by decide +kernel) rfl
theorem w_737 : (Jvm.Cond.methodLink "TablePagerLaw" (54 : Nat) ({ cls := "TablePager", name := "setAmount", desc := "(III)I" } : Jvm.MethodName)) ∈ am_tb := am_tin 835 (by decide +kernel) rfl
theorem w_746 : (Jvm.Cond.methodLink "TablePagerLaw" (58 : Nat) ({ cls := "TablePager", name := "keep", desc := "(IZ)I" } : Jvm.MethodName)) ∈ am_tb := am_tin 844 (by decide +kernel) rfl
theorem w_753 : (Jvm.Cond.methodLink "TablePagerLaw" (62 : Nat) ({ cls := "TablePager", name := "removeRow", desc := "(I)I" } : Jvm.MethodName)) ∈ am_tb := am_tin 851 (by decide +kernel) rfl
theorem w_769 : (Jvm.Cond.methodLink "TablePagerLaw" (65 : Nat) ({ cls := "TablePager", name := "addSpan", desc := "(IIZ)I" } : Jvm.MethodName)) ∈ am_tb := am_tin 867 (by decide +kernel) rfl
theorem w_780 : (Jvm.Cond.methodLink "TablePagerLaw" (69 : Nat) ({ cls := "TablePager", name := "removeSpan", desc := "(I)I" } : Jvm.MethodName)) ∈ am_tb := am_tin 878 (by decide +kernel) rfl
theorem w_791 : (Jvm.Cond.methodLink "TablePagerLaw" (72 : Nat) ({ cls := "TablePager", name := "setHeight", desc := "(II)I" } : Jvm.MethodName)) ∈ am_tb := am_tin 889 (by decide +kernel) rfl
theorem w_806 : (Jvm.Cond.methodLink "TablePagerLaw" (75 : Nat) ({ cls := "TablePager", name := "undo", desc := "()I" } : Jvm.MethodName)) ∈ am_tb := am_tin 904 (by decide +kernel) rfl
theorem w_818 : (Jvm.Cond.methodLink "TablePagerLaw" (78 : Nat) ({ cls := "TablePager", name := "heightFor", desc := "(I)I" } : Jvm.MethodName)) ∈ am_tb := am_tin 916 (by decide +kernel) rfl
theorem w_826 : (Jvm.Cond.methodLink "TablePagerLaw" (81 : Nat) ({ cls := "TablePager", name := "evenCut", desc := "(I)I" } : Jvm.MethodName)) ∈ am_tb := am_tin 924 (by decide +kernel) rfl
theorem w_838 : (Jvm.Cond.methodLink "TablePagerLaw" (84 : Nat) ({ cls := "TablePager", name := "emptyFrom", desc := "(I)I" } : Jvm.MethodName)) ∈ am_tb := am_tin 936 (by decide +kernel) rfl
theorem w_849 : (Jvm.Cond.methodLink "TablePagerLaw" (87 : Nat) ({ cls := "TablePager", name := "runScript", desc := "(IJ)I" } : Jvm.MethodName)) ∈ am_tb := am_tin 947 (by decide +kernel) rfl
theorem w_912 : (Jvm.Cond.methodLink "TablePagerLaw" (91 : Nat) ({ cls := "TablePager", name := "simulate", desc := "(JI)I" } : Jvm.MethodName)) ∈ am_tb := am_tin 1010 (by decide +kernel) rfl
theorem w_930 : (Jvm.Cond.methodLink "TablePagerLaw" (95 : Nat) ({ cls := "TablePager", name := "save", desc := "(I)I" } : Jvm.MethodName)) ∈ am_tb := am_tin 1028 (by decide +kernel) rfl
theorem w_946 : (Jvm.Cond.methodLink "TablePagerLaw" (98 : Nat) ({ cls := "TablePager", name := "restore", desc := "(I)I" } : Jvm.MethodName)) ∈ am_tb := am_tin 1044 (by decide +kernel) rfl
theorem w_19 : (Jvm.Cond.classLink "TablePagerLaw" (8 : Nat) "TablePager") ∈ am_tb := am_tin 117 (by decide +kernel) rfl
theorem w_21 : (Jvm.Cond.methodLink "TablePagerLaw" (101 : Nat) ({ cls := "TablePager", name := "<init>", desc := "()V" } : Jvm.MethodName)) ∈ am_tb := am_tin 119 (by decide +kernel) rfl
theorem w_959 : (Jvm.Cond.classLink "TablePagerLaw" (102 : Nat) "TablePagerModel") ∈ am_tb := am_tin 1057 (by decide +kernel) rfl
theorem w_961 : (Jvm.Cond.methodLink "TablePagerLaw" (104 : Nat) ({ cls := "TablePagerModel", name := "<init>", desc := "()V" } : Jvm.MethodName)) ∈ am_tb := am_tin 1059 (by decide +kernel) rfl
theorem w_1319 : (Jvm.Cond.arrayClass Jvm.ClassFile.FieldType.long) ∈ am_tb := am_tin 1417 (by decide +kernel) rfl
theorem w_396 : (Jvm.Cond.methodLink "TablePagerLaw" (105 : Nat) ({ cls := "TablePagerLaw", name := "append", desc := "(LTablePager;I[J)I" } : Jvm.MethodName)) ∈ am_tb := am_tin 494 (by decide +kernel) rfl
theorem w_1021 : (Jvm.Cond.methodLink "TablePagerLaw" (110 : Nat) ({ cls := "TablePagerModel", name := "append", desc := "(I)I" } : Jvm.MethodName)) ∈ am_tb := am_tin 1119 (by decide +kernel) rfl
theorem w_1017 : (Jvm.Cond.methodLink "TablePagerLaw" (111 : Nat) ({ cls := "TablePagerModel", name := "thrown", desc := "()I" } : Jvm.MethodName)) ∈ am_tb := am_tin 1115 (by decide +kernel) rfl
theorem w_276 : (Jvm.Cond.methodLink "TablePagerLaw" (114 : Nat) ({ cls := "TablePager", name := "clearText", desc := "()I" } : Jvm.MethodName)) ∈ am_tb := am_tin 374 (by decide +kernel) rfl
theorem w_1033 : (Jvm.Cond.methodLink "TablePagerLaw" (117 : Nat) ({ cls := "TablePagerModel", name := "clearText", desc := "()I" } : Jvm.MethodName)) ∈ am_tb := am_tin 1131 (by decide +kernel) rfl
theorem w_280 : (Jvm.Cond.methodLink "TablePagerLaw" (118 : Nat) ({ cls := "TablePager", name := "errorPosition", desc := "()I" } : Jvm.MethodName)) ∈ am_tb := am_tin 378 (by decide +kernel) rfl
theorem w_1037 : (Jvm.Cond.methodLink "TablePagerLaw" (121 : Nat) ({ cls := "TablePagerModel", name := "errorPosition", desc := "()I" } : Jvm.MethodName)) ∈ am_tb := am_tin 1135 (by decide +kernel) rfl
theorem w_497 : (Jvm.Cond.methodLink "TablePagerLaw" (122 : Nat) ({ cls := "TablePagerLaw", name := "load", desc := "(LTablePager;[J)I" } : Jvm.MethodName)) ∈ am_tb := am_tin 595 (by decide +kernel) rfl
theorem w_1084 : (Jvm.Cond.methodLink "TablePagerLaw" (125 : Nat) ({ cls := "TablePagerModel", name := "load", desc := "()I" } : Jvm.MethodName)) ∈ am_tb := am_tin 1182 (by decide +kernel) rfl
theorem w_521 : (Jvm.Cond.methodLink "TablePagerLaw" (126 : Nat) ({ cls := "TablePagerLaw", name := "about", desc := "(LTablePager;I[J)I" } : Jvm.MethodName)) ∈ am_tb := am_tin 619 (by decide +kernel) rfl
theorem w_1091 : (Jvm.Cond.methodLink "TablePagerLaw" (128 : Nat) ({ cls := "TablePagerModel", name := "about", desc := "(I)I" } : Jvm.MethodName)) ∈ am_tb := am_tin 1189 (by decide +kernel) rfl
theorem w_566 : (Jvm.Cond.methodLink "TablePagerLaw" (129 : Nat) ({ cls := "TablePagerLaw", name := "row", desc := "(LTablePager;II[J)I" } : Jvm.MethodName)) ∈ am_tb := am_tin 664 (by decide +kernel) rfl
theorem w_1150 : (Jvm.Cond.methodLink "TablePagerLaw" (132 : Nat) ({ cls := "TablePagerModel", name := "row", desc := "(II)I" } : Jvm.MethodName)) ∈ am_tb := am_tin 1248 (by decide +kernel) rfl
theorem w_602 : (Jvm.Cond.methodLink "TablePagerLaw" (133 : Nat) ({ cls := "TablePagerLaw", name := "amount", desc := "(LTablePager;II[J)I" } : Jvm.MethodName)) ∈ am_tb := am_tin 700 (by decide +kernel) rfl
theorem w_1159 : (Jvm.Cond.methodLink "TablePagerLaw" (135 : Nat) ({ cls := "TablePagerModel", name := "amount", desc := "(II)I" } : Jvm.MethodName)) ∈ am_tb := am_tin 1257 (by decide +kernel) rfl
theorem w_622 : (Jvm.Cond.methodLink "TablePagerLaw" (136 : Nat) ({ cls := "TablePagerLaw", name := "span", desc := "(LTablePager;II[J)I" } : Jvm.MethodName)) ∈ am_tb := am_tin 720 (by decide +kernel) rfl
theorem w_1167 : (Jvm.Cond.methodLink "TablePagerLaw" (138 : Nat) ({ cls := "TablePagerModel", name := "span", desc := "(II)I" } : Jvm.MethodName)) ∈ am_tb := am_tin 1265 (by decide +kernel) rfl
theorem w_640 : (Jvm.Cond.methodLink "TablePagerLaw" (139 : Nat) ({ cls := "TablePagerLaw", name := "note", desc := "(LTablePager;I[J)I" } : Jvm.MethodName)) ∈ am_tb := am_tin 738 (by decide +kernel) rfl
theorem w_1176 : (Jvm.Cond.methodLink "TablePagerLaw" (141 : Nat) ({ cls := "TablePagerModel", name := "note", desc := "(I)I" } : Jvm.MethodName)) ∈ am_tb := am_tin 1274 (by decide +kernel) rfl
theorem w_648 : (Jvm.Cond.methodLink "TablePagerLaw" (142 : Nat) ({ cls := "TablePagerLaw", name := "page", desc := "(LTablePager;II[J)I" } : Jvm.MethodName)) ∈ am_tb := am_tin 746 (by decide +kernel) rfl
theorem w_1181 : (Jvm.Cond.methodLink "TablePagerLaw" (144 : Nat) ({ cls := "TablePagerModel", name := "page", desc := "(II)I" } : Jvm.MethodName)) ∈ am_tb := am_tin 1279 (by decide +kernel) rfl
theorem w_688 : (Jvm.Cond.methodLink "TablePagerLaw" (145 : Nat) ({ cls := "TablePagerLaw", name := "brought", desc := "(LTablePager;II[J)I" } : Jvm.MethodName)) ∈ am_tb := am_tin 786 (by decide +kernel) rfl
theorem w_1190 : (Jvm.Cond.methodLink "TablePagerLaw" (147 : Nat) ({ cls := "TablePagerModel", name := "brought", desc := "(II)I" } : Jvm.MethodName)) ∈ am_tb := am_tin 1288 (by decide +kernel) rfl
theorem w_700 : (Jvm.Cond.methodLink "TablePagerLaw" (148 : Nat) ({ cls := "TablePagerLaw", name := "carried", desc := "(LTablePager;II[J)I" } : Jvm.MethodName)) ∈ am_tb := am_tin 798 (by decide +kernel) rfl
theorem w_1197 : (Jvm.Cond.methodLink "TablePagerLaw" (150 : Nat) ({ cls := "TablePagerModel", name := "carried", desc := "(II)I" } : Jvm.MethodName)) ∈ am_tb := am_tin 1295 (by decide +kernel) rfl
theorem w_707 : (Jvm.Cond.methodLink "TablePagerLaw" (151 : Nat) ({ cls := "TablePagerLaw", name := "richest", desc := "(LTablePager;I[J)I" } : Jvm.MethodName)) ∈ am_tb := am_tin 805 (by decide +kernel) rfl
theorem w_1201 : (Jvm.Cond.methodLink "TablePagerLaw" (153 : Nat) ({ cls := "TablePagerModel", name := "richest", desc := "(I)I" } : Jvm.MethodName)) ∈ am_tb := am_tin 1299 (by decide +kernel) rfl
theorem w_714 : (Jvm.Cond.methodLink "TablePagerLaw" (154 : Nat) ({ cls := "TablePagerLaw", name := "addRow", desc := "(LTablePager;II[J)I" } : Jvm.MethodName)) ∈ am_tb := am_tin 812 (by decide +kernel) rfl
theorem w_1205 : (Jvm.Cond.methodLink "TablePagerLaw" (156 : Nat) ({ cls := "TablePagerModel", name := "addRow", desc := "(II)I" } : Jvm.MethodName)) ∈ am_tb := am_tin 1303 (by decide +kernel) rfl
theorem w_734 : (Jvm.Cond.methodLink "TablePagerLaw" (157 : Nat) ({ cls := "TablePagerLaw", name := "setAmount", desc := "(LTablePager;III[J)I" } : Jvm.MethodName)) ∈ am_tb := am_tin 832 (by decide +kernel) rfl
theorem w_1213 : (Jvm.Cond.methodLink "TablePagerLaw" (160 : Nat) ({ cls := "TablePagerModel", name := "setAmount", desc := "(III)I" } : Jvm.MethodName)) ∈ am_tb := am_tin 1311 (by decide +kernel) rfl
theorem w_743 : (Jvm.Cond.methodLink "TablePagerLaw" (161 : Nat) ({ cls := "TablePagerLaw", name := "keep", desc := "(LTablePager;IZ[J)I" } : Jvm.MethodName)) ∈ am_tb := am_tin 841 (by decide +kernel) rfl
theorem w_1219 : (Jvm.Cond.methodLink "TablePagerLaw" (164 : Nat) ({ cls := "TablePagerModel", name := "keep", desc := "(IZ)I" } : Jvm.MethodName)) ∈ am_tb := am_tin 1317 (by decide +kernel) rfl
theorem w_750 : (Jvm.Cond.methodLink "TablePagerLaw" (165 : Nat) ({ cls := "TablePagerLaw", name := "removeRow", desc := "(LTablePager;I[J)I" } : Jvm.MethodName)) ∈ am_tb := am_tin 848 (by decide +kernel) rfl
theorem w_1223 : (Jvm.Cond.methodLink "TablePagerLaw" (167 : Nat) ({ cls := "TablePagerModel", name := "removeRow", desc := "(I)I" } : Jvm.MethodName)) ∈ am_tb := am_tin 1321 (by decide +kernel) rfl
theorem w_766 : (Jvm.Cond.methodLink "TablePagerLaw" (168 : Nat) ({ cls := "TablePagerLaw", name := "addSpan", desc := "(LTablePager;IIZ[J)I" } : Jvm.MethodName)) ∈ am_tb := am_tin 864 (by decide +kernel) rfl
theorem w_1233 : (Jvm.Cond.methodLink "TablePagerLaw" (171 : Nat) ({ cls := "TablePagerModel", name := "addSpan", desc := "(IIZ)I" } : Jvm.MethodName)) ∈ am_tb := am_tin 1331 (by decide +kernel) rfl
theorem w_777 : (Jvm.Cond.methodLink "TablePagerLaw" (172 : Nat) ({ cls := "TablePagerLaw", name := "removeSpan", desc := "(LTablePager;I[J)I" } : Jvm.MethodName)) ∈ am_tb := am_tin 875 (by decide +kernel) rfl
theorem w_1237 : (Jvm.Cond.methodLink "TablePagerLaw" (174 : Nat) ({ cls := "TablePagerModel", name := "removeSpan", desc := "(I)I" } : Jvm.MethodName)) ∈ am_tb := am_tin 1335 (by decide +kernel) rfl
theorem w_788 : (Jvm.Cond.methodLink "TablePagerLaw" (175 : Nat) ({ cls := "TablePagerLaw", name := "setHeight", desc := "(LTablePager;II[J)I" } : Jvm.MethodName)) ∈ am_tb := am_tin 886 (by decide +kernel) rfl
theorem w_1241 : (Jvm.Cond.methodLink "TablePagerLaw" (177 : Nat) ({ cls := "TablePagerModel", name := "setHeight", desc := "(II)I" } : Jvm.MethodName)) ∈ am_tb := am_tin 1339 (by decide +kernel) rfl
theorem w_803 : (Jvm.Cond.methodLink "TablePagerLaw" (178 : Nat) ({ cls := "TablePagerLaw", name := "undo", desc := "(LTablePager;[J)I" } : Jvm.MethodName)) ∈ am_tb := am_tin 901 (by decide +kernel) rfl
theorem w_1254 : (Jvm.Cond.methodLink "TablePagerLaw" (180 : Nat) ({ cls := "TablePagerModel", name := "undo", desc := "()I" } : Jvm.MethodName)) ∈ am_tb := am_tin 1352 (by decide +kernel) rfl
theorem w_815 : (Jvm.Cond.methodLink "TablePagerLaw" (181 : Nat) ({ cls := "TablePagerLaw", name := "heightFor", desc := "(LTablePager;I[J)I" } : Jvm.MethodName)) ∈ am_tb := am_tin 913 (by decide +kernel) rfl
theorem w_1258 : (Jvm.Cond.methodLink "TablePagerLaw" (183 : Nat) ({ cls := "TablePagerModel", name := "heightFor", desc := "(I)I" } : Jvm.MethodName)) ∈ am_tb := am_tin 1356 (by decide +kernel) rfl
theorem w_353 : (Jvm.Cond.methodLink "TablePagerLaw" (184 : Nat) ({ cls := "TablePager", name := "evenest", desc := "()I" } : Jvm.MethodName)) ∈ am_tb := am_tin 451 (by decide +kernel) rfl
theorem w_1267 : (Jvm.Cond.methodLink "TablePagerLaw" (187 : Nat) ({ cls := "TablePagerModel", name := "evenest", desc := "()I" } : Jvm.MethodName)) ∈ am_tb := am_tin 1365 (by decide +kernel) rfl
theorem w_823 : (Jvm.Cond.methodLink "TablePagerLaw" (188 : Nat) ({ cls := "TablePagerLaw", name := "evenCut", desc := "(LTablePager;I[J)I" } : Jvm.MethodName)) ∈ am_tb := am_tin 921 (by decide +kernel) rfl
theorem w_1279 : (Jvm.Cond.methodLink "TablePagerLaw" (190 : Nat) ({ cls := "TablePagerModel", name := "evenCut", desc := "(I)I" } : Jvm.MethodName)) ∈ am_tb := am_tin 1377 (by decide +kernel) rfl
theorem w_835 : (Jvm.Cond.methodLink "TablePagerLaw" (191 : Nat) ({ cls := "TablePagerLaw", name := "emptyFrom", desc := "(LTablePager;I[J)I" } : Jvm.MethodName)) ∈ am_tb := am_tin 933 (by decide +kernel) rfl
theorem w_1283 : (Jvm.Cond.methodLink "TablePagerLaw" (193 : Nat) ({ cls := "TablePagerModel", name := "emptyFrom", desc := "(I)I" } : Jvm.MethodName)) ∈ am_tb := am_tin 1381 (by decide +kernel) rfl
theorem w_1318 : (Jvm.Cond.constantLong "TablePagerLaw" (194 : Nat) (4294967295 : Int64)) ∈ am_tb := am_tin 1416 (by decide +kernel) rfl
theorem w_846 : (Jvm.Cond.methodLink "TablePagerLaw" (196 : Nat) ({ cls := "TablePagerLaw", name := "runScript", desc := "(LTablePager;IJ[J)I" } : Jvm.MethodName)) ∈ am_tb := am_tin 944 (by decide +kernel) rfl
theorem w_1287 : (Jvm.Cond.methodLink "TablePagerLaw" (199 : Nat) ({ cls := "TablePagerModel", name := "runScript", desc := "(IJ)I" } : Jvm.MethodName)) ∈ am_tb := am_tin 1385 (by decide +kernel) rfl
theorem w_909 : (Jvm.Cond.methodLink "TablePagerLaw" (200 : Nat) ({ cls := "TablePagerLaw", name := "simulate", desc := "(LTablePager;JI[J)I" } : Jvm.MethodName)) ∈ am_tb := am_tin 1007 (by decide +kernel) rfl
theorem w_1300 : (Jvm.Cond.methodLink "TablePagerLaw" (203 : Nat) ({ cls := "TablePagerModel", name := "simulate", desc := "(JI)I" } : Jvm.MethodName)) ∈ am_tb := am_tin 1398 (by decide +kernel) rfl
theorem w_927 : (Jvm.Cond.methodLink "TablePagerLaw" (204 : Nat) ({ cls := "TablePagerLaw", name := "save", desc := "(LTablePager;I[J)I" } : Jvm.MethodName)) ∈ am_tb := am_tin 1025 (by decide +kernel) rfl
theorem w_1310 : (Jvm.Cond.methodLink "TablePagerLaw" (206 : Nat) ({ cls := "TablePagerModel", name := "save", desc := "(I)I" } : Jvm.MethodName)) ∈ am_tb := am_tin 1408 (by decide +kernel) rfl
theorem w_943 : (Jvm.Cond.methodLink "TablePagerLaw" (207 : Nat) ({ cls := "TablePagerLaw", name := "restore", desc := "(LTablePager;I[J)I" } : Jvm.MethodName)) ∈ am_tb := am_tin 1041 (by decide +kernel) rfl
theorem w_1314 : (Jvm.Cond.methodLink "TablePagerLaw" (209 : Nat) ({ cls := "TablePagerModel", name := "restore", desc := "(I)I" } : Jvm.MethodName)) ∈ am_tb := am_tin 1412 (by decide +kernel) rfl
theorem w_405 : (Jvm.Cond.classLink "TablePager" (61 : Nat) "java/lang/IllegalArgumentException") ∈ am_tb := am_tin 503 (by decide +kernel) rfl
theorem w_14 : (Jvm.Cond.initialized "java/lang/IllegalArgumentException") ∈ am_tb := am_tin 112 (by decide +kernel) rfl
theorem w_477 : (Jvm.Cond.classLink "TablePager" (72 : Nat) "java/lang/IllegalStateException") ∈ am_tb := am_tin 575 (by decide +kernel) rfl
theorem w_15 : (Jvm.Cond.initialized "java/lang/IllegalStateException") ∈ am_tb := am_tin 113 (by decide +kernel) rfl
theorem w_582 : (Jvm.Cond.classLink "TablePager" (342 : Nat) "java/lang/IndexOutOfBoundsException") ∈ am_tb := am_tin 680 (by decide +kernel) rfl
theorem w_18 : (Jvm.Cond.initialized "java/lang/IndexOutOfBoundsException") ∈ am_tb := am_tin 116 (by decide +kernel) rfl
theorem fl_Table_9 : am_flo "TablePager$Table" 9 7 5 := Or.inl w_78
theorem fl_Table_15 : am_flo "TablePager$Table" 15 7 6 := Or.inl w_81
theorem fl_Table_18 : am_flo "TablePager$Table" 18 7 7 := Or.inl w_85
theorem fl_Table_22 : am_flo "TablePager$Table" 22 7 8 := Or.inl w_89
theorem fl_Table_25 : am_flo "TablePager$Table" 25 7 9 := Or.inl w_90
theorem fl_Table_28 : am_flo "TablePager$Table" 28 7 10 := Or.inl w_94
theorem fl_Table_31 : am_flo "TablePager$Table" 31 7 11 := Or.inl w_98
theorem fl_Table_34 : am_flo "TablePager$Table" 34 7 12 := Or.inl w_100
theorem fl_Table_40 : am_flo "TablePager$Table" 40 7 0 := Or.inl w_55
theorem fl_Table_44 : am_flo "TablePager$Table" 44 7 1 := Or.inl w_58
theorem fl_Table_47 : am_flo "TablePager$Table" 47 7 2 := Or.inl w_65
theorem fl_Table_50 : am_flo "TablePager$Table" 50 7 3 := Or.inl w_68
theorem fl_Table_53 : am_flo "TablePager$Table" 53 7 4 := Or.inl w_74
theorem fl_Command_7 : am_flo "TablePager$Command" 7 1 0 := Or.inl w_235
theorem fl_Command_13 : am_flo "TablePager$Command" 13 1 1 := Or.inl w_236
theorem fl_Command_16 : am_flo "TablePager$Command" 16 1 2 := Or.inl w_237
theorem fl_Command_19 : am_flo "TablePager$Command" 19 1 3 := Or.inl w_238
theorem fl_Command_22 : am_flo "TablePager$Command" 22 1 4 := Or.inl w_239
theorem fl_Command_45 : am_flo "TablePager$Command" 45 7 3 := Or.inr ⟨_, w_70⟩
theorem fl_Command_56 : am_flo "TablePager$Command" 56 4 0 := Or.inr ⟨_, w_195⟩
theorem fl_Command_78 : am_flo "TablePager$Command" 78 4 1 := Or.inr ⟨_, w_198⟩
theorem fl_Command_103 : am_flo "TablePager$Command" 103 7 7 := Or.inr ⟨_, w_88⟩
theorem fl_Evener_9 : am_flo "TablePager$Evener" 9 2 0 := Or.inl w_219
theorem fl_Evener_15 : am_flo "TablePager$Evener" 15 2 1 := Or.inl w_220
theorem fl_Evener_21 : am_flo "TablePager$Evener" 21 2 2 := Or.inl w_221
theorem fl_Evener_31 : am_flo "TablePager$Evener" 31 7 1 := Or.inr ⟨_, w_59⟩
theorem fl_Evener_54 : am_flo "TablePager$Evener" 54 7 3 := Or.inr ⟨_, w_69⟩
theorem fl_History_11 : am_flo "TablePager$History" 11 3 0 := Or.inl w_142
theorem fl_History_18 : am_flo "TablePager$History" 18 3 2 := Or.inl w_144
theorem fl_History_22 : am_flo "TablePager$History" 22 3 1 := Or.inl w_143
theorem fl_Layout_9 : am_flo "TablePager$Layout" 9 4 2 := Or.inl w_200
theorem fl_Layout_18 : am_flo "TablePager$Layout" 18 4 3 := Or.inl w_201
theorem fl_Layout_28 : am_flo "TablePager$Layout" 28 4 0 := Or.inl w_194
theorem fl_Layout_32 : am_flo "TablePager$Layout" 32 4 1 := Or.inl w_197
theorem fl_Layout_35 : am_flo "TablePager$Layout" 35 7 1 := Or.inr ⟨_, w_60⟩
theorem fl_Layout_61 : am_flo "TablePager$Layout" 61 7 10 := Or.inr ⟨_, w_96⟩
theorem fl_Layout_68 : am_flo "TablePager$Layout" 68 7 9 := Or.inr ⟨_, w_92⟩
theorem fl_Layout_71 : am_flo "TablePager$Layout" 71 7 2 := Or.inr ⟨_, w_67⟩
theorem fl_Layout_88 : am_flo "TablePager$Layout" 88 7 3 := Or.inr ⟨_, w_73⟩
theorem fl_Sheet_7 : am_flo "TablePager$Sheet" 7 5 0 := Or.inl w_180
theorem fl_Sheet_13 : am_flo "TablePager$Sheet" 13 7 2 := Or.inr ⟨_, w_64⟩
theorem fl_Sheet_18 : am_flo "TablePager$Sheet" 18 7 9 := Or.inr ⟨_, w_91⟩
theorem fl_Sheet_22 : am_flo "TablePager$Sheet" 22 7 10 := Or.inr ⟨_, w_95⟩
theorem fl_Sheet_25 : am_flo "TablePager$Sheet" 25 5 1 := Or.inl w_182
theorem fl_Sheet_28 : am_flo "TablePager$Sheet" 28 7 4 := Or.inr ⟨_, w_75⟩
theorem fl_Sheet_31 : am_flo "TablePager$Sheet" 31 5 2 := Or.inl w_183
theorem fl_Sheet_34 : am_flo "TablePager$Sheet" 34 5 3 := Or.inl w_184
theorem fl_Sheet_37 : am_flo "TablePager$Sheet" 37 7 5 := Or.inr ⟨_, w_79⟩
theorem fl_Sheet_40 : am_flo "TablePager$Sheet" 40 7 6 := Or.inr ⟨_, w_82⟩
theorem fl_Sheet_48 : am_flo "TablePager$Sheet" 48 7 12 := Or.inr ⟨_, w_101⟩
theorem fl_Sheet_51 : am_flo "TablePager$Sheet" 51 7 1 := Or.inr ⟨_, w_61⟩
theorem fl_Slots_11 : am_flo "TablePager$Slots" 11 6 0 := Or.inl w_161
theorem fl_Slots_17 : am_flo "TablePager$Slots" 17 6 1 := Or.inl w_162
theorem fl_Text_9 : am_flo "TablePager$Text" 9 8 0 := Or.inl w_33
theorem fl_Text_15 : am_flo "TablePager$Text" 15 8 1 := Or.inl w_34
theorem fl_Text_19 : am_flo "TablePager$Text" 19 8 2 := Or.inl w_36
theorem fl_Text_46 : am_flo "TablePager$Text" 46 7 0 := Or.inr ⟨_, w_56⟩
theorem fl_Text_49 : am_flo "TablePager$Text" 49 7 3 := Or.inr ⟨_, w_71⟩
theorem fl_Text_52 : am_flo "TablePager$Text" 52 7 4 := Or.inr ⟨_, w_76⟩
theorem fl_Text_62 : am_flo "TablePager$Text" 62 7 1 := Or.inr ⟨_, w_63⟩
theorem fl_Text_65 : am_flo "TablePager$Text" 65 7 7 := Or.inr ⟨_, w_86⟩
theorem fl_Text_89 : am_flo "TablePager$Text" 89 7 6 := Or.inr ⟨_, w_84⟩
theorem fl_Text_93 : am_flo "TablePager$Text" 93 7 12 := Or.inr ⟨_, w_102⟩
theorem fl_P_10 : am_flo "TablePager" 10 0 0 := Or.inl w_251
theorem fl_P_19 : am_flo "TablePager" 19 0 1 := Or.inl w_252
theorem fl_P_26 : am_flo "TablePager" 26 0 2 := Or.inl w_253
theorem fl_P_33 : am_flo "TablePager" 33 0 3 := Or.inl w_254
theorem fl_P_40 : am_flo "TablePager" 40 0 4 := Or.inl w_255
theorem fl_P_47 : am_flo "TablePager" 47 0 5 := Or.inl w_256
theorem fl_P_54 : am_flo "TablePager" 54 0 6 := Or.inl w_257
theorem fl_P_58 : am_flo "TablePager" 58 0 7 := Or.inl w_258
theorem fl_P_81 : am_flo "TablePager" 81 8 1 := Or.inr ⟨_, w_35⟩
theorem fl_P_102 : am_flo "TablePager" 102 7 1 := Or.inr ⟨_, w_62⟩
theorem fl_P_105 : am_flo "TablePager" 105 7 0 := Or.inr ⟨_, w_57⟩
theorem fl_P_108 : am_flo "TablePager" 108 7 2 := Or.inr ⟨_, w_66⟩
theorem fl_P_111 : am_flo "TablePager" 111 7 3 := Or.inr ⟨_, w_72⟩
theorem fl_P_114 : am_flo "TablePager" 114 7 4 := Or.inr ⟨_, w_77⟩
theorem fl_P_124 : am_flo "TablePager" 124 4 1 := Or.inr ⟨_, w_199⟩
theorem fl_P_136 : am_flo "TablePager" 136 7 5 := Or.inr ⟨_, w_80⟩
theorem fl_P_140 : am_flo "TablePager" 140 7 6 := Or.inr ⟨_, w_83⟩
theorem fl_P_143 : am_flo "TablePager" 143 7 7 := Or.inr ⟨_, w_87⟩
theorem fl_P_170 : am_flo "TablePager" 170 7 9 := Or.inr ⟨_, w_93⟩
theorem fl_P_173 : am_flo "TablePager" 173 7 10 := Or.inr ⟨_, w_97⟩
theorem fl_P_176 : am_flo "TablePager" 176 7 11 := Or.inr ⟨_, w_99⟩
theorem fl_P_187 : am_flo "TablePager" 187 7 12 := Or.inr ⟨_, w_103⟩
theorem fl_P_208 : am_flo "TablePager" 208 5 0 := Or.inr ⟨_, w_181⟩
theorem fl_P_220 : am_flo "TablePager" 220 4 0 := Or.inr ⟨_, w_196⟩
theorem fl_P_269 : am_flo "TablePager" 269 3 2 := Or.inr ⟨_, w_145⟩
theorem fl_M_7 : am_flo "TablePagerModel" 7 9 1 := Or.inl w_969
theorem fl_M_13 : am_flo "TablePagerModel" 13 9 5 := Or.inl w_973
theorem fl_M_16 : am_flo "TablePagerModel" 16 9 6 := Or.inl w_974
theorem fl_M_19 : am_flo "TablePagerModel" 19 9 7 := Or.inl w_975
theorem fl_M_22 : am_flo "TablePagerModel" 22 9 8 := Or.inl w_976
theorem fl_M_25 : am_flo "TablePagerModel" 25 9 10 := Or.inl w_978
theorem fl_M_28 : am_flo "TablePagerModel" 28 9 11 := Or.inl w_979
theorem fl_M_32 : am_flo "TablePagerModel" 32 9 12 := Or.inl w_980
theorem fl_M_35 : am_flo "TablePagerModel" 35 9 14 := Or.inl w_982
theorem fl_M_38 : am_flo "TablePagerModel" 38 9 15 := Or.inl w_983
theorem fl_M_45 : am_flo "TablePagerModel" 45 9 0 := Or.inl w_968
theorem fl_M_51 : am_flo "TablePagerModel" 51 9 9 := Or.inl w_977
theorem fl_M_94 : am_flo "TablePagerModel" 94 9 13 := Or.inl w_981
theorem fl_M_125 : am_flo "TablePagerModel" 125 9 2 := Or.inl w_970
theorem fl_M_132 : am_flo "TablePagerModel" 132 9 3 := Or.inl w_971
theorem fl_M_135 : am_flo "TablePagerModel" 135 9 4 := Or.inl w_972
theorem ml_Table_37 : am_mlo "TablePager$Table" 37 y_Table_makeNew := Or.inl w_51
theorem ml_Table_62 : am_mlo "TablePager$Table" 62 y_Table_amountAt := Or.inl w_699
theorem ml_Table_66 : am_mlo "TablePager$Table" 66 y_Table_putAmount := Or.inl w_327
theorem ml_Table_70 : am_mlo "TablePager$Table" 70 y_Table_takeRowFromSpans := Or.inl w_761
theorem ml_Table_74 : am_mlo "TablePager$Table" 74 y_Table_putSpan := Or.inl w_765
theorem ml_Table_78 : am_mlo "TablePager$Table" 78 y_Table_upTo := Or.inl w_369
theorem ml_Table_81 : am_mlo "TablePager$Table" 81 y_Table_cutRows := Or.inl w_365
theorem ml_Table_85 : am_mlo "TablePager$Table" 85 y_Table_isFull := Or.inl w_923
theorem ml_Table_89 : am_mlo "TablePager$Table" 89 y_Table_putRow := Or.inl w_924
theorem ml_Table_93 : am_mlo "TablePager$Table" 93 y_Table_dropRow := Or.inl w_925
theorem ml_Command_25 : am_mlo "TablePager$Command" 25 y_Command_addsRow := Or.inl w_867
theorem ml_Command_29 : am_mlo "TablePager$Command" 29 y_Command_putsAmount := Or.inl w_874
theorem ml_Command_32 : am_mlo "TablePager$Command" 32 y_Command_marksRow := Or.inl w_885
theorem ml_Command_35 : am_mlo "TablePager$Command" 35 y_Command_dropsRow := Or.inl w_889
theorem ml_Command_38 : am_mlo "TablePager$Command" 38 y_Command_putsHeight := Or.inl w_894
theorem ml_Command_41 : am_mlo "TablePager$Command" 41 y_Command_holds := Or.inl w_900
theorem ml_Command_50 : am_mlo "TablePager$Command" 50 y_Layout_lay := Or.inr ⟨_, w_904⟩
theorem ml_Command_59 : am_mlo "TablePager$Command" 59 y_Command_firstPair := Or.inl w_878
theorem ml_Command_63 : am_mlo "TablePager$Command" 63 y_Layout_hasPage := Or.inr ⟨_, w_905⟩
theorem ml_Command_67 : am_mlo "TablePager$Command" 67 y_Layout_lastOf := Or.inr ⟨_, w_906⟩
theorem ml_Command_71 : am_mlo "TablePager$Command" 71 y_Table_hasSpan := Or.inr ⟨_, w_907⟩
theorem ml_Command_74 : am_mlo "TablePager$Command" 74 y_Layout_pagesOfSpan := Or.inr ⟨_, w_908⟩
theorem ml_Command_81 : am_mlo "TablePager$Command" 81 y_Table_allowsRow := Or.inr ⟨_, w_871⟩
theorem ml_Command_85 : am_mlo "TablePager$Command" 85 y_Table_isFull := Or.inr ⟨_, w_872⟩
theorem ml_Command_89 : am_mlo "TablePager$Command" 89 y_Table_putRow := Or.inr ⟨_, w_873⟩
theorem ml_Command_93 : am_mlo "TablePager$Command" 93 y_Table_hasRow := Or.inr ⟨_, w_882⟩
theorem ml_Command_96 : am_mlo "TablePager$Command" 96 y_Table_hasColumn := Or.inr ⟨_, w_883⟩
theorem ml_Command_99 : am_mlo "TablePager$Command" 99 y_Table_putAmount := Or.inr ⟨_, w_884⟩
theorem ml_Command_107 : am_mlo "TablePager$Command" 107 y_Table_dropRow := Or.inr ⟨_, w_893⟩
theorem ml_Command_110 : am_mlo "TablePager$Command" 110 y_Table_allowsHeight := Or.inr ⟨_, w_898⟩
theorem ml_Command_113 : am_mlo "TablePager$Command" 113 y_Table_putHeight := Or.inr ⟨_, w_899⟩
theorem ml_Evener_20 : am_mlo "TablePager$Evener" 20 y_Sheet_init := Or.inr ⟨_, w_218⟩
theorem ml_Evener_25 : am_mlo "TablePager$Evener" 25 y_Table_endRows := Or.inr ⟨_, w_361⟩
theorem ml_Evener_35 : am_mlo "TablePager$Evener" 35 y_Evener_chooseEnd := Or.inl w_372
theorem ml_Evener_39 : am_mlo "TablePager$Evener" 39 y_Sheet_begin := Or.inr ⟨_, w_376⟩
theorem ml_Evener_43 : am_mlo "TablePager$Evener" 43 y_Sheet_take := Or.inr ⟨_, w_380⟩
theorem ml_Evener_46 : am_mlo "TablePager$Evener" 46 y_P_isIn := Or.inr ⟨_, w_387⟩
theorem ml_Evener_50 : am_mlo "TablePager$Evener" 50 y_Evener_costOfSheet := Or.inl w_388
theorem ml_Evener_57 : am_mlo "TablePager$Evener" 57 y_Sheet_needed := Or.inr ⟨_, w_392⟩
theorem ml_History_17 : am_mlo "TablePager$History" 17 y_Table_init := Or.inr ⟨_, w_141⟩
theorem ml_History_25 : am_mlo "TablePager$History" 25 y_Table_copyFrom := Or.inr ⟨_, w_731⟩
theorem ml_Layout_17 : am_mlo "TablePager$Layout" 17 y_Sheet_init := Or.inr ⟨_, w_176⟩
theorem ml_Layout_22 : am_mlo "TablePager$Layout" 22 y_Table_endRows := Or.inr ⟨_, w_540⟩
theorem ml_Layout_38 : am_mlo "TablePager$Layout" 38 y_Layout_lastThatFits := Or.inl w_541
theorem ml_Layout_43 : am_mlo "TablePager$Layout" 43 y_Layout_firstEnd := Or.inl w_550
theorem ml_Layout_47 : am_mlo "TablePager$Layout" 47 y_Sheet_begin := Or.inr ⟨_, w_546⟩
theorem ml_Layout_51 : am_mlo "TablePager$Layout" 51 y_Sheet_take := Or.inr ⟨_, w_547⟩
theorem ml_Layout_54 : am_mlo "TablePager$Layout" 54 y_Sheet_needed := Or.inr ⟨_, w_548⟩
theorem ml_Layout_57 : am_mlo "TablePager$Layout" 57 y_P_isIn := Or.inr ⟨_, w_549⟩
theorem ml_Layout_64 : am_mlo "TablePager$Layout" 64 y_Layout_pageOf := Or.inl w_561
theorem ml_Layout_74 : am_mlo "TablePager$Layout" 74 y_Layout_pagesOfSpan := Or.inl w_557
theorem ml_Layout_78 : am_mlo "TablePager$Layout" 78 y_Layout_firstOf := Or.inl w_668
theorem ml_Layout_81 : am_mlo "TablePager$Layout" 81 y_Layout_lastOf := Or.inl w_672
theorem ml_Layout_84 : am_mlo "TablePager$Layout" 84 y_Layout_fill := Or.inl w_676
theorem ml_Sheet_42 : am_mlo "TablePager$Sheet" 42 y_P_isIn := Or.inr ⟨_, w_384⟩
theorem ml_Slots_21 : am_mlo "TablePager$Slots" 21 y_Table_init := Or.inr ⟨_, w_160⟩
theorem ml_Slots_22 : am_mlo "TablePager$Slots" 22 y_Table_copyFrom := Or.inr ⟨_, w_942⟩
theorem ml_Text_22 : am_mlo "TablePager$Text" 22 y_Table_makeNew := Or.inr ⟨_, w_288⟩
theorem ml_Text_27 : am_mlo "TablePager$Text" 27 y_Text_readHead := Or.inl w_289
theorem ml_Text_31 : am_mlo "TablePager$Text" 31 y_Text_readPart := Or.inl w_311
theorem ml_Text_35 : am_mlo "TablePager$Text" 35 y_Text_takeSign := Or.inl w_293
theorem ml_Text_39 : am_mlo "TablePager$Text" 39 y_Text_takeDigit := Or.inl w_297
theorem ml_Text_43 : am_mlo "TablePager$Text" 43 y_Text_takePair := Or.inl w_301
theorem ml_Text_55 : am_mlo "TablePager$Text" 55 y_Table_isFull := Or.inr ⟨_, w_315⟩
theorem ml_Text_59 : am_mlo "TablePager$Text" 59 y_Text_readRow := Or.inl w_319
theorem ml_Text_69 : am_mlo "TablePager$Text" 69 y_Text_readNote := Or.inl w_332
theorem ml_Text_72 : am_mlo "TablePager$Text" 72 y_Text_readNoteHeight := Or.inl w_336
theorem ml_Text_75 : am_mlo "TablePager$Text" 75 y_Table_hasAllSpans := Or.inr ⟨_, w_340⟩
theorem ml_Text_78 : am_mlo "TablePager$Text" 78 y_Text_readSpan := Or.inl w_344
theorem ml_Text_81 : am_mlo "TablePager$Text" 81 y_Table_putRow := Or.inr ⟨_, w_323⟩
theorem ml_Text_85 : am_mlo "TablePager$Text" 85 y_Table_putAmount := Or.inr ⟨_, w_331⟩
theorem ml_Text_96 : am_mlo "TablePager$Text" 96 y_Table_putSpan := Or.inr ⟨_, w_348⟩
theorem ml_P_9 : am_mlo "TablePager" 9 y_Text_init := Or.inr ⟨_, w_29⟩
theorem ml_P_18 : am_mlo "TablePager" 18 y_Table_init := Or.inr ⟨_, w_47⟩
theorem ml_P_25 : am_mlo "TablePager" 25 y_History_init := Or.inr ⟨_, w_135⟩
theorem ml_P_32 : am_mlo "TablePager" 32 y_Slots_init := Or.inr ⟨_, w_155⟩
theorem ml_P_39 : am_mlo "TablePager" 39 y_Layout_init := Or.inr ⟨_, w_170⟩
theorem ml_P_46 : am_mlo "TablePager" 46 y_Evener_init := Or.inr ⟨_, w_213⟩
theorem ml_P_53 : am_mlo "TablePager" 53 y_Command_init := Or.inr ⟨_, w_231⟩
theorem ml_P_68 : am_mlo "TablePager" 68 y_Text_isFull := Or.inr ⟨_, w_473⟩
theorem ml_P_77 : am_mlo "TablePager" 77 y_Text_put := Or.inr ⟨_, w_493⟩
theorem ml_P_85 : am_mlo "TablePager" 85 y_Text_readInto := Or.inr ⟨_, w_284⟩
theorem ml_P_92 : am_mlo "TablePager" 92 y_Table_copyFrom := Or.inr ⟨_, w_506⟩
theorem ml_P_96 : am_mlo "TablePager" 96 y_History_forget := Or.inr ⟨_, w_513⟩
theorem ml_P_99 : am_mlo "TablePager" 99 y_Slots_empty := Or.inr ⟨_, w_517⟩
theorem ml_P_117 : am_mlo "TablePager" 117 y_P_countPages := Or.inl w_528
theorem ml_P_121 : am_mlo "TablePager" 121 y_P_layOut := Or.inl w_532
theorem ml_P_127 : am_mlo "TablePager" 127 y_Layout_countCutSpans := Or.inr ⟨_, w_553⟩
theorem ml_P_132 : am_mlo "TablePager" 132 y_P_requireRow := Or.inl w_574
theorem ml_P_147 : am_mlo "TablePager" 147 y_Table_cutRows := Or.inr ⟨_, w_598⟩
theorem ml_P_150 : am_mlo "TablePager" 150 y_P_isIn := Or.inl w_599
theorem ml_P_154 : am_mlo "TablePager" 154 y_Layout_pageOf := Or.inr ⟨_, w_600⟩
theorem ml_P_160 : am_mlo "TablePager" 160 y_P_requireColumn := Or.inl w_609
theorem ml_P_163 : am_mlo "TablePager" 163 y_Table_amountAt := Or.inr ⟨_, w_618⟩
theorem ml_P_167 : am_mlo "TablePager" 167 y_P_requireSpan := Or.inl w_629
theorem ml_P_179 : am_mlo "TablePager" 179 y_Layout_pagesOfSpan := Or.inr ⟨_, w_638⟩
theorem ml_P_190 : am_mlo "TablePager" 190 y_P_requirePage := Or.inl w_655
theorem ml_P_193 : am_mlo "TablePager" 193 y_Layout_sheetOf := Or.inr ⟨_, w_664⟩
theorem ml_P_197 : am_mlo "TablePager" 197 y_Layout_firstOf := Or.inr ⟨_, w_680⟩
theorem ml_P_200 : am_mlo "TablePager" 200 y_Layout_lastOf := Or.inr ⟨_, w_681⟩
theorem ml_P_203 : am_mlo "TablePager" 203 y_Sheet_needed := Or.inr ⟨_, w_682⟩
theorem ml_P_211 : am_mlo "TablePager" 211 y_Sheet_noteBits := Or.inr ⟨_, w_683⟩
theorem ml_P_216 : am_mlo "TablePager" 216 y_Table_sumOfRows := Or.inr ⟨_, w_695⟩
theorem ml_P_223 : am_mlo "TablePager" 223 y_Table_allowsRow := Or.inr ⟨_, w_721⟩
theorem ml_P_228 : am_mlo "TablePager" 228 y_Table_isFull := Or.inr ⟨_, w_725⟩
theorem ml_P_231 : am_mlo "TablePager" 231 y_History_remember := Or.inr ⟨_, w_727⟩
theorem ml_P_234 : am_mlo "TablePager" 234 y_Table_putRow := Or.inr ⟨_, w_733⟩
theorem ml_P_240 : am_mlo "TablePager" 240 y_Table_putAmount := Or.inr ⟨_, w_742⟩
theorem ml_P_244 : am_mlo "TablePager" 244 y_Table_dropRow := Or.inr ⟨_, w_757⟩
theorem ml_P_249 : am_mlo "TablePager" 249 y_Table_hasAllSpans := Or.inr ⟨_, w_774⟩
theorem ml_P_254 : am_mlo "TablePager" 254 y_Table_putSpan := Or.inr ⟨_, w_776⟩
theorem ml_P_258 : am_mlo "TablePager" 258 y_Table_dropSpan := Or.inr ⟨_, w_784⟩
theorem ml_P_261 : am_mlo "TablePager" 261 y_Table_allowsHeight := Or.inr ⟨_, w_795⟩
theorem ml_P_266 : am_mlo "TablePager" 266 y_Table_putHeight := Or.inr ⟨_, w_799⟩
theorem ml_P_274 : am_mlo "TablePager" 274 y_History_takeBack := Or.inr ⟨_, w_811⟩
theorem ml_P_279 : am_mlo "TablePager" 279 y_Layout_lay := Or.inr ⟨_, w_536⟩
theorem ml_P_283 : am_mlo "TablePager" 283 y_Evener_leastCost := Or.inr ⟨_, w_357⟩
theorem ml_P_288 : am_mlo "TablePager" 288 y_Evener_lastOf := Or.inr ⟨_, w_830⟩
theorem ml_P_290 : am_mlo "TablePager" 290 y_Layout_emptyFromRow := Or.inr ⟨_, w_842⟩
theorem ml_P_295 : am_mlo "TablePager" 295 y_P_withoutGroups := Or.inl w_854
theorem ml_P_303 : am_mlo "TablePager" 303 y_Command_setDigits := Or.inr ⟨_, w_859⟩
theorem ml_P_306 : am_mlo "TablePager" 306 y_Command_runOn := Or.inr ⟨_, w_863⟩
theorem ml_P_316 : am_mlo "TablePager" 316 y_Table_playRound := Or.inr ⟨_, w_919⟩
theorem ml_P_324 : am_mlo "TablePager" 324 y_P_requireSlot := Or.inl w_934
theorem ml_P_327 : am_mlo "TablePager" 327 y_Slots_put := Or.inr ⟨_, w_938⟩
theorem ml_P_330 : am_mlo "TablePager" 330 y_Slots_isFilled := Or.inr ⟨_, w_950⟩
theorem ml_P_336 : am_mlo "TablePager" 336 y_Slots_copyTo := Or.inr ⟨_, w_955⟩
theorem ml_P_339 : am_mlo "TablePager" 339 y_Table_hasRow := Or.inr ⟨_, w_578⟩
theorem ml_P_347 : am_mlo "TablePager" 347 y_Table_hasColumn := Or.inr ⟨_, w_613⟩
theorem ml_P_352 : am_mlo "TablePager" 352 y_Table_hasSpan := Or.inr ⟨_, w_633⟩
theorem ml_P_357 : am_mlo "TablePager" 357 y_Layout_hasPage := Or.inr ⟨_, w_659⟩
theorem ml_M_41 : am_mlo "TablePagerModel" 41 y_M_clean := Or.inl w_965
theorem ml_M_54 : am_mlo "TablePagerModel" 54 y_M_copy := Or.inl w_1088
theorem ml_M_58 : am_mlo "TablePagerModel" 58 y_M_canCut := Or.inl w_1109
theorem ml_M_62 : am_mlo "TablePagerModel" 62 y_M_cell := Or.inl w_1070
theorem ml_M_66 : am_mlo "TablePagerModel" 66 y_M_first := Or.inl w_1112
theorem ml_M_70 : am_mlo "TablePagerModel" 70 y_M_last := Or.inl w_1115
theorem ml_M_73 : am_mlo "TablePagerModel" 73 y_M_names := Or.inl w_1121
theorem ml_M_76 : am_mlo "TablePagerModel" 76 y_M_notes := Or.inl w_1124
theorem ml_M_80 : am_mlo "TablePagerModel" 80 y_M_has := Or.inl w_1127
theorem ml_M_84 : am_mlo "TablePagerModel" 84 y_M_mayEnd := Or.inl w_1106
theorem ml_M_87 : am_mlo "TablePagerModel" 87 y_M_lines := Or.inl w_1118
theorem ml_M_91 : am_mlo "TablePagerModel" 91 y_M_lastFor := Or.inl w_1103
theorem ml_M_97 : am_mlo "TablePagerModel" 97 y_M_endOf := Or.inl w_1100
theorem ml_M_100 : am_mlo "TablePagerModel" 100 y_M_startOf := Or.inl w_1134
theorem ml_M_104 : am_mlo "TablePagerModel" 104 y_M_pageOf := Or.inl w_1146
theorem ml_M_107 : am_mlo "TablePagerModel" 107 y_M_dropSpan := Or.inl w_1230
theorem ml_M_113 : am_mlo "TablePagerModel" 113 y_M_in := Or.inl w_1026
theorem ml_M_117 : am_mlo "TablePagerModel" 117 y_M_least := Or.inl w_1248
theorem ml_M_120 : am_mlo "TablePagerModel" 120 y_M_most := Or.inl w_1251
theorem ml_M_128 : am_mlo "TablePagerModel" 128 y_M_refused := Or.inl w_1029
theorem ml_M_141 : am_mlo "TablePagerModel" 141 y_M_accept := Or.inl w_1049
theorem ml_M_145 : am_mlo "TablePagerModel" 145 y_M_digit := Or.inl w_1053
theorem ml_M_148 : am_mlo "TablePagerModel" 148 y_M_addTo := Or.inl w_1067
theorem ml_M_152 : am_mlo "TablePagerModel" 152 y_M_isNext := Or.inl w_1045
theorem ml_M_155 : am_mlo "TablePagerModel" 155 y_M_two := Or.inl w_1059
theorem ml_M_158 : am_mlo "TablePagerModel" 158 y_M_putSpan := Or.inl w_1077
theorem ml_M_162 : am_mlo "TablePagerModel" 162 y_M_readRow := Or.inl w_1063
theorem ml_M_165 : am_mlo "TablePagerModel" 165 y_M_readSpan := Or.inl w_1073
theorem ml_M_168 : am_mlo "TablePagerModel" 168 y_M_readMore := Or.inl w_1080
theorem ml_M_171 : am_mlo "TablePagerModel" 171 y_M_readText := Or.inl w_1041
theorem ml_M_175 : am_mlo "TablePagerModel" 175 y_M_pagesOf := Or.inl w_1142
theorem ml_M_178 : am_mlo "TablePagerModel" 178 y_M_lay := Or.inl w_1096
theorem ml_M_182 : am_mlo "TablePagerModel" 182 y_M_overfull := Or.inl w_1130
theorem ml_M_185 : am_mlo "TablePagerModel" 185 y_M_cutSpans := Or.inl w_1138
theorem ml_M_188 : am_mlo "TablePagerModel" 188 y_M_isRow := Or.inl w_1154
theorem ml_M_193 : am_mlo "TablePagerModel" 193 y_M_isColumn := Or.inl w_1163
theorem ml_M_196 : am_mlo "TablePagerModel" 196 y_M_isSpan := Or.inl w_1171
theorem ml_M_203 : am_mlo "TablePagerModel" 203 y_M_isPage := Or.inl w_1185
theorem ml_M_208 : am_mlo "TablePagerModel" 208 y_M_sum := Or.inl w_1194
theorem ml_M_212 : am_mlo "TablePagerModel" 212 y_M_remember := Or.inl w_1209
theorem ml_M_219 : am_mlo "TablePagerModel" 219 y_M_dropRow := Or.inl w_1227
theorem ml_M_222 : am_mlo "TablePagerModel" 222 y_M_isHeight := Or.inl w_1245
theorem ml_M_227 : am_mlo "TablePagerModel" 227 y_M_begin := Or.inl w_1263
theorem ml_M_230 : am_mlo "TablePagerModel" 230 y_M_costOf := Or.inl w_1275
theorem ml_M_233 : am_mlo "TablePagerModel" 233 y_M_layCuts := Or.inl w_1271
theorem ml_M_236 : am_mlo "TablePagerModel" 236 y_M_tenTo := Or.inl w_1291
theorem ml_M_242 : am_mlo "TablePagerModel" 242 y_M_does := Or.inl w_1296
theorem ml_M_249 : am_mlo "TablePagerModel" 249 y_M_round := Or.inl w_1306
theorem ml_L_7 : am_mlo "TablePagerLaw" 7 y_P_append := Or.inl w_401
theorem ml_L_17 : am_mlo "TablePagerLaw" 17 y_P_load := Or.inl w_500
theorem ml_L_21 : am_mlo "TablePagerLaw" 21 y_P_about := Or.inl w_524
theorem ml_L_24 : am_mlo "TablePagerLaw" 24 y_P_row := Or.inl w_570
theorem ml_L_30 : am_mlo "TablePagerLaw" 30 y_P_amount := Or.inl w_605
theorem ml_L_33 : am_mlo "TablePagerLaw" 33 y_P_span := Or.inl w_625
theorem ml_L_36 : am_mlo "TablePagerLaw" 36 y_P_note := Or.inl w_643
theorem ml_L_39 : am_mlo "TablePagerLaw" 39 y_P_page := Or.inl w_651
theorem ml_L_42 : am_mlo "TablePagerLaw" 42 y_P_brought := Or.inl w_691
theorem ml_L_45 : am_mlo "TablePagerLaw" 45 y_P_carried := Or.inl w_703
theorem ml_L_48 : am_mlo "TablePagerLaw" 48 y_P_richest := Or.inl w_710
theorem ml_L_51 : am_mlo "TablePagerLaw" 51 y_P_addRow := Or.inl w_717
theorem ml_L_54 : am_mlo "TablePagerLaw" 54 y_P_setAmount := Or.inl w_737
theorem ml_L_58 : am_mlo "TablePagerLaw" 58 y_P_keep := Or.inl w_746
theorem ml_L_62 : am_mlo "TablePagerLaw" 62 y_P_removeRow := Or.inl w_753
theorem ml_L_65 : am_mlo "TablePagerLaw" 65 y_P_addSpan := Or.inl w_769
theorem ml_L_69 : am_mlo "TablePagerLaw" 69 y_P_removeSpan := Or.inl w_780
theorem ml_L_72 : am_mlo "TablePagerLaw" 72 y_P_setHeight := Or.inl w_791
theorem ml_L_75 : am_mlo "TablePagerLaw" 75 y_P_undo := Or.inl w_806
theorem ml_L_78 : am_mlo "TablePagerLaw" 78 y_P_heightFor := Or.inl w_818
theorem ml_L_81 : am_mlo "TablePagerLaw" 81 y_P_evenCut := Or.inl w_826
theorem ml_L_84 : am_mlo "TablePagerLaw" 84 y_P_emptyFrom := Or.inl w_838
theorem ml_L_87 : am_mlo "TablePagerLaw" 87 y_P_runScript := Or.inl w_849
theorem ml_L_91 : am_mlo "TablePagerLaw" 91 y_P_simulate := Or.inl w_912
theorem ml_L_95 : am_mlo "TablePagerLaw" 95 y_P_save := Or.inl w_930
theorem ml_L_98 : am_mlo "TablePagerLaw" 98 y_P_restore := Or.inl w_946
theorem ml_L_101 : am_mlo "TablePagerLaw" 101 y_P_init := Or.inl w_21
theorem ml_L_104 : am_mlo "TablePagerLaw" 104 y_M_init := Or.inl w_961
theorem ml_L_105 : am_mlo "TablePagerLaw" 105 y_L_append := Or.inl w_396
theorem ml_L_110 : am_mlo "TablePagerLaw" 110 y_M_append := Or.inl w_1021
theorem ml_L_111 : am_mlo "TablePagerLaw" 111 y_M_thrown := Or.inl w_1017
theorem ml_L_114 : am_mlo "TablePagerLaw" 114 y_P_clearText := Or.inl w_276
theorem ml_L_117 : am_mlo "TablePagerLaw" 117 y_M_clearText := Or.inl w_1033
theorem ml_L_118 : am_mlo "TablePagerLaw" 118 y_P_errorPosition := Or.inl w_280
theorem ml_L_121 : am_mlo "TablePagerLaw" 121 y_M_errorPosition := Or.inl w_1037
theorem ml_L_122 : am_mlo "TablePagerLaw" 122 y_L_load := Or.inl w_497
theorem ml_L_125 : am_mlo "TablePagerLaw" 125 y_M_load := Or.inl w_1084
theorem ml_L_126 : am_mlo "TablePagerLaw" 126 y_L_about := Or.inl w_521
theorem ml_L_128 : am_mlo "TablePagerLaw" 128 y_M_about := Or.inl w_1091
theorem ml_L_129 : am_mlo "TablePagerLaw" 129 y_L_row := Or.inl w_566
theorem ml_L_132 : am_mlo "TablePagerLaw" 132 y_M_row := Or.inl w_1150
theorem ml_L_133 : am_mlo "TablePagerLaw" 133 y_L_amount := Or.inl w_602
theorem ml_L_135 : am_mlo "TablePagerLaw" 135 y_M_amount := Or.inl w_1159
theorem ml_L_136 : am_mlo "TablePagerLaw" 136 y_L_span := Or.inl w_622
theorem ml_L_138 : am_mlo "TablePagerLaw" 138 y_M_span := Or.inl w_1167
theorem ml_L_139 : am_mlo "TablePagerLaw" 139 y_L_note := Or.inl w_640
theorem ml_L_141 : am_mlo "TablePagerLaw" 141 y_M_note := Or.inl w_1176
theorem ml_L_142 : am_mlo "TablePagerLaw" 142 y_L_page := Or.inl w_648
theorem ml_L_144 : am_mlo "TablePagerLaw" 144 y_M_page := Or.inl w_1181
theorem ml_L_145 : am_mlo "TablePagerLaw" 145 y_L_brought := Or.inl w_688
theorem ml_L_147 : am_mlo "TablePagerLaw" 147 y_M_brought := Or.inl w_1190
theorem ml_L_148 : am_mlo "TablePagerLaw" 148 y_L_carried := Or.inl w_700
theorem ml_L_150 : am_mlo "TablePagerLaw" 150 y_M_carried := Or.inl w_1197
theorem ml_L_151 : am_mlo "TablePagerLaw" 151 y_L_richest := Or.inl w_707
theorem ml_L_153 : am_mlo "TablePagerLaw" 153 y_M_richest := Or.inl w_1201
theorem ml_L_154 : am_mlo "TablePagerLaw" 154 y_L_addRow := Or.inl w_714
theorem ml_L_156 : am_mlo "TablePagerLaw" 156 y_M_addRow := Or.inl w_1205
theorem ml_L_157 : am_mlo "TablePagerLaw" 157 y_L_setAmount := Or.inl w_734
theorem ml_L_160 : am_mlo "TablePagerLaw" 160 y_M_setAmount := Or.inl w_1213
theorem ml_L_161 : am_mlo "TablePagerLaw" 161 y_L_keep := Or.inl w_743
theorem ml_L_164 : am_mlo "TablePagerLaw" 164 y_M_keep := Or.inl w_1219
theorem ml_L_165 : am_mlo "TablePagerLaw" 165 y_L_removeRow := Or.inl w_750
theorem ml_L_167 : am_mlo "TablePagerLaw" 167 y_M_removeRow := Or.inl w_1223
theorem ml_L_168 : am_mlo "TablePagerLaw" 168 y_L_addSpan := Or.inl w_766
theorem ml_L_171 : am_mlo "TablePagerLaw" 171 y_M_addSpan := Or.inl w_1233
theorem ml_L_172 : am_mlo "TablePagerLaw" 172 y_L_removeSpan := Or.inl w_777
theorem ml_L_174 : am_mlo "TablePagerLaw" 174 y_M_removeSpan := Or.inl w_1237
theorem ml_L_175 : am_mlo "TablePagerLaw" 175 y_L_setHeight := Or.inl w_788
theorem ml_L_177 : am_mlo "TablePagerLaw" 177 y_M_setHeight := Or.inl w_1241
theorem ml_L_178 : am_mlo "TablePagerLaw" 178 y_L_undo := Or.inl w_803
theorem ml_L_180 : am_mlo "TablePagerLaw" 180 y_M_undo := Or.inl w_1254
theorem ml_L_181 : am_mlo "TablePagerLaw" 181 y_L_heightFor := Or.inl w_815
theorem ml_L_183 : am_mlo "TablePagerLaw" 183 y_M_heightFor := Or.inl w_1258
theorem ml_L_184 : am_mlo "TablePagerLaw" 184 y_P_evenest := Or.inl w_353
theorem ml_L_187 : am_mlo "TablePagerLaw" 187 y_M_evenest := Or.inl w_1267
theorem ml_L_188 : am_mlo "TablePagerLaw" 188 y_L_evenCut := Or.inl w_823
theorem ml_L_190 : am_mlo "TablePagerLaw" 190 y_M_evenCut := Or.inl w_1279
theorem ml_L_191 : am_mlo "TablePagerLaw" 191 y_L_emptyFrom := Or.inl w_835
theorem ml_L_193 : am_mlo "TablePagerLaw" 193 y_M_emptyFrom := Or.inl w_1283
theorem ml_L_196 : am_mlo "TablePagerLaw" 196 y_L_runScript := Or.inl w_846
theorem ml_L_199 : am_mlo "TablePagerLaw" 199 y_M_runScript := Or.inl w_1287
theorem ml_L_200 : am_mlo "TablePagerLaw" 200 y_L_simulate := Or.inl w_909
theorem ml_L_203 : am_mlo "TablePagerLaw" 203 y_M_simulate := Or.inl w_1300
theorem ml_L_204 : am_mlo "TablePagerLaw" 204 y_L_save := Or.inl w_927
theorem ml_L_206 : am_mlo "TablePagerLaw" 206 y_M_save := Or.inl w_1310
theorem ml_L_207 : am_mlo "TablePagerLaw" 207 y_L_restore := Or.inl w_943
theorem ml_L_209 : am_mlo "TablePagerLaw" 209 y_M_restore := Or.inl w_1314
def am_two (own : String) (n ik ic : Nat) : Prop := (1 ≤ n ∧ n ≤ 3) ∧ Cond.classLink own ik (am_en n) ∈ am_tb ∧ Cond.initialized (am_en n) ∈ am_tb ∧ (∀ w ∈ vx_atS own ic (am_en n) am_names, w ∈ am_tb) ∧ (∀ w ∈ Cond.classLink own ik (am_en n) :: Cond.initialized (am_en n) :: vx_atS own ic (am_en n) am_names, vx_ot w = true) ∧ Bundle.fit (am_en n) = true ∧ ∀ n ∈ am_names, Bundle.fit n = true
theorem ta_P_1_65 : (vx_atS "TablePager" 65 (am_en 1) am_names).all (fun w => decide (w ∈ lw_tbl) && am_sv w) = true := by decide +kernel
theorem tw_P_1_65 : am_two "TablePager" 1 61 65 := ⟨by decide, w_405, w_14, fun w hw => by
  have h := List.all_eq_true.mp ta_P_1_65 w hw
  simp only [Bool.and_eq_true, decide_eq_true_eq] at h
  exact List.mem_filter.mpr h, fun w hw => List.all_eq_true.mp (show (Cond.classLink "TablePager" 61 (am_en 1) :: Cond.initialized (am_en 1) :: vx_atS "TablePager" 65 (am_en 1) am_names).all vx_ot = true by decide +kernel) w hw, by decide +kernel, by decide +kernel⟩
theorem ta_P_2_76 : (vx_atS "TablePager" 76 (am_en 2) am_names).all (fun w => decide (w ∈ lw_tbl) && am_sv w) = true := by decide +kernel
theorem tw_P_2_76 : am_two "TablePager" 2 72 76 := ⟨by decide, w_477, w_15, fun w hw => by
  have h := List.all_eq_true.mp ta_P_2_76 w hw
  simp only [Bool.and_eq_true, decide_eq_true_eq] at h
  exact List.mem_filter.mpr h, fun w hw => List.all_eq_true.mp (show (Cond.classLink "TablePager" 72 (am_en 2) :: Cond.initialized (am_en 2) :: vx_atS "TablePager" 76 (am_en 2) am_names).all vx_ot = true by decide +kernel) w hw, by decide +kernel, by decide +kernel⟩
theorem ta_P_3_346 : (vx_atS "TablePager" 346 (am_en 3) am_names).all (fun w => decide (w ∈ lw_tbl) && am_sv w) = true := by decide +kernel
theorem tw_P_3_346 : am_two "TablePager" 3 342 346 := ⟨by decide, w_582, w_18, fun w hw => by
  have h := List.all_eq_true.mp ta_P_3_346 w hw
  simp only [Bool.and_eq_true, decide_eq_true_eq] at h
  exact List.mem_filter.mpr h, fun w hw => List.all_eq_true.mp (show (Cond.classLink "TablePager" 342 (am_en 3) :: Cond.initialized (am_en 3) :: vx_atS "TablePager" 346 (am_en 3) am_names).all vx_ot = true by decide +kernel) w hw, by decide +kernel, by decide +kernel⟩
